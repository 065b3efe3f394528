/-! walks, printed by a program of mine: each method meets its function -/
theorem dX12_mayFollow_0 : decode cX12_mayFollow 0 = .ok (.iload_n 2, 1) := by decide +kernel
theorem dX12_mayFollow_1 : decode cX12_mayFollow 1 = .ok (.ifCond .le 18, 3) := by decide +kernel
theorem dX12_mayFollow_4 : decode cX12_mayFollow 4 = .ok (.iload_n 3, 1) := by decide +kernel
theorem dX12_mayFollow_5 : decode cX12_mayFollow 5 = .ok (.bipush 8, 2) := by decide +kernel
theorem dX12_mayFollow_7 : decode cX12_mayFollow 7 = .ok (.if_icmp .ge 12, 3) := by decide +kernel
theorem dX12_mayFollow_10 : decode cX12_mayFollow 10 = .ok (.aload_n 0, 1) := by decide +kernel
theorem dX12_mayFollow_11 : decode cX12_mayFollow 11 = .ok (.iload_n 3, 1) := by decide +kernel
theorem dX12_mayFollow_12 : decode cX12_mayFollow 12 = .ok (.iload_n 1, 1) := by decide +kernel
theorem dX12_mayFollow_13 : decode cX12_mayFollow 13 = .ok (.invokevirtual 154, 3) := by decide +kernel
theorem dX12_mayFollow_16 : decode cX12_mayFollow 16 = .ok (.ifCond .ne 29, 3) := by decide +kernel
theorem dX12_mayFollow_19 : decode cX12_mayFollow 19 = .ok (.iload_n 2, 1) := by decide +kernel
theorem dX12_mayFollow_20 : decode cX12_mayFollow 20 = .ok (.iconst 1, 1) := by decide +kernel
theorem dX12_mayFollow_21 : decode cX12_mayFollow 21 = .ok (.if_icmp .le 20, 3) := by decide +kernel
theorem dX12_mayFollow_24 : decode cX12_mayFollow 24 = .ok (.iload 4, 2) := by decide +kernel
theorem dX12_mayFollow_26 : decode cX12_mayFollow 26 = .ok (.bipush 8, 2) := by decide +kernel
theorem dX12_mayFollow_28 : decode cX12_mayFollow 28 = .ok (.if_icmp .ge 13, 3) := by decide +kernel
theorem dX12_mayFollow_31 : decode cX12_mayFollow 31 = .ok (.aload_n 0, 1) := by decide +kernel
theorem dX12_mayFollow_32 : decode cX12_mayFollow 32 = .ok (.iload 4, 2) := by decide +kernel
theorem dX12_mayFollow_34 : decode cX12_mayFollow 34 = .ok (.iload_n 1, 1) := by decide +kernel
theorem dX12_mayFollow_35 : decode cX12_mayFollow 35 = .ok (.invokevirtual 154, 3) := by decide +kernel
theorem dX12_mayFollow_38 : decode cX12_mayFollow 38 = .ok (.ifCond .ne 7, 3) := by decide +kernel
theorem dX12_mayFollow_41 : decode cX12_mayFollow 41 = .ok (.iconst 1, 1) := by decide +kernel
theorem dX12_mayFollow_42 : decode cX12_mayFollow 42 = .ok (.goto 4, 3) := by decide +kernel
theorem dX12_mayFollow_45 : decode cX12_mayFollow 45 = .ok (.iconst 0, 1) := by decide +kernel
theorem dX12_mayFollow_46 : decode cX12_mayFollow 46 = .ok (.ireturn, 1) := by decide +kernel
set_option maxRecDepth 100000 in
set_option maxHeartbeats 4000000 in
theorem c_X12_mayFollow {l : Launch} {G : Gx} (hap : k_ap G shR.length) (v1 : Int32) (v2 : Int32) (v3 : Int32) (v4 : Int32) (M0 : Mem) (r : Int32) (hf : f_X12_mayFollow v1 v2 v3 v4 M0 = some r) : k_Met l yX12_mayFollow cX12_mayFollow 5 (some .boolean) 2 44 G shR [.ref (G.2.1 0), .int v1, .int v2, .int v3, .int v4] M0 (k_Qi G shR r M0) := by
  refine k_Met_of (by decide) hap (Nat.le_of_ble_eq_true rfl) ?_
  intro p e s m args below meth c C hr hlk
  have C : Cx p s m args c cX12_mayFollow RX12 5 G shR := C
  have k_b19 : ∀ (v1 : Int32) (v2 : Int32) (v4 : Int32), f_X12_mayFollow_b19 M0 v1 v2 v4 = some r → K p l e (k_rm 2 44) s m args below meth c 5 G shR (MQ below (k_Qi G shR r M0) args s 0 0 (k_A G shR.length)) 19 [(0, .ref (G.2.1 0)), (1, .int v1), (2, .int v2), (4, .int v4)] [] M0 := by
    intro v1 v2 v4 hf
    unfold f_X12_mayFollow_b19 at hf
    refine k_iload_n C dX12_mayFollow_19 2 rfl ?_
    refine k_iconst C dX12_mayFollow_20 (v := (1 : Int32)) rfl ?_
    rcases ite_g hf with ⟨c2, hf⟩ | ⟨c2, hf⟩
    · refine k_icmp_le_t C dX12_mayFollow_21 (tgt := 41) (by decide) c2 ?_
      refine k_iconst C dX12_mayFollow_41 (v := (1 : Int32)) rfl ?_
      refine k_goto C dX12_mayFollow_42 (tgt := 46) (by decide) ?_
      exact k_zret C hr hlk (gZ1.trans (congrArg some (Option.some.inj hf))) rfl dX12_mayFollow_46
    · refine k_icmp_le_f C dX12_mayFollow_21 (tgt := 41) (by decide) c2 ?_
      refine k_iload C dX12_mayFollow_24 3 rfl ?_
      refine k_bipush C dX12_mayFollow_26 (v := (8 : Int32)) rfl ?_
      rcases ite_g hf with ⟨c3, hf⟩ | ⟨c3, hf⟩
      · refine k_icmp_ge_t C dX12_mayFollow_28 (tgt := 41) (by decide) c3 ?_
        refine k_iconst C dX12_mayFollow_41 (v := (1 : Int32)) rfl ?_
        refine k_goto C dX12_mayFollow_42 (tgt := 46) (by decide) ?_
        exact k_zret C hr hlk (gZ1.trans (congrArg some (Option.some.inj hf))) rfl dX12_mayFollow_46
      · refine k_icmp_ge_f C dX12_mayFollow_28 (tgt := 41) (by decide) c3 ?_
        refine k_aload_n C dX12_mayFollow_31 0 rfl ?_
        refine k_iload C dX12_mayFollow_32 3 rfl ?_
        refine k_iload_n C dX12_mayFollow_34 1 rfl ?_
        obtain ⟨t4, ht4, hf⟩ := bnd hf
        refine k_callVi C (As := [.int v4, .int v1]) (c_X12_areSame hap v4 v1 M0 t4 ht4) ML_X12_areSame wd_1459 shR_0 rfl rfl rfl ⟨Nat.le_of_ble_eq_true rfl, Nat.le_of_ble_eq_true rfl⟩ (Nat.le_of_ble_eq_true rfl) dX12_mayFollow_35 ?_
        rcases ite_g hf with ⟨c5, hf⟩ | ⟨c5, hf⟩
        · refine k_if_ne_f C dX12_mayFollow_38 (tgt := 45) (by decide) c5 ?_
          refine k_iconst C dX12_mayFollow_41 (v := (1 : Int32)) rfl ?_
          refine k_goto C dX12_mayFollow_42 (tgt := 46) (by decide) ?_
          exact k_zret C hr hlk (gZ1.trans (congrArg some (Option.some.inj hf))) rfl dX12_mayFollow_46
        · refine k_if_ne_t C dX12_mayFollow_38 (tgt := 45) (by decide) c5 ?_
          refine k_iconst C dX12_mayFollow_45 (v := (0 : Int32)) rfl ?_
          exact k_zret C hr hlk (gZ0.trans (congrArg some (Option.some.inj hf))) rfl dX12_mayFollow_46
  unfold f_X12_mayFollow at hf
  refine k_lv (lv' := [(0, .ref (G.2.1 0)), (1, .int v1), (2, .int v2), (3, .int v3), (4, .int v4)]) [0, 1, 2, 3, 4] rfl ?_
  refine k_iload_n C dX12_mayFollow_0 2 rfl ?_
  rcases ite_g hf with ⟨c1, hf⟩ | ⟨c1, hf⟩
  · refine k_if_le_t C dX12_mayFollow_1 (tgt := 19) (by decide) c1 ?_
    refine k_lv [0, 1, 2, 4] rfl ?_
    exact k_b19 v1 v2 v4 hf
  · refine k_if_le_f C dX12_mayFollow_1 (tgt := 19) (by decide) c1 ?_
    refine k_iload_n C dX12_mayFollow_4 3 rfl ?_
    refine k_bipush C dX12_mayFollow_5 (v := (8 : Int32)) rfl ?_
    rcases ite_g hf with ⟨c6, hf⟩ | ⟨c6, hf⟩
    · refine k_icmp_ge_t C dX12_mayFollow_7 (tgt := 19) (by decide) c6 ?_
      refine k_lv [0, 1, 2, 4] rfl ?_
      exact k_b19 v1 v2 v4 hf
    · refine k_icmp_ge_f C dX12_mayFollow_7 (tgt := 19) (by decide) c6 ?_
      refine k_aload_n C dX12_mayFollow_10 0 rfl ?_
      refine k_iload_n C dX12_mayFollow_11 3 rfl ?_
      refine k_iload_n C dX12_mayFollow_12 1 rfl ?_
      obtain ⟨t7, ht7, hf⟩ := bnd hf
      refine k_callVi C (As := [.int v3, .int v1]) (c_X12_areSame hap v3 v1 M0 t7 ht7) ML_X12_areSame wd_1459 shR_0 rfl rfl rfl ⟨Nat.le_of_ble_eq_true rfl, Nat.le_of_ble_eq_true rfl⟩ (Nat.le_of_ble_eq_true rfl) dX12_mayFollow_13 ?_
      rcases ite_g hf with ⟨c8, hf⟩ | ⟨c8, hf⟩
      · refine k_if_ne_f C dX12_mayFollow_16 (tgt := 45) (by decide) c8 ?_
        refine k_lv [0, 1, 2, 4] rfl ?_
        exact k_b19 v1 v2 v4 hf
      · refine k_if_ne_t C dX12_mayFollow_16 (tgt := 45) (by decide) c8 ?_
        refine k_iconst C dX12_mayFollow_45 (v := (0 : Int32)) rfl ?_
        exact k_zret C hr hlk (gZ0.trans (congrArg some (Option.some.inj hf))) rfl dX12_mayFollow_46
theorem dX12_songs_0 : decode cX12_songs 0 = .ok (.iload_n 1, 1) := by decide +kernel
theorem dX12_songs_1 : decode cX12_songs 1 = .ok (.ifCond .lt 7, 3) := by decide +kernel
theorem dX12_songs_4 : decode cX12_songs 4 = .ok (.iload_n 2, 1) := by decide +kernel
theorem dX12_songs_5 : decode cX12_songs 5 = .ok (.ifCond .ge 8, 3) := by decide +kernel
theorem dX12_songs_8 : decode cX12_songs 8 = .ok (.bipush (-4), 2) := by decide +kernel
theorem dX12_songs_10 : decode cX12_songs 10 = .ok (.goto 20, 3) := by decide +kernel
theorem dX12_songs_13 : decode cX12_songs 13 = .ok (.iload_n 1, 1) := by decide +kernel
theorem dX12_songs_14 : decode cX12_songs 14 = .ok (.bipush 8, 2) := by decide +kernel
theorem dX12_songs_16 : decode cX12_songs 16 = .ok (.if_icmp .gt 8, 3) := by decide +kernel
theorem dX12_songs_19 : decode cX12_songs 19 = .ok (.iload_n 2, 1) := by decide +kernel
theorem dX12_songs_20 : decode cX12_songs 20 = .ok (.iconst 2, 1) := by decide +kernel
theorem dX12_songs_21 : decode cX12_songs 21 = .ok (.if_icmp .le 8, 3) := by decide +kernel
theorem dX12_songs_24 : decode cX12_songs 24 = .ok (.bipush (-6), 2) := by decide +kernel
theorem dX12_songs_26 : decode cX12_songs 26 = .ok (.goto 4, 3) := by decide +kernel
theorem dX12_songs_29 : decode cX12_songs 29 = .ok (.iconst 0, 1) := by decide +kernel
theorem dX12_songs_30 : decode cX12_songs 30 = .ok (.istore_n 3, 1) := by decide +kernel
theorem dX12_songs_31 : decode cX12_songs 31 = .ok (.iload_n 3, 1) := by decide +kernel
theorem dX12_songs_32 : decode cX12_songs 32 = .ok (.ifCond .eq 9, 3) := by decide +kernel
theorem dX12_songs_35 : decode cX12_songs 35 = .ok (.aload_n 0, 1) := by decide +kernel
theorem dX12_songs_36 : decode cX12_songs 36 = .ok (.iload_n 3, 1) := by decide +kernel
theorem dX12_songs_37 : decode cX12_songs 37 = .ok (.invokevirtual 236, 3) := by decide +kernel
theorem dX12_songs_40 : decode cX12_songs 40 = .ok (.lreturn, 1) := by decide +kernel
theorem dX12_songs_41 : decode cX12_songs 41 = .ok (.iconst 0, 1) := by decide +kernel
theorem dX12_songs_42 : decode cX12_songs 42 = .ok (.istore 4, 2) := by decide +kernel
theorem dX12_songs_44 : decode cX12_songs 44 = .ok (.iload 4, 2) := by decide +kernel
theorem dX12_songs_46 : decode cX12_songs 46 = .ok (.bipush 81, 2) := by decide +kernel
theorem dX12_songs_48 : decode cX12_songs 48 = .ok (.if_icmp .ge 28, 3) := by decide +kernel
theorem dX12_songs_51 : decode cX12_songs 51 = .ok (.aload_n 0, 1) := by decide +kernel
theorem dX12_songs_52 : decode cX12_songs 52 = .ok (.getfield 52, 3) := by decide +kernel
theorem dX12_songs_55 : decode cX12_songs 55 = .ok (.iload 4, 2) := by decide +kernel
theorem dX12_songs_57 : decode cX12_songs 57 = .ok (.iload 4, 2) := by decide +kernel
theorem dX12_songs_59 : decode cX12_songs 59 = .ok (.bipush 80, 2) := by decide +kernel
theorem dX12_songs_61 : decode cX12_songs 61 = .ok (.if_icmp .ne 7, 3) := by decide +kernel
theorem dX12_songs_64 : decode cX12_songs 64 = .ok (.lconst 1, 1) := by decide +kernel
theorem dX12_songs_65 : decode cX12_songs 65 = .ok (.goto 4, 3) := by decide +kernel
theorem dX12_songs_68 : decode cX12_songs 68 = .ok (.lconst 0, 1) := by decide +kernel
theorem dX12_songs_69 : decode cX12_songs 69 = .ok (.lastore, 1) := by decide +kernel
theorem dX12_songs_70 : decode cX12_songs 70 = .ok (.iinc 4 1, 3) := by decide +kernel
theorem dX12_songs_73 : decode cX12_songs 73 = .ok (.goto (-29), 3) := by decide +kernel
theorem dX12_songs_76 : decode cX12_songs 76 = .ok (.iconst 0, 1) := by decide +kernel
theorem dX12_songs_77 : decode cX12_songs 77 = .ok (.istore 4, 2) := by decide +kernel
theorem dX12_songs_79 : decode cX12_songs 79 = .ok (.iload 4, 2) := by decide +kernel
theorem dX12_songs_81 : decode cX12_songs 81 = .ok (.iload_n 1, 1) := by decide +kernel
theorem dX12_songs_82 : decode cX12_songs 82 = .ok (.if_icmp .ge 148, 3) := by decide +kernel
theorem dX12_songs_85 : decode cX12_songs 85 = .ok (.iconst 0, 1) := by decide +kernel
theorem dX12_songs_86 : decode cX12_songs 86 = .ok (.istore 5, 2) := by decide +kernel
theorem dX12_songs_88 : decode cX12_songs 88 = .ok (.iload 5, 2) := by decide +kernel
theorem dX12_songs_90 : decode cX12_songs 90 = .ok (.bipush 81, 2) := by decide +kernel
theorem dX12_songs_92 : decode cX12_songs 92 = .ok (.if_icmp .ge 17, 3) := by decide +kernel
theorem dX12_songs_95 : decode cX12_songs 95 = .ok (.aload_n 0, 1) := by decide +kernel
theorem dX12_songs_96 : decode cX12_songs 96 = .ok (.getfield 56, 3) := by decide +kernel
theorem dX12_songs_99 : decode cX12_songs 99 = .ok (.iload 5, 2) := by decide +kernel
theorem dX12_songs_101 : decode cX12_songs 101 = .ok (.lconst 0, 1) := by decide +kernel
theorem dX12_songs_102 : decode cX12_songs 102 = .ok (.lastore, 1) := by decide +kernel
theorem dX12_songs_103 : decode cX12_songs 103 = .ok (.iinc 5 1, 3) := by decide +kernel
theorem dX12_songs_106 : decode cX12_songs 106 = .ok (.goto (-18), 3) := by decide +kernel
theorem dX12_songs_109 : decode cX12_songs 109 = .ok (.iconst 0, 1) := by decide +kernel
theorem dX12_songs_110 : decode cX12_songs 110 = .ok (.istore 5, 2) := by decide +kernel
theorem dX12_songs_112 : decode cX12_songs 112 = .ok (.iload 5, 2) := by decide +kernel
theorem dX12_songs_114 : decode cX12_songs 114 = .ok (.bipush 81, 2) := by decide +kernel
theorem dX12_songs_116 : decode cX12_songs 116 = .ok (.aload_n 0, 1) := by decide +kernel
theorem dX12_songs_117 : decode cX12_songs 117 = .ok (.getfield 62, 3) := by decide +kernel
theorem dX12_songs_120 : decode cX12_songs 120 = .ok (.imul, 1) := by decide +kernel
theorem dX12_songs_121 : decode cX12_songs 121 = .ok (.if_icmp .ge 73, 3) := by decide +kernel
theorem dX12_songs_124 : decode cX12_songs 124 = .ok (.iload 5, 2) := by decide +kernel
theorem dX12_songs_126 : decode cX12_songs 126 = .ok (.aload_n 0, 1) := by decide +kernel
theorem dX12_songs_127 : decode cX12_songs 127 = .ok (.getfield 62, 3) := by decide +kernel
theorem dX12_songs_130 : decode cX12_songs 130 = .ok (.idiv, 1) := by decide +kernel
theorem dX12_songs_131 : decode cX12_songs 131 = .ok (.istore 6, 2) := by decide +kernel
theorem dX12_songs_133 : decode cX12_songs 133 = .ok (.iload 5, 2) := by decide +kernel
theorem dX12_songs_135 : decode cX12_songs 135 = .ok (.aload_n 0, 1) := by decide +kernel
theorem dX12_songs_136 : decode cX12_songs 136 = .ok (.getfield 62, 3) := by decide +kernel
theorem dX12_songs_139 : decode cX12_songs 139 = .ok (.irem, 1) := by decide +kernel
theorem dX12_songs_140 : decode cX12_songs 140 = .ok (.istore 7, 2) := by decide +kernel
theorem dX12_songs_142 : decode cX12_songs 142 = .ok (.aload_n 0, 1) := by decide +kernel
theorem dX12_songs_143 : decode cX12_songs 143 = .ok (.iload 7, 2) := by decide +kernel
theorem dX12_songs_145 : decode cX12_songs 145 = .ok (.iload_n 2, 1) := by decide +kernel
theorem dX12_songs_146 : decode cX12_songs 146 = .ok (.iload 6, 2) := by decide +kernel
theorem dX12_songs_148 : decode cX12_songs 148 = .ok (.bipush 9, 2) := by decide +kernel
theorem dX12_songs_150 : decode cX12_songs 150 = .ok (.idiv, 1) := by decide +kernel
theorem dX12_songs_151 : decode cX12_songs 151 = .ok (.iload 6, 2) := by decide +kernel
theorem dX12_songs_153 : decode cX12_songs 153 = .ok (.bipush 9, 2) := by decide +kernel
theorem dX12_songs_155 : decode cX12_songs 155 = .ok (.irem, 1) := by decide +kernel
theorem dX12_songs_156 : decode cX12_songs 156 = .ok (.invokevirtual 240, 3) := by decide +kernel
theorem dX12_songs_159 : decode cX12_songs 159 = .ok (.ifCond .eq 29, 3) := by decide +kernel
theorem dX12_songs_162 : decode cX12_songs 162 = .ok (.aload_n 0, 1) := by decide +kernel
theorem dX12_songs_163 : decode cX12_songs 163 = .ok (.getfield 56, 3) := by decide +kernel
theorem dX12_songs_166 : decode cX12_songs 166 = .ok (.bipush 9, 2) := by decide +kernel
theorem dX12_songs_168 : decode cX12_songs 168 = .ok (.iload 7, 2) := by decide +kernel
theorem dX12_songs_170 : decode cX12_songs 170 = .ok (.imul, 1) := by decide +kernel
theorem dX12_songs_171 : decode cX12_songs 171 = .ok (.iload 6, 2) := by decide +kernel
theorem dX12_songs_173 : decode cX12_songs 173 = .ok (.bipush 9, 2) := by decide +kernel
theorem dX12_songs_175 : decode cX12_songs 175 = .ok (.idiv, 1) := by decide +kernel
theorem dX12_songs_176 : decode cX12_songs 176 = .ok (.iadd, 1) := by decide +kernel
theorem dX12_songs_177 : decode cX12_songs 177 = .ok (.dup2, 1) := by decide +kernel
theorem dX12_songs_178 : decode cX12_songs 178 = .ok (.laload, 1) := by decide +kernel
theorem dX12_songs_179 : decode cX12_songs 179 = .ok (.aload_n 0, 1) := by decide +kernel
theorem dX12_songs_180 : decode cX12_songs 180 = .ok (.getfield 52, 3) := by decide +kernel
theorem dX12_songs_183 : decode cX12_songs 183 = .ok (.iload 6, 2) := by decide +kernel
theorem dX12_songs_185 : decode cX12_songs 185 = .ok (.laload, 1) := by decide +kernel
theorem dX12_songs_186 : decode cX12_songs 186 = .ok (.ladd, 1) := by decide +kernel
theorem dX12_songs_187 : decode cX12_songs 187 = .ok (.lastore, 1) := by decide +kernel
theorem dX12_songs_188 : decode cX12_songs 188 = .ok (.iinc 5 1, 3) := by decide +kernel
theorem dX12_songs_191 : decode cX12_songs 191 = .ok (.goto (-79), 3) := by decide +kernel
theorem dX12_songs_194 : decode cX12_songs 194 = .ok (.iconst 0, 1) := by decide +kernel
theorem dX12_songs_195 : decode cX12_songs 195 = .ok (.istore 5, 2) := by decide +kernel
theorem dX12_songs_197 : decode cX12_songs 197 = .ok (.iload 5, 2) := by decide +kernel
theorem dX12_songs_199 : decode cX12_songs 199 = .ok (.bipush 81, 2) := by decide +kernel
theorem dX12_songs_201 : decode cX12_songs 201 = .ok (.if_icmp .ge 23, 3) := by decide +kernel
theorem dX12_songs_204 : decode cX12_songs 204 = .ok (.aload_n 0, 1) := by decide +kernel
theorem dX12_songs_205 : decode cX12_songs 205 = .ok (.getfield 52, 3) := by decide +kernel
theorem dX12_songs_208 : decode cX12_songs 208 = .ok (.iload 5, 2) := by decide +kernel
theorem dX12_songs_210 : decode cX12_songs 210 = .ok (.aload_n 0, 1) := by decide +kernel
theorem dX12_songs_211 : decode cX12_songs 211 = .ok (.getfield 56, 3) := by decide +kernel
theorem dX12_songs_214 : decode cX12_songs 214 = .ok (.iload 5, 2) := by decide +kernel
theorem dX12_songs_216 : decode cX12_songs 216 = .ok (.laload, 1) := by decide +kernel
theorem dX12_songs_217 : decode cX12_songs 217 = .ok (.lastore, 1) := by decide +kernel
theorem dX12_songs_218 : decode cX12_songs 218 = .ok (.iinc 5 1, 3) := by decide +kernel
theorem dX12_songs_221 : decode cX12_songs 221 = .ok (.goto (-24), 3) := by decide +kernel
theorem dX12_songs_224 : decode cX12_songs 224 = .ok (.iinc 4 1, 3) := by decide +kernel
theorem dX12_songs_227 : decode cX12_songs 227 = .ok (.goto (-148), 3) := by decide +kernel
theorem dX12_songs_230 : decode cX12_songs 230 = .ok (.lconst 0, 1) := by decide +kernel
theorem dX12_songs_231 : decode cX12_songs 231 = .ok (.lstore 4, 2) := by decide +kernel
theorem dX12_songs_233 : decode cX12_songs 233 = .ok (.iconst 0, 1) := by decide +kernel
theorem dX12_songs_234 : decode cX12_songs 234 = .ok (.istore 6, 2) := by decide +kernel
theorem dX12_songs_236 : decode cX12_songs 236 = .ok (.iload 6, 2) := by decide +kernel
theorem dX12_songs_238 : decode cX12_songs 238 = .ok (.bipush 81, 2) := by decide +kernel
theorem dX12_songs_240 : decode cX12_songs 240 = .ok (.if_icmp .ge 21, 3) := by decide +kernel
theorem dX12_songs_243 : decode cX12_songs 243 = .ok (.lload 4, 2) := by decide +kernel
theorem dX12_songs_245 : decode cX12_songs 245 = .ok (.aload_n 0, 1) := by decide +kernel
theorem dX12_songs_246 : decode cX12_songs 246 = .ok (.getfield 52, 3) := by decide +kernel
theorem dX12_songs_249 : decode cX12_songs 249 = .ok (.iload 6, 2) := by decide +kernel
theorem dX12_songs_251 : decode cX12_songs 251 = .ok (.laload, 1) := by decide +kernel
theorem dX12_songs_252 : decode cX12_songs 252 = .ok (.ladd, 1) := by decide +kernel
theorem dX12_songs_253 : decode cX12_songs 253 = .ok (.lstore 4, 2) := by decide +kernel
theorem dX12_songs_255 : decode cX12_songs 255 = .ok (.iinc 6 1, 3) := by decide +kernel
theorem dX12_songs_258 : decode cX12_songs 258 = .ok (.goto (-22), 3) := by decide +kernel
theorem dX12_songs_261 : decode cX12_songs 261 = .ok (.lload 4, 2) := by decide +kernel
theorem dX12_songs_263 : decode cX12_songs 263 = .ok (.lreturn, 1) := by decide +kernel
set_option maxRecDepth 100000 in
set_option maxHeartbeats 4000000 in
theorem c_X12_songs {l : Launch} {G : Gx} (hap : k_ap G shR.length) (v1 : Int32) (v2 : Int32) (M0 : Mem) (r : Int64 × Mem) (hf : f_X12_songs v1 v2 M0 = some r) : k_Met l yX12_songs cX12_songs 8 (some .long) 3 68 G shR [.ref (G.2.1 0), .int v1, .int v2] M0 (k_Ql G shR r.1 r.2) := by
  refine k_Met_of (by decide) hap (Nat.le_of_ble_eq_true rfl) ?_
  intro p e s m args below meth c C hr hlk
  have C : Cx p s m args c cX12_songs RX12 8 G shR := C
  have k_b236 : ∀ (n236 : Nat) (v4 : Int64) (v6 : Int32) (M : Mem), f_X12_songs_b236 n236 v4 v6 M = some r → K p l e (k_rm 3 68) s m args below meth c 8 G shR (MQ below (k_Ql G shR r.1 r.2) args s 0 0 (k_A G shR.length)) 236 [(0, .ref (G.2.1 0)), (4, .long v4), (6, .int v6)] [] M := by
    intro n236
    induction n236 with
    | zero => intro v4 v6 M hf; simp [f_X12_songs_b236] at hf
    | succ n236 ih236 =>
      intro v4 v6 M hf
      unfold f_X12_songs_b236 at hf
      refine k_iload C dX12_songs_236 2 rfl ?_
      refine k_bipush C dX12_songs_238 (v := (81 : Int32)) rfl ?_
      rcases ite_g hf with ⟨c4, hf⟩ | ⟨c4, hf⟩
      · refine k_icmp_ge_t C dX12_songs_240 (tgt := 261) (by decide) c4 ?_
        refine k_lload C dX12_songs_261 1 rfl ?_
        exact k_lret C hr hlk (prf hf) (prs hf) dX12_songs_263
      · refine k_icmp_ge_f C dX12_songs_240 (tgt := 261) (by decide) c4 ?_
        refine k_lload C dX12_songs_243 1 rfl ?_
        refine k_aload_n C dX12_songs_245 0 rfl ?_
        refine k_getr C shR_0 (j := 26) rfl FL_X12_52 dX12_songs_246 ?_
        refine k_iload C dX12_songs_249 2 rfl ?_
        obtain ⟨t5, ht5, hf⟩ := bnd hf
        refine k_lald C shR_15 ht5 dX12_songs_251 ?_
        refine k_ladd C dX12_songs_252 ?_
        refine k_lstore C dX12_songs_253 (by decide) [1, 0, 2] (lv' := [(0, .ref (G.2.1 0)), (4, .long (v4 + t5)), (6, .int v6)]) rfl ?_
        refine k_iinc C dX12_songs_255 2 rfl (v := (v6 + (1 : Int32))) rfl (by decide) [1, 2, 0] (lv' := [(0, .ref (G.2.1 0)), (4, .long (v4 + t5)), (6, .int (v6 + (1 : Int32)))]) rfl ?_
        refine k_goto C dX12_songs_258 (tgt := 236) (by decide) ?_
        exact ih236 (v4 + t5) (v6 + (1 : Int32)) M hf
  have k_b79 : ∀ (n79 : Nat) (v1 : Int32) (v2 : Int32) (v4 : Int32) (M : Mem), f_X12_songs_b79 n79 v1 v2 v4 M = some r → K p l e (k_rm 3 68) s m args below meth c 8 G shR (MQ below (k_Ql G shR r.1 r.2) args s 0 0 (k_A G shR.length)) 79 [(0, .ref (G.2.1 0)), (1, .int v1), (2, .int v2), (4, .int v4)] [] M := by
    intro n79
    induction n79 with
    | zero => intro v1 v2 v4 M hf; simp [f_X12_songs_b79] at hf
    | succ n79 ih79 =>
      have k_b197 : ∀ (n197 : Nat) (v1 : Int32) (v2 : Int32) (v4 : Int32) (v5 : Int32) (M : Mem), f_X12_songs_b197 (f_X12_songs_b79 n79) n197 v1 v2 v4 v5 M = some r → K p l e (k_rm 3 68) s m args below meth c 8 G shR (MQ below (k_Ql G shR r.1 r.2) args s 0 0 (k_A G shR.length)) 197 [(0, .ref (G.2.1 0)), (1, .int v1), (2, .int v2), (4, .int v4), (5, .int v5)] [] M := by
        intro n197
        induction n197 with
        | zero => intro v1 v2 v4 v5 M hf; simp [f_X12_songs_b197] at hf
        | succ n197 ih197 =>
          intro v1 v2 v4 v5 M hf
          unfold f_X12_songs_b197 at hf
          refine k_iload C dX12_songs_197 4 rfl ?_
          refine k_bipush C dX12_songs_199 (v := (81 : Int32)) rfl ?_
          rcases ite_g hf with ⟨c9, hf⟩ | ⟨c9, hf⟩
          · refine k_icmp_ge_t C dX12_songs_201 (tgt := 224) (by decide) c9 ?_
            refine k_iinc C dX12_songs_224 3 rfl (v := (v4 + (1 : Int32))) rfl (by decide) [1, 2, 3, 0] (lv' := [(0, .ref (G.2.1 0)), (1, .int v1), (2, .int v2), (4, .int (v4 + (1 : Int32)))]) rfl ?_
            refine k_goto C dX12_songs_227 (tgt := 79) (by decide) ?_
            exact ih79 v1 v2 (v4 + (1 : Int32)) M hf
          · refine k_icmp_ge_f C dX12_songs_201 (tgt := 224) (by decide) c9 ?_
            refine k_aload_n C dX12_songs_204 0 rfl ?_
            refine k_getr C shR_0 (j := 26) rfl FL_X12_52 dX12_songs_205 ?_
            refine k_iload C dX12_songs_208 4 rfl ?_
            refine k_aload_n C dX12_songs_210 0 rfl ?_
            refine k_getr C shR_0 (j := 27) rfl FL_X12_56 dX12_songs_211 ?_
            refine k_iload C dX12_songs_214 4 rfl ?_
            obtain ⟨t10, ht10, hf⟩ := bnd hf
            refine k_lald C shR_16 ht10 dX12_songs_216 ?_
            obtain ⟨M11, hM11, hf⟩ := bnd hf
            refine k_last C shR_15 hM11 dX12_songs_217 ?_
            refine k_iinc C dX12_songs_218 4 rfl (v := (v5 + (1 : Int32))) rfl (by decide) [1, 2, 3, 4, 0] (lv' := [(0, .ref (G.2.1 0)), (1, .int v1), (2, .int v2), (4, .int v4), (5, .int (v5 + (1 : Int32)))]) rfl ?_
            refine k_goto C dX12_songs_221 (tgt := 197) (by decide) ?_
            exact ih197 v1 v2 v4 (v5 + (1 : Int32)) M11 hf
      have k_b112 : ∀ (n112 : Nat) (v1 : Int32) (v2 : Int32) (v4 : Int32) (v5 : Int32) (M : Mem), f_X12_songs_b112 (f_X12_songs_b79 n79) n112 v1 v2 v4 v5 M = some r → K p l e (k_rm 3 68) s m args below meth c 8 G shR (MQ below (k_Ql G shR r.1 r.2) args s 0 0 (k_A G shR.length)) 112 [(0, .ref (G.2.1 0)), (1, .int v1), (2, .int v2), (4, .int v4), (5, .int v5)] [] M := by
        intro n112
        induction n112 with
        | zero => intro v1 v2 v4 v5 M hf; simp [f_X12_songs_b112] at hf
        | succ n112 ih112 =>
          intro v1 v2 v4 v5 M hf
          unfold f_X12_songs_b112 at hf
          refine k_iload C dX12_songs_112 4 rfl ?_
          refine k_bipush C dX12_songs_114 (v := (81 : Int32)) rfl ?_
          refine k_aload_n C dX12_songs_116 0 rfl ?_
          refine k_geti C shR_0 (j := 5) rfl FL_X12_62 dX12_songs_117 ?_
          refine k_imul C dX12_songs_120 ?_
          rcases ite_g hf with ⟨c8, hf⟩ | ⟨c8, hf⟩
          · refine k_icmp_ge_t C dX12_songs_121 (tgt := 194) (by decide) c8 ?_
            refine k_iconst C dX12_songs_194 (v := (0 : Int32)) rfl ?_
            refine k_istore C dX12_songs_195 (by decide) [1, 2, 3, 4, 0] (lv' := [(0, .ref (G.2.1 0)), (1, .int v1), (2, .int v2), (4, .int v4), (5, .int (0 : Int32))]) rfl ?_
            exact k_b197 FU v1 v2 v4 (0 : Int32) M hf
          · refine k_icmp_ge_f C dX12_songs_121 (tgt := 194) (by decide) c8 ?_
            refine k_iload C dX12_songs_124 4 rfl ?_
            refine k_aload_n C dX12_songs_126 0 rfl ?_
            refine k_geti C shR_0 (j := 5) rfl FL_X12_62 dX12_songs_127 ?_
            obtain ⟨t12, ht12, hf⟩ := bnd hf
            refine k_idivO C dX12_songs_130 ht12 ?_
            refine k_istore C dX12_songs_131 (by decide) [1, 2, 3, 4, 5, 0] (lv' := [(0, .ref (G.2.1 0)), (1, .int v1), (2, .int v2), (4, .int v4), (5, .int v5), (6, .int t12)]) rfl ?_
            refine k_iload C dX12_songs_133 4 rfl ?_
            refine k_aload_n C dX12_songs_135 0 rfl ?_
            refine k_geti C shR_0 (j := 5) rfl FL_X12_62 dX12_songs_136 ?_
            obtain ⟨t13, ht13, hf⟩ := bnd hf
            refine k_iremO C dX12_songs_139 ht13 ?_
            refine k_istore C dX12_songs_140 (by decide) [1, 2, 3, 4, 5, 6, 0] (lv' := [(0, .ref (G.2.1 0)), (1, .int v1), (2, .int v2), (4, .int v4), (5, .int v5), (6, .int t12), (7, .int t13)]) rfl ?_
            refine k_aload_n C dX12_songs_142 0 rfl ?_
            refine k_iload C dX12_songs_143 6 rfl ?_
            refine k_iload_n C dX12_songs_145 2 rfl ?_
            refine k_iload C dX12_songs_146 5 rfl ?_
            refine k_bipush C dX12_songs_148 (v := (9 : Int32)) rfl ?_
            refine k_idiv C dX12_songs_150 (by decide) ?_
            refine k_iload C dX12_songs_151 5 rfl ?_
            refine k_bipush C dX12_songs_153 (v := (9 : Int32)) rfl ?_
            refine k_iremJ C dX12_songs_155 (by decide) ?_
            obtain ⟨t14, ht14, hf⟩ := bnd hf
            refine k_callVi C (As := [.int t13, .int v2, .int (t12 / (9 : Int32)), .int (jrm t12 (9 : Int32))]) (c_X12_mayFollow hap t13 v2 (t12 / (9 : Int32)) (jrm t12 (9 : Int32)) M t14 ht14) ML_X12_mayFollow wd_1650 shR_0 rfl rfl rfl ⟨Nat.le_of_ble_eq_true rfl, Nat.le_of_ble_eq_true rfl⟩ (Nat.le_of_ble_eq_true rfl) dX12_songs_156 ?_
            rcases ite_g hf with ⟨c15, hf⟩ | ⟨c15, hf⟩
            · refine k_if_eq_t C dX12_songs_159 (tgt := 188) (by decide) c15 ?_
              refine k_iinc C dX12_songs_188 4 rfl (v := (v5 + (1 : Int32))) rfl (by decide) [1, 2, 3, 4, 0] (lv' := [(0, .ref (G.2.1 0)), (1, .int v1), (2, .int v2), (4, .int v4), (5, .int (v5 + (1 : Int32)))]) rfl ?_
              refine k_goto C dX12_songs_191 (tgt := 112) (by decide) ?_
              exact ih112 v1 v2 v4 (v5 + (1 : Int32)) M hf
            · refine k_if_eq_f C dX12_songs_159 (tgt := 188) (by decide) c15 ?_
              refine k_aload_n C dX12_songs_162 0 rfl ?_
              refine k_getr C shR_0 (j := 27) rfl FL_X12_56 dX12_songs_163 ?_
              refine k_bipush C dX12_songs_166 (v := (9 : Int32)) rfl ?_
              refine k_iload C dX12_songs_168 6 rfl ?_
              refine k_imul C dX12_songs_170 ?_
              refine k_iload C dX12_songs_171 5 rfl ?_
              refine k_bipush C dX12_songs_173 (v := (9 : Int32)) rfl ?_
              refine k_idiv C dX12_songs_175 (by decide) ?_
              refine k_iadd C dX12_songs_176 ?_
              refine k_dup2 C dX12_songs_177 rfl rfl ?_
              obtain ⟨t16, ht16, hf⟩ := bnd hf
              refine k_lald C shR_16 ht16 dX12_songs_178 ?_
              refine k_aload_n C dX12_songs_179 0 rfl ?_
              refine k_getr C shR_0 (j := 26) rfl FL_X12_52 dX12_songs_180 ?_
              refine k_iload C dX12_songs_183 5 rfl ?_
              obtain ⟨t17, ht17, hf⟩ := bnd hf
              refine k_lald C shR_15 ht17 dX12_songs_185 ?_
              refine k_ladd C dX12_songs_186 ?_
              obtain ⟨M18, hM18, hf⟩ := bnd hf
              refine k_last C shR_16 hM18 dX12_songs_187 ?_
              refine k_iinc C dX12_songs_188 4 rfl (v := (v5 + (1 : Int32))) rfl (by decide) [1, 2, 3, 4, 0] (lv' := [(0, .ref (G.2.1 0)), (1, .int v1), (2, .int v2), (4, .int v4), (5, .int (v5 + (1 : Int32)))]) rfl ?_
              refine k_goto C dX12_songs_191 (tgt := 112) (by decide) ?_
              exact ih112 v1 v2 v4 (v5 + (1 : Int32)) M18 hf
      have k_b88 : ∀ (n88 : Nat) (v1 : Int32) (v2 : Int32) (v4 : Int32) (v5 : Int32) (M : Mem), f_X12_songs_b88 (f_X12_songs_b79 n79) n88 v1 v2 v4 v5 M = some r → K p l e (k_rm 3 68) s m args below meth c 8 G shR (MQ below (k_Ql G shR r.1 r.2) args s 0 0 (k_A G shR.length)) 88 [(0, .ref (G.2.1 0)), (1, .int v1), (2, .int v2), (4, .int v4), (5, .int v5)] [] M := by
        intro n88
        induction n88 with
        | zero => intro v1 v2 v4 v5 M hf; simp [f_X12_songs_b88] at hf
        | succ n88 ih88 =>
          intro v1 v2 v4 v5 M hf
          unfold f_X12_songs_b88 at hf
          refine k_iload C dX12_songs_88 4 rfl ?_
          refine k_bipush C dX12_songs_90 (v := (81 : Int32)) rfl ?_
          rcases ite_g hf with ⟨c6, hf⟩ | ⟨c6, hf⟩
          · refine k_icmp_ge_t C dX12_songs_92 (tgt := 109) (by decide) c6 ?_
            refine k_iconst C dX12_songs_109 (v := (0 : Int32)) rfl ?_
            refine k_istore C dX12_songs_110 (by decide) [1, 2, 3, 4, 0] (lv' := [(0, .ref (G.2.1 0)), (1, .int v1), (2, .int v2), (4, .int v4), (5, .int (0 : Int32))]) rfl ?_
            exact k_b112 FU v1 v2 v4 (0 : Int32) M hf
          · refine k_icmp_ge_f C dX12_songs_92 (tgt := 109) (by decide) c6 ?_
            refine k_aload_n C dX12_songs_95 0 rfl ?_
            refine k_getr C shR_0 (j := 27) rfl FL_X12_56 dX12_songs_96 ?_
            refine k_iload C dX12_songs_99 4 rfl ?_
            refine k_lconst C dX12_songs_101 (v := (0 : Int64)) rfl ?_
            obtain ⟨M19, hM19, hf⟩ := bnd hf
            refine k_last C shR_16 hM19 dX12_songs_102 ?_
            refine k_iinc C dX12_songs_103 4 rfl (v := (v5 + (1 : Int32))) rfl (by decide) [1, 2, 3, 4, 0] (lv' := [(0, .ref (G.2.1 0)), (1, .int v1), (2, .int v2), (4, .int v4), (5, .int (v5 + (1 : Int32)))]) rfl ?_
            refine k_goto C dX12_songs_106 (tgt := 88) (by decide) ?_
            exact ih88 v1 v2 v4 (v5 + (1 : Int32)) M19 hf
      intro v1 v2 v4 M hf
      unfold f_X12_songs_b79 at hf
      refine k_iload C dX12_songs_79 3 rfl ?_
      refine k_iload_n C dX12_songs_81 1 rfl ?_
      rcases ite_g hf with ⟨c3, hf⟩ | ⟨c3, hf⟩
      · refine k_icmp_ge_t C dX12_songs_82 (tgt := 230) (by decide) c3 ?_
        refine k_lconst C dX12_songs_230 (v := (0 : Int64)) rfl ?_
        refine k_lstore C dX12_songs_231 (by decide) [1, 0] (lv' := [(0, .ref (G.2.1 0)), (4, .long (0 : Int64))]) rfl ?_
        refine k_iconst C dX12_songs_233 (v := (0 : Int32)) rfl ?_
        refine k_istore C dX12_songs_234 (by decide) [1, 2, 0] (lv' := [(0, .ref (G.2.1 0)), (4, .long (0 : Int64)), (6, .int (0 : Int32))]) rfl ?_
        exact k_b236 FU (0 : Int64) (0 : Int32) M hf
      · refine k_icmp_ge_f C dX12_songs_82 (tgt := 230) (by decide) c3 ?_
        refine k_iconst C dX12_songs_85 (v := (0 : Int32)) rfl ?_
        refine k_istore C dX12_songs_86 (by decide) [1, 2, 3, 4, 0] (lv' := [(0, .ref (G.2.1 0)), (1, .int v1), (2, .int v2), (4, .int v4), (5, .int (0 : Int32))]) rfl ?_
        exact k_b88 FU v1 v2 v4 (0 : Int32) M hf
  have k_b44 : ∀ (n44 : Nat) (v1 : Int32) (v2 : Int32) (v4 : Int32) (M : Mem), f_X12_songs_b44 n44 v1 v2 v4 M = some r → K p l e (k_rm 3 68) s m args below meth c 8 G shR (MQ below (k_Ql G shR r.1 r.2) args s 0 0 (k_A G shR.length)) 44 [(0, .ref (G.2.1 0)), (1, .int v1), (2, .int v2), (4, .int v4)] [] M := by
    intro n44
    induction n44 with
    | zero => intro v1 v2 v4 M hf; simp [f_X12_songs_b44] at hf
    | succ n44 ih44 =>
      intro v1 v2 v4 M hf
      unfold f_X12_songs_b44 at hf
      refine k_iload C dX12_songs_44 3 rfl ?_
      refine k_bipush C dX12_songs_46 (v := (81 : Int32)) rfl ?_
      rcases ite_g hf with ⟨c2, hf⟩ | ⟨c2, hf⟩
      · refine k_icmp_ge_t C dX12_songs_48 (tgt := 76) (by decide) c2 ?_
        refine k_iconst C dX12_songs_76 (v := (0 : Int32)) rfl ?_
        refine k_istore C dX12_songs_77 (by decide) [1, 2, 3, 0] (lv' := [(0, .ref (G.2.1 0)), (1, .int v1), (2, .int v2), (4, .int (0 : Int32))]) rfl ?_
        exact k_b79 FU v1 v2 (0 : Int32) M hf
      · refine k_icmp_ge_f C dX12_songs_48 (tgt := 76) (by decide) c2 ?_
        refine k_aload_n C dX12_songs_51 0 rfl ?_
        refine k_getr C shR_0 (j := 26) rfl FL_X12_52 dX12_songs_52 ?_
        refine k_iload C dX12_songs_55 3 rfl ?_
        refine k_iload C dX12_songs_57 3 rfl ?_
        refine k_bipush C dX12_songs_59 (v := (80 : Int32)) rfl ?_
        have hj21 : K p l e (k_rm 3 68) s m args below meth c 8 G shR (MQ below (k_Ql G shR r.1 r.2) args s 0 0 (k_A G shR.length)) 69 [(0, .ref (G.2.1 0)), (1, .int v1), (2, .int v2), (4, .int v4)] [.long (if v4 = (80 : Int32) then (1 : Int64) else (0 : Int64)), .int v4, .ref (G.2.1 15)] M := by
          obtain ⟨M20, hM20, hf⟩ := bnd hf
          refine k_last C shR_15 hM20 dX12_songs_69 ?_
          refine k_iinc C dX12_songs_70 3 rfl (v := (v4 + (1 : Int32))) rfl (by decide) [1, 2, 3, 0] (lv' := [(0, .ref (G.2.1 0)), (1, .int v1), (2, .int v2), (4, .int (v4 + (1 : Int32)))]) rfl ?_
          refine k_goto C dX12_songs_73 (tgt := 44) (by decide) ?_
          exact ih44 v1 v2 (v4 + (1 : Int32)) M20 hf
        by_cases c22 : v4 = (80 : Int32)
        · refine k_icmp_ne_f C dX12_songs_61 (tgt := 68) (by decide) c22 ?_
          refine k_lconst C dX12_songs_64 (v := (1 : Int64)) rfl ?_
          refine k_goto C dX12_songs_65 (tgt := 69) (by decide) ?_
          exact k_val (by rw [if_pos c22]) hj21
        · refine k_icmp_ne_t C dX12_songs_61 (tgt := 68) (by decide) c22 ?_
          refine k_lconst C dX12_songs_68 (v := (0 : Int64)) rfl ?_
          exact k_val (by rw [if_neg c22]) hj21
  have k_b30 : ∀ (v1 : Int32) (v2 : Int32) (s0 : Int32) (M : Mem), f_X12_songs_b30 v1 v2 s0 M = some r → K p l e (k_rm 3 68) s m args below meth c 8 G shR (MQ below (k_Ql G shR r.1 r.2) args s 0 0 (k_A G shR.length)) 30 [(0, .ref (G.2.1 0)), (1, .int v1), (2, .int v2)] [.int s0] M := by
    intro v1 v2 s0 M hf
    unfold f_X12_songs_b30 at hf
    refine k_istore_n C dX12_songs_30 (by decide) [1, 2, 3, 0] (lv' := [(0, .ref (G.2.1 0)), (1, .int v1), (2, .int v2), (3, .int s0)]) rfl ?_
    refine k_iload_n C dX12_songs_31 3 rfl ?_
    rcases ite_g hf with ⟨c1, hf⟩ | ⟨c1, hf⟩
    · refine k_if_eq_t C dX12_songs_32 (tgt := 41) (by decide) c1 ?_
      refine k_iconst C dX12_songs_41 (v := (0 : Int32)) rfl ?_
      refine k_istore C dX12_songs_42 (by decide) [1, 2, 3, 0] (lv' := [(0, .ref (G.2.1 0)), (1, .int v1), (2, .int v2), (4, .int (0 : Int32))]) rfl ?_
      exact k_b44 FU v1 v2 (0 : Int32) M hf
    · refine k_if_eq_f C dX12_songs_32 (tgt := 41) (by decide) c1 ?_
      refine k_aload_n C dX12_songs_35 0 rfl ?_
      refine k_iload_n C dX12_songs_36 3 rfl ?_
      obtain ⟨⟨t23, M23⟩, ht23, hf⟩ := bnd hf
      replace hf := bp_s hf
      refine k_callVl C (As := [.int s0]) (c_X12_lowest hap s0 M (t23, M23) ht23) ML_X12_lowest wd_1645 shR_0 rfl rfl rfl ⟨Nat.le_of_ble_eq_true rfl, Nat.le_of_ble_eq_true rfl⟩ (Nat.le_of_ble_eq_true rfl) dX12_songs_37 ?_
      exact k_lret C hr hlk (prf hf) (prs hf) dX12_songs_40
  unfold f_X12_songs at hf
  refine k_lv (lv' := [(0, .ref (G.2.1 0)), (1, .int v1), (2, .int v2)]) [0, 1, 2] rfl ?_
  refine k_iload_n C dX12_songs_0 1 rfl ?_
  have hj24 : K p l e (k_rm 3 68) s m args below meth c 8 G shR (MQ below (k_Ql G shR r.1 r.2) args s 0 0 (k_A G shR.length)) 30 [(0, .ref (G.2.1 0)), (1, .int v1), (2, .int v2)] [.int (if v1 < 0 then (-4 : Int32) else (if 0 ≤ v2 then (if (8 : Int32) < v1 then (-6 : Int32) else (if v2 ≤ (2 : Int32) then (0 : Int32) else (-6 : Int32))) else (-4 : Int32)))] M0 := by
    exact k_b30 v1 v2 (if v1 < 0 then (-4 : Int32) else (if 0 ≤ v2 then (if (8 : Int32) < v1 then (-6 : Int32) else (if v2 ≤ (2 : Int32) then (0 : Int32) else (-6 : Int32))) else (-4 : Int32))) M0 hf
  by_cases c25 : v1 < 0
  · refine k_if_lt_t C dX12_songs_1 (tgt := 8) (by decide) c25 ?_
    refine k_bipush C dX12_songs_8 (v := (-4 : Int32)) rfl ?_
    refine k_goto C dX12_songs_10 (tgt := 30) (by decide) ?_
    exact k_val (by rw [if_pos c25]) hj24
  · refine k_if_lt_f C dX12_songs_1 (tgt := 8) (by decide) c25 ?_
    refine k_iload_n C dX12_songs_4 2 rfl ?_
    by_cases c26 : 0 ≤ v2
    · refine k_if_ge_t C dX12_songs_5 (tgt := 13) (by decide) c26 ?_
      refine k_iload_n C dX12_songs_13 1 rfl ?_
      refine k_bipush C dX12_songs_14 (v := (8 : Int32)) rfl ?_
      by_cases c27 : (8 : Int32) < v1
      · refine k_icmp_gt_t C dX12_songs_16 (tgt := 24) (by decide) c27 ?_
        refine k_bipush C dX12_songs_24 (v := (-6 : Int32)) rfl ?_
        refine k_goto C dX12_songs_26 (tgt := 30) (by decide) ?_
        exact k_val (by rw [if_neg c25, if_pos c26, if_pos c27]) hj24
      · refine k_icmp_gt_f C dX12_songs_16 (tgt := 24) (by decide) c27 ?_
        refine k_iload_n C dX12_songs_19 2 rfl ?_
        refine k_iconst C dX12_songs_20 (v := (2 : Int32)) rfl ?_
        by_cases c28 : v2 ≤ (2 : Int32)
        · refine k_icmp_le_t C dX12_songs_21 (tgt := 29) (by decide) c28 ?_
          refine k_iconst C dX12_songs_29 (v := (0 : Int32)) rfl ?_
          exact k_val (by rw [if_neg c25, if_pos c26, if_neg c27, if_pos c28]) hj24
        · refine k_icmp_le_f C dX12_songs_21 (tgt := 29) (by decide) c28 ?_
          refine k_bipush C dX12_songs_24 (v := (-6 : Int32)) rfl ?_
          refine k_goto C dX12_songs_26 (tgt := 30) (by decide) ?_
          exact k_val (by rw [if_neg c25, if_pos c26, if_neg c27, if_neg c28]) hj24
    · refine k_if_ge_f C dX12_songs_5 (tgt := 13) (by decide) c26 ?_
      refine k_bipush C dX12_songs_8 (v := (-4 : Int32)) rfl ?_
      refine k_goto C dX12_songs_10 (tgt := 30) (by decide) ?_
      exact k_val (by rw [if_neg c25, if_neg c26]) hj24
theorem dX12_inspectors_0 : decode cX12_inspectors 0 = .ok (.iload_n 1, 1) := by decide +kernel
theorem dX12_inspectors_1 : decode cX12_inspectors 1 = .ok (.iconst 1, 1) := by decide +kernel
theorem dX12_inspectors_2 : decode cX12_inspectors 2 = .ok (.bipush 9, 2) := by decide +kernel
theorem dX12_inspectors_4 : decode cX12_inspectors 4 = .ok (.invokestatic 68, 3) := by decide +kernel
theorem dX12_inspectors_7 : decode cX12_inspectors 7 = .ok (.istore_n 2, 1) := by decide +kernel
theorem dX12_inspectors_8 : decode cX12_inspectors 8 = .ok (.iload_n 2, 1) := by decide +kernel
theorem dX12_inspectors_9 : decode cX12_inspectors 9 = .ok (.ifCond .eq 9, 3) := by decide +kernel
theorem dX12_inspectors_12 : decode cX12_inspectors 12 = .ok (.aload_n 0, 1) := by decide +kernel
theorem dX12_inspectors_13 : decode cX12_inspectors 13 = .ok (.iload_n 2, 1) := by decide +kernel
theorem dX12_inspectors_14 : decode cX12_inspectors 14 = .ok (.invokevirtual 75, 3) := by decide +kernel
theorem dX12_inspectors_17 : decode cX12_inspectors 17 = .ok (.ireturn, 1) := by decide +kernel
theorem dX12_inspectors_18 : decode cX12_inspectors 18 = .ok (.aload_n 0, 1) := by decide +kernel
theorem dX12_inspectors_19 : decode cX12_inspectors 19 = .ok (.getfield 62, 3) := by decide +kernel
theorem dX12_inspectors_22 : decode cX12_inspectors 22 = .ok (.ifCond .ne 6, 3) := by decide +kernel
theorem dX12_inspectors_25 : decode cX12_inspectors 25 = .ok (.bipush (-9), 2) := by decide +kernel
theorem dX12_inspectors_27 : decode cX12_inspectors 27 = .ok (.ireturn, 1) := by decide +kernel
theorem dX12_inspectors_28 : decode cX12_inspectors 28 = .ok (.iconst 2, 1) := by decide +kernel
theorem dX12_inspectors_29 : decode cX12_inspectors 29 = .ok (.istore_n 3, 1) := by decide +kernel
theorem dX12_inspectors_30 : decode cX12_inspectors 30 = .ok (.iload_n 3, 1) := by decide +kernel
theorem dX12_inspectors_31 : decode cX12_inspectors 31 = .ok (.bipush 20, 2) := by decide +kernel
theorem dX12_inspectors_33 : decode cX12_inspectors 33 = .ok (.if_icmp .ge 54, 3) := by decide +kernel
theorem dX12_inspectors_36 : decode cX12_inspectors 36 = .ok (.iconst 1, 1) := by decide +kernel
theorem dX12_inspectors_37 : decode cX12_inspectors 37 = .ok (.istore 4, 2) := by decide +kernel
theorem dX12_inspectors_39 : decode cX12_inspectors 39 = .ok (.iload 4, 2) := by decide +kernel
theorem dX12_inspectors_41 : decode cX12_inspectors 41 = .ok (.iload_n 3, 1) := by decide +kernel
theorem dX12_inspectors_42 : decode cX12_inspectors 42 = .ok (.if_icmp .ge 39, 3) := by decide +kernel
theorem dX12_inspectors_45 : decode cX12_inspectors 45 = .ok (.aload_n 0, 1) := by decide +kernel
theorem dX12_inspectors_46 : decode cX12_inspectors 46 = .ok (.iload 4, 2) := by decide +kernel
theorem dX12_inspectors_48 : decode cX12_inspectors 48 = .ok (.iconst 1, 1) := by decide +kernel
theorem dX12_inspectors_49 : decode cX12_inspectors 49 = .ok (.isub, 1) := by decide +kernel
theorem dX12_inspectors_50 : decode cX12_inspectors 50 = .ok (.iload_n 1, 1) := by decide +kernel
theorem dX12_inspectors_51 : decode cX12_inspectors 51 = .ok (.imul, 1) := by decide +kernel
theorem dX12_inspectors_52 : decode cX12_inspectors 52 = .ok (.aload_n 0, 1) := by decide +kernel
theorem dX12_inspectors_53 : decode cX12_inspectors 53 = .ok (.getfield 62, 3) := by decide +kernel
theorem dX12_inspectors_56 : decode cX12_inspectors 56 = .ok (.irem, 1) := by decide +kernel
theorem dX12_inspectors_57 : decode cX12_inspectors 57 = .ok (.iload_n 3, 1) := by decide +kernel
theorem dX12_inspectors_58 : decode cX12_inspectors 58 = .ok (.iconst 1, 1) := by decide +kernel
theorem dX12_inspectors_59 : decode cX12_inspectors 59 = .ok (.isub, 1) := by decide +kernel
theorem dX12_inspectors_60 : decode cX12_inspectors 60 = .ok (.iload_n 1, 1) := by decide +kernel
theorem dX12_inspectors_61 : decode cX12_inspectors 61 = .ok (.imul, 1) := by decide +kernel
theorem dX12_inspectors_62 : decode cX12_inspectors 62 = .ok (.aload_n 0, 1) := by decide +kernel
theorem dX12_inspectors_63 : decode cX12_inspectors 63 = .ok (.getfield 62, 3) := by decide +kernel
theorem dX12_inspectors_66 : decode cX12_inspectors 66 = .ok (.irem, 1) := by decide +kernel
theorem dX12_inspectors_67 : decode cX12_inspectors 67 = .ok (.invokevirtual 154, 3) := by decide +kernel
theorem dX12_inspectors_70 : decode cX12_inspectors 70 = .ok (.ifCond .eq 5, 3) := by decide +kernel
theorem dX12_inspectors_73 : decode cX12_inspectors 73 = .ok (.iload_n 3, 1) := by decide +kernel
theorem dX12_inspectors_74 : decode cX12_inspectors 74 = .ok (.ireturn, 1) := by decide +kernel
theorem dX12_inspectors_75 : decode cX12_inspectors 75 = .ok (.iinc 4 1, 3) := by decide +kernel
theorem dX12_inspectors_78 : decode cX12_inspectors 78 = .ok (.goto (-39), 3) := by decide +kernel
theorem dX12_inspectors_81 : decode cX12_inspectors 81 = .ok (.iinc 3 1, 3) := by decide +kernel
theorem dX12_inspectors_84 : decode cX12_inspectors 84 = .ok (.goto (-54), 3) := by decide +kernel
theorem dX12_inspectors_87 : decode cX12_inspectors 87 = .ok (.bipush (-9), 2) := by decide +kernel
theorem dX12_inspectors_89 : decode cX12_inspectors 89 = .ok (.ireturn, 1) := by decide +kernel
set_option maxRecDepth 100000 in
set_option maxHeartbeats 4000000 in
theorem c_X12_inspectors {l : Launch} {G : Gx} (hap : k_ap G shR.length) (v1 : Int32) (M0 : Mem) (r : Int32 × Mem) (hf : f_X12_inspectors v1 M0 = some r) : k_Met l yX12_inspectors cX12_inspectors 5 (some .int) 2 44 G shR [.ref (G.2.1 0), .int v1] M0 (k_Qi G shR r.1 r.2) := by
  refine k_Met_of (by decide) hap (Nat.le_of_ble_eq_true rfl) ?_
  intro p e s m args below meth c C hr hlk
  have C : Cx p s m args c cX12_inspectors RX12 5 G shR := C
  have k_b30 : ∀ (n30 : Nat) (v1 : Int32) (v3 : Int32) (M : Mem), f_X12_inspectors_b30 n30 v1 v3 M = some r → K p l e (k_rm 2 44) s m args below meth c 5 G shR (MQ below (k_Qi G shR r.1 r.2) args s 0 0 (k_A G shR.length)) 30 [(0, .ref (G.2.1 0)), (1, .int v1), (3, .int v3)] [] M := by
    intro n30
    induction n30 with
    | zero => intro v1 v3 M hf; simp [f_X12_inspectors_b30] at hf
    | succ n30 ih30 =>
      have k_b39 : ∀ (n39 : Nat) (v1 : Int32) (v3 : Int32) (v4 : Int32) (M : Mem), f_X12_inspectors_b39 (f_X12_inspectors_b30 n30) n39 v1 v3 v4 M = some r → K p l e (k_rm 2 44) s m args below meth c 5 G shR (MQ below (k_Qi G shR r.1 r.2) args s 0 0 (k_A G shR.length)) 39 [(0, .ref (G.2.1 0)), (1, .int v1), (3, .int v3), (4, .int v4)] [] M := by
        intro n39
        induction n39 with
        | zero => intro v1 v3 v4 M hf; simp [f_X12_inspectors_b39] at hf
        | succ n39 ih39 =>
          intro v1 v3 v4 M hf
          unfold f_X12_inspectors_b39 at hf
          refine k_iload C dX12_inspectors_39 3 rfl ?_
          refine k_iload_n C dX12_inspectors_41 2 rfl ?_
          rcases ite_g hf with ⟨c4, hf⟩ | ⟨c4, hf⟩
          · refine k_icmp_ge_t C dX12_inspectors_42 (tgt := 81) (by decide) c4 ?_
            refine k_iinc C dX12_inspectors_81 2 rfl (v := (v3 + (1 : Int32))) rfl (by decide) [1, 2, 0] (lv' := [(0, .ref (G.2.1 0)), (1, .int v1), (3, .int (v3 + (1 : Int32)))]) rfl ?_
            refine k_goto C dX12_inspectors_84 (tgt := 30) (by decide) ?_
            exact ih30 v1 (v3 + (1 : Int32)) M hf
          · refine k_icmp_ge_f C dX12_inspectors_42 (tgt := 81) (by decide) c4 ?_
            refine k_aload_n C dX12_inspectors_45 0 rfl ?_
            refine k_iload C dX12_inspectors_46 3 rfl ?_
            refine k_iconst C dX12_inspectors_48 (v := (1 : Int32)) rfl ?_
            refine k_isub C dX12_inspectors_49 ?_
            refine k_iload_n C dX12_inspectors_50 1 rfl ?_
            refine k_imul C dX12_inspectors_51 ?_
            refine k_aload_n C dX12_inspectors_52 0 rfl ?_
            refine k_geti C shR_0 (j := 5) rfl FL_X12_62 dX12_inspectors_53 ?_
            obtain ⟨t5, ht5, hf⟩ := bnd hf
            refine k_iremO C dX12_inspectors_56 ht5 ?_
            refine k_iload_n C dX12_inspectors_57 2 rfl ?_
            refine k_iconst C dX12_inspectors_58 (v := (1 : Int32)) rfl ?_
            refine k_isub C dX12_inspectors_59 ?_
            refine k_iload_n C dX12_inspectors_60 1 rfl ?_
            refine k_imul C dX12_inspectors_61 ?_
            refine k_aload_n C dX12_inspectors_62 0 rfl ?_
            refine k_geti C shR_0 (j := 5) rfl FL_X12_62 dX12_inspectors_63 ?_
            obtain ⟨t6, ht6, hf⟩ := bnd hf
            refine k_iremO C dX12_inspectors_66 ht6 ?_
            obtain ⟨t7, ht7, hf⟩ := bnd hf
            refine k_callVi C (As := [.int t5, .int t6]) (c_X12_areSame hap t5 t6 M t7 ht7) ML_X12_areSame wd_1459 shR_0 rfl rfl rfl ⟨Nat.le_of_ble_eq_true rfl, Nat.le_of_ble_eq_true rfl⟩ (Nat.le_of_ble_eq_true rfl) dX12_inspectors_67 ?_
            rcases ite_g hf with ⟨c8, hf⟩ | ⟨c8, hf⟩
            · refine k_if_eq_t C dX12_inspectors_70 (tgt := 75) (by decide) c8 ?_
              refine k_iinc C dX12_inspectors_75 3 rfl (v := (v4 + (1 : Int32))) rfl (by decide) [1, 2, 3, 0] (lv' := [(0, .ref (G.2.1 0)), (1, .int v1), (3, .int v3), (4, .int (v4 + (1 : Int32)))]) rfl ?_
              refine k_goto C dX12_inspectors_78 (tgt := 39) (by decide) ?_
              exact ih39 v1 v3 (v4 + (1 : Int32)) M hf
            · refine k_if_eq_f C dX12_inspectors_70 (tgt := 75) (by decide) c8 ?_
              refine k_iload_n C dX12_inspectors_73 2 rfl ?_
              exact k_iret C hr hlk (prf hf) (prs hf) dX12_inspectors_74
      intro v1 v3 M hf
      unfold f_X12_inspectors_b30 at hf
      refine k_iload_n C dX12_inspectors_30 2 rfl ?_
      refine k_bipush C dX12_inspectors_31 (v := (20 : Int32)) rfl ?_
      rcases ite_g hf with ⟨c3, hf⟩ | ⟨c3, hf⟩
      · refine k_icmp_ge_t C dX12_inspectors_33 (tgt := 87) (by decide) c3 ?_
        refine k_bipush C dX12_inspectors_87 (v := (-9 : Int32)) rfl ?_
        exact k_iret C hr hlk (prf hf) (prs hf) dX12_inspectors_89
      · refine k_icmp_ge_f C dX12_inspectors_33 (tgt := 87) (by decide) c3 ?_
        refine k_iconst C dX12_inspectors_36 (v := (1 : Int32)) rfl ?_
        refine k_istore C dX12_inspectors_37 (by decide) [1, 2, 3, 0] (lv' := [(0, .ref (G.2.1 0)), (1, .int v1), (3, .int v3), (4, .int (1 : Int32))]) rfl ?_
        exact k_b39 FU v1 v3 (1 : Int32) M hf
  unfold f_X12_inspectors at hf
  refine k_lv (lv' := [(0, .ref (G.2.1 0)), (1, .int v1)]) [0, 1] rfl ?_
  refine k_iload_n C dX12_inspectors_0 1 rfl ?_
  refine k_iconst C dX12_inspectors_1 (v := (1 : Int32)) rfl ?_
  refine k_bipush C dX12_inspectors_2 (v := (9 : Int32)) rfl ?_
  refine k_callSi C (As := [.int v1, .int (1 : Int32), .int (9 : Int32)]) (c_X12_bound hap v1 (1 : Int32) (9 : Int32) M0 _ rfl) MS_X12_bound wd_1366 rfl rfl ⟨Nat.le_of_ble_eq_true rfl, Nat.le_of_ble_eq_true rfl⟩ (Nat.le_of_ble_eq_true rfl) dX12_inspectors_4 ?_
  refine k_istore_n C dX12_inspectors_7 (by decide) [1, 2, 0] (lv' := [(0, .ref (G.2.1 0)), (1, .int v1), (2, .int (f_X12_bound v1 (1 : Int32) (9 : Int32)))]) rfl ?_
  refine k_iload_n C dX12_inspectors_8 2 rfl ?_
  rcases ite_g hf with ⟨c1, hf⟩ | ⟨c1, hf⟩
  · refine k_if_eq_t C dX12_inspectors_9 (tgt := 18) (by decide) c1 ?_
    refine k_aload_n C dX12_inspectors_18 0 rfl ?_
    refine k_geti C shR_0 (j := 5) rfl FL_X12_62 dX12_inspectors_19 ?_
    rcases ite_g hf with ⟨c2, hf⟩ | ⟨c2, hf⟩
    · refine k_if_ne_f C dX12_inspectors_22 (tgt := 28) (by decide) c2 ?_
      refine k_bipush C dX12_inspectors_25 (v := (-9 : Int32)) rfl ?_
      exact k_iret C hr hlk (prf hf) (prs hf) dX12_inspectors_27
    · refine k_if_ne_t C dX12_inspectors_22 (tgt := 28) (by decide) c2 ?_
      refine k_iconst C dX12_inspectors_28 (v := (2 : Int32)) rfl ?_
      refine k_istore_n C dX12_inspectors_29 (by decide) [1, 2, 0] (lv' := [(0, .ref (G.2.1 0)), (1, .int v1), (3, .int (2 : Int32))]) rfl ?_
      exact k_b30 FU v1 (2 : Int32) M0 hf
  · refine k_if_eq_f C dX12_inspectors_9 (tgt := 18) (by decide) c1 ?_
    refine k_aload_n C dX12_inspectors_12 0 rfl ?_
    refine k_iload_n C dX12_inspectors_13 2 rfl ?_
    obtain ⟨⟨t9, M9⟩, ht9, hf⟩ := bnd hf
    replace hf := bp_s hf
    refine k_callVi C (As := [.int (f_X12_bound v1 (1 : Int32) (9 : Int32))]) (c_X12_no hap (f_X12_bound v1 (1 : Int32) (9 : Int32)) M0 (t9, M9) ht9) ML_X12_no wd_1369 shR_0 rfl rfl rfl ⟨Nat.le_of_ble_eq_true rfl, Nat.le_of_ble_eq_true rfl⟩ (Nat.le_of_ble_eq_true rfl) dX12_inspectors_14 ?_
    exact k_iret C hr hlk (prf hf) (prs hf) dX12_inspectors_17
theorem dX12_divisor_0 : decode cX12_divisor 0 = .ok (.lload_n 0, 1) := by decide +kernel
theorem dX12_divisor_1 : decode cX12_divisor 1 = .ok (.lstore 4, 2) := by decide +kernel
theorem dX12_divisor_3 : decode cX12_divisor 3 = .ok (.lload_n 2, 1) := by decide +kernel
theorem dX12_divisor_4 : decode cX12_divisor 4 = .ok (.lstore 6, 2) := by decide +kernel
theorem dX12_divisor_6 : decode cX12_divisor 6 = .ok (.lload 6, 2) := by decide +kernel
theorem dX12_divisor_8 : decode cX12_divisor 8 = .ok (.lconst 0, 1) := by decide +kernel
theorem dX12_divisor_9 : decode cX12_divisor 9 = .ok (.lcmp, 1) := by decide +kernel
theorem dX12_divisor_10 : decode cX12_divisor 10 = .ok (.ifCond .eq 21, 3) := by decide +kernel
theorem dX12_divisor_13 : decode cX12_divisor 13 = .ok (.lload 4, 2) := by decide +kernel
theorem dX12_divisor_15 : decode cX12_divisor 15 = .ok (.lload 6, 2) := by decide +kernel
theorem dX12_divisor_17 : decode cX12_divisor 17 = .ok (.lrem, 1) := by decide +kernel
theorem dX12_divisor_18 : decode cX12_divisor 18 = .ok (.lstore 8, 2) := by decide +kernel
theorem dX12_divisor_20 : decode cX12_divisor 20 = .ok (.lload 6, 2) := by decide +kernel
theorem dX12_divisor_22 : decode cX12_divisor 22 = .ok (.lstore 4, 2) := by decide +kernel
theorem dX12_divisor_24 : decode cX12_divisor 24 = .ok (.lload 8, 2) := by decide +kernel
theorem dX12_divisor_26 : decode cX12_divisor 26 = .ok (.lstore 6, 2) := by decide +kernel
theorem dX12_divisor_28 : decode cX12_divisor 28 = .ok (.goto (-22), 3) := by decide +kernel
theorem dX12_divisor_31 : decode cX12_divisor 31 = .ok (.lload 4, 2) := by decide +kernel
theorem dX12_divisor_33 : decode cX12_divisor 33 = .ok (.lreturn, 1) := by decide +kernel
set_option maxRecDepth 100000 in
set_option maxHeartbeats 4000000 in
theorem c_X12_divisor {l : Launch} {G : Gx} (hap : k_ap G shR.length) (v0 : Int64) (v2 : Int64) (M0 : Mem) (r : Int64) (hf : f_X12_divisor v0 v2 = some r) : k_Met l yX12_divisor cX12_divisor 10 (some .long) 0 0 G shR [.long v0, .long v2] M0 (k_Ql G shR r M0) := by
  refine k_Met_of (by decide) hap (Nat.le_of_ble_eq_true rfl) ?_
  intro p e s m args below meth c C hr hlk
  have C : Cx p s m args c cX12_divisor RX12 10 G shR := C
  have k_b6 : ∀ (n6 : Nat) (v4 : Int64) (v6 : Int64), f_X12_divisor_b6 n6 v4 v6 = some r → K p l e (k_rm 0 0) s m args below meth c 10 G shR (MQ below (k_Ql G shR r M0) args s 0 0 (k_A G shR.length)) 6 [(4, .long v4), (6, .long v6)] [] M0 := by
    intro n6
    induction n6 with
    | zero => intro v4 v6 hf; simp [f_X12_divisor_b6] at hf
    | succ n6 ih6 =>
      intro v4 v6 hf
      unfold f_X12_divisor_b6 at hf
      refine k_lload C dX12_divisor_6 1 rfl ?_
      refine k_lconst C dX12_divisor_8 (v := (0 : Int64)) rfl ?_
      refine k_lcmp C dX12_divisor_9 ?_
      rcases ite_g hf with ⟨c2, hf⟩ | ⟨c2, hf⟩
      · refine k_if_eq_t C dX12_divisor_10 (tgt := 31) (by decide) c2 ?_
        refine k_lload C dX12_divisor_31 0 rfl ?_
        exact k_lret C hr hlk (Option.some.inj hf) rfl dX12_divisor_33
      · refine k_if_eq_f C dX12_divisor_10 (tgt := 31) (by decide) c2 ?_
        refine k_lload C dX12_divisor_13 0 rfl ?_
        refine k_lload C dX12_divisor_15 1 rfl ?_
        obtain ⟨t3, ht3, hf⟩ := bnd hf
        refine k_lremO C dX12_divisor_17 ht3 ?_
        refine k_lstore C dX12_divisor_18 (by decide) [2, 0] (lv' := [(6, .long v6), (8, .long t3)]) rfl ?_
        refine k_lload C dX12_divisor_20 0 rfl ?_
        refine k_lstore C dX12_divisor_22 (by decide) [0, 2] (lv' := [(4, .long v6), (8, .long t3)]) rfl ?_
        refine k_lload C dX12_divisor_24 1 rfl ?_
        refine k_lstore C dX12_divisor_26 (by decide) [1, 0] (lv' := [(4, .long v6), (6, .long t3)]) rfl ?_
        refine k_goto C dX12_divisor_28 (tgt := 6) (by decide) ?_
        exact ih6 v6 t3 hf
  unfold f_X12_divisor at hf
  refine k_lv (lv' := [(0, .long v0), (2, .long v2)]) [0, 1] rfl ?_
  refine k_lload_n C dX12_divisor_0 0 rfl ?_
  refine k_lstore C dX12_divisor_1 (by decide) [2, 0] (lv' := [(2, .long v2), (4, .long v0)]) rfl ?_
  refine k_lload_n C dX12_divisor_3 0 rfl ?_
  refine k_lstore C dX12_divisor_4 (by decide) [2, 0] (lv' := [(4, .long v0), (6, .long v2)]) rfl ?_
  exact k_b6 FU v0 v2 hf
theorem dX12_partOf_0 : decode cX12_partOf 0 = .ok (.iload 4, 2) := by decide +kernel
theorem dX12_partOf_2 : decode cX12_partOf 2 = .ok (.ifCond .ne 7, 3) := by decide +kernel
theorem dX12_partOf_5 : decode cX12_partOf 5 = .ok (.lload_n 0, 1) := by decide +kernel
theorem dX12_partOf_6 : decode cX12_partOf 6 = .ok (.goto 4, 3) := by decide +kernel
theorem dX12_partOf_9 : decode cX12_partOf 9 = .ok (.lload_n 2, 1) := by decide +kernel
theorem dX12_partOf_10 : decode cX12_partOf 10 = .ok (.lload_n 0, 1) := by decide +kernel
theorem dX12_partOf_11 : decode cX12_partOf 11 = .ok (.lload_n 2, 1) := by decide +kernel
theorem dX12_partOf_12 : decode cX12_partOf 12 = .ok (.invokestatic 244, 3) := by decide +kernel
theorem dX12_partOf_15 : decode cX12_partOf 15 = .ok (.ldiv, 1) := by decide +kernel
theorem dX12_partOf_16 : decode cX12_partOf 16 = .ok (.lreturn, 1) := by decide +kernel
set_option maxRecDepth 100000 in
set_option maxHeartbeats 4000000 in
theorem c_X12_partOf {l : Launch} {G : Gx} (hap : k_ap G shR.length) (v0 : Int64) (v2 : Int64) (v4 : Int32) (M0 : Mem) (r : Int64) (hf : f_X12_partOf v0 v2 v4 = some r) : k_Met l yX12_partOf cX12_partOf 5 (some .long) 1 29 G shR [.long v0, .long v2, .int v4] M0 (k_Ql G shR r M0) := by
  refine k_Met_of (by decide) hap (Nat.le_of_ble_eq_true rfl) ?_
  intro p e s m args below meth c C hr hlk
  have C : Cx p s m args c cX12_partOf RX12 5 G shR := C
  unfold f_X12_partOf at hf
  refine k_lv (lv' := [(0, .long v0), (2, .long v2), (4, .int v4)]) [0, 1, 2] rfl ?_
  refine k_iload C dX12_partOf_0 2 rfl ?_
  have hj3 : K p l e (k_rm 1 29) s m args below meth c 5 G shR (MQ below (k_Ql G shR r M0) args s 0 0 (k_A G shR.length)) 10 [(0, .long v0), (2, .long v2), (4, .int v4)] [.long (if v4 = 0 then v0 else v2)] M0 := by
    refine k_lload_n C dX12_partOf_10 0 rfl ?_
    refine k_lload_n C dX12_partOf_11 1 rfl ?_
    obtain ⟨t1, ht1, hf⟩ := bnd hf
    refine k_callSl C (As := [.long v0, .long v2]) (c_X12_divisor hap v0 v2 M0 t1 ht1) MS_X12_divisor wd_1665 rfl rfl ⟨Nat.le_of_ble_eq_true rfl, Nat.le_of_ble_eq_true rfl⟩ (Nat.le_of_ble_eq_true rfl) dX12_partOf_12 ?_
    obtain ⟨t2, ht2, hf⟩ := bnd hf
    refine k_ldivO C dX12_partOf_15 ht2 ?_
    exact k_lret C hr hlk (Option.some.inj hf) rfl dX12_partOf_16
  by_cases c4 : v4 = 0
  · refine k_if_ne_f C dX12_partOf_2 (tgt := 9) (by decide) c4 ?_
    refine k_lload_n C dX12_partOf_5 0 rfl ?_
    refine k_goto C dX12_partOf_6 (tgt := 10) (by decide) ?_
    exact k_val (by rw [if_pos c4]) hj3
  · refine k_if_ne_t C dX12_partOf_2 (tgt := 9) (by decide) c4 ?_
    refine k_lload_n C dX12_partOf_9 1 rfl ?_
    exact k_val (by rw [if_neg c4]) hj3
theorem dX12_chance_0 : decode cX12_chance 0 = .ok (.iload_n 1, 1) := by decide +kernel
theorem dX12_chance_1 : decode cX12_chance 1 = .ok (.iconst 0, 1) := by decide +kernel
theorem dX12_chance_2 : decode cX12_chance 2 = .ok (.iconst 5, 1) := by decide +kernel
theorem dX12_chance_3 : decode cX12_chance 3 = .ok (.invokestatic 68, 3) := by decide +kernel
theorem dX12_chance_6 : decode cX12_chance 6 = .ok (.istore_n 3, 1) := by decide +kernel
theorem dX12_chance_7 : decode cX12_chance 7 = .ok (.iload_n 3, 1) := by decide +kernel
theorem dX12_chance_8 : decode cX12_chance 8 = .ok (.ifCond .ne 15, 3) := by decide +kernel
theorem dX12_chance_11 : decode cX12_chance 11 = .ok (.iload_n 2, 1) := by decide +kernel
theorem dX12_chance_12 : decode cX12_chance 12 = .ok (.iconst 0, 1) := by decide +kernel
theorem dX12_chance_13 : decode cX12_chance 13 = .ok (.iconst 1, 1) := by decide +kernel
theorem dX12_chance_14 : decode cX12_chance 14 = .ok (.invokestatic 86, 3) := by decide +kernel
theorem dX12_chance_17 : decode cX12_chance 17 = .ok (.ifCond .ne 6, 3) := by decide +kernel
theorem dX12_chance_20 : decode cX12_chance 20 = .ok (.bipush (-2), 2) := by decide +kernel
theorem dX12_chance_22 : decode cX12_chance 22 = .ok (.istore_n 3, 1) := by decide +kernel
theorem dX12_chance_23 : decode cX12_chance 23 = .ok (.iload_n 3, 1) := by decide +kernel
theorem dX12_chance_24 : decode cX12_chance 24 = .ok (.ifCond .eq 9, 3) := by decide +kernel
theorem dX12_chance_27 : decode cX12_chance 27 = .ok (.aload_n 0, 1) := by decide +kernel
theorem dX12_chance_28 : decode cX12_chance 28 = .ok (.iload_n 3, 1) := by decide +kernel
theorem dX12_chance_29 : decode cX12_chance 29 = .ok (.invokevirtual 236, 3) := by decide +kernel
theorem dX12_chance_32 : decode cX12_chance 32 = .ok (.lreturn, 1) := by decide +kernel
theorem dX12_chance_33 : decode cX12_chance 33 = .ok (.aload_n 0, 1) := by decide +kernel
theorem dX12_chance_34 : decode cX12_chance 34 = .ok (.getfield 62, 3) := by decide +kernel
theorem dX12_chance_37 : decode cX12_chance 37 = .ok (.ifCond .ne 14, 3) := by decide +kernel
theorem dX12_chance_40 : decode cX12_chance 40 = .ok (.iload_n 1, 1) := by decide +kernel
theorem dX12_chance_41 : decode cX12_chance 41 = .ok (.ifCond .ne 7, 3) := by decide +kernel
theorem dX12_chance_44 : decode cX12_chance 44 = .ok (.lconst 1, 1) := by decide +kernel
theorem dX12_chance_45 : decode cX12_chance 45 = .ok (.goto 5, 3) := by decide +kernel
theorem dX12_chance_48 : decode cX12_chance 48 = .ok (.iload_n 2, 1) := by decide +kernel
theorem dX12_chance_49 : decode cX12_chance 49 = .ok (.i2l, 1) := by decide +kernel
theorem dX12_chance_50 : decode cX12_chance 50 = .ok (.lreturn, 1) := by decide +kernel
theorem dX12_chance_51 : decode cX12_chance 51 = .ok (.iconst 1, 1) := by decide +kernel
theorem dX12_chance_52 : decode cX12_chance 52 = .ok (.istore 4, 2) := by decide +kernel
theorem dX12_chance_54 : decode cX12_chance 54 = .ok (.iconst 0, 1) := by decide +kernel
theorem dX12_chance_55 : decode cX12_chance 55 = .ok (.istore 5, 2) := by decide +kernel
theorem dX12_chance_57 : decode cX12_chance 57 = .ok (.iload 5, 2) := by decide +kernel
theorem dX12_chance_59 : decode cX12_chance 59 = .ok (.iload_n 1, 1) := by decide +kernel
theorem dX12_chance_60 : decode cX12_chance 60 = .ok (.if_icmp .ge 18, 3) := by decide +kernel
theorem dX12_chance_63 : decode cX12_chance 63 = .ok (.iload 4, 2) := by decide +kernel
theorem dX12_chance_65 : decode cX12_chance 65 = .ok (.aload_n 0, 1) := by decide +kernel
theorem dX12_chance_66 : decode cX12_chance 66 = .ok (.getfield 62, 3) := by decide +kernel
theorem dX12_chance_69 : decode cX12_chance 69 = .ok (.imul, 1) := by decide +kernel
theorem dX12_chance_70 : decode cX12_chance 70 = .ok (.istore 4, 2) := by decide +kernel
theorem dX12_chance_72 : decode cX12_chance 72 = .ok (.iinc 5 1, 3) := by decide +kernel
theorem dX12_chance_75 : decode cX12_chance 75 = .ok (.goto (-18), 3) := by decide +kernel
theorem dX12_chance_78 : decode cX12_chance 78 = .ok (.aload_n 0, 1) := by decide +kernel
theorem dX12_chance_79 : decode cX12_chance 79 = .ok (.invokevirtual 199, 3) := by decide +kernel
theorem dX12_chance_82 : decode cX12_chance 82 = .ok (.aload_n 0, 1) := by decide +kernel
theorem dX12_chance_83 : decode cX12_chance 83 = .ok (.iload_n 1, 1) := by decide +kernel
theorem dX12_chance_84 : decode cX12_chance 84 = .ok (.putfield 108, 3) := by decide +kernel
theorem dX12_chance_87 : decode cX12_chance 87 = .ok (.lconst 0, 1) := by decide +kernel
theorem dX12_chance_88 : decode cX12_chance 88 = .ok (.lstore 5, 2) := by decide +kernel
theorem dX12_chance_90 : decode cX12_chance 90 = .ok (.iconst 0, 1) := by decide +kernel
theorem dX12_chance_91 : decode cX12_chance 91 = .ok (.istore 7, 2) := by decide +kernel
theorem dX12_chance_93 : decode cX12_chance 93 = .ok (.iload 7, 2) := by decide +kernel
theorem dX12_chance_95 : decode cX12_chance 95 = .ok (.iload 4, 2) := by decide +kernel
theorem dX12_chance_97 : decode cX12_chance 97 = .ok (.if_icmp .ge 68, 3) := by decide +kernel
theorem dX12_chance_100 : decode cX12_chance 100 = .ok (.iload 7, 2) := by decide +kernel
theorem dX12_chance_102 : decode cX12_chance 102 = .ok (.istore 8, 2) := by decide +kernel
theorem dX12_chance_104 : decode cX12_chance 104 = .ok (.iconst 0, 1) := by decide +kernel
theorem dX12_chance_105 : decode cX12_chance 105 = .ok (.istore 9, 2) := by decide +kernel
theorem dX12_chance_107 : decode cX12_chance 107 = .ok (.iload 9, 2) := by decide +kernel
theorem dX12_chance_109 : decode cX12_chance 109 = .ok (.iload_n 1, 1) := by decide +kernel
theorem dX12_chance_110 : decode cX12_chance 110 = .ok (.if_icmp .ge 32, 3) := by decide +kernel
theorem dX12_chance_113 : decode cX12_chance 113 = .ok (.aload_n 0, 1) := by decide +kernel
theorem dX12_chance_114 : decode cX12_chance 114 = .ok (.getfield 22, 3) := by decide +kernel
theorem dX12_chance_117 : decode cX12_chance 117 = .ok (.iload 9, 2) := by decide +kernel
theorem dX12_chance_119 : decode cX12_chance 119 = .ok (.iload 8, 2) := by decide +kernel
theorem dX12_chance_121 : decode cX12_chance 121 = .ok (.aload_n 0, 1) := by decide +kernel
theorem dX12_chance_122 : decode cX12_chance 122 = .ok (.getfield 62, 3) := by decide +kernel
theorem dX12_chance_125 : decode cX12_chance 125 = .ok (.irem, 1) := by decide +kernel
theorem dX12_chance_126 : decode cX12_chance 126 = .ok (.iastore, 1) := by decide +kernel
theorem dX12_chance_127 : decode cX12_chance 127 = .ok (.iload 8, 2) := by decide +kernel
theorem dX12_chance_129 : decode cX12_chance 129 = .ok (.aload_n 0, 1) := by decide +kernel
theorem dX12_chance_130 : decode cX12_chance 130 = .ok (.getfield 62, 3) := by decide +kernel
theorem dX12_chance_133 : decode cX12_chance 133 = .ok (.idiv, 1) := by decide +kernel
theorem dX12_chance_134 : decode cX12_chance 134 = .ok (.istore 8, 2) := by decide +kernel
theorem dX12_chance_136 : decode cX12_chance 136 = .ok (.iinc 9 1, 3) := by decide +kernel
theorem dX12_chance_139 : decode cX12_chance 139 = .ok (.goto (-32), 3) := by decide +kernel
theorem dX12_chance_142 : decode cX12_chance 142 = .ok (.lload 5, 2) := by decide +kernel
theorem dX12_chance_144 : decode cX12_chance 144 = .ok (.aload_n 0, 1) := by decide +kernel
theorem dX12_chance_145 : decode cX12_chance 145 = .ok (.invokevirtual 173, 3) := by decide +kernel
theorem dX12_chance_148 : decode cX12_chance 148 = .ok (.ifCond .ne 7, 3) := by decide +kernel
theorem dX12_chance_151 : decode cX12_chance 151 = .ok (.lconst 1, 1) := by decide +kernel
theorem dX12_chance_152 : decode cX12_chance 152 = .ok (.goto 4, 3) := by decide +kernel
theorem dX12_chance_155 : decode cX12_chance 155 = .ok (.lconst 0, 1) := by decide +kernel
theorem dX12_chance_156 : decode cX12_chance 156 = .ok (.ladd, 1) := by decide +kernel
theorem dX12_chance_157 : decode cX12_chance 157 = .ok (.lstore 5, 2) := by decide +kernel
theorem dX12_chance_159 : decode cX12_chance 159 = .ok (.iinc 7 1, 3) := by decide +kernel
theorem dX12_chance_162 : decode cX12_chance 162 = .ok (.goto (-69), 3) := by decide +kernel
theorem dX12_chance_165 : decode cX12_chance 165 = .ok (.aload_n 0, 1) := by decide +kernel
theorem dX12_chance_166 : decode cX12_chance 166 = .ok (.invokevirtual 205, 3) := by decide +kernel
theorem dX12_chance_169 : decode cX12_chance 169 = .ok (.lload 5, 2) := by decide +kernel
theorem dX12_chance_171 : decode cX12_chance 171 = .ok (.iload 4, 2) := by decide +kernel
theorem dX12_chance_173 : decode cX12_chance 173 = .ok (.i2l, 1) := by decide +kernel
theorem dX12_chance_174 : decode cX12_chance 174 = .ok (.iload_n 2, 1) := by decide +kernel
theorem dX12_chance_175 : decode cX12_chance 175 = .ok (.invokestatic 248, 3) := by decide +kernel
theorem dX12_chance_178 : decode cX12_chance 178 = .ok (.lreturn, 1) := by decide +kernel
set_option maxRecDepth 100000 in
set_option maxHeartbeats 4000000 in
theorem c_X12_chance {l : Launch} {G : Gx} (hap : k_ap G shR.length) (v1 : Int32) (v2 : Int32) (M0 : Mem) (r : Int64 × Mem) (hf : f_X12_chance v1 v2 M0 = some r) : k_Met l yX12_chance cX12_chance 10 (some .long) 5 111 G shR [.ref (G.2.1 0), .int v1, .int v2] M0 (k_Ql G shR r.1 r.2) := by
  refine k_Met_of (by decide) hap (Nat.le_of_ble_eq_true rfl) ?_
  intro p e s m args below meth c C hr hlk
  have C : Cx p s m args c cX12_chance RX12 10 G shR := C
  have k_b93 : ∀ (n93 : Nat) (v1 : Int32) (v2 : Int32) (v4 : Int32) (v5 : Int64) (v7 : Int32) (M : Mem), f_X12_chance_b93 n93 v1 v2 v4 v5 v7 M = some r → K p l e (k_rm 5 111) s m args below meth c 10 G shR (MQ below (k_Ql G shR r.1 r.2) args s 0 0 (k_A G shR.length)) 93 [(0, .ref (G.2.1 0)), (1, .int v1), (2, .int v2), (4, .int v4), (5, .long v5), (7, .int v7)] [] M := by
    intro n93
    induction n93 with
    | zero => intro v1 v2 v4 v5 v7 M hf; simp [f_X12_chance_b93] at hf
    | succ n93 ih93 =>
      have k_b107 : ∀ (n107 : Nat) (v1 : Int32) (v2 : Int32) (v4 : Int32) (v5 : Int64) (v7 : Int32) (v8 : Int32) (v9 : Int32) (M : Mem), f_X12_chance_b107 (f_X12_chance_b93 n93) n107 v1 v2 v4 v5 v7 v8 v9 M = some r → K p l e (k_rm 5 111) s m args below meth c 10 G shR (MQ below (k_Ql G shR r.1 r.2) args s 0 0 (k_A G shR.length)) 107 [(0, .ref (G.2.1 0)), (1, .int v1), (2, .int v2), (4, .int v4), (5, .long v5), (7, .int v7), (8, .int v8), (9, .int v9)] [] M := by
        intro n107
        induction n107 with
        | zero => intro v1 v2 v4 v5 v7 v8 v9 M hf; simp [f_X12_chance_b107] at hf
        | succ n107 ih107 =>
          intro v1 v2 v4 v5 v7 v8 v9 M hf
          unfold f_X12_chance_b107 at hf
          refine k_iload C dX12_chance_107 7 rfl ?_
          refine k_iload_n C dX12_chance_109 1 rfl ?_
          rcases ite_g hf with ⟨c10, hf⟩ | ⟨c10, hf⟩
          · refine k_icmp_ge_t C dX12_chance_110 (tgt := 142) (by decide) c10 ?_
            refine k_lload C dX12_chance_142 4 rfl ?_
            refine k_aload_n C dX12_chance_144 0 rfl ?_
            obtain ⟨t11, ht11, hf⟩ := bnd hf
            refine k_callVi C (As := []) (c_X12_all hap M t11 ht11) ML_X12_all wd_1502 shR_0 rfl rfl rfl ⟨Nat.le_of_ble_eq_true rfl, Nat.le_of_ble_eq_true rfl⟩ (Nat.le_of_ble_eq_true rfl) dX12_chance_145 ?_
            have hj12 : K p l e (k_rm 5 111) s m args below meth c 10 G shR (MQ below (k_Ql G shR r.1 r.2) args s 0 0 (k_A G shR.length)) 156 [(0, .ref (G.2.1 0)), (1, .int v1), (2, .int v2), (4, .int v4), (5, .long v5), (7, .int v7), (8, .int v8), (9, .int v9)] [.long (if t11 = 0 then (1 : Int64) else (0 : Int64)), .long v5] M := by
              refine k_ladd C dX12_chance_156 ?_
              refine k_lstore C dX12_chance_157 (by decide) [1, 2, 3, 4, 0, 5] (lv' := [(0, .ref (G.2.1 0)), (1, .int v1), (2, .int v2), (4, .int v4), (5, .long (v5 + (if t11 = 0 then (1 : Int64) else (0 : Int64)))), (7, .int v7)]) rfl ?_
              refine k_iinc C dX12_chance_159 5 rfl (v := (v7 + (1 : Int32))) rfl (by decide) [1, 2, 3, 4, 5, 0] (lv' := [(0, .ref (G.2.1 0)), (1, .int v1), (2, .int v2), (4, .int v4), (5, .long (v5 + (if t11 = 0 then (1 : Int64) else (0 : Int64)))), (7, .int (v7 + (1 : Int32)))]) rfl ?_
              refine k_goto C dX12_chance_162 (tgt := 93) (by decide) ?_
              exact ih93 v1 v2 v4 (v5 + (if t11 = 0 then (1 : Int64) else (0 : Int64))) (v7 + (1 : Int32)) M hf
            by_cases c13 : t11 = 0
            · refine k_if_ne_f C dX12_chance_148 (tgt := 155) (by decide) c13 ?_
              refine k_lconst C dX12_chance_151 (v := (1 : Int64)) rfl ?_
              refine k_goto C dX12_chance_152 (tgt := 156) (by decide) ?_
              exact k_val (by rw [if_pos c13]) hj12
            · refine k_if_ne_t C dX12_chance_148 (tgt := 155) (by decide) c13 ?_
              refine k_lconst C dX12_chance_155 (v := (0 : Int64)) rfl ?_
              exact k_val (by rw [if_neg c13]) hj12
          · refine k_icmp_ge_f C dX12_chance_110 (tgt := 142) (by decide) c10 ?_
            refine k_aload_n C dX12_chance_113 0 rfl ?_
            refine k_getr C shR_0 (j := 4) rfl FL_X12_22 dX12_chance_114 ?_
            refine k_iload C dX12_chance_117 7 rfl ?_
            refine k_iload C dX12_chance_119 6 rfl ?_
            refine k_aload_n C dX12_chance_121 0 rfl ?_
            refine k_geti C shR_0 (j := 5) rfl FL_X12_62 dX12_chance_122 ?_
            obtain ⟨t14, ht14, hf⟩ := bnd hf
            refine k_iremO C dX12_chance_125 ht14 ?_
            obtain ⟨M15, hM15, hf⟩ := bnd hf
            refine k_iast C shR_5 hM15 dX12_chance_126 ?_
            refine k_iload C dX12_chance_127 6 rfl ?_
            refine k_aload_n C dX12_chance_129 0 rfl ?_
            refine k_geti C shR_0 (j := 5) rfl FL_X12_62 dX12_chance_130 ?_
            obtain ⟨t16, ht16, hf⟩ := bnd hf
            refine k_idivO C dX12_chance_133 ht16 ?_
            refine k_istore C dX12_chance_134 (by decide) [1, 2, 3, 4, 5, 6, 0, 7] (lv' := [(0, .ref (G.2.1 0)), (1, .int v1), (2, .int v2), (4, .int v4), (5, .long v5), (7, .int v7), (8, .int t16), (9, .int v9)]) rfl ?_
            refine k_iinc C dX12_chance_136 7 rfl (v := (v9 + (1 : Int32))) rfl (by decide) [1, 2, 3, 4, 5, 6, 7, 0] (lv' := [(0, .ref (G.2.1 0)), (1, .int v1), (2, .int v2), (4, .int v4), (5, .long v5), (7, .int v7), (8, .int t16), (9, .int (v9 + (1 : Int32)))]) rfl ?_
            refine k_goto C dX12_chance_139 (tgt := 107) (by decide) ?_
            exact ih107 v1 v2 v4 v5 v7 t16 (v9 + (1 : Int32)) M15 hf
      intro v1 v2 v4 v5 v7 M hf
      unfold f_X12_chance_b93 at hf
      refine k_iload C dX12_chance_93 5 rfl ?_
      refine k_iload C dX12_chance_95 3 rfl ?_
      rcases ite_g hf with ⟨c6, hf⟩ | ⟨c6, hf⟩
      · refine k_icmp_ge_t C dX12_chance_97 (tgt := 165) (by decide) c6 ?_
        refine k_aload_n C dX12_chance_165 0 rfl ?_
        obtain ⟨M7, hM7, hf⟩ := bnd hf
        refine k_callVv C (As := []) (c_X12_forgets hap M M7 hM7) ML_X12_forgets wd_1574 shR_0 rfl rfl rfl ⟨Nat.le_of_ble_eq_true rfl, Nat.le_of_ble_eq_true rfl⟩ (Nat.le_of_ble_eq_true rfl) dX12_chance_166 ?_
        refine k_lload C dX12_chance_169 4 rfl ?_
        refine k_iload C dX12_chance_171 3 rfl ?_
        refine k_i2l C dX12_chance_173 ?_
        refine k_iload_n C dX12_chance_174 2 rfl ?_
        obtain ⟨t8, ht8, hf⟩ := bnd hf
        refine k_callSl C (As := [.long v5, .long (v4).toInt64, .int v2]) (c_X12_partOf hap v5 (v4).toInt64 v2 M7 t8 ht8) MS_X12_partOf wd_1662 rfl rfl ⟨Nat.le_of_ble_eq_true rfl, Nat.le_of_ble_eq_true rfl⟩ (Nat.le_of_ble_eq_true rfl) dX12_chance_175 ?_
        exact k_lret C hr hlk (prf hf) (prs hf) dX12_chance_178
      · refine k_icmp_ge_f C dX12_chance_97 (tgt := 165) (by decide) c6 ?_
        refine k_iload C dX12_chance_100 5 rfl ?_
        refine k_istore C dX12_chance_102 (by decide) [1, 2, 3, 4, 5, 6, 0] (lv' := [(0, .ref (G.2.1 0)), (1, .int v1), (2, .int v2), (4, .int v4), (5, .long v5), (7, .int v7), (8, .int v7)]) rfl ?_
        refine k_iconst C dX12_chance_104 (v := (0 : Int32)) rfl ?_
        refine k_istore C dX12_chance_105 (by decide) [1, 2, 3, 4, 5, 6, 7, 0] (lv' := [(0, .ref (G.2.1 0)), (1, .int v1), (2, .int v2), (4, .int v4), (5, .long v5), (7, .int v7), (8, .int v7), (9, .int (0 : Int32))]) rfl ?_
        exact k_b107 FU v1 v2 v4 v5 v7 v7 (0 : Int32) M hf
  have k_b57 : ∀ (n57 : Nat) (v1 : Int32) (v2 : Int32) (v4 : Int32) (v5 : Int32) (M : Mem), f_X12_chance_b57 n57 v1 v2 v4 v5 M = some r → K p l e (k_rm 5 111) s m args below meth c 10 G shR (MQ below (k_Ql G shR r.1 r.2) args s 0 0 (k_A G shR.length)) 57 [(0, .ref (G.2.1 0)), (1, .int v1), (2, .int v2), (4, .int v4), (5, .int v5)] [] M := by
    intro n57
    induction n57 with
    | zero => intro v1 v2 v4 v5 M hf; simp [f_X12_chance_b57] at hf
    | succ n57 ih57 =>
      intro v1 v2 v4 v5 M hf
      unfold f_X12_chance_b57 at hf
      refine k_iload C dX12_chance_57 4 rfl ?_
      refine k_iload_n C dX12_chance_59 1 rfl ?_
      rcases ite_g hf with ⟨c4, hf⟩ | ⟨c4, hf⟩
      · refine k_icmp_ge_t C dX12_chance_60 (tgt := 78) (by decide) c4 ?_
        refine k_aload_n C dX12_chance_78 0 rfl ?_
        obtain ⟨M5, hM5, hf⟩ := bnd hf
        refine k_callVv C (As := []) (c_X12_thinks hap M M5 hM5) ML_X12_thinks wd_1566 shR_0 rfl rfl rfl ⟨Nat.le_of_ble_eq_true rfl, Nat.le_of_ble_eq_true rfl⟩ (Nat.le_of_ble_eq_true rfl) dX12_chance_79 ?_
        refine k_aload_n C dX12_chance_82 0 rfl ?_
        refine k_iload_n C dX12_chance_83 1 rfl ?_
        refine k_put C shR_0 (j := 6) rfl FL_X12_108 FW_X12_6 dX12_chance_84 ?_
        refine k_lconst C dX12_chance_87 (v := (0 : Int64)) rfl ?_
        refine k_lstore C dX12_chance_88 (by decide) [1, 2, 3, 4, 0] (lv' := [(0, .ref (G.2.1 0)), (1, .int v1), (2, .int v2), (4, .int v4), (5, .long (0 : Int64))]) rfl ?_
        refine k_iconst C dX12_chance_90 (v := (0 : Int32)) rfl ?_
        refine k_istore C dX12_chance_91 (by decide) [1, 2, 3, 4, 5, 0] (lv' := [(0, .ref (G.2.1 0)), (1, .int v1), (2, .int v2), (4, .int v4), (5, .long (0 : Int64)), (7, .int (0 : Int32))]) rfl ?_
        exact k_b93 FU v1 v2 v4 (0 : Int64) (0 : Int32) (wI M5 0 6 v1) hf
      · refine k_icmp_ge_f C dX12_chance_60 (tgt := 78) (by decide) c4 ?_
        refine k_iload C dX12_chance_63 3 rfl ?_
        refine k_aload_n C dX12_chance_65 0 rfl ?_
        refine k_geti C shR_0 (j := 5) rfl FL_X12_62 dX12_chance_66 ?_
        refine k_imul C dX12_chance_69 ?_
        refine k_istore C dX12_chance_70 (by decide) [1, 2, 3, 0, 4] (lv' := [(0, .ref (G.2.1 0)), (1, .int v1), (2, .int v2), (4, .int (v4 * (M.1 0 5))), (5, .int v5)]) rfl ?_
        refine k_iinc C dX12_chance_72 4 rfl (v := (v5 + (1 : Int32))) rfl (by decide) [1, 2, 3, 4, 0] (lv' := [(0, .ref (G.2.1 0)), (1, .int v1), (2, .int v2), (4, .int (v4 * (M.1 0 5))), (5, .int (v5 + (1 : Int32)))]) rfl ?_
        refine k_goto C dX12_chance_75 (tgt := 57) (by decide) ?_
        exact ih57 v1 v2 (v4 * (M.1 0 5)) (v5 + (1 : Int32)) M hf
  have k_b23 : ∀ (v1 : Int32) (v2 : Int32) (v3 : Int32) (M : Mem), f_X12_chance_b23 v1 v2 v3 M = some r → K p l e (k_rm 5 111) s m args below meth c 10 G shR (MQ below (k_Ql G shR r.1 r.2) args s 0 0 (k_A G shR.length)) 23 [(0, .ref (G.2.1 0)), (1, .int v1), (2, .int v2), (3, .int v3)] [] M := by
    intro v1 v2 v3 M hf
    unfold f_X12_chance_b23 at hf
    refine k_iload_n C dX12_chance_23 3 rfl ?_
    rcases ite_g hf with ⟨c2, hf⟩ | ⟨c2, hf⟩
    · refine k_if_eq_t C dX12_chance_24 (tgt := 33) (by decide) c2 ?_
      refine k_aload_n C dX12_chance_33 0 rfl ?_
      refine k_geti C shR_0 (j := 5) rfl FL_X12_62 dX12_chance_34 ?_
      rcases ite_g hf with ⟨c3, hf⟩ | ⟨c3, hf⟩
      · refine k_if_ne_f C dX12_chance_37 (tgt := 51) (by decide) c3 ?_
        refine k_iload_n C dX12_chance_40 1 rfl ?_
        rcases ite_g hf with ⟨c17, hf⟩ | ⟨c17, hf⟩
        · refine k_if_ne_f C dX12_chance_41 (tgt := 48) (by decide) c17 ?_
          refine k_lconst C dX12_chance_44 (v := (1 : Int64)) rfl ?_
          refine k_goto C dX12_chance_45 (tgt := 50) (by decide) ?_
          exact k_lret C hr hlk (prf hf) (prs hf) dX12_chance_50
        · refine k_if_ne_t C dX12_chance_41 (tgt := 48) (by decide) c17 ?_
          refine k_iload_n C dX12_chance_48 2 rfl ?_
          refine k_i2l C dX12_chance_49 ?_
          exact k_lret C hr hlk (prf hf) (prs hf) dX12_chance_50
      · refine k_if_ne_t C dX12_chance_37 (tgt := 51) (by decide) c3 ?_
        refine k_iconst C dX12_chance_51 (v := (1 : Int32)) rfl ?_
        refine k_istore C dX12_chance_52 (by decide) [1, 2, 3, 0] (lv' := [(0, .ref (G.2.1 0)), (1, .int v1), (2, .int v2), (4, .int (1 : Int32))]) rfl ?_
        refine k_iconst C dX12_chance_54 (v := (0 : Int32)) rfl ?_
        refine k_istore C dX12_chance_55 (by decide) [1, 2, 3, 4, 0] (lv' := [(0, .ref (G.2.1 0)), (1, .int v1), (2, .int v2), (4, .int (1 : Int32)), (5, .int (0 : Int32))]) rfl ?_
        exact k_b57 FU v1 v2 (1 : Int32) (0 : Int32) M hf
    · refine k_if_eq_f C dX12_chance_24 (tgt := 33) (by decide) c2 ?_
      refine k_aload_n C dX12_chance_27 0 rfl ?_
      refine k_iload_n C dX12_chance_28 3 rfl ?_
      obtain ⟨⟨t18, M18⟩, ht18, hf⟩ := bnd hf
      replace hf := bp_s hf
      refine k_callVl C (As := [.int v3]) (c_X12_lowest hap v3 M (t18, M18) ht18) ML_X12_lowest wd_1645 shR_0 rfl rfl rfl ⟨Nat.le_of_ble_eq_true rfl, Nat.le_of_ble_eq_true rfl⟩ (Nat.le_of_ble_eq_true rfl) dX12_chance_29 ?_
      exact k_lret C hr hlk (prf hf) (prs hf) dX12_chance_32
  unfold f_X12_chance at hf
  refine k_lv (lv' := [(0, .ref (G.2.1 0)), (1, .int v1), (2, .int v2)]) [0, 1, 2] rfl ?_
  refine k_iload_n C dX12_chance_0 1 rfl ?_
  refine k_iconst C dX12_chance_1 (v := (0 : Int32)) rfl ?_
  refine k_iconst C dX12_chance_2 (v := (5 : Int32)) rfl ?_
  refine k_callSi C (As := [.int v1, .int (0 : Int32), .int (5 : Int32)]) (c_X12_bound hap v1 (0 : Int32) (5 : Int32) M0 _ rfl) MS_X12_bound wd_1366 rfl rfl ⟨Nat.le_of_ble_eq_true rfl, Nat.le_of_ble_eq_true rfl⟩ (Nat.le_of_ble_eq_true rfl) dX12_chance_3 ?_
  refine k_istore_n C dX12_chance_6 (by decide) [1, 2, 3, 0] (lv' := [(0, .ref (G.2.1 0)), (1, .int v1), (2, .int v2), (3, .int (f_X12_bound v1 (0 : Int32) (5 : Int32)))]) rfl ?_
  refine k_iload_n C dX12_chance_7 3 rfl ?_
  rcases ite_g hf with ⟨c1, hf⟩ | ⟨c1, hf⟩
  · refine k_if_ne_f C dX12_chance_8 (tgt := 23) (by decide) c1 ?_
    refine k_iload_n C dX12_chance_11 2 rfl ?_
    refine k_iconst C dX12_chance_12 (v := (0 : Int32)) rfl ?_
    refine k_iconst C dX12_chance_13 (v := (1 : Int32)) rfl ?_
    refine k_callSi C (As := [.int v2, .int (0 : Int32), .int (1 : Int32)]) (c_X12_isIn hap v2 (0 : Int32) (1 : Int32) M0 _ rfl) MS_X12_isIn wd_1393 rfl rfl ⟨Nat.le_of_ble_eq_true rfl, Nat.le_of_ble_eq_true rfl⟩ (Nat.le_of_ble_eq_true rfl) dX12_chance_14 ?_
    rcases ite_g hf with ⟨c19, hf⟩ | ⟨c19, hf⟩
    · refine k_if_ne_f C dX12_chance_17 (tgt := 23) (by decide) c19 ?_
      refine k_bipush C dX12_chance_20 (v := (-2 : Int32)) rfl ?_
      refine k_istore_n C dX12_chance_22 (by decide) [1, 2, 3, 0] (lv' := [(0, .ref (G.2.1 0)), (1, .int v1), (2, .int v2), (3, .int (-2 : Int32))]) rfl ?_
      exact k_b23 v1 v2 (-2 : Int32) M0 hf
    · refine k_if_ne_t C dX12_chance_17 (tgt := 23) (by decide) c19 ?_
      exact k_b23 v1 v2 (f_X12_bound v1 (0 : Int32) (5 : Int32)) M0 hf
  · refine k_if_ne_t C dX12_chance_8 (tgt := 23) (by decide) c1 ?_
    exact k_b23 v1 v2 (f_X12_bound v1 (0 : Int32) (5 : Int32)) M0 hf
theorem dX12_mean_0 : decode cX12_mean 0 = .ok (.iload_n 1, 1) := by decide +kernel
theorem dX12_mean_1 : decode cX12_mean 1 = .ok (.iconst 0, 1) := by decide +kernel
theorem dX12_mean_2 : decode cX12_mean 2 = .ok (.iconst 1, 1) := by decide +kernel
theorem dX12_mean_3 : decode cX12_mean 3 = .ok (.invokestatic 86, 3) := by decide +kernel
theorem dX12_mean_6 : decode cX12_mean 6 = .ok (.ifCond .ne 10, 3) := by decide +kernel
theorem dX12_mean_9 : decode cX12_mean 9 = .ok (.aload_n 0, 1) := by decide +kernel
theorem dX12_mean_10 : decode cX12_mean 10 = .ok (.bipush (-2), 2) := by decide +kernel
theorem dX12_mean_12 : decode cX12_mean 12 = .ok (.invokevirtual 236, 3) := by decide +kernel
theorem dX12_mean_15 : decode cX12_mean 15 = .ok (.lreturn, 1) := by decide +kernel
theorem dX12_mean_16 : decode cX12_mean 16 = .ok (.aload_n 0, 1) := by decide +kernel
theorem dX12_mean_17 : decode cX12_mean 17 = .ok (.getfield 62, 3) := by decide +kernel
theorem dX12_mean_20 : decode cX12_mean 20 = .ok (.ifCond .ne 8, 3) := by decide +kernel
theorem dX12_mean_23 : decode cX12_mean 23 = .ok (.iload_n 1, 1) := by decide +kernel
theorem dX12_mean_24 : decode cX12_mean 24 = .ok (.i2l, 1) := by decide +kernel
theorem dX12_mean_25 : decode cX12_mean 25 = .ok (.goto 25, 3) := by decide +kernel
theorem dX12_mean_28 : decode cX12_mean 28 = .ok (.aload_n 0, 1) := by decide +kernel
theorem dX12_mean_29 : decode cX12_mean 29 = .ok (.iconst 1, 1) := by decide +kernel
theorem dX12_mean_30 : decode cX12_mean 30 = .ok (.aload_n 0, 1) := by decide +kernel
theorem dX12_mean_31 : decode cX12_mean 31 = .ok (.getfield 62, 3) := by decide +kernel
theorem dX12_mean_34 : decode cX12_mean 34 = .ok (.ishl, 1) := by decide +kernel
theorem dX12_mean_35 : decode cX12_mean 35 = .ok (.iconst 1, 1) := by decide +kernel
theorem dX12_mean_36 : decode cX12_mean 36 = .ok (.isub, 1) := by decide +kernel
theorem dX12_mean_37 : decode cX12_mean 37 = .ok (.invokevirtual 233, 3) := by decide +kernel
theorem dX12_mean_40 : decode cX12_mean 40 = .ok (.i2l, 1) := by decide +kernel
theorem dX12_mean_41 : decode cX12_mean 41 = .ok (.aload_n 0, 1) := by decide +kernel
theorem dX12_mean_42 : decode cX12_mean 42 = .ok (.getfield 62, 3) := by decide +kernel
theorem dX12_mean_45 : decode cX12_mean 45 = .ok (.i2l, 1) := by decide +kernel
theorem dX12_mean_46 : decode cX12_mean 46 = .ok (.iload_n 1, 1) := by decide +kernel
theorem dX12_mean_47 : decode cX12_mean 47 = .ok (.invokestatic 248, 3) := by decide +kernel
theorem dX12_mean_50 : decode cX12_mean 50 = .ok (.lreturn, 1) := by decide +kernel
set_option maxRecDepth 100000 in
set_option maxHeartbeats 4000000 in
theorem c_X12_mean {l : Launch} {G : Gx} (hap : k_ap G shR.length) (v1 : Int32) (M0 : Mem) (r : Int64 × Mem) (hf : f_X12_mean v1 M0 = some r) : k_Met l yX12_mean cX12_mean 2 (some .long) 5 112 G shR [.ref (G.2.1 0), .int v1] M0 (k_Ql G shR r.1 r.2) := by
  refine k_Met_of (by decide) hap (Nat.le_of_ble_eq_true rfl) ?_
  intro p e s m args below meth c C hr hlk
  have C : Cx p s m args c cX12_mean RX12 2 G shR := C
  unfold f_X12_mean at hf
  refine k_lv (lv' := [(0, .ref (G.2.1 0)), (1, .int v1)]) [0, 1] rfl ?_
  refine k_iload_n C dX12_mean_0 1 rfl ?_
  refine k_iconst C dX12_mean_1 (v := (0 : Int32)) rfl ?_
  refine k_iconst C dX12_mean_2 (v := (1 : Int32)) rfl ?_
  refine k_callSi C (As := [.int v1, .int (0 : Int32), .int (1 : Int32)]) (c_X12_isIn hap v1 (0 : Int32) (1 : Int32) M0 _ rfl) MS_X12_isIn wd_1393 rfl rfl ⟨Nat.le_of_ble_eq_true rfl, Nat.le_of_ble_eq_true rfl⟩ (Nat.le_of_ble_eq_true rfl) dX12_mean_3 ?_
  rcases ite_g hf with ⟨c1, hf⟩ | ⟨c1, hf⟩
  · refine k_if_ne_f C dX12_mean_6 (tgt := 16) (by decide) c1 ?_
    refine k_aload_n C dX12_mean_9 0 rfl ?_
    refine k_bipush C dX12_mean_10 (v := (-2 : Int32)) rfl ?_
    obtain ⟨⟨t5, M5⟩, ht5, hf⟩ := bnd hf
    replace hf := bp_s hf
    refine k_callVl C (As := [.int (-2 : Int32)]) (c_X12_lowest hap (-2 : Int32) M0 (t5, M5) ht5) ML_X12_lowest wd_1645 shR_0 rfl rfl rfl ⟨Nat.le_of_ble_eq_true rfl, Nat.le_of_ble_eq_true rfl⟩ (Nat.le_of_ble_eq_true rfl) dX12_mean_12 ?_
    exact k_lret C hr hlk (prf hf) (prs hf) dX12_mean_15
  · refine k_if_ne_t C dX12_mean_6 (tgt := 16) (by decide) c1 ?_
    refine k_aload_n C dX12_mean_16 0 rfl ?_
    refine k_geti C shR_0 (j := 5) rfl FL_X12_62 dX12_mean_17 ?_
    rcases ite_g hf with ⟨c2, hf⟩ | ⟨c2, hf⟩
    · refine k_if_ne_f C dX12_mean_20 (tgt := 28) (by decide) c2 ?_
      refine k_iload_n C dX12_mean_23 1 rfl ?_
      refine k_i2l C dX12_mean_24 ?_
      refine k_goto C dX12_mean_25 (tgt := 50) (by decide) ?_
      exact k_lret C hr hlk (prf hf) (prs hf) dX12_mean_50
    · refine k_if_ne_t C dX12_mean_20 (tgt := 28) (by decide) c2 ?_
      refine k_aload_n C dX12_mean_28 0 rfl ?_
      refine k_iconst C dX12_mean_29 (v := (1 : Int32)) rfl ?_
      refine k_aload_n C dX12_mean_30 0 rfl ?_
      refine k_geti C shR_0 (j := 5) rfl FL_X12_62 dX12_mean_31 ?_
      refine k_ishlJ C dX12_mean_34 ?_
      refine k_iconst C dX12_mean_35 (v := (1 : Int32)) rfl ?_
      refine k_isub C dX12_mean_36 ?_
      obtain ⟨t3, ht3, hf⟩ := bnd hf
      refine k_callVi C (As := [.int ((jshl (1 : Int32) (M0.1 0 5)) - (1 : Int32))]) (c_X12_nextsOf hap ((jshl (1 : Int32) (M0.1 0 5)) - (1 : Int32)) M0 t3 ht3) ML_X12_nextsOf wd_1637 shR_0 rfl rfl rfl ⟨Nat.le_of_ble_eq_true rfl, Nat.le_of_ble_eq_true rfl⟩ (Nat.le_of_ble_eq_true rfl) dX12_mean_37 ?_
      refine k_i2l C dX12_mean_40 ?_
      refine k_aload_n C dX12_mean_41 0 rfl ?_
      refine k_geti C shR_0 (j := 5) rfl FL_X12_62 dX12_mean_42 ?_
      refine k_i2l C dX12_mean_45 ?_
      refine k_iload_n C dX12_mean_46 1 rfl ?_
      obtain ⟨t4, ht4, hf⟩ := bnd hf
      refine k_callSl C (As := [.long (t3).toInt64, .long ((M0.1 0 5)).toInt64, .int v1]) (c_X12_partOf hap (t3).toInt64 ((M0.1 0 5)).toInt64 v1 M0 t4 ht4) MS_X12_partOf wd_1662 rfl rfl ⟨Nat.le_of_ble_eq_true rfl, Nat.le_of_ble_eq_true rfl⟩ (Nat.le_of_ble_eq_true rfl) dX12_mean_47 ?_
      exact k_lret C hr hlk (prf hf) (prs hf) dX12_mean_50
theorem dX12_twins_0 : decode cX12_twins 0 = .ok (.iload_n 1, 1) := by decide +kernel
theorem dX12_twins_1 : decode cX12_twins 1 = .ok (.iconst 0, 1) := by decide +kernel
theorem dX12_twins_2 : decode cX12_twins 2 = .ok (.iconst 1, 1) := by decide +kernel
theorem dX12_twins_3 : decode cX12_twins 3 = .ok (.invokestatic 86, 3) := by decide +kernel
theorem dX12_twins_6 : decode cX12_twins 6 = .ok (.ifCond .ne 10, 3) := by decide +kernel
theorem dX12_twins_9 : decode cX12_twins 9 = .ok (.aload_n 0, 1) := by decide +kernel
theorem dX12_twins_10 : decode cX12_twins 10 = .ok (.bipush (-2), 2) := by decide +kernel
theorem dX12_twins_12 : decode cX12_twins 12 = .ok (.invokevirtual 75, 3) := by decide +kernel
theorem dX12_twins_15 : decode cX12_twins 15 = .ok (.ireturn, 1) := by decide +kernel
theorem dX12_twins_16 : decode cX12_twins 16 = .ok (.bipush (-9), 2) := by decide +kernel
theorem dX12_twins_18 : decode cX12_twins 18 = .ok (.istore_n 2, 1) := by decide +kernel
theorem dX12_twins_19 : decode cX12_twins 19 = .ok (.bipush (-9), 2) := by decide +kernel
theorem dX12_twins_21 : decode cX12_twins 21 = .ok (.istore_n 3, 1) := by decide +kernel
theorem dX12_twins_22 : decode cX12_twins 22 = .ok (.iconst 0, 1) := by decide +kernel
theorem dX12_twins_23 : decode cX12_twins 23 = .ok (.istore 4, 2) := by decide +kernel
theorem dX12_twins_25 : decode cX12_twins 25 = .ok (.iload 4, 2) := by decide +kernel
theorem dX12_twins_27 : decode cX12_twins 27 = .ok (.aload_n 0, 1) := by decide +kernel
theorem dX12_twins_28 : decode cX12_twins 28 = .ok (.getfield 62, 3) := by decide +kernel
theorem dX12_twins_31 : decode cX12_twins 31 = .ok (.if_icmp .ge 83, 3) := by decide +kernel
theorem dX12_twins_34 : decode cX12_twins 34 = .ok (.iload 4, 2) := by decide +kernel
theorem dX12_twins_36 : decode cX12_twins 36 = .ok (.iconst 1, 1) := by decide +kernel
theorem dX12_twins_37 : decode cX12_twins 37 = .ok (.iadd, 1) := by decide +kernel
theorem dX12_twins_38 : decode cX12_twins 38 = .ok (.istore 5, 2) := by decide +kernel
theorem dX12_twins_40 : decode cX12_twins 40 = .ok (.iload 5, 2) := by decide +kernel
theorem dX12_twins_42 : decode cX12_twins 42 = .ok (.aload_n 0, 1) := by decide +kernel
theorem dX12_twins_43 : decode cX12_twins 43 = .ok (.getfield 62, 3) := by decide +kernel
theorem dX12_twins_46 : decode cX12_twins 46 = .ok (.if_icmp .ge 62, 3) := by decide +kernel
theorem dX12_twins_49 : decode cX12_twins 49 = .ok (.aload_n 0, 1) := by decide +kernel
theorem dX12_twins_50 : decode cX12_twins 50 = .ok (.getfield 19, 3) := by decide +kernel
theorem dX12_twins_53 : decode cX12_twins 53 = .ok (.iload 4, 2) := by decide +kernel
theorem dX12_twins_55 : decode cX12_twins 55 = .ok (.iaload, 1) := by decide +kernel
theorem dX12_twins_56 : decode cX12_twins 56 = .ok (.aload_n 0, 1) := by decide +kernel
theorem dX12_twins_57 : decode cX12_twins 57 = .ok (.getfield 19, 3) := by decide +kernel
theorem dX12_twins_60 : decode cX12_twins 60 = .ok (.iload 5, 2) := by decide +kernel
theorem dX12_twins_62 : decode cX12_twins 62 = .ok (.iaload, 1) := by decide +kernel
theorem dX12_twins_63 : decode cX12_twins 63 = .ok (.iand, 1) := by decide +kernel
theorem dX12_twins_64 : decode cX12_twins 64 = .ok (.invokestatic 151, 3) := by decide +kernel
theorem dX12_twins_67 : decode cX12_twins 67 = .ok (.iload_n 3, 1) := by decide +kernel
theorem dX12_twins_68 : decode cX12_twins 68 = .ok (.if_icmp .gt 6, 3) := by decide +kernel
theorem dX12_twins_71 : decode cX12_twins 71 = .ok (.goto 31, 3) := by decide +kernel
theorem dX12_twins_74 : decode cX12_twins 74 = .ok (.bipush 10, 2) := by decide +kernel
theorem dX12_twins_76 : decode cX12_twins 76 = .ok (.iload 4, 2) := by decide +kernel
theorem dX12_twins_78 : decode cX12_twins 78 = .ok (.imul, 1) := by decide +kernel
theorem dX12_twins_79 : decode cX12_twins 79 = .ok (.iload 5, 2) := by decide +kernel
theorem dX12_twins_81 : decode cX12_twins 81 = .ok (.iadd, 1) := by decide +kernel
theorem dX12_twins_82 : decode cX12_twins 82 = .ok (.istore_n 2, 1) := by decide +kernel
theorem dX12_twins_83 : decode cX12_twins 83 = .ok (.aload_n 0, 1) := by decide +kernel
theorem dX12_twins_84 : decode cX12_twins 84 = .ok (.getfield 19, 3) := by decide +kernel
theorem dX12_twins_87 : decode cX12_twins 87 = .ok (.iload 4, 2) := by decide +kernel
theorem dX12_twins_89 : decode cX12_twins 89 = .ok (.iaload, 1) := by decide +kernel
theorem dX12_twins_90 : decode cX12_twins 90 = .ok (.aload_n 0, 1) := by decide +kernel
theorem dX12_twins_91 : decode cX12_twins 91 = .ok (.getfield 19, 3) := by decide +kernel
theorem dX12_twins_94 : decode cX12_twins 94 = .ok (.iload 5, 2) := by decide +kernel
theorem dX12_twins_96 : decode cX12_twins 96 = .ok (.iaload, 1) := by decide +kernel
theorem dX12_twins_97 : decode cX12_twins 97 = .ok (.iand, 1) := by decide +kernel
theorem dX12_twins_98 : decode cX12_twins 98 = .ok (.invokestatic 151, 3) := by decide +kernel
theorem dX12_twins_101 : decode cX12_twins 101 = .ok (.istore_n 3, 1) := by decide +kernel
theorem dX12_twins_102 : decode cX12_twins 102 = .ok (.iinc 5 1, 3) := by decide +kernel
theorem dX12_twins_105 : decode cX12_twins 105 = .ok (.goto (-65), 3) := by decide +kernel
theorem dX12_twins_108 : decode cX12_twins 108 = .ok (.iinc 4 1, 3) := by decide +kernel
theorem dX12_twins_111 : decode cX12_twins 111 = .ok (.goto (-86), 3) := by decide +kernel
theorem dX12_twins_114 : decode cX12_twins 114 = .ok (.iload_n 1, 1) := by decide +kernel
theorem dX12_twins_115 : decode cX12_twins 115 = .ok (.ifCond .ne 7, 3) := by decide +kernel
theorem dX12_twins_118 : decode cX12_twins 118 = .ok (.iload_n 2, 1) := by decide +kernel
theorem dX12_twins_119 : decode cX12_twins 119 = .ok (.goto 4, 3) := by decide +kernel
theorem dX12_twins_122 : decode cX12_twins 122 = .ok (.iload_n 3, 1) := by decide +kernel
theorem dX12_twins_123 : decode cX12_twins 123 = .ok (.ireturn, 1) := by decide +kernel
set_option maxRecDepth 100000 in
set_option maxHeartbeats 4000000 in
theorem c_X12_twins {l : Launch} {G : Gx} (hap : k_ap G shR.length) (v1 : Int32) (M0 : Mem) (r : Int32 × Mem) (hf : f_X12_twins v1 M0 = some r) : k_Met l yX12_twins cX12_twins 6 (some .int) 1 22 G shR [.ref (G.2.1 0), .int v1] M0 (k_Qi G shR r.1 r.2) := by
  refine k_Met_of (by decide) hap (Nat.le_of_ble_eq_true rfl) ?_
  intro p e s m args below meth c C hr hlk
  have C : Cx p s m args c cX12_twins RX12 6 G shR := C
  have k_b25 : ∀ (n25 : Nat) (v1 : Int32) (v2 : Int32) (v3 : Int32) (v4 : Int32) (M : Mem), f_X12_twins_b25 n25 v1 v2 v3 v4 M = some r → K p l e (k_rm 1 22) s m args below meth c 6 G shR (MQ below (k_Qi G shR r.1 r.2) args s 0 0 (k_A G shR.length)) 25 [(0, .ref (G.2.1 0)), (1, .int v1), (2, .int v2), (3, .int v3), (4, .int v4)] [] M := by
    intro n25
    induction n25 with
    | zero => intro v1 v2 v3 v4 M hf; simp [f_X12_twins_b25] at hf
    | succ n25 ih25 =>
      have k_b40 : ∀ (n40 : Nat) (v1 : Int32) (v2 : Int32) (v3 : Int32) (v4 : Int32) (v5 : Int32) (M : Mem), f_X12_twins_b40 (f_X12_twins_b25 n25) n40 v1 v2 v3 v4 v5 M = some r → K p l e (k_rm 1 22) s m args below meth c 6 G shR (MQ below (k_Qi G shR r.1 r.2) args s 0 0 (k_A G shR.length)) 40 [(0, .ref (G.2.1 0)), (1, .int v1), (2, .int v2), (3, .int v3), (4, .int v4), (5, .int v5)] [] M := by
        intro n40
        induction n40 with
        | zero => intro v1 v2 v3 v4 v5 M hf; simp [f_X12_twins_b40] at hf
        | succ n40 ih40 =>
          intro v1 v2 v3 v4 v5 M hf
          unfold f_X12_twins_b40 at hf
          refine k_iload C dX12_twins_40 5 rfl ?_
          refine k_aload_n C dX12_twins_42 0 rfl ?_
          refine k_geti C shR_0 (j := 5) rfl FL_X12_62 dX12_twins_43 ?_
          rcases ite_g hf with ⟨c4, hf⟩ | ⟨c4, hf⟩
          · refine k_icmp_ge_t C dX12_twins_46 (tgt := 108) (by decide) c4 ?_
            refine k_iinc C dX12_twins_108 4 rfl (v := (v4 + (1 : Int32))) rfl (by decide) [1, 2, 3, 4, 0] (lv' := [(0, .ref (G.2.1 0)), (1, .int v1), (2, .int v2), (3, .int v3), (4, .int (v4 + (1 : Int32)))]) rfl ?_
            refine k_goto C dX12_twins_111 (tgt := 25) (by decide) ?_
            exact ih25 v1 v2 v3 (v4 + (1 : Int32)) M hf
          · refine k_icmp_ge_f C dX12_twins_46 (tgt := 108) (by decide) c4 ?_
            refine k_aload_n C dX12_twins_49 0 rfl ?_
            refine k_getr C shR_0 (j := 3) rfl FL_X12_19 dX12_twins_50 ?_
            refine k_iload C dX12_twins_53 4 rfl ?_
            obtain ⟨t5, ht5, hf⟩ := bnd hf
            refine k_iald C shR_4 ht5 dX12_twins_55 ?_
            refine k_aload_n C dX12_twins_56 0 rfl ?_
            refine k_getr C shR_0 (j := 3) rfl FL_X12_19 dX12_twins_57 ?_
            refine k_iload C dX12_twins_60 5 rfl ?_
            obtain ⟨t6, ht6, hf⟩ := bnd hf
            refine k_iald C shR_4 ht6 dX12_twins_62 ?_
            refine k_iand C dX12_twins_63 ?_
            obtain ⟨t7, ht7, hf⟩ := bnd hf
            refine k_callSi C (As := [.int (t5 &&& t6)]) (c_X12_bits hap (t5 &&& t6) M t7 ht7) MS_X12_bits wd_1463 rfl rfl ⟨Nat.le_of_ble_eq_true rfl, Nat.le_of_ble_eq_true rfl⟩ (Nat.le_of_ble_eq_true rfl) dX12_twins_64 ?_
            refine k_iload_n C dX12_twins_67 3 rfl ?_
            rcases ite_g hf with ⟨c8, hf⟩ | ⟨c8, hf⟩
            · refine k_icmp_gt_t C dX12_twins_68 (tgt := 74) (by decide) c8 ?_
              refine k_bipush C dX12_twins_74 (v := (10 : Int32)) rfl ?_
              refine k_iload C dX12_twins_76 4 rfl ?_
              refine k_imul C dX12_twins_78 ?_
              refine k_iload C dX12_twins_79 5 rfl ?_
              refine k_iadd C dX12_twins_81 ?_
              refine k_istore_n C dX12_twins_82 (by decide) [1, 2, 0, 4, 5] (lv' := [(0, .ref (G.2.1 0)), (1, .int v1), (2, .int (((10 : Int32) * v4) + v5)), (4, .int v4), (5, .int v5)]) rfl ?_
              refine k_aload_n C dX12_twins_83 0 rfl ?_
              refine k_getr C shR_0 (j := 3) rfl FL_X12_19 dX12_twins_84 ?_
              refine k_iload C dX12_twins_87 3 rfl ?_
              obtain ⟨t9, ht9, hf⟩ := bnd hf
              refine k_iald C shR_4 ht9 dX12_twins_89 ?_
              refine k_aload_n C dX12_twins_90 0 rfl ?_
              refine k_getr C shR_0 (j := 3) rfl FL_X12_19 dX12_twins_91 ?_
              refine k_iload C dX12_twins_94 4 rfl ?_
              obtain ⟨t10, ht10, hf⟩ := bnd hf
              refine k_iald C shR_4 ht10 dX12_twins_96 ?_
              refine k_iand C dX12_twins_97 ?_
              obtain ⟨t11, ht11, hf⟩ := bnd hf
              refine k_callSi C (As := [.int (t9 &&& t10)]) (c_X12_bits hap (t9 &&& t10) M t11 ht11) MS_X12_bits wd_1463 rfl rfl ⟨Nat.le_of_ble_eq_true rfl, Nat.le_of_ble_eq_true rfl⟩ (Nat.le_of_ble_eq_true rfl) dX12_twins_98 ?_
              refine k_istore_n C dX12_twins_101 (by decide) [1, 2, 3, 0, 4, 5] (lv' := [(0, .ref (G.2.1 0)), (1, .int v1), (2, .int (((10 : Int32) * v4) + v5)), (3, .int t11), (4, .int v4), (5, .int v5)]) rfl ?_
              refine k_iinc C dX12_twins_102 5 rfl (v := (v5 + (1 : Int32))) rfl (by decide) [1, 2, 3, 4, 5, 0] (lv' := [(0, .ref (G.2.1 0)), (1, .int v1), (2, .int (((10 : Int32) * v4) + v5)), (3, .int t11), (4, .int v4), (5, .int (v5 + (1 : Int32)))]) rfl ?_
              refine k_goto C dX12_twins_105 (tgt := 40) (by decide) ?_
              exact ih40 v1 (((10 : Int32) * v4) + v5) t11 v4 (v5 + (1 : Int32)) M hf
            · refine k_icmp_gt_f C dX12_twins_68 (tgt := 74) (by decide) c8 ?_
              refine k_goto C dX12_twins_71 (tgt := 102) (by decide) ?_
              refine k_iinc C dX12_twins_102 5 rfl (v := (v5 + (1 : Int32))) rfl (by decide) [1, 2, 3, 4, 5, 0] (lv' := [(0, .ref (G.2.1 0)), (1, .int v1), (2, .int v2), (3, .int v3), (4, .int v4), (5, .int (v5 + (1 : Int32)))]) rfl ?_
              refine k_goto C dX12_twins_105 (tgt := 40) (by decide) ?_
              exact ih40 v1 v2 v3 v4 (v5 + (1 : Int32)) M hf
      intro v1 v2 v3 v4 M hf
      unfold f_X12_twins_b25 at hf
      refine k_iload C dX12_twins_25 4 rfl ?_
      refine k_aload_n C dX12_twins_27 0 rfl ?_
      refine k_geti C shR_0 (j := 5) rfl FL_X12_62 dX12_twins_28 ?_
      rcases ite_g hf with ⟨c2, hf⟩ | ⟨c2, hf⟩
      · refine k_icmp_ge_t C dX12_twins_31 (tgt := 114) (by decide) c2 ?_
        refine k_iload_n C dX12_twins_114 1 rfl ?_
        rcases ite_g hf with ⟨c3, hf⟩ | ⟨c3, hf⟩
        · refine k_if_ne_f C dX12_twins_115 (tgt := 122) (by decide) c3 ?_
          refine k_iload_n C dX12_twins_118 2 rfl ?_
          refine k_goto C dX12_twins_119 (tgt := 123) (by decide) ?_
          exact k_iret C hr hlk (prf hf) (prs hf) dX12_twins_123
        · refine k_if_ne_t C dX12_twins_115 (tgt := 122) (by decide) c3 ?_
          refine k_iload_n C dX12_twins_122 3 rfl ?_
          exact k_iret C hr hlk (prf hf) (prs hf) dX12_twins_123
      · refine k_icmp_ge_f C dX12_twins_31 (tgt := 114) (by decide) c2 ?_
        refine k_iload C dX12_twins_34 4 rfl ?_
        refine k_iconst C dX12_twins_36 (v := (1 : Int32)) rfl ?_
        refine k_iadd C dX12_twins_37 ?_
        refine k_istore C dX12_twins_38 (by decide) [1, 2, 3, 4, 5, 0] (lv' := [(0, .ref (G.2.1 0)), (1, .int v1), (2, .int v2), (3, .int v3), (4, .int v4), (5, .int (v4 + (1 : Int32)))]) rfl ?_
        exact k_b40 FU v1 v2 v3 v4 (v4 + (1 : Int32)) M hf
  unfold f_X12_twins at hf
  refine k_lv (lv' := [(0, .ref (G.2.1 0)), (1, .int v1)]) [0, 1] rfl ?_
  refine k_iload_n C dX12_twins_0 1 rfl ?_
  refine k_iconst C dX12_twins_1 (v := (0 : Int32)) rfl ?_
  refine k_iconst C dX12_twins_2 (v := (1 : Int32)) rfl ?_
  refine k_callSi C (As := [.int v1, .int (0 : Int32), .int (1 : Int32)]) (c_X12_isIn hap v1 (0 : Int32) (1 : Int32) M0 _ rfl) MS_X12_isIn wd_1393 rfl rfl ⟨Nat.le_of_ble_eq_true rfl, Nat.le_of_ble_eq_true rfl⟩ (Nat.le_of_ble_eq_true rfl) dX12_twins_3 ?_
  rcases ite_g hf with ⟨c1, hf⟩ | ⟨c1, hf⟩
  · refine k_if_ne_f C dX12_twins_6 (tgt := 16) (by decide) c1 ?_
    refine k_aload_n C dX12_twins_9 0 rfl ?_
    refine k_bipush C dX12_twins_10 (v := (-2 : Int32)) rfl ?_
    obtain ⟨⟨t12, M12⟩, ht12, hf⟩ := bnd hf
    replace hf := bp_s hf
    refine k_callVi C (As := [.int (-2 : Int32)]) (c_X12_no hap (-2 : Int32) M0 (t12, M12) ht12) ML_X12_no wd_1369 shR_0 rfl rfl rfl ⟨Nat.le_of_ble_eq_true rfl, Nat.le_of_ble_eq_true rfl⟩ (Nat.le_of_ble_eq_true rfl) dX12_twins_12 ?_
    exact k_iret C hr hlk (prf hf) (prs hf) dX12_twins_15
  · refine k_if_ne_t C dX12_twins_6 (tgt := 16) (by decide) c1 ?_
    refine k_bipush C dX12_twins_16 (v := (-9 : Int32)) rfl ?_
    refine k_istore_n C dX12_twins_18 (by decide) [1, 2, 0] (lv' := [(0, .ref (G.2.1 0)), (1, .int v1), (2, .int (-9 : Int32))]) rfl ?_
    refine k_bipush C dX12_twins_19 (v := (-9 : Int32)) rfl ?_
    refine k_istore_n C dX12_twins_21 (by decide) [1, 2, 3, 0] (lv' := [(0, .ref (G.2.1 0)), (1, .int v1), (2, .int (-9 : Int32)), (3, .int (-9 : Int32))]) rfl ?_
    refine k_iconst C dX12_twins_22 (v := (0 : Int32)) rfl ?_
    refine k_istore C dX12_twins_23 (by decide) [1, 2, 3, 4, 0] (lv' := [(0, .ref (G.2.1 0)), (1, .int v1), (2, .int (-9 : Int32)), (3, .int (-9 : Int32)), (4, .int (0 : Int32))]) rfl ?_
    exact k_b25 FU v1 (-9 : Int32) (-9 : Int32) (0 : Int32) M0 hf
theorem dX12_sameAs_0 : decode cX12_sameAs 0 = .ok (.iload_n 1, 1) := by decide +kernel
theorem dX12_sameAs_1 : decode cX12_sameAs 1 = .ok (.istore_n 2, 1) := by decide +kernel
theorem dX12_sameAs_2 : decode cX12_sameAs 2 = .ok (.iconst 0, 1) := by decide +kernel
theorem dX12_sameAs_3 : decode cX12_sameAs 3 = .ok (.istore_n 3, 1) := by decide +kernel
theorem dX12_sameAs_4 : decode cX12_sameAs 4 = .ok (.iload_n 3, 1) := by decide +kernel
theorem dX12_sameAs_5 : decode cX12_sameAs 5 = .ok (.bipush 64, 2) := by decide +kernel
theorem dX12_sameAs_7 : decode cX12_sameAs 7 = .ok (.if_icmp .ge 59, 3) := by decide +kernel
theorem dX12_sameAs_10 : decode cX12_sameAs 10 = .ok (.iload_n 2, 1) := by decide +kernel
theorem dX12_sameAs_11 : decode cX12_sameAs 11 = .ok (.iload_n 1, 1) := by decide +kernel
theorem dX12_sameAs_12 : decode cX12_sameAs 12 = .ok (.iload_n 3, 1) := by decide +kernel
theorem dX12_sameAs_13 : decode cX12_sameAs 13 = .ok (.bipush 8, 2) := by decide +kernel
theorem dX12_sameAs_15 : decode cX12_sameAs 15 = .ok (.idiv, 1) := by decide +kernel
theorem dX12_sameAs_16 : decode cX12_sameAs 16 = .ok (.invokestatic 179, 3) := by decide +kernel
theorem dX12_sameAs_19 : decode cX12_sameAs 19 = .ok (.ifCond .eq 38, 3) := by decide +kernel
theorem dX12_sameAs_22 : decode cX12_sameAs 22 = .ok (.aload_n 0, 1) := by decide +kernel
theorem dX12_sameAs_23 : decode cX12_sameAs 23 = .ok (.iload_n 3, 1) := by decide +kernel
theorem dX12_sameAs_24 : decode cX12_sameAs 24 = .ok (.bipush 8, 2) := by decide +kernel
theorem dX12_sameAs_26 : decode cX12_sameAs 26 = .ok (.irem, 1) := by decide +kernel
theorem dX12_sameAs_27 : decode cX12_sameAs 27 = .ok (.invokevirtual 104, 3) := by decide +kernel
theorem dX12_sameAs_30 : decode cX12_sameAs 30 = .ok (.ifCond .eq 27, 3) := by decide +kernel
theorem dX12_sameAs_33 : decode cX12_sameAs 33 = .ok (.aload_n 0, 1) := by decide +kernel
theorem dX12_sameAs_34 : decode cX12_sameAs 34 = .ok (.iload_n 3, 1) := by decide +kernel
theorem dX12_sameAs_35 : decode cX12_sameAs 35 = .ok (.bipush 8, 2) := by decide +kernel
theorem dX12_sameAs_37 : decode cX12_sameAs 37 = .ok (.idiv, 1) := by decide +kernel
theorem dX12_sameAs_38 : decode cX12_sameAs 38 = .ok (.iload_n 3, 1) := by decide +kernel
theorem dX12_sameAs_39 : decode cX12_sameAs 39 = .ok (.bipush 8, 2) := by decide +kernel
theorem dX12_sameAs_41 : decode cX12_sameAs 41 = .ok (.irem, 1) := by decide +kernel
theorem dX12_sameAs_42 : decode cX12_sameAs 42 = .ok (.invokevirtual 154, 3) := by decide +kernel
theorem dX12_sameAs_45 : decode cX12_sameAs 45 = .ok (.ifCond .eq 12, 3) := by decide +kernel
theorem dX12_sameAs_48 : decode cX12_sameAs 48 = .ok (.iconst 1, 1) := by decide +kernel
theorem dX12_sameAs_49 : decode cX12_sameAs 49 = .ok (.iload_n 3, 1) := by decide +kernel
theorem dX12_sameAs_50 : decode cX12_sameAs 50 = .ok (.bipush 8, 2) := by decide +kernel
theorem dX12_sameAs_52 : decode cX12_sameAs 52 = .ok (.irem, 1) := by decide +kernel
theorem dX12_sameAs_53 : decode cX12_sameAs 53 = .ok (.ishl, 1) := by decide +kernel
theorem dX12_sameAs_54 : decode cX12_sameAs 54 = .ok (.goto 4, 3) := by decide +kernel
theorem dX12_sameAs_57 : decode cX12_sameAs 57 = .ok (.iconst 0, 1) := by decide +kernel
theorem dX12_sameAs_58 : decode cX12_sameAs 58 = .ok (.ior, 1) := by decide +kernel
theorem dX12_sameAs_59 : decode cX12_sameAs 59 = .ok (.istore_n 2, 1) := by decide +kernel
theorem dX12_sameAs_60 : decode cX12_sameAs 60 = .ok (.iinc 3 1, 3) := by decide +kernel
theorem dX12_sameAs_63 : decode cX12_sameAs 63 = .ok (.goto (-59), 3) := by decide +kernel
theorem dX12_sameAs_66 : decode cX12_sameAs 66 = .ok (.iload_n 2, 1) := by decide +kernel
theorem dX12_sameAs_67 : decode cX12_sameAs 67 = .ok (.ireturn, 1) := by decide +kernel
set_option maxRecDepth 100000 in
set_option maxHeartbeats 4000000 in
theorem c_X12_sameAs {l : Launch} {G : Gx} (hap : k_ap G shR.length) (v1 : Int32) (M0 : Mem) (r : Int32) (hf : f_X12_sameAs v1 M0 = some r) : k_Met l yX12_sameAs cX12_sameAs 4 (some .int) 2 44 G shR [.ref (G.2.1 0), .int v1] M0 (k_Qi G shR r M0) := by
  refine k_Met_of (by decide) hap (Nat.le_of_ble_eq_true rfl) ?_
  intro p e s m args below meth c C hr hlk
  have C : Cx p s m args c cX12_sameAs RX12 4 G shR := C
  have k_b4 : ∀ (n4 : Nat) (v1 : Int32) (v2 : Int32) (v3 : Int32), f_X12_sameAs_b4 M0 n4 v1 v2 v3 = some r → K p l e (k_rm 2 44) s m args below meth c 4 G shR (MQ below (k_Qi G shR r M0) args s 0 0 (k_A G shR.length)) 4 [(0, .ref (G.2.1 0)), (1, .int v1), (2, .int v2), (3, .int v3)] [] M0 := by
    intro n4
    induction n4 with
    | zero => intro v1 v2 v3 hf; simp [f_X12_sameAs_b4] at hf
    | succ n4 ih4 =>
      intro v1 v2 v3 hf
      unfold f_X12_sameAs_b4 at hf
      refine k_iload_n C dX12_sameAs_4 3 rfl ?_
      refine k_bipush C dX12_sameAs_5 (v := (64 : Int32)) rfl ?_
      rcases ite_g hf with ⟨c1, hf⟩ | ⟨c1, hf⟩
      · refine k_icmp_ge_t C dX12_sameAs_7 (tgt := 66) (by decide) c1 ?_
        refine k_iload_n C dX12_sameAs_66 2 rfl ?_
        exact k_iret C hr hlk (Option.some.inj hf) rfl dX12_sameAs_67
      · refine k_icmp_ge_f C dX12_sameAs_7 (tgt := 66) (by decide) c1 ?_
        refine k_iload_n C dX12_sameAs_10 2 rfl ?_
        refine k_iload_n C dX12_sameAs_11 1 rfl ?_
        refine k_iload_n C dX12_sameAs_12 3 rfl ?_
        refine k_bipush C dX12_sameAs_13 (v := (8 : Int32)) rfl ?_
        refine k_idiv C dX12_sameAs_15 (by decide) ?_
        refine k_callSi C (As := [.int v1, .int (v3 / (8 : Int32))]) (c_X12_has hap v1 (v3 / (8 : Int32)) M0 _ rfl) MS_X12_has wd_1531 rfl rfl ⟨Nat.le_of_ble_eq_true rfl, Nat.le_of_ble_eq_true rfl⟩ (Nat.le_of_ble_eq_true rfl) dX12_sameAs_16 ?_
        rcases ite_g hf with ⟨c3, hf⟩ | ⟨c3, hf⟩
        · refine k_if_eq_t C dX12_sameAs_19 (tgt := 57) (by decide) c3 ?_
          refine k_iconst C dX12_sameAs_57 (v := (0 : Int32)) rfl ?_
          refine k_ior C dX12_sameAs_58 ?_
          refine k_istore_n C dX12_sameAs_59 (by decide) [1, 2, 0, 3] (lv' := [(0, .ref (G.2.1 0)), (1, .int v1), (2, .int (v2 ||| (0 : Int32))), (3, .int v3)]) rfl ?_
          refine k_iinc C dX12_sameAs_60 3 rfl (v := (v3 + (1 : Int32))) rfl (by decide) [1, 2, 3, 0] (lv' := [(0, .ref (G.2.1 0)), (1, .int v1), (2, .int (v2 ||| (0 : Int32))), (3, .int (v3 + (1 : Int32)))]) rfl ?_
          refine k_goto C dX12_sameAs_63 (tgt := 4) (by decide) ?_
          exact ih4 v1 (v2 ||| (0 : Int32)) (v3 + (1 : Int32)) hf
        · refine k_if_eq_f C dX12_sameAs_19 (tgt := 57) (by decide) c3 ?_
          refine k_aload_n C dX12_sameAs_22 0 rfl ?_
          refine k_iload_n C dX12_sameAs_23 3 rfl ?_
          refine k_bipush C dX12_sameAs_24 (v := (8 : Int32)) rfl ?_
          refine k_iremJ C dX12_sameAs_26 (by decide) ?_
          refine k_callVi C (As := [.int (jrm v3 (8 : Int32))]) (c_X12_isDoing hap (jrm v3 (8 : Int32)) M0 _ rfl) ML_X12_isDoing wd_1416 shR_0 rfl rfl rfl ⟨Nat.le_of_ble_eq_true rfl, Nat.le_of_ble_eq_true rfl⟩ (Nat.le_of_ble_eq_true rfl) dX12_sameAs_27 ?_
          rcases ite_g hf with ⟨c5, hf⟩ | ⟨c5, hf⟩
          · refine k_if_eq_t C dX12_sameAs_30 (tgt := 57) (by decide) c5 ?_
            refine k_iconst C dX12_sameAs_57 (v := (0 : Int32)) rfl ?_
            refine k_ior C dX12_sameAs_58 ?_
            refine k_istore_n C dX12_sameAs_59 (by decide) [1, 2, 0, 3] (lv' := [(0, .ref (G.2.1 0)), (1, .int v1), (2, .int (v2 ||| (0 : Int32))), (3, .int v3)]) rfl ?_
            refine k_iinc C dX12_sameAs_60 3 rfl (v := (v3 + (1 : Int32))) rfl (by decide) [1, 2, 3, 0] (lv' := [(0, .ref (G.2.1 0)), (1, .int v1), (2, .int (v2 ||| (0 : Int32))), (3, .int (v3 + (1 : Int32)))]) rfl ?_
            refine k_goto C dX12_sameAs_63 (tgt := 4) (by decide) ?_
            exact ih4 v1 (v2 ||| (0 : Int32)) (v3 + (1 : Int32)) hf
          · refine k_if_eq_f C dX12_sameAs_30 (tgt := 57) (by decide) c5 ?_
            refine k_aload_n C dX12_sameAs_33 0 rfl ?_
            refine k_iload_n C dX12_sameAs_34 3 rfl ?_
            refine k_bipush C dX12_sameAs_35 (v := (8 : Int32)) rfl ?_
            refine k_idiv C dX12_sameAs_37 (by decide) ?_
            refine k_iload_n C dX12_sameAs_38 3 rfl ?_
            refine k_bipush C dX12_sameAs_39 (v := (8 : Int32)) rfl ?_
            refine k_iremJ C dX12_sameAs_41 (by decide) ?_
            obtain ⟨t6, ht6, hf⟩ := bnd hf
            refine k_callVi C (As := [.int (v3 / (8 : Int32)), .int (jrm v3 (8 : Int32))]) (c_X12_areSame hap (v3 / (8 : Int32)) (jrm v3 (8 : Int32)) M0 t6 ht6) ML_X12_areSame wd_1459 shR_0 rfl rfl rfl ⟨Nat.le_of_ble_eq_true rfl, Nat.le_of_ble_eq_true rfl⟩ (Nat.le_of_ble_eq_true rfl) dX12_sameAs_42 ?_
            have hj7 : K p l e (k_rm 2 44) s m args below meth c 4 G shR (MQ below (k_Qi G shR r M0) args s 0 0 (k_A G shR.length)) 58 [(0, .ref (G.2.1 0)), (1, .int v1), (2, .int v2), (3, .int v3)] [.int (if t6 = 0 then (0 : Int32) else (jshl (1 : Int32) (jrm v3 (8 : Int32)))), .int v2] M0 := by
              refine k_ior C dX12_sameAs_58 ?_
              refine k_istore_n C dX12_sameAs_59 (by decide) [1, 2, 0, 3] (lv' := [(0, .ref (G.2.1 0)), (1, .int v1), (2, .int (v2 ||| (if t6 = 0 then (0 : Int32) else (jshl (1 : Int32) (jrm v3 (8 : Int32)))))), (3, .int v3)]) rfl ?_
              refine k_iinc C dX12_sameAs_60 3 rfl (v := (v3 + (1 : Int32))) rfl (by decide) [1, 2, 3, 0] (lv' := [(0, .ref (G.2.1 0)), (1, .int v1), (2, .int (v2 ||| (if t6 = 0 then (0 : Int32) else (jshl (1 : Int32) (jrm v3 (8 : Int32)))))), (3, .int (v3 + (1 : Int32)))]) rfl ?_
              refine k_goto C dX12_sameAs_63 (tgt := 4) (by decide) ?_
              exact ih4 v1 (v2 ||| (if t6 = 0 then (0 : Int32) else (jshl (1 : Int32) (jrm v3 (8 : Int32))))) (v3 + (1 : Int32)) hf
            by_cases c8 : t6 = 0
            · refine k_if_eq_t C dX12_sameAs_45 (tgt := 57) (by decide) c8 ?_
              refine k_iconst C dX12_sameAs_57 (v := (0 : Int32)) rfl ?_
              exact k_val (by rw [if_pos c8]) hj7
            · refine k_if_eq_f C dX12_sameAs_45 (tgt := 57) (by decide) c8 ?_
              refine k_iconst C dX12_sameAs_48 (v := (1 : Int32)) rfl ?_
              refine k_iload_n C dX12_sameAs_49 3 rfl ?_
              refine k_bipush C dX12_sameAs_50 (v := (8 : Int32)) rfl ?_
              refine k_iremJ C dX12_sameAs_52 (by decide) ?_
              refine k_ishlJ C dX12_sameAs_53 ?_
              refine k_goto C dX12_sameAs_54 (tgt := 58) (by decide) ?_
              exact k_val (by rw [if_neg c8]) hj7
  unfold f_X12_sameAs at hf
  refine k_lv (lv' := [(0, .ref (G.2.1 0)), (1, .int v1)]) [0, 1] rfl ?_
  refine k_iload_n C dX12_sameAs_0 1 rfl ?_
  refine k_istore_n C dX12_sameAs_1 (by decide) [1, 2, 0] (lv' := [(0, .ref (G.2.1 0)), (1, .int v1), (2, .int v1)]) rfl ?_
  refine k_iconst C dX12_sameAs_2 (v := (0 : Int32)) rfl ?_
  refine k_istore_n C dX12_sameAs_3 (by decide) [1, 2, 3, 0] (lv' := [(0, .ref (G.2.1 0)), (1, .int v1), (2, .int v1), (3, .int (0 : Int32))]) rfl ?_
  exact k_b4 FU v1 v1 (0 : Int32) hf
theorem dX12_chain_0 : decode cX12_chain 0 = .ok (.aload_n 0, 1) := by decide +kernel
theorem dX12_chain_1 : decode cX12_chain 1 = .ok (.iload_n 1, 1) := by decide +kernel
theorem dX12_chain_2 : decode cX12_chain 2 = .ok (.invokevirtual 104, 3) := by decide +kernel
theorem dX12_chain_5 : decode cX12_chain 5 = .ok (.ifCond .eq 11, 3) := by decide +kernel
theorem dX12_chain_8 : decode cX12_chain 8 = .ok (.aload_n 0, 1) := by decide +kernel
theorem dX12_chain_9 : decode cX12_chain 9 = .ok (.iload_n 2, 1) := by decide +kernel
theorem dX12_chain_10 : decode cX12_chain 10 = .ok (.invokevirtual 104, 3) := by decide +kernel
theorem dX12_chain_13 : decode cX12_chain 13 = .ok (.ifCond .ne 9, 3) := by decide +kernel
theorem dX12_chain_16 : decode cX12_chain 16 = .ok (.aload_n 0, 1) := by decide +kernel
theorem dX12_chain_17 : decode cX12_chain 17 = .ok (.iconst (-1), 1) := by decide +kernel
theorem dX12_chain_18 : decode cX12_chain 18 = .ok (.invokevirtual 75, 3) := by decide +kernel
theorem dX12_chain_21 : decode cX12_chain 21 = .ok (.ireturn, 1) := by decide +kernel
theorem dX12_chain_22 : decode cX12_chain 22 = .ok (.iconst 1, 1) := by decide +kernel
theorem dX12_chain_23 : decode cX12_chain 23 = .ok (.iload_n 1, 1) := by decide +kernel
theorem dX12_chain_24 : decode cX12_chain 24 = .ok (.ishl, 1) := by decide +kernel
theorem dX12_chain_25 : decode cX12_chain 25 = .ok (.istore_n 3, 1) := by decide +kernel
theorem dX12_chain_26 : decode cX12_chain 26 = .ok (.iconst 1, 1) := by decide +kernel
theorem dX12_chain_27 : decode cX12_chain 27 = .ok (.istore 4, 2) := by decide +kernel
theorem dX12_chain_29 : decode cX12_chain 29 = .ok (.iload 4, 2) := by decide +kernel
theorem dX12_chain_31 : decode cX12_chain 31 = .ok (.bipush 8, 2) := by decide +kernel
theorem dX12_chain_33 : decode cX12_chain 33 = .ok (.if_icmp .gt 26, 3) := by decide +kernel
theorem dX12_chain_36 : decode cX12_chain 36 = .ok (.iload_n 3, 1) := by decide +kernel
theorem dX12_chain_37 : decode cX12_chain 37 = .ok (.iload_n 2, 1) := by decide +kernel
theorem dX12_chain_38 : decode cX12_chain 38 = .ok (.invokestatic 179, 3) := by decide +kernel
theorem dX12_chain_41 : decode cX12_chain 41 = .ok (.ifCond .eq 6, 3) := by decide +kernel
theorem dX12_chain_44 : decode cX12_chain 44 = .ok (.iload 4, 2) := by decide +kernel
theorem dX12_chain_46 : decode cX12_chain 46 = .ok (.ireturn, 1) := by decide +kernel
theorem dX12_chain_47 : decode cX12_chain 47 = .ok (.aload_n 0, 1) := by decide +kernel
theorem dX12_chain_48 : decode cX12_chain 48 = .ok (.iload_n 3, 1) := by decide +kernel
theorem dX12_chain_49 : decode cX12_chain 49 = .ok (.invokevirtual 252, 3) := by decide +kernel
theorem dX12_chain_52 : decode cX12_chain 52 = .ok (.istore_n 3, 1) := by decide +kernel
theorem dX12_chain_53 : decode cX12_chain 53 = .ok (.iinc 4 1, 3) := by decide +kernel
theorem dX12_chain_56 : decode cX12_chain 56 = .ok (.goto (-27), 3) := by decide +kernel
theorem dX12_chain_59 : decode cX12_chain 59 = .ok (.bipush (-9), 2) := by decide +kernel
theorem dX12_chain_61 : decode cX12_chain 61 = .ok (.ireturn, 1) := by decide +kernel
set_option maxRecDepth 100000 in
set_option maxHeartbeats 4000000 in
theorem c_X12_chain {l : Launch} {G : Gx} (hap : k_ap G shR.length) (v1 : Int32) (v2 : Int32) (M0 : Mem) (r : Int32 × Mem) (hf : f_X12_chain v1 v2 M0 = some r) : k_Met l yX12_chain cX12_chain 5 (some .int) 3 67 G shR [.ref (G.2.1 0), .int v1, .int v2] M0 (k_Qi G shR r.1 r.2) := by
  refine k_Met_of (by decide) hap (Nat.le_of_ble_eq_true rfl) ?_
  intro p e s m args below meth c C hr hlk
  have C : Cx p s m args c cX12_chain RX12 5 G shR := C
  have k_b29 : ∀ (n29 : Nat) (v2 : Int32) (v3 : Int32) (v4 : Int32) (M : Mem), f_X12_chain_b29 n29 v2 v3 v4 M = some r → K p l e (k_rm 3 67) s m args below meth c 5 G shR (MQ below (k_Qi G shR r.1 r.2) args s 0 0 (k_A G shR.length)) 29 [(0, .ref (G.2.1 0)), (2, .int v2), (3, .int v3), (4, .int v4)] [] M := by
    intro n29
    induction n29 with
    | zero => intro v2 v3 v4 M hf; simp [f_X12_chain_b29] at hf
    | succ n29 ih29 =>
      intro v2 v3 v4 M hf
      unfold f_X12_chain_b29 at hf
      refine k_iload C dX12_chain_29 3 rfl ?_
      refine k_bipush C dX12_chain_31 (v := (8 : Int32)) rfl ?_
      rcases ite_g hf with ⟨c4, hf⟩ | ⟨c4, hf⟩
      · refine k_icmp_gt_t C dX12_chain_33 (tgt := 59) (by decide) c4 ?_
        refine k_bipush C dX12_chain_59 (v := (-9 : Int32)) rfl ?_
        exact k_iret C hr hlk (prf hf) (prs hf) dX12_chain_61
      · refine k_icmp_gt_f C dX12_chain_33 (tgt := 59) (by decide) c4 ?_
        refine k_iload_n C dX12_chain_36 2 rfl ?_
        refine k_iload_n C dX12_chain_37 1 rfl ?_
        refine k_callSi C (As := [.int v3, .int v2]) (c_X12_has hap v3 v2 M _ rfl) MS_X12_has wd_1531 rfl rfl ⟨Nat.le_of_ble_eq_true rfl, Nat.le_of_ble_eq_true rfl⟩ (Nat.le_of_ble_eq_true rfl) dX12_chain_38 ?_
        rcases ite_g hf with ⟨c5, hf⟩ | ⟨c5, hf⟩
        · refine k_if_eq_t C dX12_chain_41 (tgt := 47) (by decide) c5 ?_
          refine k_aload_n C dX12_chain_47 0 rfl ?_
          refine k_iload_n C dX12_chain_48 2 rfl ?_
          obtain ⟨t6, ht6, hf⟩ := bnd hf
          refine k_callVi C (As := [.int v3]) (c_X12_sameAs hap v3 M t6 ht6) ML_X12_sameAs wd_1680 shR_0 rfl rfl rfl ⟨Nat.le_of_ble_eq_true rfl, Nat.le_of_ble_eq_true rfl⟩ (Nat.le_of_ble_eq_true rfl) dX12_chain_49 ?_
          refine k_istore_n C dX12_chain_52 (by decide) [1, 2, 0, 3] (lv' := [(0, .ref (G.2.1 0)), (2, .int v2), (3, .int t6), (4, .int v4)]) rfl ?_
          refine k_iinc C dX12_chain_53 3 rfl (v := (v4 + (1 : Int32))) rfl (by decide) [1, 2, 3, 0] (lv' := [(0, .ref (G.2.1 0)), (2, .int v2), (3, .int t6), (4, .int (v4 + (1 : Int32)))]) rfl ?_
          refine k_goto C dX12_chain_56 (tgt := 29) (by decide) ?_
          exact ih29 v2 t6 (v4 + (1 : Int32)) M hf
        · refine k_if_eq_f C dX12_chain_41 (tgt := 47) (by decide) c5 ?_
          refine k_iload C dX12_chain_44 3 rfl ?_
          exact k_iret C hr hlk (prf hf) (prs hf) dX12_chain_46
  unfold f_X12_chain at hf
  refine k_lv (lv' := [(0, .ref (G.2.1 0)), (1, .int v1), (2, .int v2)]) [0, 1, 2] rfl ?_
  refine k_aload_n C dX12_chain_0 0 rfl ?_
  refine k_iload_n C dX12_chain_1 1 rfl ?_
  refine k_callVi C (As := [.int v1]) (c_X12_isDoing hap v1 M0 _ rfl) ML_X12_isDoing wd_1416 shR_0 rfl rfl rfl ⟨Nat.le_of_ble_eq_true rfl, Nat.le_of_ble_eq_true rfl⟩ (Nat.le_of_ble_eq_true rfl) dX12_chain_2 ?_
  rcases ite_g hf with ⟨c1, hf⟩ | ⟨c1, hf⟩
  · refine k_if_eq_t C dX12_chain_5 (tgt := 16) (by decide) c1 ?_
    refine k_aload_n C dX12_chain_16 0 rfl ?_
    refine k_iconst C dX12_chain_17 (v := (-1 : Int32)) rfl ?_
    obtain ⟨⟨t2, M2⟩, ht2, hf⟩ := bnd hf
    replace hf := bp_s hf
    refine k_callVi C (As := [.int (-1 : Int32)]) (c_X12_no hap (-1 : Int32) M0 (t2, M2) ht2) ML_X12_no wd_1369 shR_0 rfl rfl rfl ⟨Nat.le_of_ble_eq_true rfl, Nat.le_of_ble_eq_true rfl⟩ (Nat.le_of_ble_eq_true rfl) dX12_chain_18 ?_
    exact k_iret C hr hlk (prf hf) (prs hf) dX12_chain_21
  · refine k_if_eq_f C dX12_chain_5 (tgt := 16) (by decide) c1 ?_
    refine k_aload_n C dX12_chain_8 0 rfl ?_
    refine k_iload_n C dX12_chain_9 2 rfl ?_
    refine k_callVi C (As := [.int v2]) (c_X12_isDoing hap v2 M0 _ rfl) ML_X12_isDoing wd_1416 shR_0 rfl rfl rfl ⟨Nat.le_of_ble_eq_true rfl, Nat.le_of_ble_eq_true rfl⟩ (Nat.le_of_ble_eq_true rfl) dX12_chain_10 ?_
    rcases ite_g hf with ⟨c3, hf⟩ | ⟨c3, hf⟩
    · refine k_if_ne_f C dX12_chain_13 (tgt := 22) (by decide) c3 ?_
      refine k_aload_n C dX12_chain_16 0 rfl ?_
      refine k_iconst C dX12_chain_17 (v := (-1 : Int32)) rfl ?_
      obtain ⟨⟨t7, M7⟩, ht7, hf⟩ := bnd hf
      replace hf := bp_s hf
      refine k_callVi C (As := [.int (-1 : Int32)]) (c_X12_no hap (-1 : Int32) M0 (t7, M7) ht7) ML_X12_no wd_1369 shR_0 rfl rfl rfl ⟨Nat.le_of_ble_eq_true rfl, Nat.le_of_ble_eq_true rfl⟩ (Nat.le_of_ble_eq_true rfl) dX12_chain_18 ?_
      exact k_iret C hr hlk (prf hf) (prs hf) dX12_chain_21
    · refine k_if_ne_t C dX12_chain_13 (tgt := 22) (by decide) c3 ?_
      refine k_iconst C dX12_chain_22 (v := (1 : Int32)) rfl ?_
      refine k_iload_n C dX12_chain_23 1 rfl ?_
      refine k_ishlJ C dX12_chain_24 ?_
      refine k_istore_n C dX12_chain_25 (by decide) [1, 3, 0] (lv' := [(0, .ref (G.2.1 0)), (2, .int v2), (3, .int (jshl (1 : Int32) v1))]) rfl ?_
      refine k_iconst C dX12_chain_26 (v := (1 : Int32)) rfl ?_
      refine k_istore C dX12_chain_27 (by decide) [1, 2, 3, 0] (lv' := [(0, .ref (G.2.1 0)), (2, .int v2), (3, .int (jshl (1 : Int32) v1)), (4, .int (1 : Int32))]) rfl ?_
      exact k_b29 FU v2 (jshl (1 : Int32) v1) (1 : Int32) M0 hf
theorem dX12_heapOf_0 : decode cX12_heapOf 0 = .ok (.iconst 1, 1) := by decide +kernel
theorem dX12_heapOf_1 : decode cX12_heapOf 1 = .ok (.iload_n 1, 1) := by decide +kernel
theorem dX12_heapOf_2 : decode cX12_heapOf 2 = .ok (.ishl, 1) := by decide +kernel
theorem dX12_heapOf_3 : decode cX12_heapOf 3 = .ok (.istore_n 2, 1) := by decide +kernel
theorem dX12_heapOf_4 : decode cX12_heapOf 4 = .ok (.iconst 0, 1) := by decide +kernel
theorem dX12_heapOf_5 : decode cX12_heapOf 5 = .ok (.istore_n 3, 1) := by decide +kernel
theorem dX12_heapOf_6 : decode cX12_heapOf 6 = .ok (.iload_n 3, 1) := by decide +kernel
theorem dX12_heapOf_7 : decode cX12_heapOf 7 = .ok (.bipush 8, 2) := by decide +kernel
theorem dX12_heapOf_9 : decode cX12_heapOf 9 = .ok (.if_icmp .ge 15, 3) := by decide +kernel
theorem dX12_heapOf_12 : decode cX12_heapOf 12 = .ok (.aload_n 0, 1) := by decide +kernel
theorem dX12_heapOf_13 : decode cX12_heapOf 13 = .ok (.iload_n 2, 1) := by decide +kernel
theorem dX12_heapOf_14 : decode cX12_heapOf 14 = .ok (.invokevirtual 252, 3) := by decide +kernel
theorem dX12_heapOf_17 : decode cX12_heapOf 17 = .ok (.istore_n 2, 1) := by decide +kernel
theorem dX12_heapOf_18 : decode cX12_heapOf 18 = .ok (.iinc 3 1, 3) := by decide +kernel
theorem dX12_heapOf_21 : decode cX12_heapOf 21 = .ok (.goto (-15), 3) := by decide +kernel
theorem dX12_heapOf_24 : decode cX12_heapOf 24 = .ok (.iload_n 2, 1) := by decide +kernel
theorem dX12_heapOf_25 : decode cX12_heapOf 25 = .ok (.ireturn, 1) := by decide +kernel
set_option maxRecDepth 100000 in
set_option maxHeartbeats 4000000 in
theorem c_X12_heapOf {l : Launch} {G : Gx} (hap : k_ap G shR.length) (v1 : Int32) (M0 : Mem) (r : Int32) (hf : f_X12_heapOf v1 M0 = some r) : k_Met l yX12_heapOf cX12_heapOf 4 (some .int) 3 67 G shR [.ref (G.2.1 0), .int v1] M0 (k_Qi G shR r M0) := by
  refine k_Met_of (by decide) hap (Nat.le_of_ble_eq_true rfl) ?_
  intro p e s m args below meth c C hr hlk
  have C : Cx p s m args c cX12_heapOf RX12 4 G shR := C
  have k_b6 : ∀ (n6 : Nat) (v2 : Int32) (v3 : Int32), f_X12_heapOf_b6 M0 n6 v2 v3 = some r → K p l e (k_rm 3 67) s m args below meth c 4 G shR (MQ below (k_Qi G shR r M0) args s 0 0 (k_A G shR.length)) 6 [(0, .ref (G.2.1 0)), (2, .int v2), (3, .int v3)] [] M0 := by
    intro n6
    induction n6 with
    | zero => intro v2 v3 hf; simp [f_X12_heapOf_b6] at hf
    | succ n6 ih6 =>
      intro v2 v3 hf
      unfold f_X12_heapOf_b6 at hf
      refine k_iload_n C dX12_heapOf_6 2 rfl ?_
      refine k_bipush C dX12_heapOf_7 (v := (8 : Int32)) rfl ?_
      rcases ite_g hf with ⟨c2, hf⟩ | ⟨c2, hf⟩
      · refine k_icmp_ge_t C dX12_heapOf_9 (tgt := 24) (by decide) c2 ?_
        refine k_iload_n C dX12_heapOf_24 1 rfl ?_
        exact k_iret C hr hlk (Option.some.inj hf) rfl dX12_heapOf_25
      · refine k_icmp_ge_f C dX12_heapOf_9 (tgt := 24) (by decide) c2 ?_
        refine k_aload_n C dX12_heapOf_12 0 rfl ?_
        refine k_iload_n C dX12_heapOf_13 1 rfl ?_
        obtain ⟨t3, ht3, hf⟩ := bnd hf
        refine k_callVi C (As := [.int v2]) (c_X12_sameAs hap v2 M0 t3 ht3) ML_X12_sameAs wd_1680 shR_0 rfl rfl rfl ⟨Nat.le_of_ble_eq_true rfl, Nat.le_of_ble_eq_true rfl⟩ (Nat.le_of_ble_eq_true rfl) dX12_heapOf_14 ?_
        refine k_istore_n C dX12_heapOf_17 (by decide) [1, 0, 2] (lv' := [(0, .ref (G.2.1 0)), (2, .int t3), (3, .int v3)]) rfl ?_
        refine k_iinc C dX12_heapOf_18 2 rfl (v := (v3 + (1 : Int32))) rfl (by decide) [1, 2, 0] (lv' := [(0, .ref (G.2.1 0)), (2, .int t3), (3, .int (v3 + (1 : Int32)))]) rfl ?_
        refine k_goto C dX12_heapOf_21 (tgt := 6) (by decide) ?_
        exact ih6 t3 (v3 + (1 : Int32)) hf
  unfold f_X12_heapOf at hf
  refine k_lv (lv' := [(0, .ref (G.2.1 0)), (1, .int v1)]) [0, 1] rfl ?_
  refine k_iconst C dX12_heapOf_0 (v := (1 : Int32)) rfl ?_
  refine k_iload_n C dX12_heapOf_1 1 rfl ?_
  refine k_ishlJ C dX12_heapOf_2 ?_
  refine k_istore_n C dX12_heapOf_3 (by decide) [1, 0] (lv' := [(0, .ref (G.2.1 0)), (2, .int (jshl (1 : Int32) v1))]) rfl ?_
  refine k_iconst C dX12_heapOf_4 (v := (0 : Int32)) rfl ?_
  refine k_istore_n C dX12_heapOf_5 (by decide) [1, 2, 0] (lv' := [(0, .ref (G.2.1 0)), (2, .int (jshl (1 : Int32) v1)), (3, .int (0 : Int32))]) rfl ?_
  exact k_b6 FU (jshl (1 : Int32) v1) (0 : Int32) hf
theorem dX12_heaps_0 : decode cX12_heaps 0 = .ok (.iload_n 1, 1) := by decide +kernel
theorem dX12_heaps_1 : decode cX12_heaps 1 = .ok (.iconst 0, 1) := by decide +kernel
theorem dX12_heaps_2 : decode cX12_heaps 2 = .ok (.iconst 1, 1) := by decide +kernel
theorem dX12_heaps_3 : decode cX12_heaps 3 = .ok (.invokestatic 86, 3) := by decide +kernel
theorem dX12_heaps_6 : decode cX12_heaps 6 = .ok (.ifCond .ne 10, 3) := by decide +kernel
theorem dX12_heaps_9 : decode cX12_heaps 9 = .ok (.aload_n 0, 1) := by decide +kernel
theorem dX12_heaps_10 : decode cX12_heaps 10 = .ok (.bipush (-2), 2) := by decide +kernel
theorem dX12_heaps_12 : decode cX12_heaps 12 = .ok (.invokevirtual 75, 3) := by decide +kernel
theorem dX12_heaps_15 : decode cX12_heaps 15 = .ok (.ireturn, 1) := by decide +kernel
theorem dX12_heaps_16 : decode cX12_heaps 16 = .ok (.iconst 0, 1) := by decide +kernel
theorem dX12_heaps_17 : decode cX12_heaps 17 = .ok (.istore_n 2, 1) := by decide +kernel
theorem dX12_heaps_18 : decode cX12_heaps 18 = .ok (.iconst 0, 1) := by decide +kernel
theorem dX12_heaps_19 : decode cX12_heaps 19 = .ok (.istore_n 3, 1) := by decide +kernel
theorem dX12_heaps_20 : decode cX12_heaps 20 = .ok (.iconst 0, 1) := by decide +kernel
theorem dX12_heaps_21 : decode cX12_heaps 21 = .ok (.istore 4, 2) := by decide +kernel
theorem dX12_heaps_23 : decode cX12_heaps 23 = .ok (.iload 4, 2) := by decide +kernel
theorem dX12_heaps_25 : decode cX12_heaps 25 = .ok (.aload_n 0, 1) := by decide +kernel
theorem dX12_heaps_26 : decode cX12_heaps 26 = .ok (.getfield 62, 3) := by decide +kernel
theorem dX12_heaps_29 : decode cX12_heaps 29 = .ok (.if_icmp .ge 56, 3) := by decide +kernel
theorem dX12_heaps_32 : decode cX12_heaps 32 = .ok (.aload_n 0, 1) := by decide +kernel
theorem dX12_heaps_33 : decode cX12_heaps 33 = .ok (.iload 4, 2) := by decide +kernel
theorem dX12_heaps_35 : decode cX12_heaps 35 = .ok (.invokevirtual 255, 3) := by decide +kernel
theorem dX12_heaps_38 : decode cX12_heaps 38 = .ok (.istore 5, 2) := by decide +kernel
theorem dX12_heaps_40 : decode cX12_heaps 40 = .ok (.iload_n 2, 1) := by decide +kernel
theorem dX12_heaps_41 : decode cX12_heaps 41 = .ok (.iload 5, 2) := by decide +kernel
theorem dX12_heaps_43 : decode cX12_heaps 43 = .ok (.iconst 1, 1) := by decide +kernel
theorem dX12_heaps_44 : decode cX12_heaps 44 = .ok (.iload 4, 2) := by decide +kernel
theorem dX12_heaps_46 : decode cX12_heaps 46 = .ok (.ishl, 1) := by decide +kernel
theorem dX12_heaps_47 : decode cX12_heaps 47 = .ok (.iconst 1, 1) := by decide +kernel
theorem dX12_heaps_48 : decode cX12_heaps 48 = .ok (.isub, 1) := by decide +kernel
theorem dX12_heaps_49 : decode cX12_heaps 49 = .ok (.iand, 1) := by decide +kernel
theorem dX12_heaps_50 : decode cX12_heaps 50 = .ok (.ifCond .ne 7, 3) := by decide +kernel
theorem dX12_heaps_53 : decode cX12_heaps 53 = .ok (.iconst 1, 1) := by decide +kernel
theorem dX12_heaps_54 : decode cX12_heaps 54 = .ok (.goto 4, 3) := by decide +kernel
theorem dX12_heaps_57 : decode cX12_heaps 57 = .ok (.iconst 0, 1) := by decide +kernel
theorem dX12_heaps_58 : decode cX12_heaps 58 = .ok (.iadd, 1) := by decide +kernel
theorem dX12_heaps_59 : decode cX12_heaps 59 = .ok (.istore_n 2, 1) := by decide +kernel
theorem dX12_heaps_60 : decode cX12_heaps 60 = .ok (.iload 5, 2) := by decide +kernel
theorem dX12_heaps_62 : decode cX12_heaps 62 = .ok (.invokestatic 151, 3) := by decide +kernel
theorem dX12_heaps_65 : decode cX12_heaps 65 = .ok (.iload_n 3, 1) := by decide +kernel
theorem dX12_heaps_66 : decode cX12_heaps 66 = .ok (.if_icmp .le 11, 3) := by decide +kernel
theorem dX12_heaps_69 : decode cX12_heaps 69 = .ok (.iload 5, 2) := by decide +kernel
theorem dX12_heaps_71 : decode cX12_heaps 71 = .ok (.invokestatic 151, 3) := by decide +kernel
theorem dX12_heaps_74 : decode cX12_heaps 74 = .ok (.goto 4, 3) := by decide +kernel
theorem dX12_heaps_77 : decode cX12_heaps 77 = .ok (.iload_n 3, 1) := by decide +kernel
theorem dX12_heaps_78 : decode cX12_heaps 78 = .ok (.istore_n 3, 1) := by decide +kernel
theorem dX12_heaps_79 : decode cX12_heaps 79 = .ok (.iinc 4 1, 3) := by decide +kernel
theorem dX12_heaps_82 : decode cX12_heaps 82 = .ok (.goto (-59), 3) := by decide +kernel
theorem dX12_heaps_85 : decode cX12_heaps 85 = .ok (.iload_n 1, 1) := by decide +kernel
theorem dX12_heaps_86 : decode cX12_heaps 86 = .ok (.ifCond .ne 7, 3) := by decide +kernel
theorem dX12_heaps_89 : decode cX12_heaps 89 = .ok (.iload_n 2, 1) := by decide +kernel
theorem dX12_heaps_90 : decode cX12_heaps 90 = .ok (.goto 4, 3) := by decide +kernel
theorem dX12_heaps_93 : decode cX12_heaps 93 = .ok (.iload_n 3, 1) := by decide +kernel
theorem dX12_heaps_94 : decode cX12_heaps 94 = .ok (.ireturn, 1) := by decide +kernel
set_option maxRecDepth 100000 in
set_option maxHeartbeats 4000000 in
theorem c_X12_heaps {l : Launch} {G : Gx} (hap : k_ap G shR.length) (v1 : Int32) (M0 : Mem) (r : Int32 × Mem) (hf : f_X12_heaps v1 M0 = some r) : k_Met l yX12_heaps cX12_heaps 6 (some .int) 4 90 G shR [.ref (G.2.1 0), .int v1] M0 (k_Qi G shR r.1 r.2) := by
  refine k_Met_of (by decide) hap (Nat.le_of_ble_eq_true rfl) ?_
  intro p e s m args below meth c C hr hlk
  have C : Cx p s m args c cX12_heaps RX12 6 G shR := C
  have k_b23 : ∀ (n23 : Nat) (v1 : Int32) (v2 : Int32) (v3 : Int32) (v4 : Int32) (M : Mem), f_X12_heaps_b23 n23 v1 v2 v3 v4 M = some r → K p l e (k_rm 4 90) s m args below meth c 6 G shR (MQ below (k_Qi G shR r.1 r.2) args s 0 0 (k_A G shR.length)) 23 [(0, .ref (G.2.1 0)), (1, .int v1), (2, .int v2), (3, .int v3), (4, .int v4)] [] M := by
    intro n23
    induction n23 with
    | zero => intro v1 v2 v3 v4 M hf; simp [f_X12_heaps_b23] at hf
    | succ n23 ih23 =>
      have k_b58 : ∀ (v1 : Int32) (v3 : Int32) (v4 : Int32) (v5 : Int32) (s0 : Int32) (s1 : Int32) (M : Mem), f_X12_heaps_b58 (f_X12_heaps_b23 n23) v1 v3 v4 v5 s0 s1 M = some r → K p l e (k_rm 4 90) s m args below meth c 6 G shR (MQ below (k_Qi G shR r.1 r.2) args s 0 0 (k_A G shR.length)) 58 [(0, .ref (G.2.1 0)), (1, .int v1), (3, .int v3), (4, .int v4), (5, .int v5)] [.int s0, .int s1] M := by
        intro v1 v3 v4 v5 s0 s1 M hf
        unfold f_X12_heaps_b58 at hf
        refine k_iadd C dX12_heaps_58 ?_
        refine k_istore_n C dX12_heaps_59 (by decide) [1, 2, 0, 3, 4, 5] (lv' := [(0, .ref (G.2.1 0)), (1, .int v1), (2, .int (s1 + s0)), (3, .int v3), (4, .int v4), (5, .int v5)]) rfl ?_
        refine k_iload C dX12_heaps_60 5 rfl ?_
        obtain ⟨t6, ht6, hf⟩ := bnd hf
        refine k_callSi C (As := [.int v5]) (c_X12_bits hap v5 M t6 ht6) MS_X12_bits wd_1463 rfl rfl ⟨Nat.le_of_ble_eq_true rfl, Nat.le_of_ble_eq_true rfl⟩ (Nat.le_of_ble_eq_true rfl) dX12_heaps_62 ?_
        refine k_iload_n C dX12_heaps_65 3 rfl ?_
        rcases ite_g hf with ⟨c8, hf⟩ | ⟨c8, hf⟩
        · refine k_icmp_le_t C dX12_heaps_66 (tgt := 77) (by decide) c8 ?_
          refine k_iload_n C dX12_heaps_77 3 rfl ?_
          refine k_istore_n C dX12_heaps_78 (by decide) [1, 2, 3, 0, 4] (lv' := [(0, .ref (G.2.1 0)), (1, .int v1), (2, .int (s1 + s0)), (3, .int v3), (4, .int v4)]) rfl ?_
          refine k_iinc C dX12_heaps_79 4 rfl (v := (v4 + (1 : Int32))) rfl (by decide) [1, 2, 3, 4, 0] (lv' := [(0, .ref (G.2.1 0)), (1, .int v1), (2, .int (s1 + s0)), (3, .int v3), (4, .int (v4 + (1 : Int32)))]) rfl ?_
          refine k_goto C dX12_heaps_82 (tgt := 23) (by decide) ?_
          exact ih23 v1 (s1 + s0) v3 (v4 + (1 : Int32)) M hf
        · refine k_icmp_le_f C dX12_heaps_66 (tgt := 77) (by decide) c8 ?_
          refine k_iload C dX12_heaps_69 5 rfl ?_
          obtain ⟨t9, ht9, hf⟩ := bnd hf
          refine k_callSi C (As := [.int v5]) (c_X12_bits hap v5 M t9 ht9) MS_X12_bits wd_1463 rfl rfl ⟨Nat.le_of_ble_eq_true rfl, Nat.le_of_ble_eq_true rfl⟩ (Nat.le_of_ble_eq_true rfl) dX12_heaps_71 ?_
          refine k_goto C dX12_heaps_74 (tgt := 78) (by decide) ?_
          refine k_istore_n C dX12_heaps_78 (by decide) [1, 2, 3, 0, 4] (lv' := [(0, .ref (G.2.1 0)), (1, .int v1), (2, .int (s1 + s0)), (3, .int t9), (4, .int v4)]) rfl ?_
          refine k_iinc C dX12_heaps_79 4 rfl (v := (v4 + (1 : Int32))) rfl (by decide) [1, 2, 3, 4, 0] (lv' := [(0, .ref (G.2.1 0)), (1, .int v1), (2, .int (s1 + s0)), (3, .int t9), (4, .int (v4 + (1 : Int32)))]) rfl ?_
          refine k_goto C dX12_heaps_82 (tgt := 23) (by decide) ?_
          exact ih23 v1 (s1 + s0) t9 (v4 + (1 : Int32)) M hf
      intro v1 v2 v3 v4 M hf
      unfold f_X12_heaps_b23 at hf
      refine k_iload C dX12_heaps_23 4 rfl ?_
      refine k_aload_n C dX12_heaps_25 0 rfl ?_
      refine k_geti C shR_0 (j := 5) rfl FL_X12_62 dX12_heaps_26 ?_
      rcases ite_g hf with ⟨c3, hf⟩ | ⟨c3, hf⟩
      · refine k_icmp_ge_t C dX12_heaps_29 (tgt := 85) (by decide) c3 ?_
        refine k_iload_n C dX12_heaps_85 1 rfl ?_
        rcases ite_g hf with ⟨c4, hf⟩ | ⟨c4, hf⟩
        · refine k_if_ne_f C dX12_heaps_86 (tgt := 93) (by decide) c4 ?_
          refine k_iload_n C dX12_heaps_89 2 rfl ?_
          refine k_goto C dX12_heaps_90 (tgt := 94) (by decide) ?_
          exact k_iret C hr hlk (prf hf) (prs hf) dX12_heaps_94
        · refine k_if_ne_t C dX12_heaps_86 (tgt := 93) (by decide) c4 ?_
          refine k_iload_n C dX12_heaps_93 3 rfl ?_
          exact k_iret C hr hlk (prf hf) (prs hf) dX12_heaps_94
      · refine k_icmp_ge_f C dX12_heaps_29 (tgt := 85) (by decide) c3 ?_
        refine k_aload_n C dX12_heaps_32 0 rfl ?_
        refine k_iload C dX12_heaps_33 4 rfl ?_
        obtain ⟨t5, ht5, hf⟩ := bnd hf
        refine k_callVi C (As := [.int v4]) (c_X12_heapOf hap v4 M t5 ht5) ML_X12_heapOf wd_1688 shR_0 rfl rfl rfl ⟨Nat.le_of_ble_eq_true rfl, Nat.le_of_ble_eq_true rfl⟩ (Nat.le_of_ble_eq_true rfl) dX12_heaps_35 ?_
        refine k_istore C dX12_heaps_38 (by decide) [1, 2, 3, 4, 5, 0] (lv' := [(0, .ref (G.2.1 0)), (1, .int v1), (2, .int v2), (3, .int v3), (4, .int v4), (5, .int t5)]) rfl ?_
        refine k_iload_n C dX12_heaps_40 2 rfl ?_
        refine k_iload C dX12_heaps_41 5 rfl ?_
        refine k_iconst C dX12_heaps_43 (v := (1 : Int32)) rfl ?_
        refine k_iload C dX12_heaps_44 4 rfl ?_
        refine k_ishlJ C dX12_heaps_46 ?_
        refine k_iconst C dX12_heaps_47 (v := (1 : Int32)) rfl ?_
        refine k_isub C dX12_heaps_48 ?_
        refine k_iand C dX12_heaps_49 ?_
        have hj10 : K p l e (k_rm 4 90) s m args below meth c 6 G shR (MQ below (k_Qi G shR r.1 r.2) args s 0 0 (k_A G shR.length)) 58 [(0, .ref (G.2.1 0)), (1, .int v1), (2, .int v2), (3, .int v3), (4, .int v4), (5, .int t5)] [.int (if (t5 &&& ((jshl (1 : Int32) v4) - (1 : Int32))) = 0 then (1 : Int32) else (0 : Int32)), .int v2] M := by
          refine k_lv [0, 1, 3, 4, 5] rfl ?_
          exact k_b58 v1 v3 v4 t5 (if (t5 &&& ((jshl (1 : Int32) v4) - (1 : Int32))) = 0 then (1 : Int32) else (0 : Int32)) v2 M hf
        by_cases c11 : (t5 &&& ((jshl (1 : Int32) v4) - (1 : Int32))) = 0
        · refine k_if_ne_f C dX12_heaps_50 (tgt := 57) (by decide) c11 ?_
          refine k_iconst C dX12_heaps_53 (v := (1 : Int32)) rfl ?_
          refine k_goto C dX12_heaps_54 (tgt := 58) (by decide) ?_
          exact k_val (by rw [if_pos c11]) hj10
        · refine k_if_ne_t C dX12_heaps_50 (tgt := 57) (by decide) c11 ?_
          refine k_iconst C dX12_heaps_57 (v := (0 : Int32)) rfl ?_
          exact k_val (by rw [if_neg c11]) hj10
  unfold f_X12_heaps at hf
  refine k_lv (lv' := [(0, .ref (G.2.1 0)), (1, .int v1)]) [0, 1] rfl ?_
  refine k_iload_n C dX12_heaps_0 1 rfl ?_
  refine k_iconst C dX12_heaps_1 (v := (0 : Int32)) rfl ?_
  refine k_iconst C dX12_heaps_2 (v := (1 : Int32)) rfl ?_
  refine k_callSi C (As := [.int v1, .int (0 : Int32), .int (1 : Int32)]) (c_X12_isIn hap v1 (0 : Int32) (1 : Int32) M0 _ rfl) MS_X12_isIn wd_1393 rfl rfl ⟨Nat.le_of_ble_eq_true rfl, Nat.le_of_ble_eq_true rfl⟩ (Nat.le_of_ble_eq_true rfl) dX12_heaps_3 ?_
  rcases ite_g hf with ⟨c1, hf⟩ | ⟨c1, hf⟩
  · refine k_if_ne_f C dX12_heaps_6 (tgt := 16) (by decide) c1 ?_
    refine k_aload_n C dX12_heaps_9 0 rfl ?_
    refine k_bipush C dX12_heaps_10 (v := (-2 : Int32)) rfl ?_
    obtain ⟨⟨t12, M12⟩, ht12, hf⟩ := bnd hf
    replace hf := bp_s hf
    refine k_callVi C (As := [.int (-2 : Int32)]) (c_X12_no hap (-2 : Int32) M0 (t12, M12) ht12) ML_X12_no wd_1369 shR_0 rfl rfl rfl ⟨Nat.le_of_ble_eq_true rfl, Nat.le_of_ble_eq_true rfl⟩ (Nat.le_of_ble_eq_true rfl) dX12_heaps_12 ?_
    exact k_iret C hr hlk (prf hf) (prs hf) dX12_heaps_15
  · refine k_if_ne_t C dX12_heaps_6 (tgt := 16) (by decide) c1 ?_
    refine k_iconst C dX12_heaps_16 (v := (0 : Int32)) rfl ?_
    refine k_istore_n C dX12_heaps_17 (by decide) [1, 2, 0] (lv' := [(0, .ref (G.2.1 0)), (1, .int v1), (2, .int (0 : Int32))]) rfl ?_
    refine k_iconst C dX12_heaps_18 (v := (0 : Int32)) rfl ?_
    refine k_istore_n C dX12_heaps_19 (by decide) [1, 2, 3, 0] (lv' := [(0, .ref (G.2.1 0)), (1, .int v1), (2, .int (0 : Int32)), (3, .int (0 : Int32))]) rfl ?_
    refine k_iconst C dX12_heaps_20 (v := (0 : Int32)) rfl ?_
    refine k_istore C dX12_heaps_21 (by decide) [1, 2, 3, 4, 0] (lv' := [(0, .ref (G.2.1 0)), (1, .int v1), (2, .int (0 : Int32)), (3, .int (0 : Int32)), (4, .int (0 : Int32))]) rfl ?_
    exact k_b23 FU v1 (0 : Int32) (0 : Int32) (0 : Int32) M0 hf
theorem dX12_isPure_0 : decode cX12_isPure 0 = .ok (.iload_n 1, 1) := by decide +kernel
theorem dX12_isPure_1 : decode cX12_isPure 1 = .ok (.istore_n 3, 1) := by decide +kernel
theorem dX12_isPure_2 : decode cX12_isPure 2 = .ok (.iload_n 3, 1) := by decide +kernel
theorem dX12_isPure_3 : decode cX12_isPure 3 = .ok (.iload_n 2, 1) := by decide +kernel
theorem dX12_isPure_4 : decode cX12_isPure 4 = .ok (.if_icmp .ge 48, 3) := by decide +kernel
theorem dX12_isPure_7 : decode cX12_isPure 7 = .ok (.iload_n 3, 1) := by decide +kernel
theorem dX12_isPure_8 : decode cX12_isPure 8 = .ok (.iconst 1, 1) := by decide +kernel
theorem dX12_isPure_9 : decode cX12_isPure 9 = .ok (.iadd, 1) := by decide +kernel
theorem dX12_isPure_10 : decode cX12_isPure 10 = .ok (.istore 4, 2) := by decide +kernel
theorem dX12_isPure_12 : decode cX12_isPure 12 = .ok (.iload 4, 2) := by decide +kernel
theorem dX12_isPure_14 : decode cX12_isPure 14 = .ok (.iload_n 2, 1) := by decide +kernel
theorem dX12_isPure_15 : decode cX12_isPure 15 = .ok (.if_icmp .ge 31, 3) := by decide +kernel
theorem dX12_isPure_18 : decode cX12_isPure 18 = .ok (.aload_n 0, 1) := by decide +kernel
theorem dX12_isPure_19 : decode cX12_isPure 19 = .ok (.aload_n 0, 1) := by decide +kernel
theorem dX12_isPure_20 : decode cX12_isPure 20 = .ok (.getfield 22, 3) := by decide +kernel
theorem dX12_isPure_23 : decode cX12_isPure 23 = .ok (.iload_n 3, 1) := by decide +kernel
theorem dX12_isPure_24 : decode cX12_isPure 24 = .ok (.iaload, 1) := by decide +kernel
theorem dX12_isPure_25 : decode cX12_isPure 25 = .ok (.aload_n 0, 1) := by decide +kernel
theorem dX12_isPure_26 : decode cX12_isPure 26 = .ok (.getfield 22, 3) := by decide +kernel
theorem dX12_isPure_29 : decode cX12_isPure 29 = .ok (.iload 4, 2) := by decide +kernel
theorem dX12_isPure_31 : decode cX12_isPure 31 = .ok (.iaload, 1) := by decide +kernel
theorem dX12_isPure_32 : decode cX12_isPure 32 = .ok (.invokevirtual 154, 3) := by decide +kernel
theorem dX12_isPure_35 : decode cX12_isPure 35 = .ok (.ifCond .eq 5, 3) := by decide +kernel
theorem dX12_isPure_38 : decode cX12_isPure 38 = .ok (.iconst 0, 1) := by decide +kernel
theorem dX12_isPure_39 : decode cX12_isPure 39 = .ok (.ireturn, 1) := by decide +kernel
theorem dX12_isPure_40 : decode cX12_isPure 40 = .ok (.iinc 4 1, 3) := by decide +kernel
theorem dX12_isPure_43 : decode cX12_isPure 43 = .ok (.goto (-31), 3) := by decide +kernel
theorem dX12_isPure_46 : decode cX12_isPure 46 = .ok (.iinc 3 1, 3) := by decide +kernel
theorem dX12_isPure_49 : decode cX12_isPure 49 = .ok (.goto (-47), 3) := by decide +kernel
theorem dX12_isPure_52 : decode cX12_isPure 52 = .ok (.iconst 1, 1) := by decide +kernel
theorem dX12_isPure_53 : decode cX12_isPure 53 = .ok (.ireturn, 1) := by decide +kernel
set_option maxRecDepth 100000 in
set_option maxHeartbeats 4000000 in
theorem c_X12_isPure {l : Launch} {G : Gx} (hap : k_ap G shR.length) (v1 : Int32) (v2 : Int32) (M0 : Mem) (r : Int32) (hf : f_X12_isPure v1 v2 M0 = some r) : k_Met l yX12_isPure cX12_isPure 5 (some .boolean) 2 44 G shR [.ref (G.2.1 0), .int v1, .int v2] M0 (k_Qi G shR r M0) := by
  refine k_Met_of (by decide) hap (Nat.le_of_ble_eq_true rfl) ?_
  intro p e s m args below meth c C hr hlk
  have C : Cx p s m args c cX12_isPure RX12 5 G shR := C
  have k_b2 : ∀ (n2 : Nat) (v2 : Int32) (v3 : Int32), f_X12_isPure_b2 M0 n2 v2 v3 = some r → K p l e (k_rm 2 44) s m args below meth c 5 G shR (MQ below (k_Qi G shR r M0) args s 0 0 (k_A G shR.length)) 2 [(0, .ref (G.2.1 0)), (2, .int v2), (3, .int v3)] [] M0 := by
    intro n2
    induction n2 with
    | zero => intro v2 v3 hf; simp [f_X12_isPure_b2] at hf
    | succ n2 ih2 =>
      have k_b12 : ∀ (n12 : Nat) (v2 : Int32) (v3 : Int32) (v4 : Int32), f_X12_isPure_b12 M0 (f_X12_isPure_b2 M0 n2) n12 v2 v3 v4 = some r → K p l e (k_rm 2 44) s m args below meth c 5 G shR (MQ below (k_Qi G shR r M0) args s 0 0 (k_A G shR.length)) 12 [(0, .ref (G.2.1 0)), (2, .int v2), (3, .int v3), (4, .int v4)] [] M0 := by
        intro n12
        induction n12 with
        | zero => intro v2 v3 v4 hf; simp [f_X12_isPure_b12] at hf
        | succ n12 ih12 =>
          intro v2 v3 v4 hf
          unfold f_X12_isPure_b12 at hf
          refine k_iload C dX12_isPure_12 3 rfl ?_
          refine k_iload_n C dX12_isPure_14 1 rfl ?_
          rcases ite_g hf with ⟨c2, hf⟩ | ⟨c2, hf⟩
          · refine k_icmp_ge_t C dX12_isPure_15 (tgt := 46) (by decide) c2 ?_
            refine k_iinc C dX12_isPure_46 2 rfl (v := (v3 + (1 : Int32))) rfl (by decide) [1, 2, 0] (lv' := [(0, .ref (G.2.1 0)), (2, .int v2), (3, .int (v3 + (1 : Int32)))]) rfl ?_
            refine k_goto C dX12_isPure_49 (tgt := 2) (by decide) ?_
            exact ih2 v2 (v3 + (1 : Int32)) hf
          · refine k_icmp_ge_f C dX12_isPure_15 (tgt := 46) (by decide) c2 ?_
            refine k_aload_n C dX12_isPure_18 0 rfl ?_
            refine k_aload_n C dX12_isPure_19 0 rfl ?_
            refine k_getr C shR_0 (j := 4) rfl FL_X12_22 dX12_isPure_20 ?_
            refine k_iload_n C dX12_isPure_23 2 rfl ?_
            obtain ⟨t3, ht3, hf⟩ := bnd hf
            refine k_iald C shR_5 ht3 dX12_isPure_24 ?_
            refine k_aload_n C dX12_isPure_25 0 rfl ?_
            refine k_getr C shR_0 (j := 4) rfl FL_X12_22 dX12_isPure_26 ?_
            refine k_iload C dX12_isPure_29 3 rfl ?_
            obtain ⟨t4, ht4, hf⟩ := bnd hf
            refine k_iald C shR_5 ht4 dX12_isPure_31 ?_
            obtain ⟨t5, ht5, hf⟩ := bnd hf
            refine k_callVi C (As := [.int t3, .int t4]) (c_X12_areSame hap t3 t4 M0 t5 ht5) ML_X12_areSame wd_1459 shR_0 rfl rfl rfl ⟨Nat.le_of_ble_eq_true rfl, Nat.le_of_ble_eq_true rfl⟩ (Nat.le_of_ble_eq_true rfl) dX12_isPure_32 ?_
            rcases ite_g hf with ⟨c6, hf⟩ | ⟨c6, hf⟩
            · refine k_if_eq_t C dX12_isPure_35 (tgt := 40) (by decide) c6 ?_
              refine k_iinc C dX12_isPure_40 3 rfl (v := (v4 + (1 : Int32))) rfl (by decide) [1, 2, 3, 0] (lv' := [(0, .ref (G.2.1 0)), (2, .int v2), (3, .int v3), (4, .int (v4 + (1 : Int32)))]) rfl ?_
              refine k_goto C dX12_isPure_43 (tgt := 12) (by decide) ?_
              exact ih12 v2 v3 (v4 + (1 : Int32)) hf
            · refine k_if_eq_f C dX12_isPure_35 (tgt := 40) (by decide) c6 ?_
              refine k_iconst C dX12_isPure_38 (v := (0 : Int32)) rfl ?_
              exact k_zret C hr hlk (gZ0.trans (congrArg some (Option.some.inj hf))) rfl dX12_isPure_39
      intro v2 v3 hf
      unfold f_X12_isPure_b2 at hf
      refine k_iload_n C dX12_isPure_2 2 rfl ?_
      refine k_iload_n C dX12_isPure_3 1 rfl ?_
      rcases ite_g hf with ⟨c1, hf⟩ | ⟨c1, hf⟩
      · refine k_icmp_ge_t C dX12_isPure_4 (tgt := 52) (by decide) c1 ?_
        refine k_iconst C dX12_isPure_52 (v := (1 : Int32)) rfl ?_
        exact k_zret C hr hlk (gZ1.trans (congrArg some (Option.some.inj hf))) rfl dX12_isPure_53
      · refine k_icmp_ge_f C dX12_isPure_4 (tgt := 52) (by decide) c1 ?_
        refine k_iload_n C dX12_isPure_7 2 rfl ?_
        refine k_iconst C dX12_isPure_8 (v := (1 : Int32)) rfl ?_
        refine k_iadd C dX12_isPure_9 ?_
        refine k_istore C dX12_isPure_10 (by decide) [1, 2, 3, 0] (lv' := [(0, .ref (G.2.1 0)), (2, .int v2), (3, .int v3), (4, .int (v3 + (1 : Int32)))]) rfl ?_
        exact k_b12 FU v2 v3 (v3 + (1 : Int32)) hf
  unfold f_X12_isPure at hf
  refine k_lv (lv' := [(0, .ref (G.2.1 0)), (1, .int v1), (2, .int v2)]) [0, 1, 2] rfl ?_
  refine k_iload_n C dX12_isPure_0 1 rfl ?_
  refine k_istore_n C dX12_isPure_1 (by decide) [1, 3, 0] (lv' := [(0, .ref (G.2.1 0)), (2, .int v2), (3, .int v1)]) rfl ?_
  exact k_b2 FU v2 v1 hf
theorem dX12_pure_0 : decode cX12_pure 0 = .ok (.iload_n 1, 1) := by decide +kernel
theorem dX12_pure_1 : decode cX12_pure 1 = .ok (.iconst 0, 1) := by decide +kernel
theorem dX12_pure_2 : decode cX12_pure 2 = .ok (.iconst 1, 1) := by decide +kernel
theorem dX12_pure_3 : decode cX12_pure 3 = .ok (.invokestatic 86, 3) := by decide +kernel
theorem dX12_pure_6 : decode cX12_pure 6 = .ok (.ifCond .ne 10, 3) := by decide +kernel
theorem dX12_pure_9 : decode cX12_pure 9 = .ok (.aload_n 0, 1) := by decide +kernel
theorem dX12_pure_10 : decode cX12_pure 10 = .ok (.bipush (-2), 2) := by decide +kernel
theorem dX12_pure_12 : decode cX12_pure 12 = .ok (.invokevirtual 75, 3) := by decide +kernel
theorem dX12_pure_15 : decode cX12_pure 15 = .ok (.ireturn, 1) := by decide +kernel
theorem dX12_pure_16 : decode cX12_pure 16 = .ok (.iconst 0, 1) := by decide +kernel
theorem dX12_pure_17 : decode cX12_pure 17 = .ok (.istore_n 2, 1) := by decide +kernel
theorem dX12_pure_18 : decode cX12_pure 18 = .ok (.bipush (-9), 2) := by decide +kernel
theorem dX12_pure_20 : decode cX12_pure 20 = .ok (.istore_n 3, 1) := by decide +kernel
theorem dX12_pure_21 : decode cX12_pure 21 = .ok (.iconst 0, 1) := by decide +kernel
theorem dX12_pure_22 : decode cX12_pure 22 = .ok (.istore 4, 2) := by decide +kernel
theorem dX12_pure_24 : decode cX12_pure 24 = .ok (.iload 4, 2) := by decide +kernel
theorem dX12_pure_26 : decode cX12_pure 26 = .ok (.aload_n 0, 1) := by decide +kernel
theorem dX12_pure_27 : decode cX12_pure 27 = .ok (.getfield 108, 3) := by decide +kernel
theorem dX12_pure_30 : decode cX12_pure 30 = .ok (.if_icmp .ge 55, 3) := by decide +kernel
theorem dX12_pure_33 : decode cX12_pure 33 = .ok (.iload 4, 2) := by decide +kernel
theorem dX12_pure_35 : decode cX12_pure 35 = .ok (.iload_n 2, 1) := by decide +kernel
theorem dX12_pure_36 : decode cX12_pure 36 = .ok (.iadd, 1) := by decide +kernel
theorem dX12_pure_37 : decode cX12_pure 37 = .ok (.iconst 1, 1) := by decide +kernel
theorem dX12_pure_38 : decode cX12_pure 38 = .ok (.iadd, 1) := by decide +kernel
theorem dX12_pure_39 : decode cX12_pure 39 = .ok (.istore 5, 2) := by decide +kernel
theorem dX12_pure_41 : decode cX12_pure 41 = .ok (.iload 5, 2) := by decide +kernel
theorem dX12_pure_43 : decode cX12_pure 43 = .ok (.aload_n 0, 1) := by decide +kernel
theorem dX12_pure_44 : decode cX12_pure 44 = .ok (.getfield 108, 3) := by decide +kernel
theorem dX12_pure_47 : decode cX12_pure 47 = .ok (.if_icmp .gt 32, 3) := by decide +kernel
theorem dX12_pure_50 : decode cX12_pure 50 = .ok (.aload_n 0, 1) := by decide +kernel
theorem dX12_pure_51 : decode cX12_pure 51 = .ok (.iload 4, 2) := by decide +kernel
theorem dX12_pure_53 : decode cX12_pure 53 = .ok (.iload 5, 2) := by decide +kernel
theorem dX12_pure_55 : decode cX12_pure 55 = .ok (.invokevirtual 258, 3) := by decide +kernel
theorem dX12_pure_58 : decode cX12_pure 58 = .ok (.ifCond .ne 6, 3) := by decide +kernel
theorem dX12_pure_61 : decode cX12_pure 61 = .ok (.goto 12, 3) := by decide +kernel
theorem dX12_pure_64 : decode cX12_pure 64 = .ok (.iload 5, 2) := by decide +kernel
theorem dX12_pure_66 : decode cX12_pure 66 = .ok (.iload 4, 2) := by decide +kernel
theorem dX12_pure_68 : decode cX12_pure 68 = .ok (.isub, 1) := by decide +kernel
theorem dX12_pure_69 : decode cX12_pure 69 = .ok (.istore_n 2, 1) := by decide +kernel
theorem dX12_pure_70 : decode cX12_pure 70 = .ok (.iload 4, 2) := by decide +kernel
theorem dX12_pure_72 : decode cX12_pure 72 = .ok (.istore_n 3, 1) := by decide +kernel
theorem dX12_pure_73 : decode cX12_pure 73 = .ok (.iinc 5 1, 3) := by decide +kernel
theorem dX12_pure_76 : decode cX12_pure 76 = .ok (.goto (-35), 3) := by decide +kernel
theorem dX12_pure_79 : decode cX12_pure 79 = .ok (.iinc 4 1, 3) := by decide +kernel
theorem dX12_pure_82 : decode cX12_pure 82 = .ok (.goto (-58), 3) := by decide +kernel
theorem dX12_pure_85 : decode cX12_pure 85 = .ok (.iload_n 1, 1) := by decide +kernel
theorem dX12_pure_86 : decode cX12_pure 86 = .ok (.ifCond .ne 7, 3) := by decide +kernel
theorem dX12_pure_89 : decode cX12_pure 89 = .ok (.iload_n 2, 1) := by decide +kernel
theorem dX12_pure_90 : decode cX12_pure 90 = .ok (.goto 4, 3) := by decide +kernel
theorem dX12_pure_93 : decode cX12_pure 93 = .ok (.iload_n 3, 1) := by decide +kernel
theorem dX12_pure_94 : decode cX12_pure 94 = .ok (.ireturn, 1) := by decide +kernel
set_option maxRecDepth 100000 in
set_option maxHeartbeats 4000000 in
theorem c_X12_pure {l : Launch} {G : Gx} (hap : k_ap G shR.length) (v1 : Int32) (M0 : Mem) (r : Int32 × Mem) (hf : f_X12_pure v1 M0 = some r) : k_Met l yX12_pure cX12_pure 6 (some .int) 3 68 G shR [.ref (G.2.1 0), .int v1] M0 (k_Qi G shR r.1 r.2) := by
  refine k_Met_of (by decide) hap (Nat.le_of_ble_eq_true rfl) ?_
  intro p e s m args below meth c C hr hlk
  have C : Cx p s m args c cX12_pure RX12 6 G shR := C
  have k_b24 : ∀ (n24 : Nat) (v1 : Int32) (v2 : Int32) (v3 : Int32) (v4 : Int32) (M : Mem), f_X12_pure_b24 n24 v1 v2 v3 v4 M = some r → K p l e (k_rm 3 68) s m args below meth c 6 G shR (MQ below (k_Qi G shR r.1 r.2) args s 0 0 (k_A G shR.length)) 24 [(0, .ref (G.2.1 0)), (1, .int v1), (2, .int v2), (3, .int v3), (4, .int v4)] [] M := by
    intro n24
    induction n24 with
    | zero => intro v1 v2 v3 v4 M hf; simp [f_X12_pure_b24] at hf
    | succ n24 ih24 =>
      have k_b41 : ∀ (n41 : Nat) (v1 : Int32) (v2 : Int32) (v3 : Int32) (v4 : Int32) (v5 : Int32) (M : Mem), f_X12_pure_b41 (f_X12_pure_b24 n24) n41 v1 v2 v3 v4 v5 M = some r → K p l e (k_rm 3 68) s m args below meth c 6 G shR (MQ below (k_Qi G shR r.1 r.2) args s 0 0 (k_A G shR.length)) 41 [(0, .ref (G.2.1 0)), (1, .int v1), (2, .int v2), (3, .int v3), (4, .int v4), (5, .int v5)] [] M := by
        intro n41
        induction n41 with
        | zero => intro v1 v2 v3 v4 v5 M hf; simp [f_X12_pure_b41] at hf
        | succ n41 ih41 =>
          intro v1 v2 v3 v4 v5 M hf
          unfold f_X12_pure_b41 at hf
          refine k_iload C dX12_pure_41 5 rfl ?_
          refine k_aload_n C dX12_pure_43 0 rfl ?_
          refine k_geti C shR_0 (j := 6) rfl FL_X12_108 dX12_pure_44 ?_
          rcases ite_g hf with ⟨c5, hf⟩ | ⟨c5, hf⟩
          · refine k_icmp_gt_t C dX12_pure_47 (tgt := 79) (by decide) c5 ?_
            refine k_iinc C dX12_pure_79 4 rfl (v := (v4 + (1 : Int32))) rfl (by decide) [1, 2, 3, 4, 0] (lv' := [(0, .ref (G.2.1 0)), (1, .int v1), (2, .int v2), (3, .int v3), (4, .int (v4 + (1 : Int32)))]) rfl ?_
            refine k_goto C dX12_pure_82 (tgt := 24) (by decide) ?_
            exact ih24 v1 v2 v3 (v4 + (1 : Int32)) M hf
          · refine k_icmp_gt_f C dX12_pure_47 (tgt := 79) (by decide) c5 ?_
            refine k_aload_n C dX12_pure_50 0 rfl ?_
            refine k_iload C dX12_pure_51 4 rfl ?_
            refine k_iload C dX12_pure_53 5 rfl ?_
            obtain ⟨t6, ht6, hf⟩ := bnd hf
            refine k_callVi C (As := [.int v4, .int v5]) (c_X12_isPure hap v4 v5 M t6 ht6) ML_X12_isPure wd_1696 shR_0 rfl rfl rfl ⟨Nat.le_of_ble_eq_true rfl, Nat.le_of_ble_eq_true rfl⟩ (Nat.le_of_ble_eq_true rfl) dX12_pure_55 ?_
            rcases ite_g hf with ⟨c7, hf⟩ | ⟨c7, hf⟩
            · refine k_if_ne_f C dX12_pure_58 (tgt := 64) (by decide) c7 ?_
              refine k_goto C dX12_pure_61 (tgt := 73) (by decide) ?_
              refine k_iinc C dX12_pure_73 5 rfl (v := (v5 + (1 : Int32))) rfl (by decide) [1, 2, 3, 4, 5, 0] (lv' := [(0, .ref (G.2.1 0)), (1, .int v1), (2, .int v2), (3, .int v3), (4, .int v4), (5, .int (v5 + (1 : Int32)))]) rfl ?_
              refine k_goto C dX12_pure_76 (tgt := 41) (by decide) ?_
              exact ih41 v1 v2 v3 v4 (v5 + (1 : Int32)) M hf
            · refine k_if_ne_t C dX12_pure_58 (tgt := 64) (by decide) c7 ?_
              refine k_iload C dX12_pure_64 5 rfl ?_
              refine k_iload C dX12_pure_66 4 rfl ?_
              refine k_isub C dX12_pure_68 ?_
              refine k_istore_n C dX12_pure_69 (by decide) [1, 2, 0, 4, 5] (lv' := [(0, .ref (G.2.1 0)), (1, .int v1), (2, .int (v5 - v4)), (4, .int v4), (5, .int v5)]) rfl ?_
              refine k_iload C dX12_pure_70 3 rfl ?_
              refine k_istore_n C dX12_pure_72 (by decide) [1, 2, 3, 0, 4, 5] (lv' := [(0, .ref (G.2.1 0)), (1, .int v1), (2, .int (v5 - v4)), (3, .int v4), (4, .int v4), (5, .int v5)]) rfl ?_
              refine k_iinc C dX12_pure_73 5 rfl (v := (v5 + (1 : Int32))) rfl (by decide) [1, 2, 3, 4, 5, 0] (lv' := [(0, .ref (G.2.1 0)), (1, .int v1), (2, .int (v5 - v4)), (3, .int v4), (4, .int v4), (5, .int (v5 + (1 : Int32)))]) rfl ?_
              refine k_goto C dX12_pure_76 (tgt := 41) (by decide) ?_
              exact ih41 v1 (v5 - v4) v4 v4 (v5 + (1 : Int32)) M hf
      intro v1 v2 v3 v4 M hf
      unfold f_X12_pure_b24 at hf
      refine k_iload C dX12_pure_24 4 rfl ?_
      refine k_aload_n C dX12_pure_26 0 rfl ?_
      refine k_geti C shR_0 (j := 6) rfl FL_X12_108 dX12_pure_27 ?_
      rcases ite_g hf with ⟨c2, hf⟩ | ⟨c2, hf⟩
      · refine k_icmp_ge_t C dX12_pure_30 (tgt := 85) (by decide) c2 ?_
        refine k_iload_n C dX12_pure_85 1 rfl ?_
        rcases ite_g hf with ⟨c3, hf⟩ | ⟨c3, hf⟩
        · refine k_if_ne_f C dX12_pure_86 (tgt := 93) (by decide) c3 ?_
          refine k_iload_n C dX12_pure_89 2 rfl ?_
          refine k_goto C dX12_pure_90 (tgt := 94) (by decide) ?_
          exact k_iret C hr hlk (prf hf) (prs hf) dX12_pure_94
        · refine k_if_ne_t C dX12_pure_86 (tgt := 93) (by decide) c3 ?_
          refine k_iload_n C dX12_pure_93 3 rfl ?_
          exact k_iret C hr hlk (prf hf) (prs hf) dX12_pure_94
      · refine k_icmp_ge_f C dX12_pure_30 (tgt := 85) (by decide) c2 ?_
        refine k_iload C dX12_pure_33 4 rfl ?_
        refine k_iload_n C dX12_pure_35 2 rfl ?_
        refine k_iadd C dX12_pure_36 ?_
        refine k_iconst C dX12_pure_37 (v := (1 : Int32)) rfl ?_
        refine k_iadd C dX12_pure_38 ?_
        refine k_istore C dX12_pure_39 (by decide) [1, 2, 3, 4, 5, 0] (lv' := [(0, .ref (G.2.1 0)), (1, .int v1), (2, .int v2), (3, .int v3), (4, .int v4), (5, .int ((v4 + v2) + (1 : Int32)))]) rfl ?_
        exact k_b41 FU v1 v2 v3 v4 ((v4 + v2) + (1 : Int32)) M hf
  unfold f_X12_pure at hf
  refine k_lv (lv' := [(0, .ref (G.2.1 0)), (1, .int v1)]) [0, 1] rfl ?_
  refine k_iload_n C dX12_pure_0 1 rfl ?_
  refine k_iconst C dX12_pure_1 (v := (0 : Int32)) rfl ?_
  refine k_iconst C dX12_pure_2 (v := (1 : Int32)) rfl ?_
  refine k_callSi C (As := [.int v1, .int (0 : Int32), .int (1 : Int32)]) (c_X12_isIn hap v1 (0 : Int32) (1 : Int32) M0 _ rfl) MS_X12_isIn wd_1393 rfl rfl ⟨Nat.le_of_ble_eq_true rfl, Nat.le_of_ble_eq_true rfl⟩ (Nat.le_of_ble_eq_true rfl) dX12_pure_3 ?_
  rcases ite_g hf with ⟨c1, hf⟩ | ⟨c1, hf⟩
  · refine k_if_ne_f C dX12_pure_6 (tgt := 16) (by decide) c1 ?_
    refine k_aload_n C dX12_pure_9 0 rfl ?_
    refine k_bipush C dX12_pure_10 (v := (-2 : Int32)) rfl ?_
    obtain ⟨⟨t8, M8⟩, ht8, hf⟩ := bnd hf
    replace hf := bp_s hf
    refine k_callVi C (As := [.int (-2 : Int32)]) (c_X12_no hap (-2 : Int32) M0 (t8, M8) ht8) ML_X12_no wd_1369 shR_0 rfl rfl rfl ⟨Nat.le_of_ble_eq_true rfl, Nat.le_of_ble_eq_true rfl⟩ (Nat.le_of_ble_eq_true rfl) dX12_pure_12 ?_
    exact k_iret C hr hlk (prf hf) (prs hf) dX12_pure_15
  · refine k_if_ne_t C dX12_pure_6 (tgt := 16) (by decide) c1 ?_
    refine k_iconst C dX12_pure_16 (v := (0 : Int32)) rfl ?_
    refine k_istore_n C dX12_pure_17 (by decide) [1, 2, 0] (lv' := [(0, .ref (G.2.1 0)), (1, .int v1), (2, .int (0 : Int32))]) rfl ?_
    refine k_bipush C dX12_pure_18 (v := (-9 : Int32)) rfl ?_
    refine k_istore_n C dX12_pure_20 (by decide) [1, 2, 3, 0] (lv' := [(0, .ref (G.2.1 0)), (1, .int v1), (2, .int (0 : Int32)), (3, .int (-9 : Int32))]) rfl ?_
    refine k_iconst C dX12_pure_21 (v := (0 : Int32)) rfl ?_
    refine k_istore C dX12_pure_22 (by decide) [1, 2, 3, 4, 0] (lv' := [(0, .ref (G.2.1 0)), (1, .int v1), (2, .int (0 : Int32)), (3, .int (-9 : Int32)), (4, .int (0 : Int32))]) rfl ?_
    exact k_b24 FU v1 (0 : Int32) (-9 : Int32) (0 : Int32) M0 hf
theorem dX12_bestT_0 : decode cX12_bestT 0 = .ok (.aload_n 0, 1) := by decide +kernel
theorem dX12_bestT_1 : decode cX12_bestT 1 = .ok (.getfield 114, 3) := by decide +kernel
theorem dX12_bestT_4 : decode cX12_bestT 4 = .ok (.istore_n 1, 1) := by decide +kernel
theorem dX12_bestT_5 : decode cX12_bestT 5 = .ok (.iconst 0, 1) := by decide +kernel
theorem dX12_bestT_6 : decode cX12_bestT 6 = .ok (.istore_n 2, 1) := by decide +kernel
theorem dX12_bestT_7 : decode cX12_bestT 7 = .ok (.ldc 182, 2) := by decide +kernel
theorem dX12_bestT_9 : decode cX12_bestT 9 = .ok (.istore_n 3, 1) := by decide +kernel
theorem dX12_bestT_10 : decode cX12_bestT 10 = .ok (.iconst 0, 1) := by decide +kernel
theorem dX12_bestT_11 : decode cX12_bestT 11 = .ok (.istore 4, 2) := by decide +kernel
theorem dX12_bestT_13 : decode cX12_bestT 13 = .ok (.iload 4, 2) := by decide +kernel
theorem dX12_bestT_15 : decode cX12_bestT 15 = .ok (.bipush 8, 2) := by decide +kernel
theorem dX12_bestT_17 : decode cX12_bestT 17 = .ok (.if_icmp .gt 36, 3) := by decide +kernel
theorem dX12_bestT_20 : decode cX12_bestT 20 = .ok (.aload_n 0, 1) := by decide +kernel
theorem dX12_bestT_21 : decode cX12_bestT 21 = .ok (.iload 4, 2) := by decide +kernel
theorem dX12_bestT_23 : decode cX12_bestT 23 = .ok (.putfield 114, 3) := by decide +kernel
theorem dX12_bestT_26 : decode cX12_bestT 26 = .ok (.aload_n 0, 1) := by decide +kernel
theorem dX12_bestT_27 : decode cX12_bestT 27 = .ok (.invokevirtual 173, 3) := by decide +kernel
theorem dX12_bestT_30 : decode cX12_bestT 30 = .ok (.istore 5, 2) := by decide +kernel
theorem dX12_bestT_32 : decode cX12_bestT 32 = .ok (.iload 5, 2) := by decide +kernel
theorem dX12_bestT_34 : decode cX12_bestT 34 = .ok (.iload_n 3, 1) := by decide +kernel
theorem dX12_bestT_35 : decode cX12_bestT 35 = .ok (.if_icmp .lt 6, 3) := by decide +kernel
theorem dX12_bestT_38 : decode cX12_bestT 38 = .ok (.goto 9, 3) := by decide +kernel
theorem dX12_bestT_41 : decode cX12_bestT 41 = .ok (.iload 4, 2) := by decide +kernel
theorem dX12_bestT_43 : decode cX12_bestT 43 = .ok (.istore_n 2, 1) := by decide +kernel
theorem dX12_bestT_44 : decode cX12_bestT 44 = .ok (.iload 5, 2) := by decide +kernel
theorem dX12_bestT_46 : decode cX12_bestT 46 = .ok (.istore_n 3, 1) := by decide +kernel
theorem dX12_bestT_47 : decode cX12_bestT 47 = .ok (.iinc 4 1, 3) := by decide +kernel
theorem dX12_bestT_50 : decode cX12_bestT 50 = .ok (.goto (-37), 3) := by decide +kernel
theorem dX12_bestT_53 : decode cX12_bestT 53 = .ok (.aload_n 0, 1) := by decide +kernel
theorem dX12_bestT_54 : decode cX12_bestT 54 = .ok (.iload_n 1, 1) := by decide +kernel
theorem dX12_bestT_55 : decode cX12_bestT 55 = .ok (.putfield 114, 3) := by decide +kernel
theorem dX12_bestT_58 : decode cX12_bestT 58 = .ok (.iload_n 2, 1) := by decide +kernel
theorem dX12_bestT_59 : decode cX12_bestT 59 = .ok (.ireturn, 1) := by decide +kernel
set_option maxRecDepth 100000 in
set_option maxHeartbeats 4000000 in
theorem c_X12_bestT {l : Launch} {G : Gx} (hap : k_ap G shR.length) (M0 : Mem) (r : Int32 × Mem) (hf : f_X12_bestT M0 = some r) : k_Met l yX12_bestT cX12_bestT 6 (some .int) 5 111 G shR [.ref (G.2.1 0)] M0 (k_Qi G shR r.1 r.2) := by
  refine k_Met_of (by decide) hap (Nat.le_of_ble_eq_true rfl) ?_
  intro p e s m args below meth c C hr hlk
  have C : Cx p s m args c cX12_bestT RX12 6 G shR := C
  have k_b13 : ∀ (n13 : Nat) (v1 : Int32) (v2 : Int32) (v3 : Int32) (v4 : Int32) (M : Mem), f_X12_bestT_b13 n13 v1 v2 v3 v4 M = some r → K p l e (k_rm 5 111) s m args below meth c 6 G shR (MQ below (k_Qi G shR r.1 r.2) args s 0 0 (k_A G shR.length)) 13 [(0, .ref (G.2.1 0)), (1, .int v1), (2, .int v2), (3, .int v3), (4, .int v4)] [] M := by
    intro n13
    induction n13 with
    | zero => intro v1 v2 v3 v4 M hf; simp [f_X12_bestT_b13] at hf
    | succ n13 ih13 =>
      intro v1 v2 v3 v4 M hf
      unfold f_X12_bestT_b13 at hf
      refine k_iload C dX12_bestT_13 4 rfl ?_
      refine k_bipush C dX12_bestT_15 (v := (8 : Int32)) rfl ?_
      rcases ite_g hf with ⟨c1, hf⟩ | ⟨c1, hf⟩
      · refine k_icmp_gt_t C dX12_bestT_17 (tgt := 53) (by decide) c1 ?_
        refine k_aload_n C dX12_bestT_53 0 rfl ?_
        refine k_iload_n C dX12_bestT_54 1 rfl ?_
        refine k_put C shR_0 (j := 8) rfl FL_X12_114 FW_X12_8 dX12_bestT_55 ?_
        refine k_iload_n C dX12_bestT_58 2 rfl ?_
        exact k_iret C hr hlk (prf hf) (prs hf) dX12_bestT_59
      · refine k_icmp_gt_f C dX12_bestT_17 (tgt := 53) (by decide) c1 ?_
        refine k_aload_n C dX12_bestT_20 0 rfl ?_
        refine k_iload C dX12_bestT_21 4 rfl ?_
        refine k_put C shR_0 (j := 8) rfl FL_X12_114 FW_X12_8 dX12_bestT_23 ?_
        refine k_aload_n C dX12_bestT_26 0 rfl ?_
        obtain ⟨t2, ht2, hf⟩ := bnd hf
        refine k_callVi C (As := []) (c_X12_all hap (wI M 0 8 v4) t2 ht2) ML_X12_all wd_1502 shR_0 rfl rfl rfl ⟨Nat.le_of_ble_eq_true rfl, Nat.le_of_ble_eq_true rfl⟩ (Nat.le_of_ble_eq_true rfl) dX12_bestT_27 ?_
        refine k_istore C dX12_bestT_30 (by decide) [1, 2, 3, 4, 5, 0] (lv' := [(0, .ref (G.2.1 0)), (1, .int v1), (2, .int v2), (3, .int v3), (4, .int v4), (5, .int t2)]) rfl ?_
        refine k_iload C dX12_bestT_32 5 rfl ?_
        refine k_iload_n C dX12_bestT_34 3 rfl ?_
        rcases ite_g hf with ⟨c3, hf⟩ | ⟨c3, hf⟩
        · refine k_icmp_lt_t C dX12_bestT_35 (tgt := 41) (by decide) c3 ?_
          refine k_iload C dX12_bestT_41 4 rfl ?_
          refine k_istore_n C dX12_bestT_43 (by decide) [1, 2, 0, 4, 5] (lv' := [(0, .ref (G.2.1 0)), (1, .int v1), (2, .int v4), (4, .int v4), (5, .int t2)]) rfl ?_
          refine k_iload C dX12_bestT_44 4 rfl ?_
          refine k_istore_n C dX12_bestT_46 (by decide) [1, 2, 3, 0, 4] (lv' := [(0, .ref (G.2.1 0)), (1, .int v1), (2, .int v4), (3, .int t2), (4, .int v4)]) rfl ?_
          refine k_iinc C dX12_bestT_47 4 rfl (v := (v4 + (1 : Int32))) rfl (by decide) [1, 2, 3, 4, 0] (lv' := [(0, .ref (G.2.1 0)), (1, .int v1), (2, .int v4), (3, .int t2), (4, .int (v4 + (1 : Int32)))]) rfl ?_
          refine k_goto C dX12_bestT_50 (tgt := 13) (by decide) ?_
          exact ih13 v1 v4 t2 (v4 + (1 : Int32)) (wI M 0 8 v4) hf
        · refine k_icmp_lt_f C dX12_bestT_35 (tgt := 41) (by decide) c3 ?_
          refine k_goto C dX12_bestT_38 (tgt := 47) (by decide) ?_
          refine k_iinc C dX12_bestT_47 4 rfl (v := (v4 + (1 : Int32))) rfl (by decide) [1, 2, 3, 4, 0] (lv' := [(0, .ref (G.2.1 0)), (1, .int v1), (2, .int v2), (3, .int v3), (4, .int (v4 + (1 : Int32)))]) rfl ?_
          refine k_goto C dX12_bestT_50 (tgt := 13) (by decide) ?_
          exact ih13 v1 v2 v3 (v4 + (1 : Int32)) (wI M 0 8 v4) hf
  unfold f_X12_bestT at hf
  refine k_lv (lv' := [(0, .ref (G.2.1 0))]) [0] rfl ?_
  refine k_aload_n C dX12_bestT_0 0 rfl ?_
  refine k_geti C shR_0 (j := 8) rfl FL_X12_114 dX12_bestT_1 ?_
  refine k_istore_n C dX12_bestT_4 (by decide) [1, 0] (lv' := [(0, .ref (G.2.1 0)), (1, .int (M0.1 0 8))]) rfl ?_
  refine k_iconst C dX12_bestT_5 (v := (0 : Int32)) rfl ?_
  refine k_istore_n C dX12_bestT_6 (by decide) [1, 2, 0] (lv' := [(0, .ref (G.2.1 0)), (1, .int (M0.1 0 8)), (2, .int (0 : Int32))]) rfl ?_
  refine k_ldc C dX12_bestT_7 wd_1530 ?_
  refine k_istore_n C dX12_bestT_9 (by decide) [1, 2, 3, 0] (lv' := [(0, .ref (G.2.1 0)), (1, .int (M0.1 0 8)), (2, .int (0 : Int32)), (3, .int (1000000 : Int32))]) rfl ?_
  refine k_iconst C dX12_bestT_10 (v := (0 : Int32)) rfl ?_
  refine k_istore C dX12_bestT_11 (by decide) [1, 2, 3, 4, 0] (lv' := [(0, .ref (G.2.1 0)), (1, .int (M0.1 0 8)), (2, .int (0 : Int32)), (3, .int (1000000 : Int32)), (4, .int (0 : Int32))]) rfl ?_
  exact k_b13 FU (M0.1 0 8) (0 : Int32) (1000000 : Int32) (0 : Int32) M0 hf
