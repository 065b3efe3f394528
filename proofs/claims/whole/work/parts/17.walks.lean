/-! walks, printed by a program of mine: each method meets its function -/
theorem dX12_adds_0 : decode cX12_adds 0 = .ok (.aload_n 0, 1) := by decide +kernel
theorem dX12_adds_1 : decode cX12_adds 1 = .ok (.getfield 13, 3) := by decide +kernel
theorem dX12_adds_4 : decode cX12_adds 4 = .ok (.aload_n 0, 1) := by decide +kernel
theorem dX12_adds_5 : decode cX12_adds 5 = .ok (.getfield 62, 3) := by decide +kernel
theorem dX12_adds_8 : decode cX12_adds 8 = .ok (.iload_n 1, 1) := by decide +kernel
theorem dX12_adds_9 : decode cX12_adds 9 = .ok (.iastore, 1) := by decide +kernel
theorem dX12_adds_10 : decode cX12_adds 10 = .ok (.aload_n 0, 1) := by decide +kernel
theorem dX12_adds_11 : decode cX12_adds 11 = .ok (.getfield 16, 3) := by decide +kernel
theorem dX12_adds_14 : decode cX12_adds 14 = .ok (.aload_n 0, 1) := by decide +kernel
theorem dX12_adds_15 : decode cX12_adds 15 = .ok (.getfield 62, 3) := by decide +kernel
theorem dX12_adds_18 : decode cX12_adds 18 = .ok (.iload_n 2, 1) := by decide +kernel
theorem dX12_adds_19 : decode cX12_adds 19 = .ok (.iastore, 1) := by decide +kernel
theorem dX12_adds_20 : decode cX12_adds 20 = .ok (.aload_n 0, 1) := by decide +kernel
theorem dX12_adds_21 : decode cX12_adds 21 = .ok (.getfield 19, 3) := by decide +kernel
theorem dX12_adds_24 : decode cX12_adds 24 = .ok (.aload_n 0, 1) := by decide +kernel
theorem dX12_adds_25 : decode cX12_adds 25 = .ok (.getfield 62, 3) := by decide +kernel
theorem dX12_adds_28 : decode cX12_adds 28 = .ok (.iload_n 3, 1) := by decide +kernel
theorem dX12_adds_29 : decode cX12_adds 29 = .ok (.iastore, 1) := by decide +kernel
theorem dX12_adds_30 : decode cX12_adds 30 = .ok (.aload_n 0, 1) := by decide +kernel
theorem dX12_adds_31 : decode cX12_adds 31 = .ok (.dup, 1) := by decide +kernel
theorem dX12_adds_32 : decode cX12_adds 32 = .ok (.getfield 62, 3) := by decide +kernel
theorem dX12_adds_35 : decode cX12_adds 35 = .ok (.iconst 1, 1) := by decide +kernel
theorem dX12_adds_36 : decode cX12_adds 36 = .ok (.iadd, 1) := by decide +kernel
theorem dX12_adds_37 : decode cX12_adds 37 = .ok (.putfield 62, 3) := by decide +kernel
theorem dX12_adds_40 : decode cX12_adds 40 = .ok (.return_, 1) := by decide +kernel
set_option maxRecDepth 100000 in
set_option maxHeartbeats 4000000 in
theorem c_X12_adds {l : Launch} {G : Gx} (hap : k_ap G shR.length) (v1 : Int32) (v2 : Int32) (v3 : Int32) (M0 : Mem) (r : Mem) (hf : f_X12_adds v1 v2 v3 M0 = some r) : k_Met l yX12_adds cX12_adds 4 none 0 0 G shR [.ref (G.2.1 0), .int v1, .int v2, .int v3] M0 (k_Qv G shR r) := by
  refine k_Met_of (by decide) hap (Nat.le_of_ble_eq_true rfl) ?_
  intro p e s m args below meth c C hr hlk
  have C : Cx p s m args c cX12_adds RX12 4 G shR := C
  unfold f_X12_adds at hf
  refine k_lv (lv' := [(0, .ref (G.2.1 0)), (1, .int v1), (2, .int v2), (3, .int v3)]) [0, 1, 2, 3] rfl ?_
  refine k_aload_n C dX12_adds_0 0 rfl ?_
  refine k_getr C shR_0 (j := 1) rfl FL_X12_13 dX12_adds_1 ?_
  refine k_aload_n C dX12_adds_4 0 rfl ?_
  refine k_geti C shR_0 (j := 5) rfl FL_X12_62 dX12_adds_5 ?_
  refine k_iload_n C dX12_adds_8 1 rfl ?_
  obtain ⟨M1, hM1, hf⟩ := bnd hf
  refine k_iast C shR_2 hM1 dX12_adds_9 ?_
  refine k_aload_n C dX12_adds_10 0 rfl ?_
  refine k_getr C shR_0 (j := 2) rfl FL_X12_16 dX12_adds_11 ?_
  refine k_aload_n C dX12_adds_14 0 rfl ?_
  refine k_geti C shR_0 (j := 5) rfl FL_X12_62 dX12_adds_15 ?_
  refine k_iload_n C dX12_adds_18 2 rfl ?_
  obtain ⟨M2, hM2, hf⟩ := bnd hf
  refine k_iast C shR_3 hM2 dX12_adds_19 ?_
  refine k_aload_n C dX12_adds_20 0 rfl ?_
  refine k_getr C shR_0 (j := 3) rfl FL_X12_19 dX12_adds_21 ?_
  refine k_aload_n C dX12_adds_24 0 rfl ?_
  refine k_geti C shR_0 (j := 5) rfl FL_X12_62 dX12_adds_25 ?_
  refine k_iload_n C dX12_adds_28 3 rfl ?_
  obtain ⟨M3, hM3, hf⟩ := bnd hf
  refine k_iast C shR_4 hM3 dX12_adds_29 ?_
  refine k_aload_n C dX12_adds_30 0 rfl ?_
  refine k_dup C dX12_adds_31 rfl ?_
  refine k_geti C shR_0 (j := 5) rfl FL_X12_62 dX12_adds_32 ?_
  refine k_iconst C dX12_adds_35 (v := (1 : Int32)) rfl ?_
  refine k_iadd C dX12_adds_36 ?_
  refine k_put C shR_0 (j := 5) rfl FL_X12_62 FW_X12_5 dX12_adds_37 ?_
  exact k_vret C hr hlk (Option.some.inj hf) dX12_adds_40
theorem dX12_comes_0 : decode cX12_comes 0 = .ok (.aload_n 0, 1) := by decide +kernel
theorem dX12_comes_1 : decode cX12_comes 1 = .ok (.getfield 34, 3) := by decide +kernel
theorem dX12_comes_4 : decode cX12_comes 4 = .ok (.iconst 3, 1) := by decide +kernel
theorem dX12_comes_5 : decode cX12_comes 5 = .ok (.iload_n 1, 1) := by decide +kernel
theorem dX12_comes_6 : decode cX12_comes 6 = .ok (.imul, 1) := by decide +kernel
theorem dX12_comes_7 : decode cX12_comes 7 = .ok (.iaload, 1) := by decide +kernel
theorem dX12_comes_8 : decode cX12_comes 8 = .ok (.istore_n 2, 1) := by decide +kernel
theorem dX12_comes_9 : decode cX12_comes 9 = .ok (.aload_n 0, 1) := by decide +kernel
theorem dX12_comes_10 : decode cX12_comes 10 = .ok (.getfield 34, 3) := by decide +kernel
theorem dX12_comes_13 : decode cX12_comes 13 = .ok (.iconst 3, 1) := by decide +kernel
theorem dX12_comes_14 : decode cX12_comes 14 = .ok (.iload_n 1, 1) := by decide +kernel
theorem dX12_comes_15 : decode cX12_comes 15 = .ok (.imul, 1) := by decide +kernel
theorem dX12_comes_16 : decode cX12_comes 16 = .ok (.iconst 1, 1) := by decide +kernel
theorem dX12_comes_17 : decode cX12_comes 17 = .ok (.iadd, 1) := by decide +kernel
theorem dX12_comes_18 : decode cX12_comes 18 = .ok (.iaload, 1) := by decide +kernel
theorem dX12_comes_19 : decode cX12_comes 19 = .ok (.istore_n 3, 1) := by decide +kernel
theorem dX12_comes_20 : decode cX12_comes 20 = .ok (.aload_n 0, 1) := by decide +kernel
theorem dX12_comes_21 : decode cX12_comes 21 = .ok (.getfield 28, 3) := by decide +kernel
theorem dX12_comes_24 : decode cX12_comes 24 = .ok (.iload_n 1, 1) := by decide +kernel
theorem dX12_comes_25 : decode cX12_comes 25 = .ok (.iaload, 1) := by decide +kernel
theorem dX12_comes_26 : decode cX12_comes 26 = .ok (.lookupswitch 191 #[(100, 42), (108, 133), (109, 160), (111, 92)], 42) := by decide +kernel
theorem dX12_comes_68 : decode cX12_comes 68 = .ok (.iload_n 2, 1) := by decide +kernel
theorem dX12_comes_69 : decode cX12_comes 69 = .ok (.iconst 5, 1) := by decide +kernel
theorem dX12_comes_70 : decode cX12_comes 70 = .ok (.if_icmp .gt 28, 3) := by decide +kernel
theorem dX12_comes_73 : decode cX12_comes 73 = .ok (.aload_n 0, 1) := by decide +kernel
theorem dX12_comes_74 : decode cX12_comes 74 = .ok (.getfield 34, 3) := by decide +kernel
theorem dX12_comes_77 : decode cX12_comes 77 = .ok (.iconst 3, 1) := by decide +kernel
theorem dX12_comes_78 : decode cX12_comes 78 = .ok (.iload_n 1, 1) := by decide +kernel
theorem dX12_comes_79 : decode cX12_comes 79 = .ok (.imul, 1) := by decide +kernel
theorem dX12_comes_80 : decode cX12_comes 80 = .ok (.iconst 2, 1) := by decide +kernel
theorem dX12_comes_81 : decode cX12_comes 81 = .ok (.iadd, 1) := by decide +kernel
theorem dX12_comes_82 : decode cX12_comes 82 = .ok (.iaload, 1) := by decide +kernel
theorem dX12_comes_83 : decode cX12_comes 83 = .ok (.sipush 255, 3) := by decide +kernel
theorem dX12_comes_86 : decode cX12_comes 86 = .ok (.if_icmp .gt 12, 3) := by decide +kernel
theorem dX12_comes_89 : decode cX12_comes 89 = .ok (.aload_n 0, 1) := by decide +kernel
theorem dX12_comes_90 : decode cX12_comes 90 = .ok (.getfield 62, 3) := by decide +kernel
theorem dX12_comes_93 : decode cX12_comes 93 = .ok (.bipush 8, 2) := by decide +kernel
theorem dX12_comes_95 : decode cX12_comes 95 = .ok (.if_icmp .ne 5, 3) := by decide +kernel
theorem dX12_comes_98 : decode cX12_comes 98 = .ok (.iconst 0, 1) := by decide +kernel
theorem dX12_comes_99 : decode cX12_comes 99 = .ok (.ireturn, 1) := by decide +kernel
theorem dX12_comes_100 : decode cX12_comes 100 = .ok (.aload_n 0, 1) := by decide +kernel
theorem dX12_comes_101 : decode cX12_comes 101 = .ok (.iload_n 2, 1) := by decide +kernel
theorem dX12_comes_102 : decode cX12_comes 102 = .ok (.iload_n 3, 1) := by decide +kernel
theorem dX12_comes_103 : decode cX12_comes 103 = .ok (.aload_n 0, 1) := by decide +kernel
theorem dX12_comes_104 : decode cX12_comes 104 = .ok (.getfield 34, 3) := by decide +kernel
theorem dX12_comes_107 : decode cX12_comes 107 = .ok (.iconst 3, 1) := by decide +kernel
theorem dX12_comes_108 : decode cX12_comes 108 = .ok (.iload_n 1, 1) := by decide +kernel
theorem dX12_comes_109 : decode cX12_comes 109 = .ok (.imul, 1) := by decide +kernel
theorem dX12_comes_110 : decode cX12_comes 110 = .ok (.iconst 2, 1) := by decide +kernel
theorem dX12_comes_111 : decode cX12_comes 111 = .ok (.iadd, 1) := by decide +kernel
theorem dX12_comes_112 : decode cX12_comes 112 = .ok (.iaload, 1) := by decide +kernel
theorem dX12_comes_113 : decode cX12_comes 113 = .ok (.invokevirtual 100, 3) := by decide +kernel
theorem dX12_comes_116 : decode cX12_comes 116 = .ok (.iconst 1, 1) := by decide +kernel
theorem dX12_comes_117 : decode cX12_comes 117 = .ok (.ireturn, 1) := by decide +kernel
theorem dX12_comes_118 : decode cX12_comes 118 = .ok (.aload_n 0, 1) := by decide +kernel
theorem dX12_comes_119 : decode cX12_comes 119 = .ok (.iload_n 2, 1) := by decide +kernel
theorem dX12_comes_120 : decode cX12_comes 120 = .ok (.invokevirtual 104, 3) := by decide +kernel
theorem dX12_comes_123 : decode cX12_comes 123 = .ok (.ifCond .eq 12, 3) := by decide +kernel
theorem dX12_comes_126 : decode cX12_comes 126 = .ok (.aload_n 0, 1) := by decide +kernel
theorem dX12_comes_127 : decode cX12_comes 127 = .ok (.getfield 108, 3) := by decide +kernel
theorem dX12_comes_130 : decode cX12_comes 130 = .ok (.bipush 12, 2) := by decide +kernel
theorem dX12_comes_132 : decode cX12_comes 132 = .ok (.if_icmp .ne 5, 3) := by decide +kernel
theorem dX12_comes_135 : decode cX12_comes 135 = .ok (.iconst 0, 1) := by decide +kernel
theorem dX12_comes_136 : decode cX12_comes 136 = .ok (.ireturn, 1) := by decide +kernel
theorem dX12_comes_137 : decode cX12_comes 137 = .ok (.aload_n 0, 1) := by decide +kernel
theorem dX12_comes_138 : decode cX12_comes 138 = .ok (.getfield 22, 3) := by decide +kernel
theorem dX12_comes_141 : decode cX12_comes 141 = .ok (.aload_n 0, 1) := by decide +kernel
theorem dX12_comes_142 : decode cX12_comes 142 = .ok (.getfield 108, 3) := by decide +kernel
theorem dX12_comes_145 : decode cX12_comes 145 = .ok (.iload_n 2, 1) := by decide +kernel
theorem dX12_comes_146 : decode cX12_comes 146 = .ok (.iastore, 1) := by decide +kernel
theorem dX12_comes_147 : decode cX12_comes 147 = .ok (.aload_n 0, 1) := by decide +kernel
theorem dX12_comes_148 : decode cX12_comes 148 = .ok (.dup, 1) := by decide +kernel
theorem dX12_comes_149 : decode cX12_comes 149 = .ok (.getfield 108, 3) := by decide +kernel
theorem dX12_comes_152 : decode cX12_comes 152 = .ok (.iconst 1, 1) := by decide +kernel
theorem dX12_comes_153 : decode cX12_comes 153 = .ok (.iadd, 1) := by decide +kernel
theorem dX12_comes_154 : decode cX12_comes 154 = .ok (.putfield 108, 3) := by decide +kernel
theorem dX12_comes_157 : decode cX12_comes 157 = .ok (.iconst 1, 1) := by decide +kernel
theorem dX12_comes_158 : decode cX12_comes 158 = .ok (.ireturn, 1) := by decide +kernel
theorem dX12_comes_159 : decode cX12_comes 159 = .ok (.aload_n 0, 1) := by decide +kernel
theorem dX12_comes_160 : decode cX12_comes 160 = .ok (.iload_n 2, 1) := by decide +kernel
theorem dX12_comes_161 : decode cX12_comes 161 = .ok (.putfield 111, 3) := by decide +kernel
theorem dX12_comes_164 : decode cX12_comes 164 = .ok (.aload_n 0, 1) := by decide +kernel
theorem dX12_comes_165 : decode cX12_comes 165 = .ok (.iload_n 3, 1) := by decide +kernel
theorem dX12_comes_166 : decode cX12_comes 166 = .ok (.putfield 114, 3) := by decide +kernel
theorem dX12_comes_169 : decode cX12_comes 169 = .ok (.iload_n 2, 1) := by decide +kernel
theorem dX12_comes_170 : decode cX12_comes 170 = .ok (.iconst 4, 1) := by decide +kernel
theorem dX12_comes_171 : decode cX12_comes 171 = .ok (.if_icmp .ge 13, 3) := by decide +kernel
theorem dX12_comes_174 : decode cX12_comes 174 = .ok (.iload_n 3, 1) := by decide +kernel
theorem dX12_comes_175 : decode cX12_comes 175 = .ok (.bipush 8, 2) := by decide +kernel
theorem dX12_comes_177 : decode cX12_comes 177 = .ok (.if_icmp .gt 7, 3) := by decide +kernel
theorem dX12_comes_180 : decode cX12_comes 180 = .ok (.iconst 1, 1) := by decide +kernel
theorem dX12_comes_181 : decode cX12_comes 181 = .ok (.goto 4, 3) := by decide +kernel
theorem dX12_comes_184 : decode cX12_comes 184 = .ok (.iconst 0, 1) := by decide +kernel
theorem dX12_comes_185 : decode cX12_comes 185 = .ok (.ireturn, 1) := by decide +kernel
theorem dX12_comes_186 : decode cX12_comes 186 = .ok (.aload_n 0, 1) := by decide +kernel
theorem dX12_comes_187 : decode cX12_comes 187 = .ok (.iload_n 2, 1) := by decide +kernel
theorem dX12_comes_188 : decode cX12_comes 188 = .ok (.invokevirtual 104, 3) := by decide +kernel
theorem dX12_comes_191 : decode cX12_comes 191 = .ok (.ifCond .eq 10, 3) := by decide +kernel
theorem dX12_comes_194 : decode cX12_comes 194 = .ok (.iload_n 3, 1) := by decide +kernel
theorem dX12_comes_195 : decode cX12_comes 195 = .ok (.invokestatic 117, 3) := by decide +kernel
theorem dX12_comes_198 : decode cX12_comes 198 = .ok (.ifCond .ne 5, 3) := by decide +kernel
theorem dX12_comes_201 : decode cX12_comes 201 = .ok (.iconst 0, 1) := by decide +kernel
theorem dX12_comes_202 : decode cX12_comes 202 = .ok (.ireturn, 1) := by decide +kernel
theorem dX12_comes_203 : decode cX12_comes 203 = .ok (.aload_n 0, 1) := by decide +kernel
theorem dX12_comes_204 : decode cX12_comes 204 = .ok (.getfield 19, 3) := by decide +kernel
theorem dX12_comes_207 : decode cX12_comes 207 = .ok (.iload_n 2, 1) := by decide +kernel
theorem dX12_comes_208 : decode cX12_comes 208 = .ok (.dup2, 1) := by decide +kernel
theorem dX12_comes_209 : decode cX12_comes 209 = .ok (.iaload, 1) := by decide +kernel
theorem dX12_comes_210 : decode cX12_comes 210 = .ok (.iconst 1, 1) := by decide +kernel
theorem dX12_comes_211 : decode cX12_comes 211 = .ok (.iload_n 3, 1) := by decide +kernel
theorem dX12_comes_212 : decode cX12_comes 212 = .ok (.ishl, 1) := by decide +kernel
theorem dX12_comes_213 : decode cX12_comes 213 = .ok (.ixor, 1) := by decide +kernel
theorem dX12_comes_214 : decode cX12_comes 214 = .ok (.iastore, 1) := by decide +kernel
theorem dX12_comes_215 : decode cX12_comes 215 = .ok (.iconst 1, 1) := by decide +kernel
theorem dX12_comes_216 : decode cX12_comes 216 = .ok (.ireturn, 1) := by decide +kernel
theorem dX12_comes_217 : decode cX12_comes 217 = .ok (.aload_n 0, 1) := by decide +kernel
theorem dX12_comes_218 : decode cX12_comes 218 = .ok (.iconst 0, 1) := by decide +kernel
theorem dX12_comes_219 : decode cX12_comes 219 = .ok (.putfield 108, 3) := by decide +kernel
theorem dX12_comes_222 : decode cX12_comes 222 = .ok (.iconst 1, 1) := by decide +kernel
theorem dX12_comes_223 : decode cX12_comes 223 = .ok (.ireturn, 1) := by decide +kernel
set_option maxRecDepth 100000 in
set_option maxHeartbeats 4000000 in
theorem c_X12_comes {l : Launch} {G : Gx} (hap : k_ap G shR.length) (v1 : Int32) (M0 : Mem) (r : Int32 × Mem) (hf : f_X12_comes v1 M0 = some r) : k_Met l yX12_comes cX12_comes 4 (some .boolean) 1 23 G shR [.ref (G.2.1 0), .int v1] M0 (k_Qi G shR r.1 r.2) := by
  refine k_Met_of (by decide) hap (Nat.le_of_ble_eq_true rfl) ?_
  intro p e s m args below meth c C hr hlk
  have C : Cx p s m args c cX12_comes RX12 4 G shR := C
  unfold f_X12_comes at hf
  refine k_lv (lv' := [(0, .ref (G.2.1 0)), (1, .int v1)]) [0, 1] rfl ?_
  refine k_aload_n C dX12_comes_0 0 rfl ?_
  refine k_getr C shR_0 (j := 12) rfl FL_X12_34 dX12_comes_1 ?_
  refine k_iconst C dX12_comes_4 (v := (3 : Int32)) rfl ?_
  refine k_iload_n C dX12_comes_5 1 rfl ?_
  refine k_imul C dX12_comes_6 ?_
  obtain ⟨t1, ht1, hf⟩ := bnd hf
  refine k_iald C shR_9 ht1 dX12_comes_7 ?_
  refine k_istore_n C dX12_comes_8 (by decide) [1, 2, 0] (lv' := [(0, .ref (G.2.1 0)), (1, .int v1), (2, .int t1)]) rfl ?_
  refine k_aload_n C dX12_comes_9 0 rfl ?_
  refine k_getr C shR_0 (j := 12) rfl FL_X12_34 dX12_comes_10 ?_
  refine k_iconst C dX12_comes_13 (v := (3 : Int32)) rfl ?_
  refine k_iload_n C dX12_comes_14 1 rfl ?_
  refine k_imul C dX12_comes_15 ?_
  refine k_iconst C dX12_comes_16 (v := (1 : Int32)) rfl ?_
  refine k_iadd C dX12_comes_17 ?_
  obtain ⟨t2, ht2, hf⟩ := bnd hf
  refine k_iald C shR_9 ht2 dX12_comes_18 ?_
  refine k_istore_n C dX12_comes_19 (by decide) [1, 2, 3, 0] (lv' := [(0, .ref (G.2.1 0)), (1, .int v1), (2, .int t1), (3, .int t2)]) rfl ?_
  refine k_aload_n C dX12_comes_20 0 rfl ?_
  refine k_getr C shR_0 (j := 10) rfl FL_X12_28 dX12_comes_21 ?_
  refine k_iload_n C dX12_comes_24 1 rfl ?_
  obtain ⟨t3, ht3, hf⟩ := bnd hf
  refine k_iald C shR_7 ht3 dX12_comes_25 ?_
  rcases ite_g hf with ⟨c4, hf⟩ | ⟨c4, hf⟩
  · refine k_lookup C dX12_comes_26 (tgt := 68) (off := 42) (by decide) (by first | (rw [c4]; done) | (rw [c4]; decide)) (by decide) ?_
    refine k_iload_n C dX12_comes_68 2 rfl ?_
    refine k_iconst C dX12_comes_69 (v := (5 : Int32)) rfl ?_
    rcases ite_g hf with ⟨c5, hf⟩ | ⟨c5, hf⟩
    · refine k_icmp_gt_t C dX12_comes_70 (tgt := 98) (by decide) c5 ?_
      refine k_iconst C dX12_comes_98 (v := (0 : Int32)) rfl ?_
      exact k_zret C hr hlk (gZ0.trans (congrArg some (prf hf))) (prs hf) dX12_comes_99
    · refine k_icmp_gt_f C dX12_comes_70 (tgt := 98) (by decide) c5 ?_
      refine k_aload_n C dX12_comes_73 0 rfl ?_
      refine k_getr C shR_0 (j := 12) rfl FL_X12_34 dX12_comes_74 ?_
      refine k_iconst C dX12_comes_77 (v := (3 : Int32)) rfl ?_
      refine k_iload_n C dX12_comes_78 1 rfl ?_
      refine k_imul C dX12_comes_79 ?_
      refine k_iconst C dX12_comes_80 (v := (2 : Int32)) rfl ?_
      refine k_iadd C dX12_comes_81 ?_
      obtain ⟨t6, ht6, hf⟩ := bnd hf
      refine k_iald C shR_9 ht6 dX12_comes_82 ?_
      refine k_sipush C dX12_comes_83 (v := (255 : Int32)) rfl ?_
      rcases ite_g hf with ⟨c7, hf⟩ | ⟨c7, hf⟩
      · refine k_icmp_gt_t C dX12_comes_86 (tgt := 98) (by decide) c7 ?_
        refine k_iconst C dX12_comes_98 (v := (0 : Int32)) rfl ?_
        exact k_zret C hr hlk (gZ0.trans (congrArg some (prf hf))) (prs hf) dX12_comes_99
      · refine k_icmp_gt_f C dX12_comes_86 (tgt := 98) (by decide) c7 ?_
        refine k_aload_n C dX12_comes_89 0 rfl ?_
        refine k_geti C shR_0 (j := 5) rfl FL_X12_62 dX12_comes_90 ?_
        refine k_bipush C dX12_comes_93 (v := (8 : Int32)) rfl ?_
        rcases ite_g hf with ⟨c8, hf⟩ | ⟨c8, hf⟩
        · refine k_icmp_ne_f C dX12_comes_95 (tgt := 100) (by decide) c8 ?_
          refine k_iconst C dX12_comes_98 (v := (0 : Int32)) rfl ?_
          exact k_zret C hr hlk (gZ0.trans (congrArg some (prf hf))) (prs hf) dX12_comes_99
        · refine k_icmp_ne_t C dX12_comes_95 (tgt := 100) (by decide) c8 ?_
          refine k_aload_n C dX12_comes_100 0 rfl ?_
          refine k_iload_n C dX12_comes_101 2 rfl ?_
          refine k_iload_n C dX12_comes_102 3 rfl ?_
          refine k_aload_n C dX12_comes_103 0 rfl ?_
          refine k_getr C shR_0 (j := 12) rfl FL_X12_34 dX12_comes_104 ?_
          refine k_iconst C dX12_comes_107 (v := (3 : Int32)) rfl ?_
          refine k_iload_n C dX12_comes_108 1 rfl ?_
          refine k_imul C dX12_comes_109 ?_
          refine k_iconst C dX12_comes_110 (v := (2 : Int32)) rfl ?_
          refine k_iadd C dX12_comes_111 ?_
          obtain ⟨t9, ht9, hf⟩ := bnd hf
          refine k_iald C shR_9 ht9 dX12_comes_112 ?_
          obtain ⟨M10, hM10, hf⟩ := bnd hf
          refine k_callVv C (As := [.int t1, .int t2, .int t9]) (c_X12_adds hap t1 t2 t9 M0 M10 hM10) ML_X12_adds wd_1412 shR_0 rfl rfl rfl ⟨Nat.le_of_ble_eq_true rfl, Nat.le_of_ble_eq_true rfl⟩ (Nat.le_of_ble_eq_true rfl) dX12_comes_113 ?_
          refine k_iconst C dX12_comes_116 (v := (1 : Int32)) rfl ?_
          exact k_zret C hr hlk (gZ1.trans (congrArg some (prf hf))) (prs hf) dX12_comes_117
  · rcases ite_g hf with ⟨c11, hf⟩ | ⟨c11, hf⟩
    · refine k_lookup C dX12_comes_26 (tgt := 159) (off := 133) (by decide) (by first | (rw [c11]; done) | (rw [c11]; decide)) (by decide) ?_
      refine k_aload_n C dX12_comes_159 0 rfl ?_
      refine k_iload_n C dX12_comes_160 2 rfl ?_
      refine k_put C shR_0 (j := 7) rfl FL_X12_111 FW_X12_7 dX12_comes_161 ?_
      refine k_aload_n C dX12_comes_164 0 rfl ?_
      refine k_iload_n C dX12_comes_165 3 rfl ?_
      refine k_put C shR_0 (j := 8) rfl FL_X12_114 FW_X12_8 dX12_comes_166 ?_
      refine k_iload_n C dX12_comes_169 2 rfl ?_
      refine k_iconst C dX12_comes_170 (v := (4 : Int32)) rfl ?_
      rcases ite_g hf with ⟨c12, hf⟩ | ⟨c12, hf⟩
      · refine k_icmp_ge_t C dX12_comes_171 (tgt := 184) (by decide) c12 ?_
        refine k_iconst C dX12_comes_184 (v := (0 : Int32)) rfl ?_
        exact k_zret C hr hlk (gZ0.trans (congrArg some (prf hf))) (prs hf) dX12_comes_185
      · refine k_icmp_ge_f C dX12_comes_171 (tgt := 184) (by decide) c12 ?_
        refine k_iload_n C dX12_comes_174 3 rfl ?_
        refine k_bipush C dX12_comes_175 (v := (8 : Int32)) rfl ?_
        rcases ite_g hf with ⟨c13, hf⟩ | ⟨c13, hf⟩
        · refine k_icmp_gt_t C dX12_comes_177 (tgt := 184) (by decide) c13 ?_
          refine k_iconst C dX12_comes_184 (v := (0 : Int32)) rfl ?_
          exact k_zret C hr hlk (gZ0.trans (congrArg some (prf hf))) (prs hf) dX12_comes_185
        · refine k_icmp_gt_f C dX12_comes_177 (tgt := 184) (by decide) c13 ?_
          refine k_iconst C dX12_comes_180 (v := (1 : Int32)) rfl ?_
          refine k_goto C dX12_comes_181 (tgt := 185) (by decide) ?_
          exact k_zret C hr hlk (gZ1.trans (congrArg some (prf hf))) (prs hf) dX12_comes_185
    · rcases ite_g hf with ⟨c14, hf⟩ | ⟨c14, hf⟩
      · refine k_lookup C dX12_comes_26 (tgt := 186) (off := 160) (by decide) (by first | (rw [c14]; done) | (rw [c14]; decide)) (by decide) ?_
        refine k_aload_n C dX12_comes_186 0 rfl ?_
        refine k_iload_n C dX12_comes_187 2 rfl ?_
        refine k_callVi C (As := [.int t1]) (c_X12_isDoing hap t1 M0 _ rfl) ML_X12_isDoing wd_1416 shR_0 rfl rfl rfl ⟨Nat.le_of_ble_eq_true rfl, Nat.le_of_ble_eq_true rfl⟩ (Nat.le_of_ble_eq_true rfl) dX12_comes_188 ?_
        rcases ite_g hf with ⟨c15, hf⟩ | ⟨c15, hf⟩
        · refine k_if_eq_t C dX12_comes_191 (tgt := 201) (by decide) c15 ?_
          refine k_iconst C dX12_comes_201 (v := (0 : Int32)) rfl ?_
          exact k_zret C hr hlk (gZ0.trans (congrArg some (prf hf))) (prs hf) dX12_comes_202
        · refine k_if_eq_f C dX12_comes_191 (tgt := 201) (by decide) c15 ?_
          refine k_iload_n C dX12_comes_194 3 rfl ?_
          refine k_callSi C (As := [.int t2]) (c_X12_isMark hap t2 M0 _ rfl) MS_X12_isMark wd_1420 rfl rfl ⟨Nat.le_of_ble_eq_true rfl, Nat.le_of_ble_eq_true rfl⟩ (Nat.le_of_ble_eq_true rfl) dX12_comes_195 ?_
          rcases ite_g hf with ⟨c16, hf⟩ | ⟨c16, hf⟩
          · refine k_if_ne_f C dX12_comes_198 (tgt := 203) (by decide) c16 ?_
            refine k_iconst C dX12_comes_201 (v := (0 : Int32)) rfl ?_
            exact k_zret C hr hlk (gZ0.trans (congrArg some (prf hf))) (prs hf) dX12_comes_202
          · refine k_if_ne_t C dX12_comes_198 (tgt := 203) (by decide) c16 ?_
            refine k_aload_n C dX12_comes_203 0 rfl ?_
            refine k_getr C shR_0 (j := 3) rfl FL_X12_19 dX12_comes_204 ?_
            refine k_iload_n C dX12_comes_207 2 rfl ?_
            refine k_dup2 C dX12_comes_208 rfl rfl ?_
            obtain ⟨t17, ht17, hf⟩ := bnd hf
            refine k_iald C shR_4 ht17 dX12_comes_209 ?_
            refine k_iconst C dX12_comes_210 (v := (1 : Int32)) rfl ?_
            refine k_iload_n C dX12_comes_211 3 rfl ?_
            refine k_ishlJ C dX12_comes_212 ?_
            refine k_ixor C dX12_comes_213 ?_
            obtain ⟨M18, hM18, hf⟩ := bnd hf
            refine k_iast C shR_4 hM18 dX12_comes_214 ?_
            refine k_iconst C dX12_comes_215 (v := (1 : Int32)) rfl ?_
            exact k_zret C hr hlk (gZ1.trans (congrArg some (prf hf))) (prs hf) dX12_comes_216
      · rcases ite_g hf with ⟨c19, hf⟩ | ⟨c19, hf⟩
        · refine k_lookup C dX12_comes_26 (tgt := 118) (off := 92) (by decide) (by first | (rw [c19]; done) | (rw [c19]; decide)) (by decide) ?_
          refine k_aload_n C dX12_comes_118 0 rfl ?_
          refine k_iload_n C dX12_comes_119 2 rfl ?_
          refine k_callVi C (As := [.int t1]) (c_X12_isDoing hap t1 M0 _ rfl) ML_X12_isDoing wd_1416 shR_0 rfl rfl rfl ⟨Nat.le_of_ble_eq_true rfl, Nat.le_of_ble_eq_true rfl⟩ (Nat.le_of_ble_eq_true rfl) dX12_comes_120 ?_
          rcases ite_g hf with ⟨c20, hf⟩ | ⟨c20, hf⟩
          · refine k_if_eq_t C dX12_comes_123 (tgt := 135) (by decide) c20 ?_
            refine k_iconst C dX12_comes_135 (v := (0 : Int32)) rfl ?_
            exact k_zret C hr hlk (gZ0.trans (congrArg some (prf hf))) (prs hf) dX12_comes_136
          · refine k_if_eq_f C dX12_comes_123 (tgt := 135) (by decide) c20 ?_
            refine k_aload_n C dX12_comes_126 0 rfl ?_
            refine k_geti C shR_0 (j := 6) rfl FL_X12_108 dX12_comes_127 ?_
            refine k_bipush C dX12_comes_130 (v := (12 : Int32)) rfl ?_
            rcases ite_g hf with ⟨c21, hf⟩ | ⟨c21, hf⟩
            · refine k_icmp_ne_f C dX12_comes_132 (tgt := 137) (by decide) c21 ?_
              refine k_iconst C dX12_comes_135 (v := (0 : Int32)) rfl ?_
              exact k_zret C hr hlk (gZ0.trans (congrArg some (prf hf))) (prs hf) dX12_comes_136
            · refine k_icmp_ne_t C dX12_comes_132 (tgt := 137) (by decide) c21 ?_
              refine k_aload_n C dX12_comes_137 0 rfl ?_
              refine k_getr C shR_0 (j := 4) rfl FL_X12_22 dX12_comes_138 ?_
              refine k_aload_n C dX12_comes_141 0 rfl ?_
              refine k_geti C shR_0 (j := 6) rfl FL_X12_108 dX12_comes_142 ?_
              refine k_iload_n C dX12_comes_145 2 rfl ?_
              obtain ⟨M22, hM22, hf⟩ := bnd hf
              refine k_iast C shR_5 hM22 dX12_comes_146 ?_
              refine k_aload_n C dX12_comes_147 0 rfl ?_
              refine k_dup C dX12_comes_148 rfl ?_
              refine k_geti C shR_0 (j := 6) rfl FL_X12_108 dX12_comes_149 ?_
              refine k_iconst C dX12_comes_152 (v := (1 : Int32)) rfl ?_
              refine k_iadd C dX12_comes_153 ?_
              refine k_put C shR_0 (j := 6) rfl FL_X12_108 FW_X12_6 dX12_comes_154 ?_
              refine k_iconst C dX12_comes_157 (v := (1 : Int32)) rfl ?_
              exact k_zret C hr hlk (gZ1.trans (congrArg some (prf hf))) (prs hf) dX12_comes_158
        · have hqc4 : (t3 : Int32).toInt ≠ 100 := i_ne2 c4 (by decide)
          have hqc11 : (t3 : Int32).toInt ≠ 108 := i_ne2 c11 (by decide)
          have hqc14 : (t3 : Int32).toInt ≠ 109 := i_ne2 c14 (by decide)
          have hqc19 : (t3 : Int32).toInt ≠ 111 := i_ne2 c19 (by decide)
          refine k_lookup C dX12_comes_26 (tgt := 217) (off := 191) (by decide) (by simp only [Op.lookupswitch.offset]; rw [if_neg (Ne.symm hqc4), if_neg (Ne.symm hqc11), if_neg (Ne.symm hqc14), if_neg (Ne.symm hqc19)]) (by decide) ?_
          refine k_aload_n C dX12_comes_217 0 rfl ?_
          refine k_iconst C dX12_comes_218 (v := (0 : Int32)) rfl ?_
          refine k_put C shR_0 (j := 6) rfl FL_X12_108 FW_X12_6 dX12_comes_219 ?_
          refine k_iconst C dX12_comes_222 (v := (1 : Int32)) rfl ?_
          exact k_zret C hr hlk (gZ1.trans (congrArg some (prf hf))) (prs hf) dX12_comes_223
theorem dX12_passes_0 : decode cX12_passes 0 = .ok (.iconst 0, 1) := by decide +kernel
theorem dX12_passes_1 : decode cX12_passes 1 = .ok (.istore_n 2, 1) := by decide +kernel
theorem dX12_passes_2 : decode cX12_passes 2 = .ok (.iload_n 2, 1) := by decide +kernel
theorem dX12_passes_3 : decode cX12_passes 3 = .ok (.aload_n 1, 1) := by decide +kernel
theorem dX12_passes_4 : decode cX12_passes 4 = .ok (.arraylength, 1) := by decide +kernel
theorem dX12_passes_5 : decode cX12_passes 5 = .ok (.if_icmp .ge 53, 3) := by decide +kernel
theorem dX12_passes_8 : decode cX12_passes 8 = .ok (.aload_n 0, 1) := by decide +kernel
theorem dX12_passes_9 : decode cX12_passes 9 = .ok (.getfield 134, 3) := by decide +kernel
theorem dX12_passes_12 : decode cX12_passes 12 = .ok (.ifCond .eq 18, 3) := by decide +kernel
theorem dX12_passes_15 : decode cX12_passes 15 = .ok (.aload_n 0, 1) := by decide +kernel
theorem dX12_passes_16 : decode cX12_passes 16 = .ok (.getfield 37, 3) := by decide +kernel
theorem dX12_passes_19 : decode cX12_passes 19 = .ok (.aload_n 0, 1) := by decide +kernel
theorem dX12_passes_20 : decode cX12_passes 20 = .ok (.getfield 138, 3) := by decide +kernel
theorem dX12_passes_23 : decode cX12_passes 23 = .ok (.aload_n 1, 1) := by decide +kernel
theorem dX12_passes_24 : decode cX12_passes 24 = .ok (.iload_n 2, 1) := by decide +kernel
theorem dX12_passes_25 : decode cX12_passes 25 = .ok (.iaload, 1) := by decide +kernel
theorem dX12_passes_26 : decode cX12_passes 26 = .ok (.iastore, 1) := by decide +kernel
theorem dX12_passes_27 : decode cX12_passes 27 = .ok (.goto 15, 3) := by decide +kernel
theorem dX12_passes_30 : decode cX12_passes 30 = .ok (.aload_n 1, 1) := by decide +kernel
theorem dX12_passes_31 : decode cX12_passes 31 = .ok (.iload_n 2, 1) := by decide +kernel
theorem dX12_passes_32 : decode cX12_passes 32 = .ok (.aload_n 0, 1) := by decide +kernel
theorem dX12_passes_33 : decode cX12_passes 33 = .ok (.getfield 37, 3) := by decide +kernel
theorem dX12_passes_36 : decode cX12_passes 36 = .ok (.aload_n 0, 1) := by decide +kernel
theorem dX12_passes_37 : decode cX12_passes 37 = .ok (.getfield 138, 3) := by decide +kernel
theorem dX12_passes_40 : decode cX12_passes 40 = .ok (.iaload, 1) := by decide +kernel
theorem dX12_passes_41 : decode cX12_passes 41 = .ok (.iastore, 1) := by decide +kernel
theorem dX12_passes_42 : decode cX12_passes 42 = .ok (.aload_n 0, 1) := by decide +kernel
theorem dX12_passes_43 : decode cX12_passes 43 = .ok (.dup, 1) := by decide +kernel
theorem dX12_passes_44 : decode cX12_passes 44 = .ok (.getfield 138, 3) := by decide +kernel
theorem dX12_passes_47 : decode cX12_passes 47 = .ok (.iconst 1, 1) := by decide +kernel
theorem dX12_passes_48 : decode cX12_passes 48 = .ok (.iadd, 1) := by decide +kernel
theorem dX12_passes_49 : decode cX12_passes 49 = .ok (.putfield 138, 3) := by decide +kernel
theorem dX12_passes_52 : decode cX12_passes 52 = .ok (.iinc 2 1, 3) := by decide +kernel
theorem dX12_passes_55 : decode cX12_passes 55 = .ok (.goto (-53), 3) := by decide +kernel
theorem dX12_passes_58 : decode cX12_passes 58 = .ok (.return_, 1) := by decide +kernel
set_option maxRecDepth 100000 in
set_option maxHeartbeats 4000000 in
theorem c_X12_passes {l : Launch} {G : Gx} (hap : k_ap G shR.length) (q : Nat) (n : Nat) (hq : shR[q]? = some (.inl (0, n))) (M0 : Mem) (r : Mem) (hf : f_X12_passes q n M0 = some r) : k_Met l yX12_passes cX12_passes 3 none 0 0 G shR [.ref (G.2.1 0), .ref (G.2.1 q)] M0 (k_Qv G shR r) := by
  refine k_Met_of (by decide) hap (Nat.le_of_ble_eq_true rfl) ?_
  intro p e s m args below meth c C hr hlk
  have C : Cx p s m args c cX12_passes RX12 3 G shR := C
  have k_b2 : ∀ (n2 : Nat) (v2 : Int32) (M : Mem), f_X12_passes_b2 q n n2 v2 M = some r → K p l e (k_rm 0 0) s m args below meth c 3 G shR (MQ below (k_Qv G shR r) args s 0 0 (k_A G shR.length)) 2 [(0, .ref (G.2.1 0)), (1, .ref (G.2.1 q)), (2, .int v2)] [] M := by
    intro n2
    induction n2 with
    | zero => intro v2 M hf; simp [f_X12_passes_b2] at hf
    | succ n2 ih2 =>
      intro v2 M hf
      unfold f_X12_passes_b2 at hf
      refine k_iload_n C dX12_passes_2 2 rfl ?_
      refine k_aload_n C dX12_passes_3 1 rfl ?_
      refine k_alen C hq dX12_passes_4 ?_
      rcases ite_g hf with ⟨c1, hf⟩ | ⟨c1, hf⟩
      · refine k_icmp_ge_t C dX12_passes_5 (tgt := 58) (by decide) c1 ?_
        exact k_vret C hr hlk (Option.some.inj hf) dX12_passes_58
      · refine k_icmp_ge_f C dX12_passes_5 (tgt := 58) (by decide) c1 ?_
        refine k_aload_n C dX12_passes_8 0 rfl ?_
        refine k_geti C shR_0 (j := 18) rfl FL_X12_134 dX12_passes_9 ?_
        rcases ite_g hf with ⟨c2, hf⟩ | ⟨c2, hf⟩
        · refine k_if_eq_t C dX12_passes_12 (tgt := 30) (by decide) c2 ?_
          refine k_aload_n C dX12_passes_30 1 rfl ?_
          refine k_iload_n C dX12_passes_31 2 rfl ?_
          refine k_aload_n C dX12_passes_32 0 rfl ?_
          refine k_getr C shR_0 (j := 16) rfl FL_X12_37 dX12_passes_33 ?_
          refine k_aload_n C dX12_passes_36 0 rfl ?_
          refine k_geti C shR_0 (j := 19) rfl FL_X12_138 dX12_passes_37 ?_
          obtain ⟨t3, ht3, hf⟩ := bnd hf
          refine k_iald C shR_10 ht3 dX12_passes_40 ?_
          obtain ⟨M4, hM4, hf⟩ := bnd hf
          refine k_iast C hq hM4 dX12_passes_41 ?_
          refine k_aload_n C dX12_passes_42 0 rfl ?_
          refine k_dup C dX12_passes_43 rfl ?_
          refine k_geti C shR_0 (j := 19) rfl FL_X12_138 dX12_passes_44 ?_
          refine k_iconst C dX12_passes_47 (v := (1 : Int32)) rfl ?_
          refine k_iadd C dX12_passes_48 ?_
          refine k_put C shR_0 (j := 19) rfl FL_X12_138 FW_X12_19 dX12_passes_49 ?_
          refine k_iinc C dX12_passes_52 2 rfl (v := (v2 + (1 : Int32))) rfl (by decide) [1, 2, 0] (lv' := [(0, .ref (G.2.1 0)), (1, .ref (G.2.1 q)), (2, .int (v2 + (1 : Int32)))]) rfl ?_
          refine k_goto C dX12_passes_55 (tgt := 2) (by decide) ?_
          exact ih2 (v2 + (1 : Int32)) (wI M4 0 19 ((M4.1 0 19) + (1 : Int32))) hf
        · refine k_if_eq_f C dX12_passes_12 (tgt := 30) (by decide) c2 ?_
          refine k_aload_n C dX12_passes_15 0 rfl ?_
          refine k_getr C shR_0 (j := 16) rfl FL_X12_37 dX12_passes_16 ?_
          refine k_aload_n C dX12_passes_19 0 rfl ?_
          refine k_geti C shR_0 (j := 19) rfl FL_X12_138 dX12_passes_20 ?_
          refine k_aload_n C dX12_passes_23 1 rfl ?_
          refine k_iload_n C dX12_passes_24 2 rfl ?_
          obtain ⟨t5, ht5, hf⟩ := bnd hf
          refine k_iald C hq ht5 dX12_passes_25 ?_
          obtain ⟨M6, hM6, hf⟩ := bnd hf
          refine k_iast C shR_10 hM6 dX12_passes_26 ?_
          refine k_goto C dX12_passes_27 (tgt := 42) (by decide) ?_
          refine k_aload_n C dX12_passes_42 0 rfl ?_
          refine k_dup C dX12_passes_43 rfl ?_
          refine k_geti C shR_0 (j := 19) rfl FL_X12_138 dX12_passes_44 ?_
          refine k_iconst C dX12_passes_47 (v := (1 : Int32)) rfl ?_
          refine k_iadd C dX12_passes_48 ?_
          refine k_put C shR_0 (j := 19) rfl FL_X12_138 FW_X12_19 dX12_passes_49 ?_
          refine k_iinc C dX12_passes_52 2 rfl (v := (v2 + (1 : Int32))) rfl (by decide) [1, 2, 0] (lv' := [(0, .ref (G.2.1 0)), (1, .ref (G.2.1 q)), (2, .int (v2 + (1 : Int32)))]) rfl ?_
          refine k_goto C dX12_passes_55 (tgt := 2) (by decide) ?_
          exact ih2 (v2 + (1 : Int32)) (wI M6 0 19 ((M6.1 0 19) + (1 : Int32))) hf
  unfold f_X12_passes at hf
  refine k_lv (lv' := [(0, .ref (G.2.1 0)), (1, .ref (G.2.1 q))]) [0, 1] rfl ?_
  refine k_iconst C dX12_passes_0 (v := (0 : Int32)) rfl ?_
  refine k_istore_n C dX12_passes_1 (by decide) [1, 2, 0] (lv' := [(0, .ref (G.2.1 0)), (1, .ref (G.2.1 q)), (2, .int (0 : Int32))]) rfl ?_
  exact k_b2 FU (0 : Int32) M0 hf
theorem dX12_passOne_0 : decode cX12_passOne 0 = .ok (.aload_n 0, 1) := by decide +kernel
theorem dX12_passOne_1 : decode cX12_passOne 1 = .ok (.getfield 134, 3) := by decide +kernel
theorem dX12_passOne_4 : decode cX12_passOne 4 = .ok (.ifCond .eq 7, 3) := by decide +kernel
theorem dX12_passOne_7 : decode cX12_passOne 7 = .ok (.iload_n 1, 1) := by decide +kernel
theorem dX12_passOne_8 : decode cX12_passOne 8 = .ok (.goto 12, 3) := by decide +kernel
theorem dX12_passOne_11 : decode cX12_passOne 11 = .ok (.aload_n 0, 1) := by decide +kernel
theorem dX12_passOne_12 : decode cX12_passOne 12 = .ok (.getfield 37, 3) := by decide +kernel
theorem dX12_passOne_15 : decode cX12_passOne 15 = .ok (.aload_n 0, 1) := by decide +kernel
theorem dX12_passOne_16 : decode cX12_passOne 16 = .ok (.getfield 138, 3) := by decide +kernel
theorem dX12_passOne_19 : decode cX12_passOne 19 = .ok (.iaload, 1) := by decide +kernel
theorem dX12_passOne_20 : decode cX12_passOne 20 = .ok (.istore_n 2, 1) := by decide +kernel
theorem dX12_passOne_21 : decode cX12_passOne 21 = .ok (.aload_n 0, 1) := by decide +kernel
theorem dX12_passOne_22 : decode cX12_passOne 22 = .ok (.getfield 134, 3) := by decide +kernel
theorem dX12_passOne_25 : decode cX12_passOne 25 = .ok (.ifCond .eq 13, 3) := by decide +kernel
theorem dX12_passOne_28 : decode cX12_passOne 28 = .ok (.aload_n 0, 1) := by decide +kernel
theorem dX12_passOne_29 : decode cX12_passOne 29 = .ok (.getfield 37, 3) := by decide +kernel
theorem dX12_passOne_32 : decode cX12_passOne 32 = .ok (.aload_n 0, 1) := by decide +kernel
theorem dX12_passOne_33 : decode cX12_passOne 33 = .ok (.getfield 138, 3) := by decide +kernel
theorem dX12_passOne_36 : decode cX12_passOne 36 = .ok (.iload_n 1, 1) := by decide +kernel
theorem dX12_passOne_37 : decode cX12_passOne 37 = .ok (.iastore, 1) := by decide +kernel
theorem dX12_passOne_38 : decode cX12_passOne 38 = .ok (.aload_n 0, 1) := by decide +kernel
theorem dX12_passOne_39 : decode cX12_passOne 39 = .ok (.dup, 1) := by decide +kernel
theorem dX12_passOne_40 : decode cX12_passOne 40 = .ok (.getfield 138, 3) := by decide +kernel
theorem dX12_passOne_43 : decode cX12_passOne 43 = .ok (.iconst 1, 1) := by decide +kernel
theorem dX12_passOne_44 : decode cX12_passOne 44 = .ok (.iadd, 1) := by decide +kernel
theorem dX12_passOne_45 : decode cX12_passOne 45 = .ok (.putfield 138, 3) := by decide +kernel
theorem dX12_passOne_48 : decode cX12_passOne 48 = .ok (.iload_n 2, 1) := by decide +kernel
theorem dX12_passOne_49 : decode cX12_passOne 49 = .ok (.ireturn, 1) := by decide +kernel
set_option maxRecDepth 100000 in
set_option maxHeartbeats 4000000 in
theorem c_X12_passOne {l : Launch} {G : Gx} (hap : k_ap G shR.length) (v1 : Int32) (M0 : Mem) (r : Int32 × Mem) (hf : f_X12_passOne v1 M0 = some r) : k_Met l yX12_passOne cX12_passOne 3 (some .int) 0 0 G shR [.ref (G.2.1 0), .int v1] M0 (k_Qi G shR r.1 r.2) := by
  refine k_Met_of (by decide) hap (Nat.le_of_ble_eq_true rfl) ?_
  intro p e s m args below meth c C hr hlk
  have C : Cx p s m args c cX12_passOne RX12 3 G shR := C
  have k_b20 : ∀ (v1 : Int32) (s0 : Int32) (M : Mem), f_X12_passOne_b20 v1 s0 M = some r → K p l e (k_rm 0 0) s m args below meth c 3 G shR (MQ below (k_Qi G shR r.1 r.2) args s 0 0 (k_A G shR.length)) 20 [(0, .ref (G.2.1 0)), (1, .int v1)] [.int s0] M := by
    intro v1 s0 M hf
    unfold f_X12_passOne_b20 at hf
    refine k_istore_n C dX12_passOne_20 (by decide) [1, 2, 0] (lv' := [(0, .ref (G.2.1 0)), (1, .int v1), (2, .int s0)]) rfl ?_
    refine k_aload_n C dX12_passOne_21 0 rfl ?_
    refine k_geti C shR_0 (j := 18) rfl FL_X12_134 dX12_passOne_22 ?_
    rcases ite_g hf with ⟨c3, hf⟩ | ⟨c3, hf⟩
    · refine k_if_eq_t C dX12_passOne_25 (tgt := 38) (by decide) c3 ?_
      refine k_aload_n C dX12_passOne_38 0 rfl ?_
      refine k_dup C dX12_passOne_39 rfl ?_
      refine k_geti C shR_0 (j := 19) rfl FL_X12_138 dX12_passOne_40 ?_
      refine k_iconst C dX12_passOne_43 (v := (1 : Int32)) rfl ?_
      refine k_iadd C dX12_passOne_44 ?_
      refine k_put C shR_0 (j := 19) rfl FL_X12_138 FW_X12_19 dX12_passOne_45 ?_
      refine k_iload_n C dX12_passOne_48 2 rfl ?_
      exact k_iret C hr hlk (prf hf) (prs hf) dX12_passOne_49
    · refine k_if_eq_f C dX12_passOne_25 (tgt := 38) (by decide) c3 ?_
      refine k_aload_n C dX12_passOne_28 0 rfl ?_
      refine k_getr C shR_0 (j := 16) rfl FL_X12_37 dX12_passOne_29 ?_
      refine k_aload_n C dX12_passOne_32 0 rfl ?_
      refine k_geti C shR_0 (j := 19) rfl FL_X12_138 dX12_passOne_33 ?_
      refine k_iload_n C dX12_passOne_36 1 rfl ?_
      obtain ⟨M4, hM4, hf⟩ := bnd hf
      refine k_iast C shR_10 hM4 dX12_passOne_37 ?_
      refine k_aload_n C dX12_passOne_38 0 rfl ?_
      refine k_dup C dX12_passOne_39 rfl ?_
      refine k_geti C shR_0 (j := 19) rfl FL_X12_138 dX12_passOne_40 ?_
      refine k_iconst C dX12_passOne_43 (v := (1 : Int32)) rfl ?_
      refine k_iadd C dX12_passOne_44 ?_
      refine k_put C shR_0 (j := 19) rfl FL_X12_138 FW_X12_19 dX12_passOne_45 ?_
      refine k_iload_n C dX12_passOne_48 2 rfl ?_
      exact k_iret C hr hlk (prf hf) (prs hf) dX12_passOne_49
  unfold f_X12_passOne at hf
  refine k_lv (lv' := [(0, .ref (G.2.1 0)), (1, .int v1)]) [0, 1] rfl ?_
  refine k_aload_n C dX12_passOne_0 0 rfl ?_
  refine k_geti C shR_0 (j := 18) rfl FL_X12_134 dX12_passOne_1 ?_
  rcases ite_g hf with ⟨c1, hf⟩ | ⟨c1, hf⟩
  · refine k_if_eq_t C dX12_passOne_4 (tgt := 11) (by decide) c1 ?_
    refine k_aload_n C dX12_passOne_11 0 rfl ?_
    refine k_getr C shR_0 (j := 16) rfl FL_X12_37 dX12_passOne_12 ?_
    refine k_aload_n C dX12_passOne_15 0 rfl ?_
    refine k_geti C shR_0 (j := 19) rfl FL_X12_138 dX12_passOne_16 ?_
    obtain ⟨t2, ht2, hf⟩ := bnd hf
    refine k_iald C shR_10 ht2 dX12_passOne_19 ?_
    exact k_b20 v1 t2 M0 hf
  · refine k_if_eq_f C dX12_passOne_4 (tgt := 11) (by decide) c1 ?_
    refine k_iload_n C dX12_passOne_7 1 rfl ?_
    refine k_goto C dX12_passOne_8 (tgt := 20) (by decide) ?_
    exact k_b20 v1 v1 M0 hf
theorem dX12_passesAll_0 : decode cX12_passesAll 0 = .ok (.aload_n 0, 1) := by decide +kernel
theorem dX12_passesAll_1 : decode cX12_passesAll 1 = .ok (.bipush 40, 2) := by decide +kernel
theorem dX12_passesAll_3 : decode cX12_passesAll 3 = .ok (.iload_n 1, 1) := by decide +kernel
theorem dX12_passesAll_4 : decode cX12_passesAll 4 = .ok (.imul, 1) := by decide +kernel
theorem dX12_passesAll_5 : decode cX12_passesAll 5 = .ok (.putfield 138, 3) := by decide +kernel
theorem dX12_passesAll_8 : decode cX12_passesAll 8 = .ok (.aload_n 0, 1) := by decide +kernel
theorem dX12_passesAll_9 : decode cX12_passesAll 9 = .ok (.iload_n 2, 1) := by decide +kernel
theorem dX12_passesAll_10 : decode cX12_passesAll 10 = .ok (.putfield 134, 3) := by decide +kernel
theorem dX12_passesAll_13 : decode cX12_passesAll 13 = .ok (.aload_n 0, 1) := by decide +kernel
theorem dX12_passesAll_14 : decode cX12_passesAll 14 = .ok (.aload_n 0, 1) := by decide +kernel
theorem dX12_passesAll_15 : decode cX12_passesAll 15 = .ok (.getfield 13, 3) := by decide +kernel
theorem dX12_passesAll_18 : decode cX12_passesAll 18 = .ok (.invokevirtual 141, 3) := by decide +kernel
theorem dX12_passesAll_21 : decode cX12_passesAll 21 = .ok (.aload_n 0, 1) := by decide +kernel
theorem dX12_passesAll_22 : decode cX12_passesAll 22 = .ok (.aload_n 0, 1) := by decide +kernel
theorem dX12_passesAll_23 : decode cX12_passesAll 23 = .ok (.getfield 16, 3) := by decide +kernel
theorem dX12_passesAll_26 : decode cX12_passesAll 26 = .ok (.invokevirtual 141, 3) := by decide +kernel
theorem dX12_passesAll_29 : decode cX12_passesAll 29 = .ok (.aload_n 0, 1) := by decide +kernel
theorem dX12_passesAll_30 : decode cX12_passesAll 30 = .ok (.aload_n 0, 1) := by decide +kernel
theorem dX12_passesAll_31 : decode cX12_passesAll 31 = .ok (.getfield 19, 3) := by decide +kernel
theorem dX12_passesAll_34 : decode cX12_passesAll 34 = .ok (.invokevirtual 141, 3) := by decide +kernel
theorem dX12_passesAll_37 : decode cX12_passesAll 37 = .ok (.aload_n 0, 1) := by decide +kernel
theorem dX12_passesAll_38 : decode cX12_passesAll 38 = .ok (.aload_n 0, 1) := by decide +kernel
theorem dX12_passesAll_39 : decode cX12_passesAll 39 = .ok (.getfield 22, 3) := by decide +kernel
theorem dX12_passesAll_42 : decode cX12_passesAll 42 = .ok (.invokevirtual 141, 3) := by decide +kernel
theorem dX12_passesAll_45 : decode cX12_passesAll 45 = .ok (.aload_n 0, 1) := by decide +kernel
theorem dX12_passesAll_46 : decode cX12_passesAll 46 = .ok (.aload_n 0, 1) := by decide +kernel
theorem dX12_passesAll_47 : decode cX12_passesAll 47 = .ok (.aload_n 0, 1) := by decide +kernel
theorem dX12_passesAll_48 : decode cX12_passesAll 48 = .ok (.getfield 62, 3) := by decide +kernel
theorem dX12_passesAll_51 : decode cX12_passesAll 51 = .ok (.invokevirtual 145, 3) := by decide +kernel
theorem dX12_passesAll_54 : decode cX12_passesAll 54 = .ok (.putfield 62, 3) := by decide +kernel
theorem dX12_passesAll_57 : decode cX12_passesAll 57 = .ok (.aload_n 0, 1) := by decide +kernel
theorem dX12_passesAll_58 : decode cX12_passesAll 58 = .ok (.aload_n 0, 1) := by decide +kernel
theorem dX12_passesAll_59 : decode cX12_passesAll 59 = .ok (.aload_n 0, 1) := by decide +kernel
theorem dX12_passesAll_60 : decode cX12_passesAll 60 = .ok (.getfield 108, 3) := by decide +kernel
theorem dX12_passesAll_63 : decode cX12_passesAll 63 = .ok (.invokevirtual 145, 3) := by decide +kernel
theorem dX12_passesAll_66 : decode cX12_passesAll 66 = .ok (.putfield 108, 3) := by decide +kernel
theorem dX12_passesAll_69 : decode cX12_passesAll 69 = .ok (.aload_n 0, 1) := by decide +kernel
theorem dX12_passesAll_70 : decode cX12_passesAll 70 = .ok (.aload_n 0, 1) := by decide +kernel
theorem dX12_passesAll_71 : decode cX12_passesAll 71 = .ok (.aload_n 0, 1) := by decide +kernel
theorem dX12_passesAll_72 : decode cX12_passesAll 72 = .ok (.getfield 111, 3) := by decide +kernel
theorem dX12_passesAll_75 : decode cX12_passesAll 75 = .ok (.invokevirtual 145, 3) := by decide +kernel
theorem dX12_passesAll_78 : decode cX12_passesAll 78 = .ok (.putfield 111, 3) := by decide +kernel
theorem dX12_passesAll_81 : decode cX12_passesAll 81 = .ok (.aload_n 0, 1) := by decide +kernel
theorem dX12_passesAll_82 : decode cX12_passesAll 82 = .ok (.aload_n 0, 1) := by decide +kernel
theorem dX12_passesAll_83 : decode cX12_passesAll 83 = .ok (.aload_n 0, 1) := by decide +kernel
theorem dX12_passesAll_84 : decode cX12_passesAll 84 = .ok (.getfield 114, 3) := by decide +kernel
theorem dX12_passesAll_87 : decode cX12_passesAll 87 = .ok (.invokevirtual 145, 3) := by decide +kernel
theorem dX12_passesAll_90 : decode cX12_passesAll 90 = .ok (.putfield 114, 3) := by decide +kernel
theorem dX12_passesAll_93 : decode cX12_passesAll 93 = .ok (.return_, 1) := by decide +kernel
set_option maxRecDepth 100000 in
set_option maxHeartbeats 4000000 in
theorem c_X12_passesAll {l : Launch} {G : Gx} (hap : k_ap G shR.length) (v1 : Int32) (v2 : Int32) (M0 : Mem) (r : Mem) (hf : f_X12_passesAll v1 v2 M0 = some r) : k_Met l yX12_passesAll cX12_passesAll 3 none 1 22 G shR [.ref (G.2.1 0), .int v1, .int v2] M0 (k_Qv G shR r) := by
  refine k_Met_of (by decide) hap (Nat.le_of_ble_eq_true rfl) ?_
  intro p e s m args below meth c C hr hlk
  have C : Cx p s m args c cX12_passesAll RX12 3 G shR := C
  unfold f_X12_passesAll at hf
  refine k_lv (lv' := [(0, .ref (G.2.1 0)), (1, .int v1), (2, .int v2)]) [0, 1, 2] rfl ?_
  refine k_aload_n C dX12_passesAll_0 0 rfl ?_
  refine k_bipush C dX12_passesAll_1 (v := (40 : Int32)) rfl ?_
  refine k_iload_n C dX12_passesAll_3 1 rfl ?_
  refine k_imul C dX12_passesAll_4 ?_
  refine k_put C shR_0 (j := 19) rfl FL_X12_138 FW_X12_19 dX12_passesAll_5 ?_
  refine k_aload_n C dX12_passesAll_8 0 rfl ?_
  refine k_iload_n C dX12_passesAll_9 2 rfl ?_
  obtain ⟨t1, ht1, hf⟩ := bnd hf
  refine k_putZ C shR_0 (j := 18) rfl FL_X12_134 FW_X12_18 ht1 dX12_passesAll_10 ?_
  refine k_aload_n C dX12_passesAll_13 0 rfl ?_
  refine k_aload_n C dX12_passesAll_14 0 rfl ?_
  refine k_getr C shR_0 (j := 1) rfl FL_X12_13 dX12_passesAll_15 ?_
  obtain ⟨M2, hM2, hf⟩ := bnd hf
  refine k_callVv C (As := [.ref (G.2.1 2)]) (c_X12_passes hap 2 8 shR_2 (wI (wI M0 0 19 ((40 : Int32) * v1)) 0 18 t1) M2 hM2) ML_X12_passes wd_1400 shR_0 rfl rfl rfl ⟨Nat.le_of_ble_eq_true rfl, Nat.le_of_ble_eq_true rfl⟩ (Nat.le_of_ble_eq_true rfl) dX12_passesAll_18 ?_
  refine k_aload_n C dX12_passesAll_21 0 rfl ?_
  refine k_aload_n C dX12_passesAll_22 0 rfl ?_
  refine k_getr C shR_0 (j := 2) rfl FL_X12_16 dX12_passesAll_23 ?_
  obtain ⟨M3, hM3, hf⟩ := bnd hf
  refine k_callVv C (As := [.ref (G.2.1 3)]) (c_X12_passes hap 3 8 shR_3 M2 M3 hM3) ML_X12_passes wd_1400 shR_0 rfl rfl rfl ⟨Nat.le_of_ble_eq_true rfl, Nat.le_of_ble_eq_true rfl⟩ (Nat.le_of_ble_eq_true rfl) dX12_passesAll_26 ?_
  refine k_aload_n C dX12_passesAll_29 0 rfl ?_
  refine k_aload_n C dX12_passesAll_30 0 rfl ?_
  refine k_getr C shR_0 (j := 3) rfl FL_X12_19 dX12_passesAll_31 ?_
  obtain ⟨M4, hM4, hf⟩ := bnd hf
  refine k_callVv C (As := [.ref (G.2.1 4)]) (c_X12_passes hap 4 8 shR_4 M3 M4 hM4) ML_X12_passes wd_1400 shR_0 rfl rfl rfl ⟨Nat.le_of_ble_eq_true rfl, Nat.le_of_ble_eq_true rfl⟩ (Nat.le_of_ble_eq_true rfl) dX12_passesAll_34 ?_
  refine k_aload_n C dX12_passesAll_37 0 rfl ?_
  refine k_aload_n C dX12_passesAll_38 0 rfl ?_
  refine k_getr C shR_0 (j := 4) rfl FL_X12_22 dX12_passesAll_39 ?_
  obtain ⟨M5, hM5, hf⟩ := bnd hf
  refine k_callVv C (As := [.ref (G.2.1 5)]) (c_X12_passes hap 5 12 shR_5 M4 M5 hM5) ML_X12_passes wd_1400 shR_0 rfl rfl rfl ⟨Nat.le_of_ble_eq_true rfl, Nat.le_of_ble_eq_true rfl⟩ (Nat.le_of_ble_eq_true rfl) dX12_passesAll_42 ?_
  refine k_aload_n C dX12_passesAll_45 0 rfl ?_
  refine k_aload_n C dX12_passesAll_46 0 rfl ?_
  refine k_aload_n C dX12_passesAll_47 0 rfl ?_
  refine k_geti C shR_0 (j := 5) rfl FL_X12_62 dX12_passesAll_48 ?_
  obtain ⟨⟨t6, M6⟩, ht6, hf⟩ := bnd hf
  replace hf := bp_s hf
  refine k_callVi C (As := [.int (M5.1 0 5)]) (c_X12_passOne hap (M5.1 0 5) M5 (t6, M6) ht6) ML_X12_passOne wd_1404 shR_0 rfl rfl rfl ⟨Nat.le_of_ble_eq_true rfl, Nat.le_of_ble_eq_true rfl⟩ (Nat.le_of_ble_eq_true rfl) dX12_passesAll_51 ?_
  refine k_put C shR_0 (j := 5) rfl FL_X12_62 FW_X12_5 dX12_passesAll_54 ?_
  refine k_aload_n C dX12_passesAll_57 0 rfl ?_
  refine k_aload_n C dX12_passesAll_58 0 rfl ?_
  refine k_aload_n C dX12_passesAll_59 0 rfl ?_
  refine k_geti C shR_0 (j := 6) rfl FL_X12_108 dX12_passesAll_60 ?_
  obtain ⟨⟨t7, M7⟩, ht7, hf⟩ := bnd hf
  replace hf := bp_s hf
  refine k_callVi C (As := [.int ((wI M6 0 5 t6).1 0 6)]) (c_X12_passOne hap ((wI M6 0 5 t6).1 0 6) (wI M6 0 5 t6) (t7, M7) ht7) ML_X12_passOne wd_1404 shR_0 rfl rfl rfl ⟨Nat.le_of_ble_eq_true rfl, Nat.le_of_ble_eq_true rfl⟩ (Nat.le_of_ble_eq_true rfl) dX12_passesAll_63 ?_
  refine k_put C shR_0 (j := 6) rfl FL_X12_108 FW_X12_6 dX12_passesAll_66 ?_
  refine k_aload_n C dX12_passesAll_69 0 rfl ?_
  refine k_aload_n C dX12_passesAll_70 0 rfl ?_
  refine k_aload_n C dX12_passesAll_71 0 rfl ?_
  refine k_geti C shR_0 (j := 7) rfl FL_X12_111 dX12_passesAll_72 ?_
  obtain ⟨⟨t8, M8⟩, ht8, hf⟩ := bnd hf
  replace hf := bp_s hf
  refine k_callVi C (As := [.int ((wI M7 0 6 t7).1 0 7)]) (c_X12_passOne hap ((wI M7 0 6 t7).1 0 7) (wI M7 0 6 t7) (t8, M8) ht8) ML_X12_passOne wd_1404 shR_0 rfl rfl rfl ⟨Nat.le_of_ble_eq_true rfl, Nat.le_of_ble_eq_true rfl⟩ (Nat.le_of_ble_eq_true rfl) dX12_passesAll_75 ?_
  refine k_put C shR_0 (j := 7) rfl FL_X12_111 FW_X12_7 dX12_passesAll_78 ?_
  refine k_aload_n C dX12_passesAll_81 0 rfl ?_
  refine k_aload_n C dX12_passesAll_82 0 rfl ?_
  refine k_aload_n C dX12_passesAll_83 0 rfl ?_
  refine k_geti C shR_0 (j := 8) rfl FL_X12_114 dX12_passesAll_84 ?_
  obtain ⟨⟨t9, M9⟩, ht9, hf⟩ := bnd hf
  replace hf := bp_s hf
  refine k_callVi C (As := [.int ((wI M8 0 7 t8).1 0 8)]) (c_X12_passOne hap ((wI M8 0 7 t8).1 0 8) (wI M8 0 7 t8) (t9, M9) ht9) ML_X12_passOne wd_1404 shR_0 rfl rfl rfl ⟨Nat.le_of_ble_eq_true rfl, Nat.le_of_ble_eq_true rfl⟩ (Nat.le_of_ble_eq_true rfl) dX12_passesAll_87 ?_
  refine k_put C shR_0 (j := 8) rfl FL_X12_114 FW_X12_8 dX12_passesAll_90 ?_
  exact k_vret C hr hlk (Option.some.inj hf) dX12_passesAll_93
theorem dX12_state_0 : decode cX12_state 0 = .ok (.aload_n 0, 1) := by decide +kernel
theorem dX12_state_1 : decode cX12_state 1 = .ok (.iconst 0, 1) := by decide +kernel
theorem dX12_state_2 : decode cX12_state 2 = .ok (.putfield 79, 3) := by decide +kernel
theorem dX12_state_5 : decode cX12_state 5 = .ok (.aload_n 0, 1) := by decide +kernel
theorem dX12_state_6 : decode cX12_state 6 = .ok (.iconst 0, 1) := by decide +kernel
theorem dX12_state_7 : decode cX12_state 7 = .ok (.putfield 94, 3) := by decide +kernel
theorem dX12_state_10 : decode cX12_state 10 = .ok (.iconst 1, 1) := by decide +kernel
theorem dX12_state_11 : decode cX12_state 11 = .ok (.istore_n 1, 1) := by decide +kernel
theorem dX12_state_12 : decode cX12_state 12 = .ok (.iload_n 1, 1) := by decide +kernel
theorem dX12_state_13 : decode cX12_state 13 = .ok (.ifCond .eq 47, 3) := by decide +kernel
theorem dX12_state_16 : decode cX12_state 16 = .ok (.aload_n 0, 1) := by decide +kernel
theorem dX12_state_17 : decode cX12_state 17 = .ok (.getfield 79, 3) := by decide +kernel
theorem dX12_state_20 : decode cX12_state 20 = .ok (.aload_n 0, 1) := by decide +kernel
theorem dX12_state_21 : decode cX12_state 21 = .ok (.getfield 72, 3) := by decide +kernel
theorem dX12_state_24 : decode cX12_state 24 = .ok (.if_icmp .lt 10, 3) := by decide +kernel
theorem dX12_state_27 : decode cX12_state 27 = .ok (.aload_n 0, 1) := by decide +kernel
theorem dX12_state_28 : decode cX12_state 28 = .ok (.getfield 94, 3) := by decide +kernel
theorem dX12_state_31 : decode cX12_state 31 = .ok (.ifCond .ne 29, 3) := by decide +kernel
theorem dX12_state_34 : decode cX12_state 34 = .ok (.aload_n 0, 1) := by decide +kernel
theorem dX12_state_35 : decode cX12_state 35 = .ok (.invokevirtual 120, 3) := by decide +kernel
theorem dX12_state_38 : decode cX12_state 38 = .ok (.istore_n 1, 1) := by decide +kernel
theorem dX12_state_39 : decode cX12_state 39 = .ok (.aload_n 0, 1) := by decide +kernel
theorem dX12_state_40 : decode cX12_state 40 = .ok (.dup, 1) := by decide +kernel
theorem dX12_state_41 : decode cX12_state 41 = .ok (.getfield 94, 3) := by decide +kernel
theorem dX12_state_44 : decode cX12_state 44 = .ok (.iload_n 1, 1) := by decide +kernel
theorem dX12_state_45 : decode cX12_state 45 = .ok (.ifCond .eq 7, 3) := by decide +kernel
theorem dX12_state_48 : decode cX12_state 48 = .ok (.iconst 1, 1) := by decide +kernel
theorem dX12_state_49 : decode cX12_state 49 = .ok (.goto 4, 3) := by decide +kernel
theorem dX12_state_52 : decode cX12_state 52 = .ok (.iconst 0, 1) := by decide +kernel
theorem dX12_state_53 : decode cX12_state 53 = .ok (.iadd, 1) := by decide +kernel
theorem dX12_state_54 : decode cX12_state 54 = .ok (.putfield 94, 3) := by decide +kernel
theorem dX12_state_57 : decode cX12_state 57 = .ok (.goto (-45), 3) := by decide +kernel
theorem dX12_state_60 : decode cX12_state 60 = .ok (.aload_n 0, 1) := by decide +kernel
theorem dX12_state_61 : decode cX12_state 61 = .ok (.iconst 0, 1) := by decide +kernel
theorem dX12_state_62 : decode cX12_state 62 = .ok (.putfield 72, 3) := by decide +kernel
theorem dX12_state_65 : decode cX12_state 65 = .ok (.iload_n 1, 1) := by decide +kernel
theorem dX12_state_66 : decode cX12_state 66 = .ok (.ifCond .ne 12, 3) := by decide +kernel
theorem dX12_state_69 : decode cX12_state 69 = .ok (.sipush (-1000), 3) := by decide +kernel
theorem dX12_state_72 : decode cX12_state 72 = .ok (.aload_n 0, 1) := by decide +kernel
theorem dX12_state_73 : decode cX12_state 73 = .ok (.getfield 79, 3) := by decide +kernel
theorem dX12_state_76 : decode cX12_state 76 = .ok (.isub, 1) := by decide +kernel
theorem dX12_state_77 : decode cX12_state 77 = .ok (.ireturn, 1) := by decide +kernel
theorem dX12_state_78 : decode cX12_state 78 = .ok (.aload_n 0, 1) := by decide +kernel
theorem dX12_state_79 : decode cX12_state 79 = .ok (.iconst 1, 1) := by decide +kernel
theorem dX12_state_80 : decode cX12_state 80 = .ok (.iconst 1, 1) := by decide +kernel
theorem dX12_state_81 : decode cX12_state 81 = .ok (.invokevirtual 124, 3) := by decide +kernel
theorem dX12_state_84 : decode cX12_state 84 = .ok (.iconst 0, 1) := by decide +kernel
theorem dX12_state_85 : decode cX12_state 85 = .ok (.istore_n 2, 1) := by decide +kernel
theorem dX12_state_86 : decode cX12_state 86 = .ok (.iload_n 2, 1) := by decide +kernel
theorem dX12_state_87 : decode cX12_state 87 = .ok (.aload_n 0, 1) := by decide +kernel
theorem dX12_state_88 : decode cX12_state 88 = .ok (.getfield 94, 3) := by decide +kernel
theorem dX12_state_91 : decode cX12_state 91 = .ok (.if_icmp .ge 37, 3) := by decide +kernel
theorem dX12_state_94 : decode cX12_state 94 = .ok (.aload_n 0, 1) := by decide +kernel
theorem dX12_state_95 : decode cX12_state 95 = .ok (.iload_n 2, 1) := by decide +kernel
theorem dX12_state_96 : decode cX12_state 96 = .ok (.invokevirtual 128, 3) := by decide +kernel
theorem dX12_state_99 : decode cX12_state 99 = .ok (.ifCond .eq 6, 3) := by decide +kernel
theorem dX12_state_102 : decode cX12_state 102 = .ok (.goto 20, 3) := by decide +kernel
theorem dX12_state_105 : decode cX12_state 105 = .ok (.aload_n 0, 1) := by decide +kernel
theorem dX12_state_106 : decode cX12_state 106 = .ok (.iconst 1, 1) := by decide +kernel
theorem dX12_state_107 : decode cX12_state 107 = .ok (.iconst 0, 1) := by decide +kernel
theorem dX12_state_108 : decode cX12_state 108 = .ok (.invokevirtual 124, 3) := by decide +kernel
theorem dX12_state_111 : decode cX12_state 111 = .ok (.sipush (-2000), 3) := by decide +kernel
theorem dX12_state_114 : decode cX12_state 114 = .ok (.aload_n 0, 1) := by decide +kernel
theorem dX12_state_115 : decode cX12_state 115 = .ok (.getfield 31, 3) := by decide +kernel
theorem dX12_state_118 : decode cX12_state 118 = .ok (.iload_n 2, 1) := by decide +kernel
theorem dX12_state_119 : decode cX12_state 119 = .ok (.iaload, 1) := by decide +kernel
theorem dX12_state_120 : decode cX12_state 120 = .ok (.isub, 1) := by decide +kernel
theorem dX12_state_121 : decode cX12_state 121 = .ok (.ireturn, 1) := by decide +kernel
theorem dX12_state_122 : decode cX12_state 122 = .ok (.iinc 2 1, 3) := by decide +kernel
theorem dX12_state_125 : decode cX12_state 125 = .ok (.goto (-39), 3) := by decide +kernel
theorem dX12_state_128 : decode cX12_state 128 = .ok (.aload_n 0, 1) := by decide +kernel
theorem dX12_state_129 : decode cX12_state 129 = .ok (.iconst 0, 1) := by decide +kernel
theorem dX12_state_130 : decode cX12_state 130 = .ok (.putfield 131, 3) := by decide +kernel
theorem dX12_state_133 : decode cX12_state 133 = .ok (.aload_n 0, 1) := by decide +kernel
theorem dX12_state_134 : decode cX12_state 134 = .ok (.getfield 94, 3) := by decide +kernel
theorem dX12_state_137 : decode cX12_state 137 = .ok (.ireturn, 1) := by decide +kernel
set_option maxRecDepth 100000 in
set_option maxHeartbeats 4000000 in
theorem c_X12_state {l : Launch} {G : Gx} (hap : k_ap G shR.length) (M0 : Mem) (r : Int32 × Mem) (hf : f_X12_state M0 = some r) : k_Met l yX12_state cX12_state 3 (some .int) 4 89 G shR [.ref (G.2.1 0)] M0 (k_Qi G shR r.1 r.2) := by
  refine k_Met_of (by decide) hap (Nat.le_of_ble_eq_true rfl) ?_
  intro p e s m args below meth c C hr hlk
  have C : Cx p s m args c cX12_state RX12 3 G shR := C
  have k_b86 : ∀ (n86 : Nat) (v2 : Int32) (M : Mem), f_X12_state_b86 n86 v2 M = some r → K p l e (k_rm 4 89) s m args below meth c 3 G shR (MQ below (k_Qi G shR r.1 r.2) args s 0 0 (k_A G shR.length)) 86 [(0, .ref (G.2.1 0)), (2, .int v2)] [] M := by
    intro n86
    induction n86 with
    | zero => intro v2 M hf; simp [f_X12_state_b86] at hf
    | succ n86 ih86 =>
      intro v2 M hf
      unfold f_X12_state_b86 at hf
      refine k_iload_n C dX12_state_86 1 rfl ?_
      refine k_aload_n C dX12_state_87 0 rfl ?_
      refine k_geti C shR_0 (j := 15) rfl FL_X12_94 dX12_state_88 ?_
      rcases ite_g hf with ⟨c5, hf⟩ | ⟨c5, hf⟩
      · refine k_icmp_ge_t C dX12_state_91 (tgt := 128) (by decide) c5 ?_
        refine k_aload_n C dX12_state_128 0 rfl ?_
        refine k_iconst C dX12_state_129 (v := (0 : Int32)) rfl ?_
        refine k_put C shR_0 (j := 20) rfl FL_X12_131 FW_X12_20 dX12_state_130 ?_
        refine k_aload_n C dX12_state_133 0 rfl ?_
        refine k_geti C shR_0 (j := 15) rfl FL_X12_94 dX12_state_134 ?_
        exact k_iret C hr hlk (prf hf) (prs hf) dX12_state_137
      · refine k_icmp_ge_f C dX12_state_91 (tgt := 128) (by decide) c5 ?_
        refine k_aload_n C dX12_state_94 0 rfl ?_
        refine k_iload_n C dX12_state_95 1 rfl ?_
        obtain ⟨⟨t6, M6⟩, ht6, hf⟩ := bnd hf
        replace hf := bp_s hf
        refine k_callVi C (As := [.int v2]) (c_X12_comes hap v2 M (t6, M6) ht6) ML_X12_comes wd_1408 shR_0 rfl rfl rfl ⟨Nat.le_of_ble_eq_true rfl, Nat.le_of_ble_eq_true rfl⟩ (Nat.le_of_ble_eq_true rfl) dX12_state_96 ?_
        rcases ite_g hf with ⟨c7, hf⟩ | ⟨c7, hf⟩
        · refine k_if_eq_t C dX12_state_99 (tgt := 105) (by decide) c7 ?_
          refine k_aload_n C dX12_state_105 0 rfl ?_
          refine k_iconst C dX12_state_106 (v := (1 : Int32)) rfl ?_
          refine k_iconst C dX12_state_107 (v := (0 : Int32)) rfl ?_
          obtain ⟨M8, hM8, hf⟩ := bnd hf
          refine k_callVv C (As := [.int (1 : Int32), .int (0 : Int32)]) (c_X12_passesAll hap (1 : Int32) (0 : Int32) M6 M8 hM8) ML_X12_passesAll wd_1396 shR_0 rfl rfl rfl ⟨Nat.le_of_ble_eq_true rfl, Nat.le_of_ble_eq_true rfl⟩ (Nat.le_of_ble_eq_true rfl) dX12_state_108 ?_
          refine k_sipush C dX12_state_111 (v := (-2000 : Int32)) rfl ?_
          refine k_aload_n C dX12_state_114 0 rfl ?_
          refine k_getr C shR_0 (j := 11) rfl FL_X12_31 dX12_state_115 ?_
          refine k_iload_n C dX12_state_118 1 rfl ?_
          obtain ⟨t9, ht9, hf⟩ := bnd hf
          refine k_iald C shR_8 ht9 dX12_state_119 ?_
          refine k_isub C dX12_state_120 ?_
          exact k_iret C hr hlk (prf hf) (prs hf) dX12_state_121
        · refine k_if_eq_f C dX12_state_99 (tgt := 105) (by decide) c7 ?_
          refine k_goto C dX12_state_102 (tgt := 122) (by decide) ?_
          refine k_iinc C dX12_state_122 1 rfl (v := (v2 + (1 : Int32))) rfl (by decide) [1, 0] (lv' := [(0, .ref (G.2.1 0)), (2, .int (v2 + (1 : Int32)))]) rfl ?_
          refine k_goto C dX12_state_125 (tgt := 86) (by decide) ?_
          exact ih86 (v2 + (1 : Int32)) M6 hf
  have k_b60 : ∀ (v1 : Int32) (M : Mem), f_X12_state_b60 v1 M = some r → K p l e (k_rm 4 89) s m args below meth c 3 G shR (MQ below (k_Qi G shR r.1 r.2) args s 0 0 (k_A G shR.length)) 60 [(0, .ref (G.2.1 0)), (1, .int v1)] [] M := by
    intro v1 M hf
    unfold f_X12_state_b60 at hf
    refine k_aload_n C dX12_state_60 0 rfl ?_
    refine k_iconst C dX12_state_61 (v := (0 : Int32)) rfl ?_
    refine k_put C shR_0 (j := 13) rfl FL_X12_72 FW_X12_13 dX12_state_62 ?_
    refine k_iload_n C dX12_state_65 1 rfl ?_
    rcases ite_g hf with ⟨c3, hf⟩ | ⟨c3, hf⟩
    · refine k_if_ne_f C dX12_state_66 (tgt := 78) (by decide) c3 ?_
      refine k_sipush C dX12_state_69 (v := (-1000 : Int32)) rfl ?_
      refine k_aload_n C dX12_state_72 0 rfl ?_
      refine k_geti C shR_0 (j := 14) rfl FL_X12_79 dX12_state_73 ?_
      refine k_isub C dX12_state_76 ?_
      exact k_iret C hr hlk (prf hf) (prs hf) dX12_state_77
    · refine k_if_ne_t C dX12_state_66 (tgt := 78) (by decide) c3 ?_
      refine k_aload_n C dX12_state_78 0 rfl ?_
      refine k_iconst C dX12_state_79 (v := (1 : Int32)) rfl ?_
      refine k_iconst C dX12_state_80 (v := (1 : Int32)) rfl ?_
      obtain ⟨M4, hM4, hf⟩ := bnd hf
      refine k_callVv C (As := [.int (1 : Int32), .int (1 : Int32)]) (c_X12_passesAll hap (1 : Int32) (1 : Int32) (wI M 0 13 (0 : Int32)) M4 hM4) ML_X12_passesAll wd_1396 shR_0 rfl rfl rfl ⟨Nat.le_of_ble_eq_true rfl, Nat.le_of_ble_eq_true rfl⟩ (Nat.le_of_ble_eq_true rfl) dX12_state_81 ?_
      refine k_iconst C dX12_state_84 (v := (0 : Int32)) rfl ?_
      refine k_istore_n C dX12_state_85 (by decide) [1, 0] (lv' := [(0, .ref (G.2.1 0)), (2, .int (0 : Int32))]) rfl ?_
      exact k_b86 FU (0 : Int32) M4 hf
  have k_b12 : ∀ (n12 : Nat) (v1 : Int32) (M : Mem), f_X12_state_b12 n12 v1 M = some r → K p l e (k_rm 4 89) s m args below meth c 3 G shR (MQ below (k_Qi G shR r.1 r.2) args s 0 0 (k_A G shR.length)) 12 [(0, .ref (G.2.1 0)), (1, .int v1)] [] M := by
    intro n12
    induction n12 with
    | zero => intro v1 M hf; simp [f_X12_state_b12] at hf
    | succ n12 ih12 =>
      have k_b34 : ∀ (M : Mem), f_X12_state_b34 (f_X12_state_b12 n12) M = some r → K p l e (k_rm 4 89) s m args below meth c 3 G shR (MQ below (k_Qi G shR r.1 r.2) args s 0 0 (k_A G shR.length)) 34 [(0, .ref (G.2.1 0))] [] M := by
        intro M hf
        unfold f_X12_state_b34 at hf
        refine k_aload_n C dX12_state_34 0 rfl ?_
        obtain ⟨⟨t12, M12⟩, ht12, hf⟩ := bnd hf
        replace hf := bp_s hf
        refine k_callVi C (As := []) (c_X12_statement hap M (t12, M12) ht12) ML_X12_statement wd_1377 shR_0 rfl rfl rfl ⟨Nat.le_of_ble_eq_true rfl, Nat.le_of_ble_eq_true rfl⟩ (Nat.le_of_ble_eq_true rfl) dX12_state_35 ?_
        refine k_istore_n C dX12_state_38 (by decide) [1, 0] (lv' := [(0, .ref (G.2.1 0)), (1, .int t12)]) rfl ?_
        refine k_aload_n C dX12_state_39 0 rfl ?_
        refine k_dup C dX12_state_40 rfl ?_
        refine k_geti C shR_0 (j := 15) rfl FL_X12_94 dX12_state_41 ?_
        refine k_iload_n C dX12_state_44 1 rfl ?_
        have hj13 : K p l e (k_rm 4 89) s m args below meth c 3 G shR (MQ below (k_Qi G shR r.1 r.2) args s 0 0 (k_A G shR.length)) 53 [(0, .ref (G.2.1 0)), (1, .int t12)] [.int (if t12 = 0 then (0 : Int32) else (1 : Int32)), .int (M12.1 0 15), .ref (G.2.1 0)] M12 := by
          refine k_iadd C dX12_state_53 ?_
          refine k_put C shR_0 (j := 15) rfl FL_X12_94 FW_X12_15 dX12_state_54 ?_
          refine k_goto C dX12_state_57 (tgt := 12) (by decide) ?_
          exact ih12 t12 (wI M12 0 15 ((M12.1 0 15) + (if t12 = 0 then (0 : Int32) else (1 : Int32)))) hf
        by_cases c14 : t12 = 0
        · refine k_if_eq_t C dX12_state_45 (tgt := 52) (by decide) c14 ?_
          refine k_iconst C dX12_state_52 (v := (0 : Int32)) rfl ?_
          exact k_val (by rw [if_pos c14]) hj13
        · refine k_if_eq_f C dX12_state_45 (tgt := 52) (by decide) c14 ?_
          refine k_iconst C dX12_state_48 (v := (1 : Int32)) rfl ?_
          refine k_goto C dX12_state_49 (tgt := 53) (by decide) ?_
          exact k_val (by rw [if_neg c14]) hj13
      intro v1 M hf
      unfold f_X12_state_b12 at hf
      refine k_iload_n C dX12_state_12 1 rfl ?_
      rcases ite_g hf with ⟨c2, hf⟩ | ⟨c2, hf⟩
      · refine k_if_eq_t C dX12_state_13 (tgt := 60) (by decide) c2 ?_
        exact k_b60 v1 M hf
      · refine k_if_eq_f C dX12_state_13 (tgt := 60) (by decide) c2 ?_
        refine k_aload_n C dX12_state_16 0 rfl ?_
        refine k_geti C shR_0 (j := 14) rfl FL_X12_79 dX12_state_17 ?_
        refine k_aload_n C dX12_state_20 0 rfl ?_
        refine k_geti C shR_0 (j := 13) rfl FL_X12_72 dX12_state_21 ?_
        rcases ite_g hf with ⟨c11, hf⟩ | ⟨c11, hf⟩
        · refine k_icmp_lt_t C dX12_state_24 (tgt := 34) (by decide) c11 ?_
          refine k_lv [0] rfl ?_
          exact k_b34 M hf
        · refine k_icmp_lt_f C dX12_state_24 (tgt := 34) (by decide) c11 ?_
          refine k_aload_n C dX12_state_27 0 rfl ?_
          refine k_geti C shR_0 (j := 15) rfl FL_X12_94 dX12_state_28 ?_
          rcases ite_g hf with ⟨c16, hf⟩ | ⟨c16, hf⟩
          · refine k_if_ne_f C dX12_state_31 (tgt := 60) (by decide) c16 ?_
            refine k_lv [0] rfl ?_
            exact k_b34 M hf
          · refine k_if_ne_t C dX12_state_31 (tgt := 60) (by decide) c16 ?_
            exact k_b60 v1 M hf
  unfold f_X12_state at hf
  refine k_lv (lv' := [(0, .ref (G.2.1 0))]) [0] rfl ?_
  refine k_aload_n C dX12_state_0 0 rfl ?_
  refine k_iconst C dX12_state_1 (v := (0 : Int32)) rfl ?_
  refine k_put C shR_0 (j := 14) rfl FL_X12_79 FW_X12_14 dX12_state_2 ?_
  refine k_aload_n C dX12_state_5 0 rfl ?_
  refine k_iconst C dX12_state_6 (v := (0 : Int32)) rfl ?_
  refine k_put C shR_0 (j := 15) rfl FL_X12_94 FW_X12_15 dX12_state_7 ?_
  refine k_iconst C dX12_state_10 (v := (1 : Int32)) rfl ?_
  refine k_istore_n C dX12_state_11 (by decide) [1, 0] (lv' := [(0, .ref (G.2.1 0)), (1, .int (1 : Int32))]) rfl ?_
  exact k_b12 FU (1 : Int32) (wI (wI M0 0 14 (0 : Int32)) 0 15 (0 : Int32)) hf
theorem dX12_thinks_0 : decode cX12_thinks 0 = .ok (.aload_n 0, 1) := by decide +kernel
theorem dX12_thinks_1 : decode cX12_thinks 1 = .ok (.iconst 2, 1) := by decide +kernel
theorem dX12_thinks_2 : decode cX12_thinks 2 = .ok (.iconst 1, 1) := by decide +kernel
theorem dX12_thinks_3 : decode cX12_thinks 3 = .ok (.invokevirtual 124, 3) := by decide +kernel
theorem dX12_thinks_6 : decode cX12_thinks 6 = .ok (.return_, 1) := by decide +kernel
set_option maxRecDepth 100000 in
set_option maxHeartbeats 4000000 in
theorem c_X12_thinks {l : Launch} {G : Gx} (hap : k_ap G shR.length) (M0 : Mem) (r : Mem) (hf : f_X12_thinks M0 = some r) : k_Met l yX12_thinks cX12_thinks 1 none 2 44 G shR [.ref (G.2.1 0)] M0 (k_Qv G shR r) := by
  refine k_Met_of (by decide) hap (Nat.le_of_ble_eq_true rfl) ?_
  intro p e s m args below meth c C hr hlk
  have C : Cx p s m args c cX12_thinks RX12 1 G shR := C
  unfold f_X12_thinks at hf
  refine k_lv (lv' := [(0, .ref (G.2.1 0))]) [0] rfl ?_
  refine k_aload_n C dX12_thinks_0 0 rfl ?_
  refine k_iconst C dX12_thinks_1 (v := (2 : Int32)) rfl ?_
  refine k_iconst C dX12_thinks_2 (v := (1 : Int32)) rfl ?_
  obtain ⟨M1, hM1, hf⟩ := bnd hf
  refine k_callVv C (As := [.int (2 : Int32), .int (1 : Int32)]) (c_X12_passesAll hap (2 : Int32) (1 : Int32) M0 M1 hM1) ML_X12_passesAll wd_1396 shR_0 rfl rfl rfl ⟨Nat.le_of_ble_eq_true rfl, Nat.le_of_ble_eq_true rfl⟩ (Nat.le_of_ble_eq_true rfl) dX12_thinks_3 ?_
  exact k_vret C hr hlk (Option.some.inj hf) dX12_thinks_6
theorem dX12_forgets_0 : decode cX12_forgets 0 = .ok (.aload_n 0, 1) := by decide +kernel
theorem dX12_forgets_1 : decode cX12_forgets 1 = .ok (.iconst 2, 1) := by decide +kernel
theorem dX12_forgets_2 : decode cX12_forgets 2 = .ok (.iconst 0, 1) := by decide +kernel
theorem dX12_forgets_3 : decode cX12_forgets 3 = .ok (.invokevirtual 124, 3) := by decide +kernel
theorem dX12_forgets_6 : decode cX12_forgets 6 = .ok (.return_, 1) := by decide +kernel
set_option maxRecDepth 100000 in
set_option maxHeartbeats 4000000 in
theorem c_X12_forgets {l : Launch} {G : Gx} (hap : k_ap G shR.length) (M0 : Mem) (r : Mem) (hf : f_X12_forgets M0 = some r) : k_Met l yX12_forgets cX12_forgets 1 none 2 44 G shR [.ref (G.2.1 0)] M0 (k_Qv G shR r) := by
  refine k_Met_of (by decide) hap (Nat.le_of_ble_eq_true rfl) ?_
  intro p e s m args below meth c C hr hlk
  have C : Cx p s m args c cX12_forgets RX12 1 G shR := C
  unfold f_X12_forgets at hf
  refine k_lv (lv' := [(0, .ref (G.2.1 0))]) [0] rfl ?_
  refine k_aload_n C dX12_forgets_0 0 rfl ?_
  refine k_iconst C dX12_forgets_1 (v := (2 : Int32)) rfl ?_
  refine k_iconst C dX12_forgets_2 (v := (0 : Int32)) rfl ?_
  obtain ⟨M1, hM1, hf⟩ := bnd hf
  refine k_callVv C (As := [.int (2 : Int32), .int (0 : Int32)]) (c_X12_passesAll hap (2 : Int32) (0 : Int32) M0 M1 hM1) ML_X12_passesAll wd_1396 shR_0 rfl rfl rfl ⟨Nat.le_of_ble_eq_true rfl, Nat.le_of_ble_eq_true rfl⟩ (Nat.le_of_ble_eq_true rfl) dX12_forgets_3 ?_
  exact k_vret C hr hlk (Option.some.inj hf) dX12_forgets_6
theorem dX12_keepsBack_0 : decode cX12_keepsBack 0 = .ok (.aload_n 0, 1) := by decide +kernel
theorem dX12_keepsBack_1 : decode cX12_keepsBack 1 = .ok (.getfield 131, 3) := by decide +kernel
theorem dX12_keepsBack_4 : decode cX12_keepsBack 4 = .ok (.bipush 8, 2) := by decide +kernel
theorem dX12_keepsBack_6 : decode cX12_keepsBack 6 = .ok (.if_icmp .ne 44, 3) := by decide +kernel
theorem dX12_keepsBack_9 : decode cX12_keepsBack 9 = .ok (.bipush 120, 2) := by decide +kernel
theorem dX12_keepsBack_11 : decode cX12_keepsBack 11 = .ok (.istore_n 1, 1) := by decide +kernel
theorem dX12_keepsBack_12 : decode cX12_keepsBack 12 = .ok (.iload_n 1, 1) := by decide +kernel
theorem dX12_keepsBack_13 : decode cX12_keepsBack 13 = .ok (.sipush 400, 3) := by decide +kernel
theorem dX12_keepsBack_16 : decode cX12_keepsBack 16 = .ok (.if_icmp .ge 24, 3) := by decide +kernel
theorem dX12_keepsBack_19 : decode cX12_keepsBack 19 = .ok (.aload_n 0, 1) := by decide +kernel
theorem dX12_keepsBack_20 : decode cX12_keepsBack 20 = .ok (.getfield 37, 3) := by decide +kernel
theorem dX12_keepsBack_23 : decode cX12_keepsBack 23 = .ok (.iload_n 1, 1) := by decide +kernel
theorem dX12_keepsBack_24 : decode cX12_keepsBack 24 = .ok (.aload_n 0, 1) := by decide +kernel
theorem dX12_keepsBack_25 : decode cX12_keepsBack 25 = .ok (.getfield 37, 3) := by decide +kernel
theorem dX12_keepsBack_28 : decode cX12_keepsBack 28 = .ok (.iload_n 1, 1) := by decide +kernel
theorem dX12_keepsBack_29 : decode cX12_keepsBack 29 = .ok (.bipush 40, 2) := by decide +kernel
theorem dX12_keepsBack_31 : decode cX12_keepsBack 31 = .ok (.iadd, 1) := by decide +kernel
theorem dX12_keepsBack_32 : decode cX12_keepsBack 32 = .ok (.iaload, 1) := by decide +kernel
theorem dX12_keepsBack_33 : decode cX12_keepsBack 33 = .ok (.iastore, 1) := by decide +kernel
theorem dX12_keepsBack_34 : decode cX12_keepsBack 34 = .ok (.iinc 1 1, 3) := by decide +kernel
theorem dX12_keepsBack_37 : decode cX12_keepsBack 37 = .ok (.goto (-25), 3) := by decide +kernel
theorem dX12_keepsBack_40 : decode cX12_keepsBack 40 = .ok (.aload_n 0, 1) := by decide +kernel
theorem dX12_keepsBack_41 : decode cX12_keepsBack 41 = .ok (.dup, 1) := by decide +kernel
theorem dX12_keepsBack_42 : decode cX12_keepsBack 42 = .ok (.getfield 131, 3) := by decide +kernel
theorem dX12_keepsBack_45 : decode cX12_keepsBack 45 = .ok (.iconst 1, 1) := by decide +kernel
theorem dX12_keepsBack_46 : decode cX12_keepsBack 46 = .ok (.isub, 1) := by decide +kernel
theorem dX12_keepsBack_47 : decode cX12_keepsBack 47 = .ok (.putfield 131, 3) := by decide +kernel
theorem dX12_keepsBack_50 : decode cX12_keepsBack 50 = .ok (.aload_n 0, 1) := by decide +kernel
theorem dX12_keepsBack_51 : decode cX12_keepsBack 51 = .ok (.iconst 3, 1) := by decide +kernel
theorem dX12_keepsBack_52 : decode cX12_keepsBack 52 = .ok (.aload_n 0, 1) := by decide +kernel
theorem dX12_keepsBack_53 : decode cX12_keepsBack 53 = .ok (.getfield 131, 3) := by decide +kernel
theorem dX12_keepsBack_56 : decode cX12_keepsBack 56 = .ok (.iadd, 1) := by decide +kernel
theorem dX12_keepsBack_57 : decode cX12_keepsBack 57 = .ok (.iconst 1, 1) := by decide +kernel
theorem dX12_keepsBack_58 : decode cX12_keepsBack 58 = .ok (.invokevirtual 124, 3) := by decide +kernel
theorem dX12_keepsBack_61 : decode cX12_keepsBack 61 = .ok (.aload_n 0, 1) := by decide +kernel
theorem dX12_keepsBack_62 : decode cX12_keepsBack 62 = .ok (.dup, 1) := by decide +kernel
theorem dX12_keepsBack_63 : decode cX12_keepsBack 63 = .ok (.getfield 131, 3) := by decide +kernel
theorem dX12_keepsBack_66 : decode cX12_keepsBack 66 = .ok (.iconst 1, 1) := by decide +kernel
theorem dX12_keepsBack_67 : decode cX12_keepsBack 67 = .ok (.iadd, 1) := by decide +kernel
theorem dX12_keepsBack_68 : decode cX12_keepsBack 68 = .ok (.putfield 131, 3) := by decide +kernel
theorem dX12_keepsBack_71 : decode cX12_keepsBack 71 = .ok (.return_, 1) := by decide +kernel
set_option maxRecDepth 100000 in
set_option maxHeartbeats 4000000 in
theorem c_X12_keepsBack {l : Launch} {G : Gx} (hap : k_ap G shR.length) (M0 : Mem) (r : Mem) (hf : f_X12_keepsBack M0 = some r) : k_Met l yX12_keepsBack cX12_keepsBack 2 none 2 44 G shR [.ref (G.2.1 0)] M0 (k_Qv G shR r) := by
  refine k_Met_of (by decide) hap (Nat.le_of_ble_eq_true rfl) ?_
  intro p e s m args below meth c C hr hlk
  have C : Cx p s m args c cX12_keepsBack RX12 2 G shR := C
  have k_b12 : ∀ (n12 : Nat) (v1 : Int32) (M : Mem), f_X12_keepsBack_b12 n12 v1 M = some r → K p l e (k_rm 2 44) s m args below meth c 2 G shR (MQ below (k_Qv G shR r) args s 0 0 (k_A G shR.length)) 12 [(0, .ref (G.2.1 0)), (1, .int v1)] [] M := by
    intro n12
    induction n12 with
    | zero => intro v1 M hf; simp [f_X12_keepsBack_b12] at hf
    | succ n12 ih12 =>
      intro v1 M hf
      unfold f_X12_keepsBack_b12 at hf
      refine k_iload_n C dX12_keepsBack_12 1 rfl ?_
      refine k_sipush C dX12_keepsBack_13 (v := (400 : Int32)) rfl ?_
      rcases ite_g hf with ⟨c3, hf⟩ | ⟨c3, hf⟩
      · refine k_icmp_ge_t C dX12_keepsBack_16 (tgt := 40) (by decide) c3 ?_
        refine k_aload_n C dX12_keepsBack_40 0 rfl ?_
        refine k_dup C dX12_keepsBack_41 rfl ?_
        refine k_geti C shR_0 (j := 20) rfl FL_X12_131 dX12_keepsBack_42 ?_
        refine k_iconst C dX12_keepsBack_45 (v := (1 : Int32)) rfl ?_
        refine k_isub C dX12_keepsBack_46 ?_
        refine k_put C shR_0 (j := 20) rfl FL_X12_131 FW_X12_20 dX12_keepsBack_47 ?_
        refine k_aload_n C dX12_keepsBack_50 0 rfl ?_
        refine k_iconst C dX12_keepsBack_51 (v := (3 : Int32)) rfl ?_
        refine k_aload_n C dX12_keepsBack_52 0 rfl ?_
        refine k_geti C shR_0 (j := 20) rfl FL_X12_131 dX12_keepsBack_53 ?_
        refine k_iadd C dX12_keepsBack_56 ?_
        refine k_iconst C dX12_keepsBack_57 (v := (1 : Int32)) rfl ?_
        obtain ⟨M4, hM4, hf⟩ := bnd hf
        refine k_callVv C (As := [.int ((3 : Int32) + ((wI M 0 20 ((M.1 0 20) - (1 : Int32))).1 0 20)), .int (1 : Int32)]) (c_X12_passesAll hap ((3 : Int32) + ((wI M 0 20 ((M.1 0 20) - (1 : Int32))).1 0 20)) (1 : Int32) (wI M 0 20 ((M.1 0 20) - (1 : Int32))) M4 hM4) ML_X12_passesAll wd_1396 shR_0 rfl rfl rfl ⟨Nat.le_of_ble_eq_true rfl, Nat.le_of_ble_eq_true rfl⟩ (Nat.le_of_ble_eq_true rfl) dX12_keepsBack_58 ?_
        refine k_aload_n C dX12_keepsBack_61 0 rfl ?_
        refine k_dup C dX12_keepsBack_62 rfl ?_
        refine k_geti C shR_0 (j := 20) rfl FL_X12_131 dX12_keepsBack_63 ?_
        refine k_iconst C dX12_keepsBack_66 (v := (1 : Int32)) rfl ?_
        refine k_iadd C dX12_keepsBack_67 ?_
        refine k_put C shR_0 (j := 20) rfl FL_X12_131 FW_X12_20 dX12_keepsBack_68 ?_
        exact k_vret C hr hlk (Option.some.inj hf) dX12_keepsBack_71
      · refine k_icmp_ge_f C dX12_keepsBack_16 (tgt := 40) (by decide) c3 ?_
        refine k_aload_n C dX12_keepsBack_19 0 rfl ?_
        refine k_getr C shR_0 (j := 16) rfl FL_X12_37 dX12_keepsBack_20 ?_
        refine k_iload_n C dX12_keepsBack_23 1 rfl ?_
        refine k_aload_n C dX12_keepsBack_24 0 rfl ?_
        refine k_getr C shR_0 (j := 16) rfl FL_X12_37 dX12_keepsBack_25 ?_
        refine k_iload_n C dX12_keepsBack_28 1 rfl ?_
        refine k_bipush C dX12_keepsBack_29 (v := (40 : Int32)) rfl ?_
        refine k_iadd C dX12_keepsBack_31 ?_
        obtain ⟨t5, ht5, hf⟩ := bnd hf
        refine k_iald C shR_10 ht5 dX12_keepsBack_32 ?_
        obtain ⟨M6, hM6, hf⟩ := bnd hf
        refine k_iast C shR_10 hM6 dX12_keepsBack_33 ?_
        refine k_iinc C dX12_keepsBack_34 1 rfl (v := (v1 + (1 : Int32))) rfl (by decide) [1, 0] (lv' := [(0, .ref (G.2.1 0)), (1, .int (v1 + (1 : Int32)))]) rfl ?_
        refine k_goto C dX12_keepsBack_37 (tgt := 12) (by decide) ?_
        exact ih12 (v1 + (1 : Int32)) M6 hf
  unfold f_X12_keepsBack at hf
  refine k_lv (lv' := [(0, .ref (G.2.1 0))]) [0] rfl ?_
  refine k_aload_n C dX12_keepsBack_0 0 rfl ?_
  refine k_geti C shR_0 (j := 20) rfl FL_X12_131 dX12_keepsBack_1 ?_
  refine k_bipush C dX12_keepsBack_4 (v := (8 : Int32)) rfl ?_
  rcases ite_g hf with ⟨c1, hf⟩ | ⟨c1, hf⟩
  · refine k_icmp_ne_f C dX12_keepsBack_6 (tgt := 50) (by decide) c1 ?_
    refine k_bipush C dX12_keepsBack_9 (v := (120 : Int32)) rfl ?_
    refine k_istore_n C dX12_keepsBack_11 (by decide) [1, 0] (lv' := [(0, .ref (G.2.1 0)), (1, .int (120 : Int32))]) rfl ?_
    exact k_b12 FU (120 : Int32) M0 hf
  · refine k_icmp_ne_t C dX12_keepsBack_6 (tgt := 50) (by decide) c1 ?_
    refine k_aload_n C dX12_keepsBack_50 0 rfl ?_
    refine k_iconst C dX12_keepsBack_51 (v := (3 : Int32)) rfl ?_
    refine k_aload_n C dX12_keepsBack_52 0 rfl ?_
    refine k_geti C shR_0 (j := 20) rfl FL_X12_131 dX12_keepsBack_53 ?_
    refine k_iadd C dX12_keepsBack_56 ?_
    refine k_iconst C dX12_keepsBack_57 (v := (1 : Int32)) rfl ?_
    obtain ⟨M2, hM2, hf⟩ := bnd hf
    refine k_callVv C (As := [.int ((3 : Int32) + (M0.1 0 20)), .int (1 : Int32)]) (c_X12_passesAll hap ((3 : Int32) + (M0.1 0 20)) (1 : Int32) M0 M2 hM2) ML_X12_passesAll wd_1396 shR_0 rfl rfl rfl ⟨Nat.le_of_ble_eq_true rfl, Nat.le_of_ble_eq_true rfl⟩ (Nat.le_of_ble_eq_true rfl) dX12_keepsBack_58 ?_
    refine k_aload_n C dX12_keepsBack_61 0 rfl ?_
    refine k_dup C dX12_keepsBack_62 rfl ?_
    refine k_geti C shR_0 (j := 20) rfl FL_X12_131 dX12_keepsBack_63 ?_
    refine k_iconst C dX12_keepsBack_66 (v := (1 : Int32)) rfl ?_
    refine k_iadd C dX12_keepsBack_67 ?_
    refine k_put C shR_0 (j := 20) rfl FL_X12_131 FW_X12_20 dX12_keepsBack_68 ?_
    exact k_vret C hr hlk (Option.some.inj hf) dX12_keepsBack_71
theorem dX12_back_0 : decode cX12_back 0 = .ok (.aload_n 0, 1) := by decide +kernel
theorem dX12_back_1 : decode cX12_back 1 = .ok (.getfield 131, 3) := by decide +kernel
theorem dX12_back_4 : decode cX12_back 4 = .ok (.ifCond .ne 10, 3) := by decide +kernel
theorem dX12_back_7 : decode cX12_back 7 = .ok (.aload_n 0, 1) := by decide +kernel
theorem dX12_back_8 : decode cX12_back 8 = .ok (.bipush (-3), 2) := by decide +kernel
theorem dX12_back_10 : decode cX12_back 10 = .ok (.invokevirtual 75, 3) := by decide +kernel
theorem dX12_back_13 : decode cX12_back 13 = .ok (.ireturn, 1) := by decide +kernel
theorem dX12_back_14 : decode cX12_back 14 = .ok (.aload_n 0, 1) := by decide +kernel
theorem dX12_back_15 : decode cX12_back 15 = .ok (.dup, 1) := by decide +kernel
theorem dX12_back_16 : decode cX12_back 16 = .ok (.getfield 131, 3) := by decide +kernel
theorem dX12_back_19 : decode cX12_back 19 = .ok (.iconst 1, 1) := by decide +kernel
theorem dX12_back_20 : decode cX12_back 20 = .ok (.isub, 1) := by decide +kernel
theorem dX12_back_21 : decode cX12_back 21 = .ok (.putfield 131, 3) := by decide +kernel
theorem dX12_back_24 : decode cX12_back 24 = .ok (.aload_n 0, 1) := by decide +kernel
theorem dX12_back_25 : decode cX12_back 25 = .ok (.iconst 3, 1) := by decide +kernel
theorem dX12_back_26 : decode cX12_back 26 = .ok (.aload_n 0, 1) := by decide +kernel
theorem dX12_back_27 : decode cX12_back 27 = .ok (.getfield 131, 3) := by decide +kernel
theorem dX12_back_30 : decode cX12_back 30 = .ok (.iadd, 1) := by decide +kernel
theorem dX12_back_31 : decode cX12_back 31 = .ok (.iconst 0, 1) := by decide +kernel
theorem dX12_back_32 : decode cX12_back 32 = .ok (.invokevirtual 124, 3) := by decide +kernel
theorem dX12_back_35 : decode cX12_back 35 = .ok (.aload_n 0, 1) := by decide +kernel
theorem dX12_back_36 : decode cX12_back 36 = .ok (.getfield 131, 3) := by decide +kernel
theorem dX12_back_39 : decode cX12_back 39 = .ok (.ireturn, 1) := by decide +kernel
set_option maxRecDepth 100000 in
set_option maxHeartbeats 4000000 in
theorem c_X12_back {l : Launch} {G : Gx} (hap : k_ap G shR.length) (M0 : Mem) (r : Int32 × Mem) (hf : f_X12_back M0 = some r) : k_Met l yX12_back cX12_back 1 (some .int) 2 44 G shR [.ref (G.2.1 0)] M0 (k_Qi G shR r.1 r.2) := by
  refine k_Met_of (by decide) hap (Nat.le_of_ble_eq_true rfl) ?_
  intro p e s m args below meth c C hr hlk
  have C : Cx p s m args c cX12_back RX12 1 G shR := C
  unfold f_X12_back at hf
  refine k_lv (lv' := [(0, .ref (G.2.1 0))]) [0] rfl ?_
  refine k_aload_n C dX12_back_0 0 rfl ?_
  refine k_geti C shR_0 (j := 20) rfl FL_X12_131 dX12_back_1 ?_
  rcases ite_g hf with ⟨c1, hf⟩ | ⟨c1, hf⟩
  · refine k_if_ne_f C dX12_back_4 (tgt := 14) (by decide) c1 ?_
    refine k_aload_n C dX12_back_7 0 rfl ?_
    refine k_bipush C dX12_back_8 (v := (-3 : Int32)) rfl ?_
    obtain ⟨⟨t3, M3⟩, ht3, hf⟩ := bnd hf
    replace hf := bp_s hf
    refine k_callVi C (As := [.int (-3 : Int32)]) (c_X12_no hap (-3 : Int32) M0 (t3, M3) ht3) ML_X12_no wd_1369 shR_0 rfl rfl rfl ⟨Nat.le_of_ble_eq_true rfl, Nat.le_of_ble_eq_true rfl⟩ (Nat.le_of_ble_eq_true rfl) dX12_back_10 ?_
    exact k_iret C hr hlk (prf hf) (prs hf) dX12_back_13
  · refine k_if_ne_t C dX12_back_4 (tgt := 14) (by decide) c1 ?_
    refine k_aload_n C dX12_back_14 0 rfl ?_
    refine k_dup C dX12_back_15 rfl ?_
    refine k_geti C shR_0 (j := 20) rfl FL_X12_131 dX12_back_16 ?_
    refine k_iconst C dX12_back_19 (v := (1 : Int32)) rfl ?_
    refine k_isub C dX12_back_20 ?_
    refine k_put C shR_0 (j := 20) rfl FL_X12_131 FW_X12_20 dX12_back_21 ?_
    refine k_aload_n C dX12_back_24 0 rfl ?_
    refine k_iconst C dX12_back_25 (v := (3 : Int32)) rfl ?_
    refine k_aload_n C dX12_back_26 0 rfl ?_
    refine k_geti C shR_0 (j := 20) rfl FL_X12_131 dX12_back_27 ?_
    refine k_iadd C dX12_back_30 ?_
    refine k_iconst C dX12_back_31 (v := (0 : Int32)) rfl ?_
    obtain ⟨M2, hM2, hf⟩ := bnd hf
    refine k_callVv C (As := [.int ((3 : Int32) + ((wI M0 0 20 ((M0.1 0 20) - (1 : Int32))).1 0 20)), .int (0 : Int32)]) (c_X12_passesAll hap ((3 : Int32) + ((wI M0 0 20 ((M0.1 0 20) - (1 : Int32))).1 0 20)) (0 : Int32) (wI M0 0 20 ((M0.1 0 20) - (1 : Int32))) M2 hM2) ML_X12_passesAll wd_1396 shR_0 rfl rfl rfl ⟨Nat.le_of_ble_eq_true rfl, Nat.le_of_ble_eq_true rfl⟩ (Nat.le_of_ble_eq_true rfl) dX12_back_32 ?_
    refine k_aload_n C dX12_back_35 0 rfl ?_
    refine k_geti C shR_0 (j := 20) rfl FL_X12_131 dX12_back_36 ?_
    exact k_iret C hr hlk (prf hf) (prs hf) dX12_back_39
theorem dX12_image_0 : decode cX12_image 0 = .ok (.aload_n 0, 1) := by decide +kernel
theorem dX12_image_1 : decode cX12_image 1 = .ok (.iconst 1, 1) := by decide +kernel
theorem dX12_image_2 : decode cX12_image 2 = .ok (.putfield 148, 3) := by decide +kernel
theorem dX12_image_5 : decode cX12_image 5 = .ok (.aload_n 0, 1) := by decide +kernel
theorem dX12_image_6 : decode cX12_image 6 = .ok (.iconst 0, 1) := by decide +kernel
theorem dX12_image_7 : decode cX12_image 7 = .ok (.iconst 1, 1) := by decide +kernel
theorem dX12_image_8 : decode cX12_image 8 = .ok (.invokevirtual 124, 3) := by decide +kernel
theorem dX12_image_11 : decode cX12_image 11 = .ok (.aload_n 0, 1) := by decide +kernel
theorem dX12_image_12 : decode cX12_image 12 = .ok (.getfield 108, 3) := by decide +kernel
theorem dX12_image_15 : decode cX12_image 15 = .ok (.ireturn, 1) := by decide +kernel
set_option maxRecDepth 100000 in
set_option maxHeartbeats 4000000 in
theorem c_X12_image {l : Launch} {G : Gx} (hap : k_ap G shR.length) (M0 : Mem) (r : Int32 × Mem) (hf : f_X12_image M0 = some r) : k_Met l yX12_image cX12_image 1 (some .int) 2 44 G shR [.ref (G.2.1 0)] M0 (k_Qi G shR r.1 r.2) := by
  refine k_Met_of (by decide) hap (Nat.le_of_ble_eq_true rfl) ?_
  intro p e s m args below meth c C hr hlk
  have C : Cx p s m args c cX12_image RX12 1 G shR := C
  unfold f_X12_image at hf
  refine k_lv (lv' := [(0, .ref (G.2.1 0))]) [0] rfl ?_
  refine k_aload_n C dX12_image_0 0 rfl ?_
  refine k_iconst C dX12_image_1 (v := (1 : Int32)) rfl ?_
  refine k_putZ C shR_0 (j := 17) rfl FL_X12_148 FW_X12_17 gZ1 dX12_image_2 ?_
  refine k_aload_n C dX12_image_5 0 rfl ?_
  refine k_iconst C dX12_image_6 (v := (0 : Int32)) rfl ?_
  refine k_iconst C dX12_image_7 (v := (1 : Int32)) rfl ?_
  obtain ⟨M1, hM1, hf⟩ := bnd hf
  refine k_callVv C (As := [.int (0 : Int32), .int (1 : Int32)]) (c_X12_passesAll hap (0 : Int32) (1 : Int32) (wI M0 0 17 (1 : Int32)) M1 hM1) ML_X12_passesAll wd_1396 shR_0 rfl rfl rfl ⟨Nat.le_of_ble_eq_true rfl, Nat.le_of_ble_eq_true rfl⟩ (Nat.le_of_ble_eq_true rfl) dX12_image_8 ?_
  refine k_aload_n C dX12_image_11 0 rfl ?_
  refine k_geti C shR_0 (j := 6) rfl FL_X12_108 dX12_image_12 ?_
  exact k_iret C hr hlk (prf hf) (prs hf) dX12_image_15
theorem dX12_restore_0 : decode cX12_restore 0 = .ok (.aload_n 0, 1) := by decide +kernel
theorem dX12_restore_1 : decode cX12_restore 1 = .ok (.getfield 148, 3) := by decide +kernel
theorem dX12_restore_4 : decode cX12_restore 4 = .ok (.ifCond .ne 10, 3) := by decide +kernel
theorem dX12_restore_7 : decode cX12_restore 7 = .ok (.aload_n 0, 1) := by decide +kernel
theorem dX12_restore_8 : decode cX12_restore 8 = .ok (.bipush (-3), 2) := by decide +kernel
theorem dX12_restore_10 : decode cX12_restore 10 = .ok (.invokevirtual 75, 3) := by decide +kernel
theorem dX12_restore_13 : decode cX12_restore 13 = .ok (.ireturn, 1) := by decide +kernel
theorem dX12_restore_14 : decode cX12_restore 14 = .ok (.aload_n 0, 1) := by decide +kernel
theorem dX12_restore_15 : decode cX12_restore 15 = .ok (.iconst 0, 1) := by decide +kernel
theorem dX12_restore_16 : decode cX12_restore 16 = .ok (.iconst 0, 1) := by decide +kernel
theorem dX12_restore_17 : decode cX12_restore 17 = .ok (.invokevirtual 124, 3) := by decide +kernel
theorem dX12_restore_20 : decode cX12_restore 20 = .ok (.aload_n 0, 1) := by decide +kernel
theorem dX12_restore_21 : decode cX12_restore 21 = .ok (.iconst 0, 1) := by decide +kernel
theorem dX12_restore_22 : decode cX12_restore 22 = .ok (.putfield 131, 3) := by decide +kernel
theorem dX12_restore_25 : decode cX12_restore 25 = .ok (.aload_n 0, 1) := by decide +kernel
theorem dX12_restore_26 : decode cX12_restore 26 = .ok (.getfield 108, 3) := by decide +kernel
theorem dX12_restore_29 : decode cX12_restore 29 = .ok (.ireturn, 1) := by decide +kernel
set_option maxRecDepth 100000 in
set_option maxHeartbeats 4000000 in
theorem c_X12_restore {l : Launch} {G : Gx} (hap : k_ap G shR.length) (M0 : Mem) (r : Int32 × Mem) (hf : f_X12_restore M0 = some r) : k_Met l yX12_restore cX12_restore 1 (some .int) 2 44 G shR [.ref (G.2.1 0)] M0 (k_Qi G shR r.1 r.2) := by
  refine k_Met_of (by decide) hap (Nat.le_of_ble_eq_true rfl) ?_
  intro p e s m args below meth c C hr hlk
  have C : Cx p s m args c cX12_restore RX12 1 G shR := C
  unfold f_X12_restore at hf
  refine k_lv (lv' := [(0, .ref (G.2.1 0))]) [0] rfl ?_
  refine k_aload_n C dX12_restore_0 0 rfl ?_
  refine k_geti C shR_0 (j := 17) rfl FL_X12_148 dX12_restore_1 ?_
  rcases ite_g hf with ⟨c1, hf⟩ | ⟨c1, hf⟩
  · refine k_if_ne_f C dX12_restore_4 (tgt := 14) (by decide) c1 ?_
    refine k_aload_n C dX12_restore_7 0 rfl ?_
    refine k_bipush C dX12_restore_8 (v := (-3 : Int32)) rfl ?_
    obtain ⟨⟨t3, M3⟩, ht3, hf⟩ := bnd hf
    replace hf := bp_s hf
    refine k_callVi C (As := [.int (-3 : Int32)]) (c_X12_no hap (-3 : Int32) M0 (t3, M3) ht3) ML_X12_no wd_1369 shR_0 rfl rfl rfl ⟨Nat.le_of_ble_eq_true rfl, Nat.le_of_ble_eq_true rfl⟩ (Nat.le_of_ble_eq_true rfl) dX12_restore_10 ?_
    exact k_iret C hr hlk (prf hf) (prs hf) dX12_restore_13
  · refine k_if_ne_t C dX12_restore_4 (tgt := 14) (by decide) c1 ?_
    refine k_aload_n C dX12_restore_14 0 rfl ?_
    refine k_iconst C dX12_restore_15 (v := (0 : Int32)) rfl ?_
    refine k_iconst C dX12_restore_16 (v := (0 : Int32)) rfl ?_
    obtain ⟨M2, hM2, hf⟩ := bnd hf
    refine k_callVv C (As := [.int (0 : Int32), .int (0 : Int32)]) (c_X12_passesAll hap (0 : Int32) (0 : Int32) M0 M2 hM2) ML_X12_passesAll wd_1396 shR_0 rfl rfl rfl ⟨Nat.le_of_ble_eq_true rfl, Nat.le_of_ble_eq_true rfl⟩ (Nat.le_of_ble_eq_true rfl) dX12_restore_17 ?_
    refine k_aload_n C dX12_restore_20 0 rfl ?_
    refine k_iconst C dX12_restore_21 (v := (0 : Int32)) rfl ?_
    refine k_put C shR_0 (j := 20) rfl FL_X12_131 FW_X12_20 dX12_restore_22 ?_
    refine k_aload_n C dX12_restore_25 0 rfl ?_
    refine k_geti C shR_0 (j := 6) rfl FL_X12_108 dX12_restore_26 ?_
    exact k_iret C hr hlk (prf hf) (prs hf) dX12_restore_29
theorem dX12_areSame_0 : decode cX12_areSame 0 = .ok (.iload_n 1, 1) := by decide +kernel
theorem dX12_areSame_1 : decode cX12_areSame 1 = .ok (.iload_n 2, 1) := by decide +kernel
theorem dX12_areSame_2 : decode cX12_areSame 2 = .ok (.if_icmp .ne 5, 3) := by decide +kernel
theorem dX12_areSame_5 : decode cX12_areSame 5 = .ok (.iconst 1, 1) := by decide +kernel
theorem dX12_areSame_6 : decode cX12_areSame 6 = .ok (.ireturn, 1) := by decide +kernel
theorem dX12_areSame_7 : decode cX12_areSame 7 = .ok (.aload_n 0, 1) := by decide +kernel
theorem dX12_areSame_8 : decode cX12_areSame 8 = .ok (.getfield 111, 3) := by decide +kernel
theorem dX12_areSame_11 : decode cX12_areSame 11 = .ok (.tableswitch 96 0 2 #[25, 46, 67], 25) := by decide +kernel
theorem dX12_areSame_36 : decode cX12_areSame 36 = .ok (.aload_n 0, 1) := by decide +kernel
theorem dX12_areSame_37 : decode cX12_areSame 37 = .ok (.getfield 19, 3) := by decide +kernel
theorem dX12_areSame_40 : decode cX12_areSame 40 = .ok (.iload_n 1, 1) := by decide +kernel
theorem dX12_areSame_41 : decode cX12_areSame 41 = .ok (.iaload, 1) := by decide +kernel
theorem dX12_areSame_42 : decode cX12_areSame 42 = .ok (.aload_n 0, 1) := by decide +kernel
theorem dX12_areSame_43 : decode cX12_areSame 43 = .ok (.getfield 19, 3) := by decide +kernel
theorem dX12_areSame_46 : decode cX12_areSame 46 = .ok (.iload_n 2, 1) := by decide +kernel
theorem dX12_areSame_47 : decode cX12_areSame 47 = .ok (.iaload, 1) := by decide +kernel
theorem dX12_areSame_48 : decode cX12_areSame 48 = .ok (.if_icmp .ne 7, 3) := by decide +kernel
theorem dX12_areSame_51 : decode cX12_areSame 51 = .ok (.iconst 1, 1) := by decide +kernel
theorem dX12_areSame_52 : decode cX12_areSame 52 = .ok (.goto 4, 3) := by decide +kernel
theorem dX12_areSame_55 : decode cX12_areSame 55 = .ok (.iconst 0, 1) := by decide +kernel
theorem dX12_areSame_56 : decode cX12_areSame 56 = .ok (.ireturn, 1) := by decide +kernel
theorem dX12_areSame_57 : decode cX12_areSame 57 = .ok (.aload_n 0, 1) := by decide +kernel
theorem dX12_areSame_58 : decode cX12_areSame 58 = .ok (.getfield 13, 3) := by decide +kernel
theorem dX12_areSame_61 : decode cX12_areSame 61 = .ok (.iload_n 1, 1) := by decide +kernel
theorem dX12_areSame_62 : decode cX12_areSame 62 = .ok (.iaload, 1) := by decide +kernel
theorem dX12_areSame_63 : decode cX12_areSame 63 = .ok (.aload_n 0, 1) := by decide +kernel
theorem dX12_areSame_64 : decode cX12_areSame 64 = .ok (.getfield 13, 3) := by decide +kernel
theorem dX12_areSame_67 : decode cX12_areSame 67 = .ok (.iload_n 2, 1) := by decide +kernel
theorem dX12_areSame_68 : decode cX12_areSame 68 = .ok (.iaload, 1) := by decide +kernel
theorem dX12_areSame_69 : decode cX12_areSame 69 = .ok (.if_icmp .ne 7, 3) := by decide +kernel
theorem dX12_areSame_72 : decode cX12_areSame 72 = .ok (.iconst 1, 1) := by decide +kernel
theorem dX12_areSame_73 : decode cX12_areSame 73 = .ok (.goto 4, 3) := by decide +kernel
theorem dX12_areSame_76 : decode cX12_areSame 76 = .ok (.iconst 0, 1) := by decide +kernel
theorem dX12_areSame_77 : decode cX12_areSame 77 = .ok (.ireturn, 1) := by decide +kernel
theorem dX12_areSame_78 : decode cX12_areSame 78 = .ok (.aload_n 0, 1) := by decide +kernel
theorem dX12_areSame_79 : decode cX12_areSame 79 = .ok (.getfield 19, 3) := by decide +kernel
theorem dX12_areSame_82 : decode cX12_areSame 82 = .ok (.iload_n 1, 1) := by decide +kernel
theorem dX12_areSame_83 : decode cX12_areSame 83 = .ok (.iaload, 1) := by decide +kernel
theorem dX12_areSame_84 : decode cX12_areSame 84 = .ok (.aload_n 0, 1) := by decide +kernel
theorem dX12_areSame_85 : decode cX12_areSame 85 = .ok (.getfield 19, 3) := by decide +kernel
theorem dX12_areSame_88 : decode cX12_areSame 88 = .ok (.iload_n 2, 1) := by decide +kernel
theorem dX12_areSame_89 : decode cX12_areSame 89 = .ok (.iaload, 1) := by decide +kernel
theorem dX12_areSame_90 : decode cX12_areSame 90 = .ok (.iand, 1) := by decide +kernel
theorem dX12_areSame_91 : decode cX12_areSame 91 = .ok (.invokestatic 151, 3) := by decide +kernel
theorem dX12_areSame_94 : decode cX12_areSame 94 = .ok (.aload_n 0, 1) := by decide +kernel
theorem dX12_areSame_95 : decode cX12_areSame 95 = .ok (.getfield 114, 3) := by decide +kernel
theorem dX12_areSame_98 : decode cX12_areSame 98 = .ok (.if_icmp .lt 7, 3) := by decide +kernel
theorem dX12_areSame_101 : decode cX12_areSame 101 = .ok (.iconst 1, 1) := by decide +kernel
theorem dX12_areSame_102 : decode cX12_areSame 102 = .ok (.goto 4, 3) := by decide +kernel
theorem dX12_areSame_105 : decode cX12_areSame 105 = .ok (.iconst 0, 1) := by decide +kernel
theorem dX12_areSame_106 : decode cX12_areSame 106 = .ok (.ireturn, 1) := by decide +kernel
theorem dX12_areSame_107 : decode cX12_areSame 107 = .ok (.aload_n 0, 1) := by decide +kernel
theorem dX12_areSame_108 : decode cX12_areSame 108 = .ok (.getfield 19, 3) := by decide +kernel
theorem dX12_areSame_111 : decode cX12_areSame 111 = .ok (.iload_n 1, 1) := by decide +kernel
theorem dX12_areSame_112 : decode cX12_areSame 112 = .ok (.iaload, 1) := by decide +kernel
theorem dX12_areSame_113 : decode cX12_areSame 113 = .ok (.aload_n 0, 1) := by decide +kernel
theorem dX12_areSame_114 : decode cX12_areSame 114 = .ok (.getfield 19, 3) := by decide +kernel
theorem dX12_areSame_117 : decode cX12_areSame 117 = .ok (.iload_n 2, 1) := by decide +kernel
theorem dX12_areSame_118 : decode cX12_areSame 118 = .ok (.iaload, 1) := by decide +kernel
theorem dX12_areSame_119 : decode cX12_areSame 119 = .ok (.ixor, 1) := by decide +kernel
theorem dX12_areSame_120 : decode cX12_areSame 120 = .ok (.invokestatic 151, 3) := by decide +kernel
theorem dX12_areSame_123 : decode cX12_areSame 123 = .ok (.aload_n 0, 1) := by decide +kernel
theorem dX12_areSame_124 : decode cX12_areSame 124 = .ok (.getfield 114, 3) := by decide +kernel
theorem dX12_areSame_127 : decode cX12_areSame 127 = .ok (.if_icmp .gt 7, 3) := by decide +kernel
theorem dX12_areSame_130 : decode cX12_areSame 130 = .ok (.iconst 1, 1) := by decide +kernel
theorem dX12_areSame_131 : decode cX12_areSame 131 = .ok (.goto 4, 3) := by decide +kernel
theorem dX12_areSame_134 : decode cX12_areSame 134 = .ok (.iconst 0, 1) := by decide +kernel
theorem dX12_areSame_135 : decode cX12_areSame 135 = .ok (.ireturn, 1) := by decide +kernel
set_option maxRecDepth 100000 in
set_option maxHeartbeats 4000000 in
theorem c_X12_areSame {l : Launch} {G : Gx} (hap : k_ap G shR.length) (v1 : Int32) (v2 : Int32) (M0 : Mem) (r : Int32) (hf : f_X12_areSame v1 v2 M0 = some r) : k_Met l yX12_areSame cX12_areSame 3 (some .boolean) 1 22 G shR [.ref (G.2.1 0), .int v1, .int v2] M0 (k_Qi G shR r M0) := by
  refine k_Met_of (by decide) hap (Nat.le_of_ble_eq_true rfl) ?_
  intro p e s m args below meth c C hr hlk
  have C : Cx p s m args c cX12_areSame RX12 3 G shR := C
  unfold f_X12_areSame at hf
  refine k_lv (lv' := [(0, .ref (G.2.1 0)), (1, .int v1), (2, .int v2)]) [0, 1, 2] rfl ?_
  refine k_iload_n C dX12_areSame_0 1 rfl ?_
  refine k_iload_n C dX12_areSame_1 2 rfl ?_
  rcases ite_g hf with ⟨c1, hf⟩ | ⟨c1, hf⟩
  · refine k_icmp_ne_f C dX12_areSame_2 (tgt := 7) (by decide) c1 ?_
    refine k_iconst C dX12_areSame_5 (v := (1 : Int32)) rfl ?_
    exact k_zret C hr hlk (gZ1.trans (congrArg some (Option.some.inj hf))) rfl dX12_areSame_6
  · refine k_icmp_ne_t C dX12_areSame_2 (tgt := 7) (by decide) c1 ?_
    refine k_aload_n C dX12_areSame_7 0 rfl ?_
    refine k_geti C shR_0 (j := 7) rfl FL_X12_111 dX12_areSame_8 ?_
    rcases ite_g hf with ⟨c2, hf⟩ | ⟨c2, hf⟩
    · refine k_tableIn C (0 : Int32) c2 dX12_areSame_11 (off := 25) (tgt := 36) (by decide) (by decide) (by decide) (by decide) ?_
      refine k_aload_n C dX12_areSame_36 0 rfl ?_
      refine k_getr C shR_0 (j := 3) rfl FL_X12_19 dX12_areSame_37 ?_
      refine k_iload_n C dX12_areSame_40 1 rfl ?_
      obtain ⟨t3, ht3, hf⟩ := bnd hf
      refine k_iald C shR_4 ht3 dX12_areSame_41 ?_
      refine k_aload_n C dX12_areSame_42 0 rfl ?_
      refine k_getr C shR_0 (j := 3) rfl FL_X12_19 dX12_areSame_43 ?_
      refine k_iload_n C dX12_areSame_46 2 rfl ?_
      obtain ⟨t4, ht4, hf⟩ := bnd hf
      refine k_iald C shR_4 ht4 dX12_areSame_47 ?_
      rcases ite_g hf with ⟨c5, hf⟩ | ⟨c5, hf⟩
      · refine k_icmp_ne_f C dX12_areSame_48 (tgt := 55) (by decide) c5 ?_
        refine k_iconst C dX12_areSame_51 (v := (1 : Int32)) rfl ?_
        refine k_goto C dX12_areSame_52 (tgt := 56) (by decide) ?_
        exact k_zret C hr hlk (gZ1.trans (congrArg some (Option.some.inj hf))) rfl dX12_areSame_56
      · refine k_icmp_ne_t C dX12_areSame_48 (tgt := 55) (by decide) c5 ?_
        refine k_iconst C dX12_areSame_55 (v := (0 : Int32)) rfl ?_
        exact k_zret C hr hlk (gZ0.trans (congrArg some (Option.some.inj hf))) rfl dX12_areSame_56
    · rcases ite_g hf with ⟨c6, hf⟩ | ⟨c6, hf⟩
      · refine k_tableIn C (1 : Int32) c6 dX12_areSame_11 (off := 46) (tgt := 57) (by decide) (by decide) (by decide) (by decide) ?_
        refine k_aload_n C dX12_areSame_57 0 rfl ?_
        refine k_getr C shR_0 (j := 1) rfl FL_X12_13 dX12_areSame_58 ?_
        refine k_iload_n C dX12_areSame_61 1 rfl ?_
        obtain ⟨t7, ht7, hf⟩ := bnd hf
        refine k_iald C shR_2 ht7 dX12_areSame_62 ?_
        refine k_aload_n C dX12_areSame_63 0 rfl ?_
        refine k_getr C shR_0 (j := 1) rfl FL_X12_13 dX12_areSame_64 ?_
        refine k_iload_n C dX12_areSame_67 2 rfl ?_
        obtain ⟨t8, ht8, hf⟩ := bnd hf
        refine k_iald C shR_2 ht8 dX12_areSame_68 ?_
        rcases ite_g hf with ⟨c9, hf⟩ | ⟨c9, hf⟩
        · refine k_icmp_ne_f C dX12_areSame_69 (tgt := 76) (by decide) c9 ?_
          refine k_iconst C dX12_areSame_72 (v := (1 : Int32)) rfl ?_
          refine k_goto C dX12_areSame_73 (tgt := 77) (by decide) ?_
          exact k_zret C hr hlk (gZ1.trans (congrArg some (Option.some.inj hf))) rfl dX12_areSame_77
        · refine k_icmp_ne_t C dX12_areSame_69 (tgt := 76) (by decide) c9 ?_
          refine k_iconst C dX12_areSame_76 (v := (0 : Int32)) rfl ?_
          exact k_zret C hr hlk (gZ0.trans (congrArg some (Option.some.inj hf))) rfl dX12_areSame_77
      · rcases ite_g hf with ⟨c10, hf⟩ | ⟨c10, hf⟩
        · refine k_tableIn C (2 : Int32) c10 dX12_areSame_11 (off := 67) (tgt := 78) (by decide) (by decide) (by decide) (by decide) ?_
          refine k_aload_n C dX12_areSame_78 0 rfl ?_
          refine k_getr C shR_0 (j := 3) rfl FL_X12_19 dX12_areSame_79 ?_
          refine k_iload_n C dX12_areSame_82 1 rfl ?_
          obtain ⟨t11, ht11, hf⟩ := bnd hf
          refine k_iald C shR_4 ht11 dX12_areSame_83 ?_
          refine k_aload_n C dX12_areSame_84 0 rfl ?_
          refine k_getr C shR_0 (j := 3) rfl FL_X12_19 dX12_areSame_85 ?_
          refine k_iload_n C dX12_areSame_88 2 rfl ?_
          obtain ⟨t12, ht12, hf⟩ := bnd hf
          refine k_iald C shR_4 ht12 dX12_areSame_89 ?_
          refine k_iand C dX12_areSame_90 ?_
          obtain ⟨t13, ht13, hf⟩ := bnd hf
          refine k_callSi C (As := [.int (t11 &&& t12)]) (c_X12_bits hap (t11 &&& t12) M0 t13 ht13) MS_X12_bits wd_1463 rfl rfl ⟨Nat.le_of_ble_eq_true rfl, Nat.le_of_ble_eq_true rfl⟩ (Nat.le_of_ble_eq_true rfl) dX12_areSame_91 ?_
          refine k_aload_n C dX12_areSame_94 0 rfl ?_
          refine k_geti C shR_0 (j := 8) rfl FL_X12_114 dX12_areSame_95 ?_
          rcases ite_g hf with ⟨c14, hf⟩ | ⟨c14, hf⟩
          · refine k_icmp_lt_t C dX12_areSame_98 (tgt := 105) (by decide) c14 ?_
            refine k_iconst C dX12_areSame_105 (v := (0 : Int32)) rfl ?_
            exact k_zret C hr hlk (gZ0.trans (congrArg some (Option.some.inj hf))) rfl dX12_areSame_106
          · refine k_icmp_lt_f C dX12_areSame_98 (tgt := 105) (by decide) c14 ?_
            refine k_iconst C dX12_areSame_101 (v := (1 : Int32)) rfl ?_
            refine k_goto C dX12_areSame_102 (tgt := 106) (by decide) ?_
            exact k_zret C hr hlk (gZ1.trans (congrArg some (Option.some.inj hf))) rfl dX12_areSame_106
        · have hqc2 : ((M0.1 0 7) : Int32).toInt ≠ 0 := i_ne2 c2 (by decide)
          have hqc6 : ((M0.1 0 7) : Int32).toInt ≠ 1 := i_ne2 c6 (by decide)
          have hqc10 : ((M0.1 0 7) : Int32).toInt ≠ 2 := i_ne2 c10 (by decide)
          refine k_tableOut C dX12_areSame_11 (tgt := 107) (by omega) (by decide) ?_
          refine k_aload_n C dX12_areSame_107 0 rfl ?_
          refine k_getr C shR_0 (j := 3) rfl FL_X12_19 dX12_areSame_108 ?_
          refine k_iload_n C dX12_areSame_111 1 rfl ?_
          obtain ⟨t15, ht15, hf⟩ := bnd hf
          refine k_iald C shR_4 ht15 dX12_areSame_112 ?_
          refine k_aload_n C dX12_areSame_113 0 rfl ?_
          refine k_getr C shR_0 (j := 3) rfl FL_X12_19 dX12_areSame_114 ?_
          refine k_iload_n C dX12_areSame_117 2 rfl ?_
          obtain ⟨t16, ht16, hf⟩ := bnd hf
          refine k_iald C shR_4 ht16 dX12_areSame_118 ?_
          refine k_ixor C dX12_areSame_119 ?_
          obtain ⟨t17, ht17, hf⟩ := bnd hf
          refine k_callSi C (As := [.int (t15 ^^^ t16)]) (c_X12_bits hap (t15 ^^^ t16) M0 t17 ht17) MS_X12_bits wd_1463 rfl rfl ⟨Nat.le_of_ble_eq_true rfl, Nat.le_of_ble_eq_true rfl⟩ (Nat.le_of_ble_eq_true rfl) dX12_areSame_120 ?_
          refine k_aload_n C dX12_areSame_123 0 rfl ?_
          refine k_geti C shR_0 (j := 8) rfl FL_X12_114 dX12_areSame_124 ?_
          rcases ite_g hf with ⟨c18, hf⟩ | ⟨c18, hf⟩
          · refine k_icmp_gt_t C dX12_areSame_127 (tgt := 134) (by decide) c18 ?_
            refine k_iconst C dX12_areSame_134 (v := (0 : Int32)) rfl ?_
            exact k_zret C hr hlk (gZ0.trans (congrArg some (Option.some.inj hf))) rfl dX12_areSame_135
          · refine k_icmp_gt_f C dX12_areSame_127 (tgt := 134) (by decide) c18 ?_
            refine k_iconst C dX12_areSame_130 (v := (1 : Int32)) rfl ?_
            refine k_goto C dX12_areSame_131 (tgt := 135) (by decide) ?_
            exact k_zret C hr hlk (gZ1.trans (congrArg some (Option.some.inj hf))) rfl dX12_areSame_135
theorem dX12_dueOf_0 : decode cX12_dueOf 0 = .ok (.aload_n 0, 1) := by decide +kernel
theorem dX12_dueOf_1 : decode cX12_dueOf 1 = .ok (.getfield 16, 3) := by decide +kernel
theorem dX12_dueOf_4 : decode cX12_dueOf 4 = .ok (.iload_n 1, 1) := by decide +kernel
theorem dX12_dueOf_5 : decode cX12_dueOf 5 = .ok (.iaload, 1) := by decide +kernel
theorem dX12_dueOf_6 : decode cX12_dueOf 6 = .ok (.iconst 1, 1) := by decide +kernel
theorem dX12_dueOf_7 : decode cX12_dueOf 7 = .ok (.iadd, 1) := by decide +kernel
theorem dX12_dueOf_8 : decode cX12_dueOf 8 = .ok (.iload_n 2, 1) := by decide +kernel
theorem dX12_dueOf_9 : decode cX12_dueOf 9 = .ok (.imul, 1) := by decide +kernel
theorem dX12_dueOf_10 : decode cX12_dueOf 10 = .ok (.istore_n 3, 1) := by decide +kernel
theorem dX12_dueOf_11 : decode cX12_dueOf 11 = .ok (.aload_n 0, 1) := by decide +kernel
theorem dX12_dueOf_12 : decode cX12_dueOf 12 = .ok (.getfield 13, 3) := by decide +kernel
theorem dX12_dueOf_15 : decode cX12_dueOf 15 = .ok (.iload_n 1, 1) := by decide +kernel
theorem dX12_dueOf_16 : decode cX12_dueOf 16 = .ok (.iaload, 1) := by decide +kernel
theorem dX12_dueOf_17 : decode cX12_dueOf 17 = .ok (.tableswitch 80 1 5 #[35, 39, 43, 45, 66], 35) := by decide +kernel
theorem dX12_dueOf_52 : decode cX12_dueOf 52 = .ok (.iload_n 3, 1) := by decide +kernel
theorem dX12_dueOf_53 : decode cX12_dueOf 53 = .ok (.iconst 2, 1) := by decide +kernel
theorem dX12_dueOf_54 : decode cX12_dueOf 54 = .ok (.idiv, 1) := by decide +kernel
theorem dX12_dueOf_55 : decode cX12_dueOf 55 = .ok (.ireturn, 1) := by decide +kernel
theorem dX12_dueOf_56 : decode cX12_dueOf 56 = .ok (.iconst 2, 1) := by decide +kernel
theorem dX12_dueOf_57 : decode cX12_dueOf 57 = .ok (.iload_n 3, 1) := by decide +kernel
theorem dX12_dueOf_58 : decode cX12_dueOf 58 = .ok (.imul, 1) := by decide +kernel
theorem dX12_dueOf_59 : decode cX12_dueOf 59 = .ok (.ireturn, 1) := by decide +kernel
theorem dX12_dueOf_60 : decode cX12_dueOf 60 = .ok (.iconst 0, 1) := by decide +kernel
theorem dX12_dueOf_61 : decode cX12_dueOf 61 = .ok (.ireturn, 1) := by decide +kernel
theorem dX12_dueOf_62 : decode cX12_dueOf 62 = .ok (.iload_n 2, 1) := by decide +kernel
theorem dX12_dueOf_63 : decode cX12_dueOf 63 = .ok (.ifCond .ne 7, 3) := by decide +kernel
theorem dX12_dueOf_66 : decode cX12_dueOf 66 = .ok (.iconst 0, 1) := by decide +kernel
theorem dX12_dueOf_67 : decode cX12_dueOf 67 = .ok (.goto 15, 3) := by decide +kernel
theorem dX12_dueOf_70 : decode cX12_dueOf 70 = .ok (.iconst 2, 1) := by decide +kernel
theorem dX12_dueOf_71 : decode cX12_dueOf 71 = .ok (.iload_n 3, 1) := by decide +kernel
theorem dX12_dueOf_72 : decode cX12_dueOf 72 = .ok (.aload_n 0, 1) := by decide +kernel
theorem dX12_dueOf_73 : decode cX12_dueOf 73 = .ok (.getfield 16, 3) := by decide +kernel
theorem dX12_dueOf_76 : decode cX12_dueOf 76 = .ok (.iload_n 1, 1) := by decide +kernel
theorem dX12_dueOf_77 : decode cX12_dueOf 77 = .ok (.iaload, 1) := by decide +kernel
theorem dX12_dueOf_78 : decode cX12_dueOf 78 = .ok (.isub, 1) := by decide +kernel
theorem dX12_dueOf_79 : decode cX12_dueOf 79 = .ok (.iconst 1, 1) := by decide +kernel
theorem dX12_dueOf_80 : decode cX12_dueOf 80 = .ok (.isub, 1) := by decide +kernel
theorem dX12_dueOf_81 : decode cX12_dueOf 81 = .ok (.imul, 1) := by decide +kernel
theorem dX12_dueOf_82 : decode cX12_dueOf 82 = .ok (.ireturn, 1) := by decide +kernel
theorem dX12_dueOf_83 : decode cX12_dueOf 83 = .ok (.iload_n 3, 1) := by decide +kernel
theorem dX12_dueOf_84 : decode cX12_dueOf 84 = .ok (.iconst 2, 1) := by decide +kernel
theorem dX12_dueOf_85 : decode cX12_dueOf 85 = .ok (.idiv, 1) := by decide +kernel
theorem dX12_dueOf_86 : decode cX12_dueOf 86 = .ok (.iload_n 2, 1) := by decide +kernel
theorem dX12_dueOf_87 : decode cX12_dueOf 87 = .ok (.ifCond .le 7, 3) := by decide +kernel
theorem dX12_dueOf_90 : decode cX12_dueOf 90 = .ok (.iconst 3, 1) := by decide +kernel
theorem dX12_dueOf_91 : decode cX12_dueOf 91 = .ok (.goto 4, 3) := by decide +kernel
theorem dX12_dueOf_94 : decode cX12_dueOf 94 = .ok (.iconst 0, 1) := by decide +kernel
theorem dX12_dueOf_95 : decode cX12_dueOf 95 = .ok (.iadd, 1) := by decide +kernel
theorem dX12_dueOf_96 : decode cX12_dueOf 96 = .ok (.ireturn, 1) := by decide +kernel
theorem dX12_dueOf_97 : decode cX12_dueOf 97 = .ok (.iload_n 3, 1) := by decide +kernel
theorem dX12_dueOf_98 : decode cX12_dueOf 98 = .ok (.ireturn, 1) := by decide +kernel
set_option maxRecDepth 100000 in
set_option maxHeartbeats 4000000 in
theorem c_X12_dueOf {l : Launch} {G : Gx} (hap : k_ap G shR.length) (v1 : Int32) (v2 : Int32) (M0 : Mem) (r : Int32) (hf : f_X12_dueOf v1 v2 M0 = some r) : k_Met l yX12_dueOf cX12_dueOf 4 (some .int) 0 0 G shR [.ref (G.2.1 0), .int v1, .int v2] M0 (k_Qi G shR r M0) := by
  refine k_Met_of (by decide) hap (Nat.le_of_ble_eq_true rfl) ?_
  intro p e s m args below meth c C hr hlk
  have C : Cx p s m args c cX12_dueOf RX12 4 G shR := C
  unfold f_X12_dueOf at hf
  refine k_lv (lv' := [(0, .ref (G.2.1 0)), (1, .int v1), (2, .int v2)]) [0, 1, 2] rfl ?_
  refine k_aload_n C dX12_dueOf_0 0 rfl ?_
  refine k_getr C shR_0 (j := 2) rfl FL_X12_16 dX12_dueOf_1 ?_
  refine k_iload_n C dX12_dueOf_4 1 rfl ?_
  obtain ⟨t1, ht1, hf⟩ := bnd hf
  refine k_iald C shR_3 ht1 dX12_dueOf_5 ?_
  refine k_iconst C dX12_dueOf_6 (v := (1 : Int32)) rfl ?_
  refine k_iadd C dX12_dueOf_7 ?_
  refine k_iload_n C dX12_dueOf_8 2 rfl ?_
  refine k_imul C dX12_dueOf_9 ?_
  refine k_istore_n C dX12_dueOf_10 (by decide) [1, 2, 3, 0] (lv' := [(0, .ref (G.2.1 0)), (1, .int v1), (2, .int v2), (3, .int ((t1 + (1 : Int32)) * v2))]) rfl ?_
  refine k_aload_n C dX12_dueOf_11 0 rfl ?_
  refine k_getr C shR_0 (j := 1) rfl FL_X12_13 dX12_dueOf_12 ?_
  refine k_iload_n C dX12_dueOf_15 1 rfl ?_
  obtain ⟨t2, ht2, hf⟩ := bnd hf
  refine k_iald C shR_2 ht2 dX12_dueOf_16 ?_
  rcases ite_g hf with ⟨c3, hf⟩ | ⟨c3, hf⟩
  · refine k_tableIn C (1 : Int32) c3 dX12_dueOf_17 (off := 35) (tgt := 52) (by decide) (by decide) (by decide) (by decide) ?_
    refine k_iload_n C dX12_dueOf_52 3 rfl ?_
    refine k_iconst C dX12_dueOf_53 (v := (2 : Int32)) rfl ?_
    refine k_idiv C dX12_dueOf_54 (by decide) ?_
    exact k_iret C hr hlk (Option.some.inj hf) rfl dX12_dueOf_55
  · rcases ite_g hf with ⟨c4, hf⟩ | ⟨c4, hf⟩
    · refine k_tableIn C (2 : Int32) c4 dX12_dueOf_17 (off := 39) (tgt := 56) (by decide) (by decide) (by decide) (by decide) ?_
      refine k_iconst C dX12_dueOf_56 (v := (2 : Int32)) rfl ?_
      refine k_iload_n C dX12_dueOf_57 3 rfl ?_
      refine k_imul C dX12_dueOf_58 ?_
      exact k_iret C hr hlk (Option.some.inj hf) rfl dX12_dueOf_59
    · rcases ite_g hf with ⟨c5, hf⟩ | ⟨c5, hf⟩
      · refine k_tableIn C (3 : Int32) c5 dX12_dueOf_17 (off := 43) (tgt := 60) (by decide) (by decide) (by decide) (by decide) ?_
        refine k_iconst C dX12_dueOf_60 (v := (0 : Int32)) rfl ?_
        exact k_iret C hr hlk (Option.some.inj hf) rfl dX12_dueOf_61
      · rcases ite_g hf with ⟨c6, hf⟩ | ⟨c6, hf⟩
        · refine k_tableIn C (4 : Int32) c6 dX12_dueOf_17 (off := 45) (tgt := 62) (by decide) (by decide) (by decide) (by decide) ?_
          refine k_iload_n C dX12_dueOf_62 2 rfl ?_
          rcases ite_g hf with ⟨c7, hf⟩ | ⟨c7, hf⟩
          · refine k_if_ne_f C dX12_dueOf_63 (tgt := 70) (by decide) c7 ?_
            refine k_iconst C dX12_dueOf_66 (v := (0 : Int32)) rfl ?_
            refine k_goto C dX12_dueOf_67 (tgt := 82) (by decide) ?_
            exact k_iret C hr hlk (Option.some.inj hf) rfl dX12_dueOf_82
          · refine k_if_ne_t C dX12_dueOf_63 (tgt := 70) (by decide) c7 ?_
            refine k_iconst C dX12_dueOf_70 (v := (2 : Int32)) rfl ?_
            refine k_iload_n C dX12_dueOf_71 3 rfl ?_
            refine k_aload_n C dX12_dueOf_72 0 rfl ?_
            refine k_getr C shR_0 (j := 2) rfl FL_X12_16 dX12_dueOf_73 ?_
            refine k_iload_n C dX12_dueOf_76 1 rfl ?_
            obtain ⟨t8, ht8, hf⟩ := bnd hf
            refine k_iald C shR_3 ht8 dX12_dueOf_77 ?_
            refine k_isub C dX12_dueOf_78 ?_
            refine k_iconst C dX12_dueOf_79 (v := (1 : Int32)) rfl ?_
            refine k_isub C dX12_dueOf_80 ?_
            refine k_imul C dX12_dueOf_81 ?_
            exact k_iret C hr hlk (Option.some.inj hf) rfl dX12_dueOf_82
        · rcases ite_g hf with ⟨c9, hf⟩ | ⟨c9, hf⟩
          · refine k_tableIn C (5 : Int32) c9 dX12_dueOf_17 (off := 66) (tgt := 83) (by decide) (by decide) (by decide) (by decide) ?_
            refine k_iload_n C dX12_dueOf_83 3 rfl ?_
            refine k_iconst C dX12_dueOf_84 (v := (2 : Int32)) rfl ?_
            refine k_idiv C dX12_dueOf_85 (by decide) ?_
            refine k_iload_n C dX12_dueOf_86 2 rfl ?_
            have hj10 : K p l e (k_rm 0 0) s m args below meth c 4 G shR (MQ below (k_Qi G shR r M0) args s 0 0 (k_A G shR.length)) 95 [(0, .ref (G.2.1 0)), (1, .int v1), (2, .int v2), (3, .int ((t1 + (1 : Int32)) * v2))] [.int (if v2 ≤ 0 then (0 : Int32) else (3 : Int32)), .int (((t1 + (1 : Int32)) * v2) / (2 : Int32))] M0 := by
              refine k_iadd C dX12_dueOf_95 ?_
              exact k_iret C hr hlk (Option.some.inj hf) rfl dX12_dueOf_96
            by_cases c11 : v2 ≤ 0
            · refine k_if_le_t C dX12_dueOf_87 (tgt := 94) (by decide) c11 ?_
              refine k_iconst C dX12_dueOf_94 (v := (0 : Int32)) rfl ?_
              exact k_val (by rw [if_pos c11]) hj10
            · refine k_if_le_f C dX12_dueOf_87 (tgt := 94) (by decide) c11 ?_
              refine k_iconst C dX12_dueOf_90 (v := (3 : Int32)) rfl ?_
              refine k_goto C dX12_dueOf_91 (tgt := 95) (by decide) ?_
              exact k_val (by rw [if_neg c11]) hj10
          · have hqc3 : (t2 : Int32).toInt ≠ 1 := i_ne2 c3 (by decide)
            have hqc4 : (t2 : Int32).toInt ≠ 2 := i_ne2 c4 (by decide)
            have hqc5 : (t2 : Int32).toInt ≠ 3 := i_ne2 c5 (by decide)
            have hqc6 : (t2 : Int32).toInt ≠ 4 := i_ne2 c6 (by decide)
            have hqc9 : (t2 : Int32).toInt ≠ 5 := i_ne2 c9 (by decide)
            refine k_tableOut C dX12_dueOf_17 (tgt := 97) (by omega) (by decide) ?_
            refine k_iload_n C dX12_dueOf_97 3 rfl ?_
            exact k_iret C hr hlk (Option.some.inj hf) rfl dX12_dueOf_98
theorem dX12_repeatsAt_0 : decode cX12_repeatsAt 0 = .ok (.iconst 0, 1) := by decide +kernel
theorem dX12_repeatsAt_1 : decode cX12_repeatsAt 1 = .ok (.istore_n 3, 1) := by decide +kernel
theorem dX12_repeatsAt_2 : decode cX12_repeatsAt 2 = .ok (.iconst 0, 1) := by decide +kernel
theorem dX12_repeatsAt_3 : decode cX12_repeatsAt 3 = .ok (.istore 4, 2) := by decide +kernel
theorem dX12_repeatsAt_5 : decode cX12_repeatsAt 5 = .ok (.iload 4, 2) := by decide +kernel
theorem dX12_repeatsAt_7 : decode cX12_repeatsAt 7 = .ok (.iload_n 1, 1) := by decide +kernel
theorem dX12_repeatsAt_8 : decode cX12_repeatsAt 8 = .ok (.if_icmp .ge 32, 3) := by decide +kernel
theorem dX12_repeatsAt_11 : decode cX12_repeatsAt 11 = .ok (.iload_n 3, 1) := by decide +kernel
theorem dX12_repeatsAt_12 : decode cX12_repeatsAt 12 = .ok (.aload_n 0, 1) := by decide +kernel
theorem dX12_repeatsAt_13 : decode cX12_repeatsAt 13 = .ok (.aload_n 0, 1) := by decide +kernel
theorem dX12_repeatsAt_14 : decode cX12_repeatsAt 14 = .ok (.getfield 22, 3) := by decide +kernel
theorem dX12_repeatsAt_17 : decode cX12_repeatsAt 17 = .ok (.iload 4, 2) := by decide +kernel
theorem dX12_repeatsAt_19 : decode cX12_repeatsAt 19 = .ok (.iaload, 1) := by decide +kernel
theorem dX12_repeatsAt_20 : decode cX12_repeatsAt 20 = .ok (.iload_n 2, 1) := by decide +kernel
theorem dX12_repeatsAt_21 : decode cX12_repeatsAt 21 = .ok (.invokevirtual 154, 3) := by decide +kernel
theorem dX12_repeatsAt_24 : decode cX12_repeatsAt 24 = .ok (.ifCond .eq 7, 3) := by decide +kernel
theorem dX12_repeatsAt_27 : decode cX12_repeatsAt 27 = .ok (.iconst 1, 1) := by decide +kernel
theorem dX12_repeatsAt_28 : decode cX12_repeatsAt 28 = .ok (.goto 4, 3) := by decide +kernel
theorem dX12_repeatsAt_31 : decode cX12_repeatsAt 31 = .ok (.iconst 0, 1) := by decide +kernel
theorem dX12_repeatsAt_32 : decode cX12_repeatsAt 32 = .ok (.iadd, 1) := by decide +kernel
theorem dX12_repeatsAt_33 : decode cX12_repeatsAt 33 = .ok (.istore_n 3, 1) := by decide +kernel
theorem dX12_repeatsAt_34 : decode cX12_repeatsAt 34 = .ok (.iinc 4 1, 3) := by decide +kernel
theorem dX12_repeatsAt_37 : decode cX12_repeatsAt 37 = .ok (.goto (-32), 3) := by decide +kernel
theorem dX12_repeatsAt_40 : decode cX12_repeatsAt 40 = .ok (.iload_n 3, 1) := by decide +kernel
theorem dX12_repeatsAt_41 : decode cX12_repeatsAt 41 = .ok (.ireturn, 1) := by decide +kernel
set_option maxRecDepth 100000 in
set_option maxHeartbeats 4000000 in
theorem c_X12_repeatsAt {l : Launch} {G : Gx} (hap : k_ap G shR.length) (v1 : Int32) (v2 : Int32) (M0 : Mem) (r : Int32) (hf : f_X12_repeatsAt v1 v2 M0 = some r) : k_Met l yX12_repeatsAt cX12_repeatsAt 5 (some .int) 2 44 G shR [.ref (G.2.1 0), .int v1, .int v2] M0 (k_Qi G shR r M0) := by
  refine k_Met_of (by decide) hap (Nat.le_of_ble_eq_true rfl) ?_
  intro p e s m args below meth c C hr hlk
  have C : Cx p s m args c cX12_repeatsAt RX12 5 G shR := C
  have k_b5 : ∀ (n5 : Nat) (v1 : Int32) (v2 : Int32) (v3 : Int32) (v4 : Int32), f_X12_repeatsAt_b5 M0 n5 v1 v2 v3 v4 = some r → K p l e (k_rm 2 44) s m args below meth c 5 G shR (MQ below (k_Qi G shR r M0) args s 0 0 (k_A G shR.length)) 5 [(0, .ref (G.2.1 0)), (1, .int v1), (2, .int v2), (3, .int v3), (4, .int v4)] [] M0 := by
    intro n5
    induction n5 with
    | zero => intro v1 v2 v3 v4 hf; simp [f_X12_repeatsAt_b5] at hf
    | succ n5 ih5 =>
      intro v1 v2 v3 v4 hf
      unfold f_X12_repeatsAt_b5 at hf
      refine k_iload C dX12_repeatsAt_5 4 rfl ?_
      refine k_iload_n C dX12_repeatsAt_7 1 rfl ?_
      rcases ite_g hf with ⟨c1, hf⟩ | ⟨c1, hf⟩
      · refine k_icmp_ge_t C dX12_repeatsAt_8 (tgt := 40) (by decide) c1 ?_
        refine k_iload_n C dX12_repeatsAt_40 3 rfl ?_
        exact k_iret C hr hlk (Option.some.inj hf) rfl dX12_repeatsAt_41
      · refine k_icmp_ge_f C dX12_repeatsAt_8 (tgt := 40) (by decide) c1 ?_
        refine k_iload_n C dX12_repeatsAt_11 3 rfl ?_
        refine k_aload_n C dX12_repeatsAt_12 0 rfl ?_
        refine k_aload_n C dX12_repeatsAt_13 0 rfl ?_
        refine k_getr C shR_0 (j := 4) rfl FL_X12_22 dX12_repeatsAt_14 ?_
        refine k_iload C dX12_repeatsAt_17 4 rfl ?_
        obtain ⟨t2, ht2, hf⟩ := bnd hf
        refine k_iald C shR_5 ht2 dX12_repeatsAt_19 ?_
        refine k_iload_n C dX12_repeatsAt_20 2 rfl ?_
        obtain ⟨t3, ht3, hf⟩ := bnd hf
        refine k_callVi C (As := [.int t2, .int v2]) (c_X12_areSame hap t2 v2 M0 t3 ht3) ML_X12_areSame wd_1459 shR_0 rfl rfl rfl ⟨Nat.le_of_ble_eq_true rfl, Nat.le_of_ble_eq_true rfl⟩ (Nat.le_of_ble_eq_true rfl) dX12_repeatsAt_21 ?_
        have hj4 : K p l e (k_rm 2 44) s m args below meth c 5 G shR (MQ below (k_Qi G shR r M0) args s 0 0 (k_A G shR.length)) 32 [(0, .ref (G.2.1 0)), (1, .int v1), (2, .int v2), (3, .int v3), (4, .int v4)] [.int (if t3 = 0 then (0 : Int32) else (1 : Int32)), .int v3] M0 := by
          refine k_iadd C dX12_repeatsAt_32 ?_
          refine k_istore_n C dX12_repeatsAt_33 (by decide) [1, 2, 3, 0, 4] (lv' := [(0, .ref (G.2.1 0)), (1, .int v1), (2, .int v2), (3, .int (v3 + (if t3 = 0 then (0 : Int32) else (1 : Int32)))), (4, .int v4)]) rfl ?_
          refine k_iinc C dX12_repeatsAt_34 4 rfl (v := (v4 + (1 : Int32))) rfl (by decide) [1, 2, 3, 4, 0] (lv' := [(0, .ref (G.2.1 0)), (1, .int v1), (2, .int v2), (3, .int (v3 + (if t3 = 0 then (0 : Int32) else (1 : Int32)))), (4, .int (v4 + (1 : Int32)))]) rfl ?_
          refine k_goto C dX12_repeatsAt_37 (tgt := 5) (by decide) ?_
          exact ih5 v1 v2 (v3 + (if t3 = 0 then (0 : Int32) else (1 : Int32))) (v4 + (1 : Int32)) hf
        by_cases c5 : t3 = 0
        · refine k_if_eq_t C dX12_repeatsAt_24 (tgt := 31) (by decide) c5 ?_
          refine k_iconst C dX12_repeatsAt_31 (v := (0 : Int32)) rfl ?_
          exact k_val (by rw [if_pos c5]) hj4
        · refine k_if_eq_f C dX12_repeatsAt_24 (tgt := 31) (by decide) c5 ?_
          refine k_iconst C dX12_repeatsAt_27 (v := (1 : Int32)) rfl ?_
          refine k_goto C dX12_repeatsAt_28 (tgt := 32) (by decide) ?_
          exact k_val (by rw [if_neg c5]) hj4
  unfold f_X12_repeatsAt at hf
  refine k_lv (lv' := [(0, .ref (G.2.1 0)), (1, .int v1), (2, .int v2)]) [0, 1, 2] rfl ?_
  refine k_iconst C dX12_repeatsAt_0 (v := (0 : Int32)) rfl ?_
  refine k_istore_n C dX12_repeatsAt_1 (by decide) [1, 2, 3, 0] (lv' := [(0, .ref (G.2.1 0)), (1, .int v1), (2, .int v2), (3, .int (0 : Int32))]) rfl ?_
  refine k_iconst C dX12_repeatsAt_2 (v := (0 : Int32)) rfl ?_
  refine k_istore C dX12_repeatsAt_3 (by decide) [1, 2, 3, 4, 0] (lv' := [(0, .ref (G.2.1 0)), (1, .int v1), (2, .int v2), (3, .int (0 : Int32)), (4, .int (0 : Int32))]) rfl ?_
  exact k_b5 FU v1 v2 (0 : Int32) (0 : Int32) hf
theorem dX12_dueAt_0 : decode cX12_dueAt 0 = .ok (.aload_n 0, 1) := by decide +kernel
theorem dX12_dueAt_1 : decode cX12_dueAt 1 = .ok (.aload_n 0, 1) := by decide +kernel
theorem dX12_dueAt_2 : decode cX12_dueAt 2 = .ok (.getfield 22, 3) := by decide +kernel
theorem dX12_dueAt_5 : decode cX12_dueAt 5 = .ok (.iload_n 1, 1) := by decide +kernel
theorem dX12_dueAt_6 : decode cX12_dueAt 6 = .ok (.iaload, 1) := by decide +kernel
theorem dX12_dueAt_7 : decode cX12_dueAt 7 = .ok (.aload_n 0, 1) := by decide +kernel
theorem dX12_dueAt_8 : decode cX12_dueAt 8 = .ok (.iload_n 1, 1) := by decide +kernel
theorem dX12_dueAt_9 : decode cX12_dueAt 9 = .ok (.aload_n 0, 1) := by decide +kernel
theorem dX12_dueAt_10 : decode cX12_dueAt 10 = .ok (.getfield 22, 3) := by decide +kernel
theorem dX12_dueAt_13 : decode cX12_dueAt 13 = .ok (.iload_n 1, 1) := by decide +kernel
theorem dX12_dueAt_14 : decode cX12_dueAt 14 = .ok (.iaload, 1) := by decide +kernel
theorem dX12_dueAt_15 : decode cX12_dueAt 15 = .ok (.invokevirtual 157, 3) := by decide +kernel
theorem dX12_dueAt_18 : decode cX12_dueAt 18 = .ok (.invokevirtual 161, 3) := by decide +kernel
theorem dX12_dueAt_21 : decode cX12_dueAt 21 = .ok (.ireturn, 1) := by decide +kernel
set_option maxRecDepth 100000 in
set_option maxHeartbeats 4000000 in
theorem c_X12_dueAt {l : Launch} {G : Gx} (hap : k_ap G shR.length) (v1 : Int32) (M0 : Mem) (r : Int32) (hf : f_X12_dueAt v1 M0 = some r) : k_Met l yX12_dueAt cX12_dueAt 2 (some .int) 3 68 G shR [.ref (G.2.1 0), .int v1] M0 (k_Qi G shR r M0) := by
  refine k_Met_of (by decide) hap (Nat.le_of_ble_eq_true rfl) ?_
  intro p e s m args below meth c C hr hlk
  have C : Cx p s m args c cX12_dueAt RX12 2 G shR := C
  unfold f_X12_dueAt at hf
  refine k_lv (lv' := [(0, .ref (G.2.1 0)), (1, .int v1)]) [0, 1] rfl ?_
  refine k_aload_n C dX12_dueAt_0 0 rfl ?_
  refine k_aload_n C dX12_dueAt_1 0 rfl ?_
  refine k_getr C shR_0 (j := 4) rfl FL_X12_22 dX12_dueAt_2 ?_
  refine k_iload_n C dX12_dueAt_5 1 rfl ?_
  obtain ⟨t1, ht1, hf⟩ := bnd hf
  refine k_iald C shR_5 ht1 dX12_dueAt_6 ?_
  refine k_aload_n C dX12_dueAt_7 0 rfl ?_
  refine k_iload_n C dX12_dueAt_8 1 rfl ?_
  refine k_aload_n C dX12_dueAt_9 0 rfl ?_
  refine k_getr C shR_0 (j := 4) rfl FL_X12_22 dX12_dueAt_10 ?_
  refine k_iload_n C dX12_dueAt_13 1 rfl ?_
  obtain ⟨t2, ht2, hf⟩ := bnd hf
  refine k_iald C shR_5 ht2 dX12_dueAt_14 ?_
  obtain ⟨t3, ht3, hf⟩ := bnd hf
  refine k_callVi C (As := [.int v1, .int t2]) (c_X12_repeatsAt hap v1 t2 M0 t3 ht3) ML_X12_repeatsAt wd_1455 shR_0 rfl rfl rfl ⟨Nat.le_of_ble_eq_true rfl, Nat.le_of_ble_eq_true rfl⟩ (Nat.le_of_ble_eq_true rfl) dX12_dueAt_15 ?_
  obtain ⟨t4, ht4, hf⟩ := bnd hf
  refine k_callVi C (As := [.int t1, .int t3]) (c_X12_dueOf hap t1 t3 M0 t4 ht4) ML_X12_dueOf wd_1466 shR_0 rfl rfl rfl ⟨Nat.le_of_ble_eq_true rfl, Nat.le_of_ble_eq_true rfl⟩ (Nat.le_of_ble_eq_true rfl) dX12_dueAt_18 ?_
  exact k_iret C hr hlk (Option.some.inj hf) rfl dX12_dueAt_21
theorem dX12_all_0 : decode cX12_all 0 = .ok (.iconst 0, 1) := by decide +kernel
theorem dX12_all_1 : decode cX12_all 1 = .ok (.istore_n 1, 1) := by decide +kernel
theorem dX12_all_2 : decode cX12_all 2 = .ok (.iconst 0, 1) := by decide +kernel
theorem dX12_all_3 : decode cX12_all 3 = .ok (.istore_n 2, 1) := by decide +kernel
theorem dX12_all_4 : decode cX12_all 4 = .ok (.iload_n 2, 1) := by decide +kernel
theorem dX12_all_5 : decode cX12_all 5 = .ok (.aload_n 0, 1) := by decide +kernel
theorem dX12_all_6 : decode cX12_all 6 = .ok (.getfield 108, 3) := by decide +kernel
theorem dX12_all_9 : decode cX12_all 9 = .ok (.if_icmp .ge 17, 3) := by decide +kernel
theorem dX12_all_12 : decode cX12_all 12 = .ok (.iload_n 1, 1) := by decide +kernel
theorem dX12_all_13 : decode cX12_all 13 = .ok (.aload_n 0, 1) := by decide +kernel
theorem dX12_all_14 : decode cX12_all 14 = .ok (.iload_n 2, 1) := by decide +kernel
theorem dX12_all_15 : decode cX12_all 15 = .ok (.invokevirtual 164, 3) := by decide +kernel
theorem dX12_all_18 : decode cX12_all 18 = .ok (.iadd, 1) := by decide +kernel
theorem dX12_all_19 : decode cX12_all 19 = .ok (.istore_n 1, 1) := by decide +kernel
theorem dX12_all_20 : decode cX12_all 20 = .ok (.iinc 2 1, 3) := by decide +kernel
theorem dX12_all_23 : decode cX12_all 23 = .ok (.goto (-19), 3) := by decide +kernel
theorem dX12_all_26 : decode cX12_all 26 = .ok (.iload_n 1, 1) := by decide +kernel
theorem dX12_all_27 : decode cX12_all 27 = .ok (.ireturn, 1) := by decide +kernel
set_option maxRecDepth 100000 in
set_option maxHeartbeats 4000000 in
theorem c_X12_all {l : Launch} {G : Gx} (hap : k_ap G shR.length) (M0 : Mem) (r : Int32) (hf : f_X12_all M0 = some r) : k_Met l yX12_all cX12_all 3 (some .int) 4 89 G shR [.ref (G.2.1 0)] M0 (k_Qi G shR r M0) := by
  refine k_Met_of (by decide) hap (Nat.le_of_ble_eq_true rfl) ?_
  intro p e s m args below meth c C hr hlk
  have C : Cx p s m args c cX12_all RX12 3 G shR := C
  have k_b4 : ∀ (n4 : Nat) (v1 : Int32) (v2 : Int32), f_X12_all_b4 M0 n4 v1 v2 = some r → K p l e (k_rm 4 89) s m args below meth c 3 G shR (MQ below (k_Qi G shR r M0) args s 0 0 (k_A G shR.length)) 4 [(0, .ref (G.2.1 0)), (1, .int v1), (2, .int v2)] [] M0 := by
    intro n4
    induction n4 with
    | zero => intro v1 v2 hf; simp [f_X12_all_b4] at hf
    | succ n4 ih4 =>
      intro v1 v2 hf
      unfold f_X12_all_b4 at hf
      refine k_iload_n C dX12_all_4 2 rfl ?_
      refine k_aload_n C dX12_all_5 0 rfl ?_
      refine k_geti C shR_0 (j := 6) rfl FL_X12_108 dX12_all_6 ?_
      rcases ite_g hf with ⟨c2, hf⟩ | ⟨c2, hf⟩
      · refine k_icmp_ge_t C dX12_all_9 (tgt := 26) (by decide) c2 ?_
        refine k_iload_n C dX12_all_26 1 rfl ?_
        exact k_iret C hr hlk (Option.some.inj hf) rfl dX12_all_27
      · refine k_icmp_ge_f C dX12_all_9 (tgt := 26) (by decide) c2 ?_
        refine k_iload_n C dX12_all_12 1 rfl ?_
        refine k_aload_n C dX12_all_13 0 rfl ?_
        refine k_iload_n C dX12_all_14 2 rfl ?_
        obtain ⟨t3, ht3, hf⟩ := bnd hf
        refine k_callVi C (As := [.int v2]) (c_X12_dueAt hap v2 M0 t3 ht3) ML_X12_dueAt wd_1451 shR_0 rfl rfl rfl ⟨Nat.le_of_ble_eq_true rfl, Nat.le_of_ble_eq_true rfl⟩ (Nat.le_of_ble_eq_true rfl) dX12_all_15 ?_
        refine k_iadd C dX12_all_18 ?_
        refine k_istore_n C dX12_all_19 (by decide) [1, 0, 2] (lv' := [(0, .ref (G.2.1 0)), (1, .int (v1 + t3)), (2, .int v2)]) rfl ?_
        refine k_iinc C dX12_all_20 2 rfl (v := (v2 + (1 : Int32))) rfl (by decide) [1, 2, 0] (lv' := [(0, .ref (G.2.1 0)), (1, .int (v1 + t3)), (2, .int (v2 + (1 : Int32)))]) rfl ?_
        refine k_goto C dX12_all_23 (tgt := 4) (by decide) ?_
        exact ih4 (v1 + t3) (v2 + (1 : Int32)) hf
  unfold f_X12_all at hf
  refine k_lv (lv' := [(0, .ref (G.2.1 0))]) [0] rfl ?_
  refine k_iconst C dX12_all_0 (v := (0 : Int32)) rfl ?_
  refine k_istore_n C dX12_all_1 (by decide) [1, 0] (lv' := [(0, .ref (G.2.1 0)), (1, .int (0 : Int32))]) rfl ?_
  refine k_iconst C dX12_all_2 (v := (0 : Int32)) rfl ?_
  refine k_istore_n C dX12_all_3 (by decide) [1, 2, 0] (lv' := [(0, .ref (G.2.1 0)), (1, .int (0 : Int32)), (2, .int (0 : Int32))]) rfl ?_
  exact k_b4 FU (0 : Int32) (0 : Int32) hf
theorem dX12_nextOf_0 : decode cX12_nextOf 0 = .ok (.aload_n 0, 1) := by decide +kernel
theorem dX12_nextOf_1 : decode cX12_nextOf 1 = .ok (.iload_n 1, 1) := by decide +kernel
theorem dX12_nextOf_2 : decode cX12_nextOf 2 = .ok (.aload_n 0, 1) := by decide +kernel
theorem dX12_nextOf_3 : decode cX12_nextOf 3 = .ok (.aload_n 0, 1) := by decide +kernel
theorem dX12_nextOf_4 : decode cX12_nextOf 4 = .ok (.getfield 108, 3) := by decide +kernel
theorem dX12_nextOf_7 : decode cX12_nextOf 7 = .ok (.iload_n 1, 1) := by decide +kernel
theorem dX12_nextOf_8 : decode cX12_nextOf 8 = .ok (.invokevirtual 157, 3) := by decide +kernel
theorem dX12_nextOf_11 : decode cX12_nextOf 11 = .ok (.invokevirtual 161, 3) := by decide +kernel
theorem dX12_nextOf_14 : decode cX12_nextOf 14 = .ok (.ireturn, 1) := by decide +kernel
set_option maxRecDepth 100000 in
set_option maxHeartbeats 4000000 in
theorem c_X12_nextOf {l : Launch} {G : Gx} (hap : k_ap G shR.length) (v1 : Int32) (M0 : Mem) (r : Int32) (hf : f_X12_nextOf v1 M0 = some r) : k_Met l yX12_nextOf cX12_nextOf 2 (some .int) 3 68 G shR [.ref (G.2.1 0), .int v1] M0 (k_Qi G shR r M0) := by
  refine k_Met_of (by decide) hap (Nat.le_of_ble_eq_true rfl) ?_
  intro p e s m args below meth c C hr hlk
  have C : Cx p s m args c cX12_nextOf RX12 2 G shR := C
  unfold f_X12_nextOf at hf
  refine k_lv (lv' := [(0, .ref (G.2.1 0)), (1, .int v1)]) [0, 1] rfl ?_
  refine k_aload_n C dX12_nextOf_0 0 rfl ?_
  refine k_iload_n C dX12_nextOf_1 1 rfl ?_
  refine k_aload_n C dX12_nextOf_2 0 rfl ?_
  refine k_aload_n C dX12_nextOf_3 0 rfl ?_
  refine k_geti C shR_0 (j := 6) rfl FL_X12_108 dX12_nextOf_4 ?_
  refine k_iload_n C dX12_nextOf_7 1 rfl ?_
  obtain ⟨t1, ht1, hf⟩ := bnd hf
  refine k_callVi C (As := [.int (M0.1 0 6), .int v1]) (c_X12_repeatsAt hap (M0.1 0 6) v1 M0 t1 ht1) ML_X12_repeatsAt wd_1455 shR_0 rfl rfl rfl ⟨Nat.le_of_ble_eq_true rfl, Nat.le_of_ble_eq_true rfl⟩ (Nat.le_of_ble_eq_true rfl) dX12_nextOf_8 ?_
  obtain ⟨t2, ht2, hf⟩ := bnd hf
  refine k_callVi C (As := [.int v1, .int t1]) (c_X12_dueOf hap v1 t1 M0 t2 ht2) ML_X12_dueOf wd_1466 shR_0 rfl rfl rfl ⟨Nat.le_of_ble_eq_true rfl, Nat.le_of_ble_eq_true rfl⟩ (Nat.le_of_ble_eq_true rfl) dX12_nextOf_11 ?_
  exact k_iret C hr hlk (Option.some.inj hf) rfl dX12_nextOf_14
theorem dX12_doingOf_0 : decode cX12_doingOf 0 = .ok (.aload_n 0, 1) := by decide +kernel
theorem dX12_doingOf_1 : decode cX12_doingOf 1 = .ok (.iload_n 1, 1) := by decide +kernel
theorem dX12_doingOf_2 : decode cX12_doingOf 2 = .ok (.invokevirtual 104, 3) := by decide +kernel
theorem dX12_doingOf_5 : decode cX12_doingOf 5 = .ok (.ifCond .ne 9, 3) := by decide +kernel
theorem dX12_doingOf_8 : decode cX12_doingOf 8 = .ok (.aload_n 0, 1) := by decide +kernel
theorem dX12_doingOf_9 : decode cX12_doingOf 9 = .ok (.iconst (-1), 1) := by decide +kernel
theorem dX12_doingOf_10 : decode cX12_doingOf 10 = .ok (.invokevirtual 75, 3) := by decide +kernel
theorem dX12_doingOf_13 : decode cX12_doingOf 13 = .ok (.ireturn, 1) := by decide +kernel
theorem dX12_doingOf_14 : decode cX12_doingOf 14 = .ok (.iload_n 2, 1) := by decide +kernel
theorem dX12_doingOf_15 : decode cX12_doingOf 15 = .ok (.ifCond .ne 12, 3) := by decide +kernel
theorem dX12_doingOf_18 : decode cX12_doingOf 18 = .ok (.aload_n 0, 1) := by decide +kernel
theorem dX12_doingOf_19 : decode cX12_doingOf 19 = .ok (.getfield 13, 3) := by decide +kernel
theorem dX12_doingOf_22 : decode cX12_doingOf 22 = .ok (.iload_n 1, 1) := by decide +kernel
theorem dX12_doingOf_23 : decode cX12_doingOf 23 = .ok (.iaload, 1) := by decide +kernel
theorem dX12_doingOf_24 : decode cX12_doingOf 24 = .ok (.goto 37, 3) := by decide +kernel
theorem dX12_doingOf_27 : decode cX12_doingOf 27 = .ok (.iload_n 2, 1) := by decide +kernel
theorem dX12_doingOf_28 : decode cX12_doingOf 28 = .ok (.iconst 1, 1) := by decide +kernel
theorem dX12_doingOf_29 : decode cX12_doingOf 29 = .ok (.if_icmp .ne 12, 3) := by decide +kernel
theorem dX12_doingOf_32 : decode cX12_doingOf 32 = .ok (.aload_n 0, 1) := by decide +kernel
theorem dX12_doingOf_33 : decode cX12_doingOf 33 = .ok (.getfield 16, 3) := by decide +kernel
theorem dX12_doingOf_36 : decode cX12_doingOf 36 = .ok (.iload_n 1, 1) := by decide +kernel
theorem dX12_doingOf_37 : decode cX12_doingOf 37 = .ok (.iaload, 1) := by decide +kernel
theorem dX12_doingOf_38 : decode cX12_doingOf 38 = .ok (.goto 23, 3) := by decide +kernel
theorem dX12_doingOf_41 : decode cX12_doingOf 41 = .ok (.iload_n 2, 1) := by decide +kernel
theorem dX12_doingOf_42 : decode cX12_doingOf 42 = .ok (.iconst 2, 1) := by decide +kernel
theorem dX12_doingOf_43 : decode cX12_doingOf 43 = .ok (.if_icmp .ne 12, 3) := by decide +kernel
theorem dX12_doingOf_46 : decode cX12_doingOf 46 = .ok (.aload_n 0, 1) := by decide +kernel
theorem dX12_doingOf_47 : decode cX12_doingOf 47 = .ok (.getfield 19, 3) := by decide +kernel
theorem dX12_doingOf_50 : decode cX12_doingOf 50 = .ok (.iload_n 1, 1) := by decide +kernel
theorem dX12_doingOf_51 : decode cX12_doingOf 51 = .ok (.iaload, 1) := by decide +kernel
theorem dX12_doingOf_52 : decode cX12_doingOf 52 = .ok (.goto 9, 3) := by decide +kernel
theorem dX12_doingOf_55 : decode cX12_doingOf 55 = .ok (.aload_n 0, 1) := by decide +kernel
theorem dX12_doingOf_56 : decode cX12_doingOf 56 = .ok (.bipush (-2), 2) := by decide +kernel
theorem dX12_doingOf_58 : decode cX12_doingOf 58 = .ok (.invokevirtual 75, 3) := by decide +kernel
theorem dX12_doingOf_61 : decode cX12_doingOf 61 = .ok (.ireturn, 1) := by decide +kernel
set_option maxRecDepth 100000 in
set_option maxHeartbeats 4000000 in
theorem c_X12_doingOf {l : Launch} {G : Gx} (hap : k_ap G shR.length) (v1 : Int32) (v2 : Int32) (M0 : Mem) (r : Int32 × Mem) (hf : f_X12_doingOf v1 v2 M0 = some r) : k_Met l yX12_doingOf cX12_doingOf 3 (some .int) 1 21 G shR [.ref (G.2.1 0), .int v1, .int v2] M0 (k_Qi G shR r.1 r.2) := by
  refine k_Met_of (by decide) hap (Nat.le_of_ble_eq_true rfl) ?_
  intro p e s m args below meth c C hr hlk
  have C : Cx p s m args c cX12_doingOf RX12 3 G shR := C
  unfold f_X12_doingOf at hf
  refine k_lv (lv' := [(0, .ref (G.2.1 0)), (1, .int v1), (2, .int v2)]) [0, 1, 2] rfl ?_
  refine k_aload_n C dX12_doingOf_0 0 rfl ?_
  refine k_iload_n C dX12_doingOf_1 1 rfl ?_
  refine k_callVi C (As := [.int v1]) (c_X12_isDoing hap v1 M0 _ rfl) ML_X12_isDoing wd_1416 shR_0 rfl rfl rfl ⟨Nat.le_of_ble_eq_true rfl, Nat.le_of_ble_eq_true rfl⟩ (Nat.le_of_ble_eq_true rfl) dX12_doingOf_2 ?_
  rcases ite_g hf with ⟨c1, hf⟩ | ⟨c1, hf⟩
  · refine k_if_ne_f C dX12_doingOf_5 (tgt := 14) (by decide) c1 ?_
    refine k_aload_n C dX12_doingOf_8 0 rfl ?_
    refine k_iconst C dX12_doingOf_9 (v := (-1 : Int32)) rfl ?_
    obtain ⟨⟨t9, M9⟩, ht9, hf⟩ := bnd hf
    replace hf := bp_s hf
    refine k_callVi C (As := [.int (-1 : Int32)]) (c_X12_no hap (-1 : Int32) M0 (t9, M9) ht9) ML_X12_no wd_1369 shR_0 rfl rfl rfl ⟨Nat.le_of_ble_eq_true rfl, Nat.le_of_ble_eq_true rfl⟩ (Nat.le_of_ble_eq_true rfl) dX12_doingOf_10 ?_
    exact k_iret C hr hlk (prf hf) (prs hf) dX12_doingOf_13
  · refine k_if_ne_t C dX12_doingOf_5 (tgt := 14) (by decide) c1 ?_
    refine k_iload_n C dX12_doingOf_14 2 rfl ?_
    rcases ite_g hf with ⟨c2, hf⟩ | ⟨c2, hf⟩
    · refine k_if_ne_f C dX12_doingOf_15 (tgt := 27) (by decide) c2 ?_
      refine k_aload_n C dX12_doingOf_18 0 rfl ?_
      refine k_getr C shR_0 (j := 1) rfl FL_X12_13 dX12_doingOf_19 ?_
      refine k_iload_n C dX12_doingOf_22 1 rfl ?_
      obtain ⟨t8, ht8, hf⟩ := bnd hf
      refine k_iald C shR_2 ht8 dX12_doingOf_23 ?_
      refine k_goto C dX12_doingOf_24 (tgt := 61) (by decide) ?_
      exact k_iret C hr hlk (prf hf) (prs hf) dX12_doingOf_61
    · refine k_if_ne_t C dX12_doingOf_15 (tgt := 27) (by decide) c2 ?_
      refine k_iload_n C dX12_doingOf_27 2 rfl ?_
      refine k_iconst C dX12_doingOf_28 (v := (1 : Int32)) rfl ?_
      rcases ite_g hf with ⟨c3, hf⟩ | ⟨c3, hf⟩
      · refine k_icmp_ne_f C dX12_doingOf_29 (tgt := 41) (by decide) c3 ?_
        refine k_aload_n C dX12_doingOf_32 0 rfl ?_
        refine k_getr C shR_0 (j := 2) rfl FL_X12_16 dX12_doingOf_33 ?_
        refine k_iload_n C dX12_doingOf_36 1 rfl ?_
        obtain ⟨t7, ht7, hf⟩ := bnd hf
        refine k_iald C shR_3 ht7 dX12_doingOf_37 ?_
        refine k_goto C dX12_doingOf_38 (tgt := 61) (by decide) ?_
        exact k_iret C hr hlk (prf hf) (prs hf) dX12_doingOf_61
      · refine k_icmp_ne_t C dX12_doingOf_29 (tgt := 41) (by decide) c3 ?_
        refine k_iload_n C dX12_doingOf_41 2 rfl ?_
        refine k_iconst C dX12_doingOf_42 (v := (2 : Int32)) rfl ?_
        rcases ite_g hf with ⟨c4, hf⟩ | ⟨c4, hf⟩
        · refine k_icmp_ne_f C dX12_doingOf_43 (tgt := 55) (by decide) c4 ?_
          refine k_aload_n C dX12_doingOf_46 0 rfl ?_
          refine k_getr C shR_0 (j := 3) rfl FL_X12_19 dX12_doingOf_47 ?_
          refine k_iload_n C dX12_doingOf_50 1 rfl ?_
          obtain ⟨t6, ht6, hf⟩ := bnd hf
          refine k_iald C shR_4 ht6 dX12_doingOf_51 ?_
          refine k_goto C dX12_doingOf_52 (tgt := 61) (by decide) ?_
          exact k_iret C hr hlk (prf hf) (prs hf) dX12_doingOf_61
        · refine k_icmp_ne_t C dX12_doingOf_43 (tgt := 55) (by decide) c4 ?_
          refine k_aload_n C dX12_doingOf_55 0 rfl ?_
          refine k_bipush C dX12_doingOf_56 (v := (-2 : Int32)) rfl ?_
          obtain ⟨⟨t5, M5⟩, ht5, hf⟩ := bnd hf
          replace hf := bp_s hf
          refine k_callVi C (As := [.int (-2 : Int32)]) (c_X12_no hap (-2 : Int32) M0 (t5, M5) ht5) ML_X12_no wd_1369 shR_0 rfl rfl rfl ⟨Nat.le_of_ble_eq_true rfl, Nat.le_of_ble_eq_true rfl⟩ (Nat.le_of_ble_eq_true rfl) dX12_doingOf_58 ?_
          exact k_iret C hr hlk (prf hf) (prs hf) dX12_doingOf_61
theorem dX12_doing_0 : decode cX12_doing 0 = .ok (.iload_n 1, 1) := by decide +kernel
theorem dX12_doing_1 : decode cX12_doing 1 = .ok (.iconst 0, 1) := by decide +kernel
theorem dX12_doing_2 : decode cX12_doing 2 = .ok (.iconst 5, 1) := by decide +kernel
theorem dX12_doing_3 : decode cX12_doing 3 = .ok (.invokestatic 86, 3) := by decide +kernel
theorem dX12_doing_6 : decode cX12_doing 6 = .ok (.ifCond .ne 8, 3) := by decide +kernel
theorem dX12_doing_9 : decode cX12_doing 9 = .ok (.bipush (-2), 2) := by decide +kernel
theorem dX12_doing_11 : decode cX12_doing 11 = .ok (.goto 44, 3) := by decide +kernel
theorem dX12_doing_14 : decode cX12_doing 14 = .ok (.iload_n 2, 1) := by decide +kernel
theorem dX12_doing_15 : decode cX12_doing 15 = .ok (.ifCond .lt 7, 3) := by decide +kernel
theorem dX12_doing_18 : decode cX12_doing 18 = .ok (.iload_n 3, 1) := by decide +kernel
theorem dX12_doing_19 : decode cX12_doing 19 = .ok (.ifCond .ge 8, 3) := by decide +kernel
theorem dX12_doing_22 : decode cX12_doing 22 = .ok (.bipush (-4), 2) := by decide +kernel
theorem dX12_doing_24 : decode cX12_doing 24 = .ok (.goto 31, 3) := by decide +kernel
theorem dX12_doing_27 : decode cX12_doing 27 = .ok (.iload_n 2, 1) := by decide +kernel
theorem dX12_doing_28 : decode cX12_doing 28 = .ok (.bipush 9, 2) := by decide +kernel
theorem dX12_doing_30 : decode cX12_doing 30 = .ok (.if_icmp .gt 19, 3) := by decide +kernel
theorem dX12_doing_33 : decode cX12_doing 33 = .ok (.iload_n 3, 1) := by decide +kernel
theorem dX12_doing_34 : decode cX12_doing 34 = .ok (.sipush 255, 3) := by decide +kernel
theorem dX12_doing_37 : decode cX12_doing 37 = .ok (.if_icmp .gt 12, 3) := by decide +kernel
theorem dX12_doing_40 : decode cX12_doing 40 = .ok (.aload_n 0, 1) := by decide +kernel
theorem dX12_doing_41 : decode cX12_doing 41 = .ok (.getfield 62, 3) := by decide +kernel
theorem dX12_doing_44 : decode cX12_doing 44 = .ok (.bipush 8, 2) := by decide +kernel
theorem dX12_doing_46 : decode cX12_doing 46 = .ok (.if_icmp .ne 8, 3) := by decide +kernel
theorem dX12_doing_49 : decode cX12_doing 49 = .ok (.bipush (-6), 2) := by decide +kernel
theorem dX12_doing_51 : decode cX12_doing 51 = .ok (.goto 4, 3) := by decide +kernel
theorem dX12_doing_54 : decode cX12_doing 54 = .ok (.iconst 0, 1) := by decide +kernel
theorem dX12_doing_55 : decode cX12_doing 55 = .ok (.istore 4, 2) := by decide +kernel
theorem dX12_doing_57 : decode cX12_doing 57 = .ok (.iload 4, 2) := by decide +kernel
theorem dX12_doing_59 : decode cX12_doing 59 = .ok (.ifCond .eq 10, 3) := by decide +kernel
theorem dX12_doing_62 : decode cX12_doing 62 = .ok (.aload_n 0, 1) := by decide +kernel
theorem dX12_doing_63 : decode cX12_doing 63 = .ok (.iload 4, 2) := by decide +kernel
theorem dX12_doing_65 : decode cX12_doing 65 = .ok (.invokevirtual 75, 3) := by decide +kernel
theorem dX12_doing_68 : decode cX12_doing 68 = .ok (.ireturn, 1) := by decide +kernel
theorem dX12_doing_69 : decode cX12_doing 69 = .ok (.aload_n 0, 1) := by decide +kernel
theorem dX12_doing_70 : decode cX12_doing 70 = .ok (.iconst 0, 1) := by decide +kernel
theorem dX12_doing_71 : decode cX12_doing 71 = .ok (.putfield 131, 3) := by decide +kernel
theorem dX12_doing_74 : decode cX12_doing 74 = .ok (.aload_n 0, 1) := by decide +kernel
theorem dX12_doing_75 : decode cX12_doing 75 = .ok (.iload_n 1, 1) := by decide +kernel
theorem dX12_doing_76 : decode cX12_doing 76 = .ok (.iload_n 2, 1) := by decide +kernel
theorem dX12_doing_77 : decode cX12_doing 77 = .ok (.iload_n 3, 1) := by decide +kernel
theorem dX12_doing_78 : decode cX12_doing 78 = .ok (.invokevirtual 100, 3) := by decide +kernel
theorem dX12_doing_81 : decode cX12_doing 81 = .ok (.aload_n 0, 1) := by decide +kernel
theorem dX12_doing_82 : decode cX12_doing 82 = .ok (.getfield 62, 3) := by decide +kernel
theorem dX12_doing_85 : decode cX12_doing 85 = .ok (.iconst 1, 1) := by decide +kernel
theorem dX12_doing_86 : decode cX12_doing 86 = .ok (.isub, 1) := by decide +kernel
theorem dX12_doing_87 : decode cX12_doing 87 = .ok (.ireturn, 1) := by decide +kernel
set_option maxRecDepth 100000 in
set_option maxHeartbeats 4000000 in
theorem c_X12_doing {l : Launch} {G : Gx} (hap : k_ap G shR.length) (v1 : Int32) (v2 : Int32) (v3 : Int32) (M0 : Mem) (r : Int32 × Mem) (hf : f_X12_doing v1 v2 v3 M0 = some r) : k_Met l yX12_doing cX12_doing 5 (some .int) 1 23 G shR [.ref (G.2.1 0), .int v1, .int v2, .int v3] M0 (k_Qi G shR r.1 r.2) := by
  refine k_Met_of (by decide) hap (Nat.le_of_ble_eq_true rfl) ?_
  intro p e s m args below meth c C hr hlk
  have C : Cx p s m args c cX12_doing RX12 5 G shR := C
  have k_b55 : ∀ (v1 : Int32) (v2 : Int32) (v3 : Int32) (s0 : Int32) (M : Mem), f_X12_doing_b55 v1 v2 v3 s0 M = some r → K p l e (k_rm 1 23) s m args below meth c 5 G shR (MQ below (k_Qi G shR r.1 r.2) args s 0 0 (k_A G shR.length)) 55 [(0, .ref (G.2.1 0)), (1, .int v1), (2, .int v2), (3, .int v3)] [.int s0] M := by
    intro v1 v2 v3 s0 M hf
    unfold f_X12_doing_b55 at hf
    refine k_istore C dX12_doing_55 (by decide) [1, 2, 3, 4, 0] (lv' := [(0, .ref (G.2.1 0)), (1, .int v1), (2, .int v2), (3, .int v3), (4, .int s0)]) rfl ?_
    refine k_iload C dX12_doing_57 4 rfl ?_
    rcases ite_g hf with ⟨c1, hf⟩ | ⟨c1, hf⟩
    · refine k_if_eq_t C dX12_doing_59 (tgt := 69) (by decide) c1 ?_
      refine k_aload_n C dX12_doing_69 0 rfl ?_
      refine k_iconst C dX12_doing_70 (v := (0 : Int32)) rfl ?_
      refine k_put C shR_0 (j := 20) rfl FL_X12_131 FW_X12_20 dX12_doing_71 ?_
      refine k_aload_n C dX12_doing_74 0 rfl ?_
      refine k_iload_n C dX12_doing_75 1 rfl ?_
      refine k_iload_n C dX12_doing_76 2 rfl ?_
      refine k_iload_n C dX12_doing_77 3 rfl ?_
      obtain ⟨M2, hM2, hf⟩ := bnd hf
      refine k_callVv C (As := [.int v1, .int v2, .int v3]) (c_X12_adds hap v1 v2 v3 (wI M 0 20 (0 : Int32)) M2 hM2) ML_X12_adds wd_1412 shR_0 rfl rfl rfl ⟨Nat.le_of_ble_eq_true rfl, Nat.le_of_ble_eq_true rfl⟩ (Nat.le_of_ble_eq_true rfl) dX12_doing_78 ?_
      refine k_aload_n C dX12_doing_81 0 rfl ?_
      refine k_geti C shR_0 (j := 5) rfl FL_X12_62 dX12_doing_82 ?_
      refine k_iconst C dX12_doing_85 (v := (1 : Int32)) rfl ?_
      refine k_isub C dX12_doing_86 ?_
      exact k_iret C hr hlk (prf hf) (prs hf) dX12_doing_87
    · refine k_if_eq_f C dX12_doing_59 (tgt := 69) (by decide) c1 ?_
      refine k_aload_n C dX12_doing_62 0 rfl ?_
      refine k_iload C dX12_doing_63 4 rfl ?_
      obtain ⟨⟨t3, M3⟩, ht3, hf⟩ := bnd hf
      replace hf := bp_s hf
      refine k_callVi C (As := [.int s0]) (c_X12_no hap s0 M (t3, M3) ht3) ML_X12_no wd_1369 shR_0 rfl rfl rfl ⟨Nat.le_of_ble_eq_true rfl, Nat.le_of_ble_eq_true rfl⟩ (Nat.le_of_ble_eq_true rfl) dX12_doing_65 ?_
      exact k_iret C hr hlk (prf hf) (prs hf) dX12_doing_68
  unfold f_X12_doing at hf
  refine k_lv (lv' := [(0, .ref (G.2.1 0)), (1, .int v1), (2, .int v2), (3, .int v3)]) [0, 1, 2, 3] rfl ?_
  refine k_iload_n C dX12_doing_0 1 rfl ?_
  refine k_iconst C dX12_doing_1 (v := (0 : Int32)) rfl ?_
  refine k_iconst C dX12_doing_2 (v := (5 : Int32)) rfl ?_
  refine k_callSi C (As := [.int v1, .int (0 : Int32), .int (5 : Int32)]) (c_X12_isIn hap v1 (0 : Int32) (5 : Int32) M0 _ rfl) MS_X12_isIn wd_1393 rfl rfl ⟨Nat.le_of_ble_eq_true rfl, Nat.le_of_ble_eq_true rfl⟩ (Nat.le_of_ble_eq_true rfl) dX12_doing_3 ?_
  have hj4 : K p l e (k_rm 1 23) s m args below meth c 5 G shR (MQ below (k_Qi G shR r.1 r.2) args s 0 0 (k_A G shR.length)) 55 [(0, .ref (G.2.1 0)), (1, .int v1), (2, .int v2), (3, .int v3)] [.int (if (f_X12_isIn v1 (0 : Int32) (5 : Int32)) = 0 then (-2 : Int32) else (if v2 < 0 then (-4 : Int32) else (if 0 ≤ v3 then (if (9 : Int32) < v2 then (-6 : Int32) else (if (255 : Int32) < v3 then (-6 : Int32) else (if (M0.1 0 5) = (8 : Int32) then (-6 : Int32) else (0 : Int32)))) else (-4 : Int32))))] M0 := by
    exact k_b55 v1 v2 v3 (if (f_X12_isIn v1 (0 : Int32) (5 : Int32)) = 0 then (-2 : Int32) else (if v2 < 0 then (-4 : Int32) else (if 0 ≤ v3 then (if (9 : Int32) < v2 then (-6 : Int32) else (if (255 : Int32) < v3 then (-6 : Int32) else (if (M0.1 0 5) = (8 : Int32) then (-6 : Int32) else (0 : Int32)))) else (-4 : Int32)))) M0 hf
  by_cases c5 : (f_X12_isIn v1 (0 : Int32) (5 : Int32)) = 0
  · refine k_if_ne_f C dX12_doing_6 (tgt := 14) (by decide) c5 ?_
    refine k_bipush C dX12_doing_9 (v := (-2 : Int32)) rfl ?_
    refine k_goto C dX12_doing_11 (tgt := 55) (by decide) ?_
    exact k_val (by rw [if_pos c5]) hj4
  · refine k_if_ne_t C dX12_doing_6 (tgt := 14) (by decide) c5 ?_
    refine k_iload_n C dX12_doing_14 2 rfl ?_
    by_cases c6 : v2 < 0
    · refine k_if_lt_t C dX12_doing_15 (tgt := 22) (by decide) c6 ?_
      refine k_bipush C dX12_doing_22 (v := (-4 : Int32)) rfl ?_
      refine k_goto C dX12_doing_24 (tgt := 55) (by decide) ?_
      exact k_val (by rw [if_neg c5, if_pos c6]) hj4
    · refine k_if_lt_f C dX12_doing_15 (tgt := 22) (by decide) c6 ?_
      refine k_iload_n C dX12_doing_18 3 rfl ?_
      by_cases c7 : 0 ≤ v3
      · refine k_if_ge_t C dX12_doing_19 (tgt := 27) (by decide) c7 ?_
        refine k_iload_n C dX12_doing_27 2 rfl ?_
        refine k_bipush C dX12_doing_28 (v := (9 : Int32)) rfl ?_
        by_cases c8 : (9 : Int32) < v2
        · refine k_icmp_gt_t C dX12_doing_30 (tgt := 49) (by decide) c8 ?_
          refine k_bipush C dX12_doing_49 (v := (-6 : Int32)) rfl ?_
          refine k_goto C dX12_doing_51 (tgt := 55) (by decide) ?_
          exact k_val (by rw [if_neg c5, if_neg c6, if_pos c7, if_pos c8]) hj4
        · refine k_icmp_gt_f C dX12_doing_30 (tgt := 49) (by decide) c8 ?_
          refine k_iload_n C dX12_doing_33 3 rfl ?_
          refine k_sipush C dX12_doing_34 (v := (255 : Int32)) rfl ?_
          by_cases c9 : (255 : Int32) < v3
          · refine k_icmp_gt_t C dX12_doing_37 (tgt := 49) (by decide) c9 ?_
            refine k_bipush C dX12_doing_49 (v := (-6 : Int32)) rfl ?_
            refine k_goto C dX12_doing_51 (tgt := 55) (by decide) ?_
            exact k_val (by rw [if_neg c5, if_neg c6, if_pos c7, if_neg c8, if_pos c9]) hj4
          · refine k_icmp_gt_f C dX12_doing_37 (tgt := 49) (by decide) c9 ?_
            refine k_aload_n C dX12_doing_40 0 rfl ?_
            refine k_geti C shR_0 (j := 5) rfl FL_X12_62 dX12_doing_41 ?_
            refine k_bipush C dX12_doing_44 (v := (8 : Int32)) rfl ?_
            by_cases c10 : (M0.1 0 5) = (8 : Int32)
            · refine k_icmp_ne_f C dX12_doing_46 (tgt := 54) (by decide) c10 ?_
              refine k_bipush C dX12_doing_49 (v := (-6 : Int32)) rfl ?_
              refine k_goto C dX12_doing_51 (tgt := 55) (by decide) ?_
              exact k_val (by rw [if_neg c5, if_neg c6, if_pos c7, if_neg c8, if_neg c9, if_pos c10]) hj4
            · refine k_icmp_ne_t C dX12_doing_46 (tgt := 54) (by decide) c10 ?_
              refine k_iconst C dX12_doing_54 (v := (0 : Int32)) rfl ?_
              exact k_val (by rw [if_neg c5, if_neg c6, if_pos c7, if_neg c8, if_neg c9, if_neg c10]) hj4
      · refine k_if_ge_f C dX12_doing_19 (tgt := 27) (by decide) c7 ?_
        refine k_bipush C dX12_doing_22 (v := (-4 : Int32)) rfl ?_
        refine k_goto C dX12_doing_24 (tgt := 55) (by decide) ?_
        exact k_val (by rw [if_neg c5, if_neg c6, if_neg c7]) hj4
theorem dX12_does_0 : decode cX12_does 0 = .ok (.aload_n 0, 1) := by decide +kernel
theorem dX12_does_1 : decode cX12_does 1 = .ok (.iload_n 1, 1) := by decide +kernel
theorem dX12_does_2 : decode cX12_does 2 = .ok (.invokevirtual 104, 3) := by decide +kernel
theorem dX12_does_5 : decode cX12_does 5 = .ok (.ifCond .ne 7, 3) := by decide +kernel
theorem dX12_does_8 : decode cX12_does 8 = .ok (.iconst (-1), 1) := by decide +kernel
theorem dX12_does_9 : decode cX12_does 9 = .ok (.goto 18, 3) := by decide +kernel
theorem dX12_does_12 : decode cX12_does 12 = .ok (.aload_n 0, 1) := by decide +kernel
theorem dX12_does_13 : decode cX12_does 13 = .ok (.getfield 108, 3) := by decide +kernel
theorem dX12_does_16 : decode cX12_does 16 = .ok (.bipush 12, 2) := by decide +kernel
theorem dX12_does_18 : decode cX12_does 18 = .ok (.if_icmp .ne 8, 3) := by decide +kernel
theorem dX12_does_21 : decode cX12_does 21 = .ok (.bipush (-6), 2) := by decide +kernel
theorem dX12_does_23 : decode cX12_does 23 = .ok (.goto 4, 3) := by decide +kernel
theorem dX12_does_26 : decode cX12_does 26 = .ok (.iconst 0, 1) := by decide +kernel
theorem dX12_does_27 : decode cX12_does 27 = .ok (.istore_n 2, 1) := by decide +kernel
theorem dX12_does_28 : decode cX12_does 28 = .ok (.iload_n 2, 1) := by decide +kernel
theorem dX12_does_29 : decode cX12_does 29 = .ok (.ifCond .eq 9, 3) := by decide +kernel
theorem dX12_does_32 : decode cX12_does 32 = .ok (.aload_n 0, 1) := by decide +kernel
theorem dX12_does_33 : decode cX12_does 33 = .ok (.iload_n 2, 1) := by decide +kernel
theorem dX12_does_34 : decode cX12_does 34 = .ok (.invokevirtual 75, 3) := by decide +kernel
theorem dX12_does_37 : decode cX12_does 37 = .ok (.ireturn, 1) := by decide +kernel
theorem dX12_does_38 : decode cX12_does 38 = .ok (.aload_n 0, 1) := by decide +kernel
theorem dX12_does_39 : decode cX12_does 39 = .ok (.invokevirtual 167, 3) := by decide +kernel
theorem dX12_does_42 : decode cX12_does 42 = .ok (.aload_n 0, 1) := by decide +kernel
theorem dX12_does_43 : decode cX12_does 43 = .ok (.getfield 22, 3) := by decide +kernel
theorem dX12_does_46 : decode cX12_does 46 = .ok (.aload_n 0, 1) := by decide +kernel
theorem dX12_does_47 : decode cX12_does 47 = .ok (.getfield 108, 3) := by decide +kernel
theorem dX12_does_50 : decode cX12_does 50 = .ok (.iload_n 1, 1) := by decide +kernel
theorem dX12_does_51 : decode cX12_does 51 = .ok (.iastore, 1) := by decide +kernel
theorem dX12_does_52 : decode cX12_does 52 = .ok (.aload_n 0, 1) := by decide +kernel
theorem dX12_does_53 : decode cX12_does 53 = .ok (.dup, 1) := by decide +kernel
theorem dX12_does_54 : decode cX12_does 54 = .ok (.getfield 108, 3) := by decide +kernel
theorem dX12_does_57 : decode cX12_does 57 = .ok (.iconst 1, 1) := by decide +kernel
theorem dX12_does_58 : decode cX12_does 58 = .ok (.iadd, 1) := by decide +kernel
theorem dX12_does_59 : decode cX12_does 59 = .ok (.putfield 108, 3) := by decide +kernel
theorem dX12_does_62 : decode cX12_does 62 = .ok (.aload_n 0, 1) := by decide +kernel
theorem dX12_does_63 : decode cX12_does 63 = .ok (.aload_n 0, 1) := by decide +kernel
theorem dX12_does_64 : decode cX12_does 64 = .ok (.getfield 108, 3) := by decide +kernel
theorem dX12_does_67 : decode cX12_does 67 = .ok (.iconst 1, 1) := by decide +kernel
theorem dX12_does_68 : decode cX12_does 68 = .ok (.isub, 1) := by decide +kernel
theorem dX12_does_69 : decode cX12_does 69 = .ok (.invokevirtual 164, 3) := by decide +kernel
theorem dX12_does_72 : decode cX12_does 72 = .ok (.ireturn, 1) := by decide +kernel
set_option maxRecDepth 100000 in
set_option maxHeartbeats 4000000 in
theorem c_X12_does {l : Launch} {G : Gx} (hap : k_ap G shR.length) (v1 : Int32) (M0 : Mem) (r : Int32 × Mem) (hf : f_X12_does v1 M0 = some r) : k_Met l yX12_does cX12_does 3 (some .int) 4 89 G shR [.ref (G.2.1 0), .int v1] M0 (k_Qi G shR r.1 r.2) := by
  refine k_Met_of (by decide) hap (Nat.le_of_ble_eq_true rfl) ?_
  intro p e s m args below meth c C hr hlk
  have C : Cx p s m args c cX12_does RX12 3 G shR := C
  have k_b27 : ∀ (v1 : Int32) (s0 : Int32) (M : Mem), f_X12_does_b27 v1 s0 M = some r → K p l e (k_rm 4 89) s m args below meth c 3 G shR (MQ below (k_Qi G shR r.1 r.2) args s 0 0 (k_A G shR.length)) 27 [(0, .ref (G.2.1 0)), (1, .int v1)] [.int s0] M := by
    intro v1 s0 M hf
    unfold f_X12_does_b27 at hf
    refine k_istore_n C dX12_does_27 (by decide) [1, 2, 0] (lv' := [(0, .ref (G.2.1 0)), (1, .int v1), (2, .int s0)]) rfl ?_
    refine k_iload_n C dX12_does_28 2 rfl ?_
    rcases ite_g hf with ⟨c1, hf⟩ | ⟨c1, hf⟩
    · refine k_if_eq_t C dX12_does_29 (tgt := 38) (by decide) c1 ?_
      refine k_aload_n C dX12_does_38 0 rfl ?_
      obtain ⟨M2, hM2, hf⟩ := bnd hf
      refine k_callVv C (As := []) (c_X12_keepsBack hap M M2 hM2) ML_X12_keepsBack wd_1447 shR_0 rfl rfl rfl ⟨Nat.le_of_ble_eq_true rfl, Nat.le_of_ble_eq_true rfl⟩ (Nat.le_of_ble_eq_true rfl) dX12_does_39 ?_
      refine k_aload_n C dX12_does_42 0 rfl ?_
      refine k_getr C shR_0 (j := 4) rfl FL_X12_22 dX12_does_43 ?_
      refine k_aload_n C dX12_does_46 0 rfl ?_
      refine k_geti C shR_0 (j := 6) rfl FL_X12_108 dX12_does_47 ?_
      refine k_iload_n C dX12_does_50 1 rfl ?_
      obtain ⟨M3, hM3, hf⟩ := bnd hf
      refine k_iast C shR_5 hM3 dX12_does_51 ?_
      refine k_aload_n C dX12_does_52 0 rfl ?_
      refine k_dup C dX12_does_53 rfl ?_
      refine k_geti C shR_0 (j := 6) rfl FL_X12_108 dX12_does_54 ?_
      refine k_iconst C dX12_does_57 (v := (1 : Int32)) rfl ?_
      refine k_iadd C dX12_does_58 ?_
      refine k_put C shR_0 (j := 6) rfl FL_X12_108 FW_X12_6 dX12_does_59 ?_
      refine k_aload_n C dX12_does_62 0 rfl ?_
      refine k_aload_n C dX12_does_63 0 rfl ?_
      refine k_geti C shR_0 (j := 6) rfl FL_X12_108 dX12_does_64 ?_
      refine k_iconst C dX12_does_67 (v := (1 : Int32)) rfl ?_
      refine k_isub C dX12_does_68 ?_
      obtain ⟨t4, ht4, hf⟩ := bnd hf
      refine k_callVi C (As := [.int (((wI M3 0 6 ((M3.1 0 6) + (1 : Int32))).1 0 6) - (1 : Int32))]) (c_X12_dueAt hap (((wI M3 0 6 ((M3.1 0 6) + (1 : Int32))).1 0 6) - (1 : Int32)) (wI M3 0 6 ((M3.1 0 6) + (1 : Int32))) t4 ht4) ML_X12_dueAt wd_1451 shR_0 rfl rfl rfl ⟨Nat.le_of_ble_eq_true rfl, Nat.le_of_ble_eq_true rfl⟩ (Nat.le_of_ble_eq_true rfl) dX12_does_69 ?_
      exact k_iret C hr hlk (prf hf) (prs hf) dX12_does_72
    · refine k_if_eq_f C dX12_does_29 (tgt := 38) (by decide) c1 ?_
      refine k_aload_n C dX12_does_32 0 rfl ?_
      refine k_iload_n C dX12_does_33 2 rfl ?_
      obtain ⟨⟨t5, M5⟩, ht5, hf⟩ := bnd hf
      replace hf := bp_s hf
      refine k_callVi C (As := [.int s0]) (c_X12_no hap s0 M (t5, M5) ht5) ML_X12_no wd_1369 shR_0 rfl rfl rfl ⟨Nat.le_of_ble_eq_true rfl, Nat.le_of_ble_eq_true rfl⟩ (Nat.le_of_ble_eq_true rfl) dX12_does_34 ?_
      exact k_iret C hr hlk (prf hf) (prs hf) dX12_does_37
  unfold f_X12_does at hf
  refine k_lv (lv' := [(0, .ref (G.2.1 0)), (1, .int v1)]) [0, 1] rfl ?_
  refine k_aload_n C dX12_does_0 0 rfl ?_
  refine k_iload_n C dX12_does_1 1 rfl ?_
  refine k_callVi C (As := [.int v1]) (c_X12_isDoing hap v1 M0 _ rfl) ML_X12_isDoing wd_1416 shR_0 rfl rfl rfl ⟨Nat.le_of_ble_eq_true rfl, Nat.le_of_ble_eq_true rfl⟩ (Nat.le_of_ble_eq_true rfl) dX12_does_2 ?_
  have hj6 : K p l e (k_rm 4 89) s m args below meth c 3 G shR (MQ below (k_Qi G shR r.1 r.2) args s 0 0 (k_A G shR.length)) 27 [(0, .ref (G.2.1 0)), (1, .int v1)] [.int (if (f_X12_isDoing v1 M0) = 0 then (-1 : Int32) else (if (M0.1 0 6) = (12 : Int32) then (-6 : Int32) else (0 : Int32)))] M0 := by
    exact k_b27 v1 (if (f_X12_isDoing v1 M0) = 0 then (-1 : Int32) else (if (M0.1 0 6) = (12 : Int32) then (-6 : Int32) else (0 : Int32))) M0 hf
  by_cases c7 : (f_X12_isDoing v1 M0) = 0
  · refine k_if_ne_f C dX12_does_5 (tgt := 12) (by decide) c7 ?_
    refine k_iconst C dX12_does_8 (v := (-1 : Int32)) rfl ?_
    refine k_goto C dX12_does_9 (tgt := 27) (by decide) ?_
    exact k_val (by rw [if_pos c7]) hj6
  · refine k_if_ne_t C dX12_does_5 (tgt := 12) (by decide) c7 ?_
    refine k_aload_n C dX12_does_12 0 rfl ?_
    refine k_geti C shR_0 (j := 6) rfl FL_X12_108 dX12_does_13 ?_
    refine k_bipush C dX12_does_16 (v := (12 : Int32)) rfl ?_
    by_cases c8 : (M0.1 0 6) = (12 : Int32)
    · refine k_icmp_ne_f C dX12_does_18 (tgt := 26) (by decide) c8 ?_
      refine k_bipush C dX12_does_21 (v := (-6 : Int32)) rfl ?_
      refine k_goto C dX12_does_23 (tgt := 27) (by decide) ?_
      exact k_val (by rw [if_neg c7, if_pos c8]) hj6
    · refine k_icmp_ne_t C dX12_does_18 (tgt := 26) (by decide) c8 ?_
      refine k_iconst C dX12_does_26 (v := (0 : Int32)) rfl ?_
      exact k_val (by rw [if_neg c7, if_neg c8]) hj6
