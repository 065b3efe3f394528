/-! THE CLAIM OUT OF ONE WALK OF THE LAW'S BODY. Your part is whole_start (and what it stands on); all else here is the same for every law, but numbers. -/
def R_law : String := "SecondHelpingLaw"
def lw_P (b : Addr) (xs : List Int32) (args : Array Value) (s : State) : Prop := args = #[.ref b] ∧ s.IntsAt b xs ∧ xs.length ≤ 2048 ∧ (Jvm.Cond.and given_1 narrow_1).before args s = true
def lw_Q (_ : Array Value) (s : State) (o : Outcome) (t : State) : Prop := o = .returned (some (.int 1)) ∧ Framed s o t [] 600000 7302250
def lw_Z (below : List Frame) (a : Array Value) (s : State) : State → Prop := fun t => ∃ o, t.status = .running ∧ Ended t below o ∧ lw_Q a s o t
/-- the law's own end, with 1 on the stack, nothing written that was there before, its room as the claim has it -/
theorem lw_ret {p : Program} {l : Launch} {e : Env} {s : State} {m : MethodId} {below : List Frame} {meth : Method} {c : Code} {b : Nat} (hx : p.tables.exec = Jvm.exec) (hb : c.code = code) (hr : meth.sig.returnType = ret) (hlocks : meth.locks = false) {pc : Nat} {H : Heap} {ls : Array Slot} (hdg : decode code pc = .ok (.ireturn, 1)) : W p l e room_1 s m #[Value.ref b] below meth c H [] 600000 7302250 (lw_Z below #[Value.ref b] s) (F0 m pc ls [.int 1]) := by
  intro T hT X
  obtain ⟨fs, hret, hrun, hended, hW, hframe⟩ := X.leave (v := some (.int 1)) (hlocks := hlocks) (fun h => by rw [hr] at h; cases h)
  have hmeth' : T.vm.method? m = some meth := X.method'
  refine ⟨T.setFrames fs, ?_, .returned (some (.int 1)), hrun, hended, rfl, ⟨_, rfl⟩, hW, hframe⟩
  jvm_step X.here [X.here.top, hx, hb, hdg, hmeth', hr, ret, narrow_b1]
  (try refine ⟨rfl, ?_⟩); (try refine ⟨rfl, ?_⟩)
  first | (intro acts; rw [hret _ acts rfl rfl rfl]) | rw [hret _ _ rfl rfl rfl]
  exact Steps.refl _
/-- what holds at the law's entry: the machine, the code, the tables' words (any of lw_tbl by 'hts w (by decide +kernel)'), the script of L ints xs at the cell b, what the Statement gives of the start (any of its parts by flat_of_before) -/
def lw_At (p : Program) (s : State) (m : MethodId) (meth : Method) (c : Code) (b L : Nat) (xs : Nat → Int32) : Prop :=
  p.tables.exec = Jvm.exec ∧ c.code = code ∧ meth.sig.returnType = ret ∧ c.maxLocals = 4 ∧ s.vm.findClass R_law = some m.cls ∧ (∀ w ∈ lw_tbl, w.before #[Value.ref b] s = true) ∧ va_X b L xs s s.heap ∧ b < s.heap.size ∧ meth.locks = false ∧ (Jvm.Cond.and given_1 narrow_1).before #[Value.ref b] s = true
/-! the law's two worlds: rows over both -/
def lA (s : State) : Nat → Prop := fun q => s.heap.size ≤ q
def CL (p : Program) (s : State) (m : MethodId) (meth : Method) (c : Code) (b L : Nat) (xs : Nat → Int32) (D : va_G) (cA : Nat → ClassId) (aC aR : Nat → Nat) : Prop :=
  lw_At p s m meth c b L xs ∧ (∀ w ∈ bigW, w.before #[Value.ref b] s = true) ∧ va_K D vwCl (i_tys cA) s ∧ k_nw s ∧ k_ap (D, aC, cA) shC.length ∧ k_ap (D, aR, cA) shR.length ∧ (∀ i j : Nat, i < shC.length → j < shR.length → aC i ≠ aR j) ∧ (∀ i : Nat, i < shC.length → s.heap.size ≤ aC i) ∧ ∀ j : Nat, j < shR.length → s.heap.size ≤ aR j
def KL (p : Program) (l : Launch) (e : Env) (s : State) (m : MethodId) (below : List Frame) (meth : Method) (c : Code) (b : Nat) (D : va_G) (cA : Nat → ClassId) (aC aR : Nat → Nat) (pc : Nat) (lv : List (Nat × Value)) (st : List Value) (MC MR : Mem) : Prop :=
  ∀ (H : Heap) (locs : List Loc) (ls : Array Slot), va_P D vwCl (k_ws (D, aC, cA) shC MC) H → va_P D vwCl (k_ws (D, aR, cA) shR MR) H → va_S (lA s) s.heap H locs → lv_has ls 4 lv → W p l e room_1 s m #[Value.ref b] below meth c H locs 62 3216 (lw_Z below #[Value.ref b] s) (F0 m pc ls st)
abbrev lvL (b : Nat) (aC aR : Nat → Nat) (i : Nat) : List (Nat × Value) := [(0, .ref b), (1, .ref (aC 0)), (2, .ref (aR 0)), (3, .int (nI i))]
section LROWS
variable {p : Program} {l : Launch} {e : Env} {s : State} {m : MethodId} {below : List Frame} {meth : Method} {c : Code} {b L : Nat} {xs : Nat → Int32} {D : va_G} {cA : Nat → ClassId} {aC aR : Nat → Nat} {pc : Nat} {lv lv' : List (Nat × Value)} {st st' : List Value} {MC MR : Mem}
theorem CL.fix (C : CL p s m meth c b L xs D cA aC aR) : CallFix p m c code 4 s #[Value.ref b] bigW RL := ⟨C.1.1, C.1.2.1, C.1.2.2.2.1, C.1.2.2.2.2.1, C.2.1⟩
theorem w_ald (C : CL p s m meth c b L xs D cA aC aR) {k : Fin 4} (i : Nat) {x : Nat} (_hx : i < 3) (hl : lv[i]? = some (i, .ref x)) (hi : (k : Nat) = i) (d : decode code pc = .ok (.aload_n k, 1)) (kk : KL p l e s m below meth c b D cA aC aR (pc + 1) lv (.ref x :: st) MC MR) : KL p l e s m below meth c b D cA aC aR pc lv st MC MR :=
  fun H locs ls h1 h2 hS h => lv_aload_n C.1.1 C.1.2.1 d hi (lv_at h i hl) (kk H locs ls h1 h2 hS h)
theorem w_arg (C : CL p s m meth c b L xs D cA aC aR) {i k : Nat} {n : Int} (hk : i + k < L) (hL : L < 2 ^ 31) (d0 : decode code pc = .ok (.aload_n 0, 1)) (d1 : decode code (pc + 1) = .ok (.iload_n 3, 1)) (d2 : decode code (pc + 2) = .ok (.iconst n, 1)) (hn : Int32.ofInt n = nI k) (d3 : decode code (pc + 3) = .ok (.iadd, 1)) (d4 : decode code (pc + 4) = .ok (.iaload, 1)) (kk : KL p l e s m below meth c b D cA aC aR (pc + 5) (lvL b aC aR i) (.int (xs (i + k)) :: st) MC MR) : KL p l e s m below meth c b D cA aC aR pc (lvL b aC aR i) st MC MR :=
  fun H locs ls h1 h2 hS h => by
    refine lv_aload_n C.1.1 C.1.2.1 d0 rfl (lv_at h 0 rfl) ?_
    refine lv_iload_n C.1.1 C.1.2.1 d1 rfl (lv_at h 3 rfl) ?_
    refine lv_iconst C.1.1 C.1.2.1 d2 hn ?_
    refine lv_iadd C.1.1 C.1.2.1 d3 ?_
    rw [nI_add]
    refine va_sld C.1.1 C.1.2.1 C.1.2.2.2.2.2.2.1 C.1.2.2.2.2.2.2.2.1 (Nat.not_le.mpr C.1.2.2.2.2.2.2.2.1) hS (i := nI (i + k)) (vp_in_nI hk (by omega)) d4 ?_
    rw [nI_clamp (by omega)]
    exact kk H locs ls h1 h2 hS h
theorem w_lcmp (C : CL p s m meth c b L xs D cA aC aR) {v : Int64} (d : decode code pc = .ok (.lcmp, 1)) (kk : KL p l e s m below meth c b D cA aC aR (pc + 1) lv (.int 0 :: st) MC MR) : KL p l e s m below meth c b D cA aC aR pc lv (.long v :: .long v :: st) MC MR :=
  fun H locs ls h1 h2 hS h => by
    refine W.lcmp C.1.1 C.1.2.1 d ?_
    have e0 : lg_cmp v v = 0 := by
      unfold lg_cmp
      rw [if_neg (show ¬ v > v from fun q => by rw [gt_iff_lt, Int64.lt_iff_toInt_lt] at q; omega), if_pos rfl]
    rw [e0]
    exact kk H locs ls h1 h2 hS h
theorem w_eq (C : CL p s m meth c b L xs D cA aC aR) {v : Int32} {off : Int} {tgt : Nat} (d : decode code pc = .ok (.if_icmp .eq off, 3)) (ht : (pc : Int) + off = (tgt : Int)) (kk : KL p l e s m below meth c b D cA aC aR tgt lv st MC MR) : KL p l e s m below meth c b D cA aC aR pc lv (.int v :: .int v :: st) MC MR :=
  fun H locs ls h1 h2 hS h => lv_icmp_eq C.1.1 C.1.2.1 d ht (fun _ => kk H locs ls h1 h2 hS h) (fun q => absurd rfl q)
theorem w_eq0 (C : CL p s m meth c b L xs D cA aC aR) {off : Int} {tgt : Nat} (d : decode code pc = .ok (.ifCond .eq off, 3)) (ht : (pc : Int) + off = (tgt : Int)) (kk : KL p l e s m below meth c b D cA aC aR tgt lv st MC MR) : KL p l e s m below meth c b D cA aC aR pc lv (.int 0 :: st) MC MR :=
  fun H locs ls h1 h2 hS h => lv_if_eq C.1.1 C.1.2.1 d ht (fun _ => kk H locs ls h1 h2 hS h) (fun q => absurd rfl q)
theorem w_tableIn (C : CL p s m meth c b L xs D cA aC aR) {dflt lo hi : Int} {offs : Array Int} {len : Nat} {x : Int32} (v : Int32) (hx : x = v) (d : decode code pc = .ok (.tableswitch dflt lo hi offs, len)) (h1 : ¬ v.toInt < lo) (h2 : ¬ hi < v.toInt) {off : Int} {tgt : Nat} (ho : offs[(v.toInt - lo).toNat]? = some off) (ht : (pc : Int) + off = (tgt : Int)) (kk : KL p l e s m below meth c b D cA aC aR tgt lv st MC MR) : KL p l e s m below meth c b D cA aC aR pc lv (.int x :: st) MC MR :=
  fun H locs ls g1 g2 hS h => by
    subst hx
    exact lv_tableIn C.1.1 C.1.2.1 d h1 h2 ho ht (kk H locs ls g1 g2 hS h)
theorem w_tableOut (C : CL p s m meth c b L xs D cA aC aR) {dflt lo hi : Int} {offs : Array Int} {len : Nat} {x : Int32} (d : decode code pc = .ok (.tableswitch dflt lo hi offs, len)) (hx : x.toInt < lo ∨ hi < x.toInt) {tgt : Nat} (ht : (pc : Int) + dflt = (tgt : Int)) (kk : KL p l e s m below meth c b D cA aC aR tgt lv st MC MR) : KL p l e s m below meth c b D cA aC aR pc lv (.int x :: st) MC MR :=
  fun H locs ls g1 g2 hS h => lv_tableOut C.1.1 C.1.2.1 d hx ht (kk H locs ls g1 g2 hS h)
theorem kept_ws {D : va_G} {a a' : Nat → Nat} {cA : Nat → ClassId} {sh sh' : List Sh} {M : Mem} {H H1 : Heap} (hP : va_P D vwCl (k_ws (D, a, cA) sh M) H) (hne : ∀ i j : Nat, i < sh'.length → j < sh.length → a' i ≠ a j) (hk : ∀ q : Nat, q < H.size → ¬ k_A (D, a', cA) sh'.length q → H1[q]? = H[q]?) : va_P D vwCl (k_ws (D, a, cA) sh M) H1 := fun k x hx => by
  have lk : k < sh.length := by have := (List.getElem?_eq_some_iff.mp hx).1; simpa [k_ws] using this
  have hat := hP k x hx
  have hx' := hx
  rw [k_ws_get (List.getElem?_eq_getElem lk)] at hx'
  have e0 : a k = x.1 := congrArg Prod.fst (Option.some.inj hx')
  refine hat.kept (hk x.1 hat.lt (fun z => ?_))
  obtain ⟨i, hi, ei⟩ := z
  exact hne i k hi lk (by rw [e0, ei])

theorem w_callCi (C : CL p s m meth c b L xs D cA aC aR) {y : MethodName} {bytes : ByteArray} {maxL fr lo np index : Nat} {ret : Option FieldType} {As : List Value} {MC' : Mem} {r : Int32} (hM : k_Met l y bytes maxL ret fr lo (D, aC, cA) shC (.ref (aC 0) :: As) MC (k_Qi (D, aC, cA) shC r MC')) (Lw : ML y bytes maxL ret np) (hk : Cond.methodLink RL index y ∈ bigW) (hc : RX11 = y.cls) (hn : As.length = np) (hR : fr + 1 ≤ 2048 ∧ 8 + (maxL + 11) + lo ≤ 84000) (hcat : (st.map fun v => v.category).sum ≤ 8) (d : decode code pc = .ok (.invokevirtual index, 3)) (kk : KL p l e s m below meth c b D cA aC aR (pc + 3) lv (.int r :: st) MC' MR) : KL p l e s m below meth c b D cA aC aR pc lv (As.reverse ++ .ref (aC 0) :: st) MC MR :=
  fun H locs ls hP1 hP2 hS hl => by
    obtain ⟨L1, L2, L3, L4, L5, L6⟩ := Lw
    have hrc := va_recv (q0 := 0) (ci := 11) C.2.2.1 hP1 rfl (k_ws_obj (G := (D, aC, cA)) shC_0)
    have hrc : ∃ cell : Cell, H[aC 0]? = some cell ∧ cell.vm.isStatics = false ∧ s.vm.findClass y.cls = some cell.cls := by rw [← hc]; exact hrc
    refine va_calli (va_runV (C := y.cls) (b := aC 0) (As := As) (rest := st) C.fix hM (cwV np C.2.1 (good_cons hk (good_cons L1 (good_cons L2 (good_cons L3 (good_cons L4 bigW_good))))) rfl rfl rfl ⟨rfl, L5.1, L5.2, L6⟩ hR) ⟨k_blind, hrc, fun U hU hW => ⟨rfl, by rw [hU]; exact hP1, va_K.moved hW.alike C.2.2.1, C.2.2.2.1.warm hW⟩⟩ rfl hn hl.1 rfl (lv_room hcat) d ⟨Nat.le_of_ble_eq_true rfl, Nat.le_of_ble_eq_true rfl⟩) hS (fun q _ h => ?_) (fun q h => ?_) (fun r' u t H1 locs1 ht hvm hw hB hz1 hk1 hS1 => ?_)
    · obtain ⟨j, hj, rfl⟩ := h; exact C.2.2.2.2.2.2.2.1 j hj
    · obtain ⟨j, hj, rfl⟩ := h; exact C.2.2.2.2.2.2.2.1 j hj
    · subst hw
      exact kk H1 locs1 ls (by rw [← ht]; exact hB.1) (kept_ws (sh' := shC) hP2 C.2.2.2.2.2.2.1 hk1) hS1 hl
theorem w_callCl (C : CL p s m meth c b L xs D cA aC aR) {y : MethodName} {bytes : ByteArray} {maxL fr lo np index : Nat} {ret : Option FieldType} {As : List Value} {MC' : Mem} {r : Int64} (hM : k_Met l y bytes maxL ret fr lo (D, aC, cA) shC (.ref (aC 0) :: As) MC (k_Ql (D, aC, cA) shC r MC')) (Lw : ML y bytes maxL ret np) (hk : Cond.methodLink RL index y ∈ bigW) (hc : RX11 = y.cls) (hn : As.length = np) (hR : fr + 1 ≤ 2048 ∧ 8 + (maxL + 11) + lo ≤ 84000) (hcat : (st.map fun v => v.category).sum ≤ 8) (d : decode code pc = .ok (.invokevirtual index, 3)) (kk : KL p l e s m below meth c b D cA aC aR (pc + 3) lv (.long r :: st) MC' MR) : KL p l e s m below meth c b D cA aC aR pc lv (As.reverse ++ .ref (aC 0) :: st) MC MR :=
  fun H locs ls hP1 hP2 hS hl => by
    obtain ⟨L1, L2, L3, L4, L5, L6⟩ := Lw
    have hrc := va_recv (q0 := 0) (ci := 11) C.2.2.1 hP1 rfl (k_ws_obj (G := (D, aC, cA)) shC_0)
    have hrc : ∃ cell : Cell, H[aC 0]? = some cell ∧ cell.vm.isStatics = false ∧ s.vm.findClass y.cls = some cell.cls := by rw [← hc]; exact hrc
    refine va_calll (va_runV (C := y.cls) (b := aC 0) (As := As) (rest := st) C.fix hM (cwV np C.2.1 (good_cons hk (good_cons L1 (good_cons L2 (good_cons L3 (good_cons L4 bigW_good))))) rfl rfl rfl ⟨rfl, L5.1, L5.2, L6⟩ hR) ⟨k_blind, hrc, fun U hU hW => ⟨rfl, by rw [hU]; exact hP1, va_K.moved hW.alike C.2.2.1, C.2.2.2.1.warm hW⟩⟩ rfl hn hl.1 rfl (lv_room hcat) d ⟨Nat.le_of_ble_eq_true rfl, Nat.le_of_ble_eq_true rfl⟩) hS (fun q _ h => ?_) (fun q h => ?_) (fun r' u t H1 locs1 ht hvm hw hB hz1 hk1 hS1 => ?_)
    · obtain ⟨j, hj, rfl⟩ := h; exact C.2.2.2.2.2.2.2.1 j hj
    · obtain ⟨j, hj, rfl⟩ := h; exact C.2.2.2.2.2.2.2.1 j hj
    · subst hw
      exact kk H1 locs1 ls (by rw [← ht]; exact hB.1) (kept_ws (sh' := shC) hP2 C.2.2.2.2.2.2.1 hk1) hS1 hl

theorem w_callRi (C : CL p s m meth c b L xs D cA aC aR) {y : MethodName} {bytes : ByteArray} {maxL fr lo np index : Nat} {ret : Option FieldType} {As : List Value} {MR' : Mem} {r : Int32} (hM : k_Met l y bytes maxL ret fr lo (D, aR, cA) shR (.ref (aR 0) :: As) MR (k_Qi (D, aR, cA) shR r MR')) (Lw : ML y bytes maxL ret np) (hk : Cond.methodLink RL index y ∈ bigW) (hc : RX12 = y.cls) (hn : As.length = np) (hR : fr + 1 ≤ 2048 ∧ 8 + (maxL + 11) + lo ≤ 84000) (hcat : (st.map fun v => v.category).sum ≤ 8) (d : decode code pc = .ok (.invokevirtual index, 3)) (kk : KL p l e s m below meth c b D cA aC aR (pc + 3) lv (.int r :: st) MC MR') : KL p l e s m below meth c b D cA aC aR pc lv (As.reverse ++ .ref (aR 0) :: st) MC MR :=
  fun H locs ls hP1 hP2 hS hl => by
    obtain ⟨L1, L2, L3, L4, L5, L6⟩ := Lw
    have hrc := va_recv (q0 := 0) (ci := 12) C.2.2.1 hP2 rfl (k_ws_obj (G := (D, aR, cA)) shR_0)
    have hrc : ∃ cell : Cell, H[aR 0]? = some cell ∧ cell.vm.isStatics = false ∧ s.vm.findClass y.cls = some cell.cls := by rw [← hc]; exact hrc
    refine va_calli (va_runV (C := y.cls) (b := aR 0) (As := As) (rest := st) C.fix hM (cwV np C.2.1 (good_cons hk (good_cons L1 (good_cons L2 (good_cons L3 (good_cons L4 bigW_good))))) rfl rfl rfl ⟨rfl, L5.1, L5.2, L6⟩ hR) ⟨k_blind, hrc, fun U hU hW => ⟨rfl, by rw [hU]; exact hP2, va_K.moved hW.alike C.2.2.1, C.2.2.2.1.warm hW⟩⟩ rfl hn hl.1 rfl (lv_room hcat) d ⟨Nat.le_of_ble_eq_true rfl, Nat.le_of_ble_eq_true rfl⟩) hS (fun q _ h => ?_) (fun q h => ?_) (fun r' u t H1 locs1 ht hvm hw hB hz1 hk1 hS1 => ?_)
    · obtain ⟨j, hj, rfl⟩ := h; exact C.2.2.2.2.2.2.2.2 j hj
    · obtain ⟨j, hj, rfl⟩ := h; exact C.2.2.2.2.2.2.2.2 j hj
    · subst hw
      exact kk H1 locs1 ls (kept_ws (sh' := shR) hP1 (fun i j hi hj z => C.2.2.2.2.2.2.1 j i hj hi z.symm) hk1) (by rw [← ht]; exact hB.1) hS1 hl
theorem w_callRl (C : CL p s m meth c b L xs D cA aC aR) {y : MethodName} {bytes : ByteArray} {maxL fr lo np index : Nat} {ret : Option FieldType} {As : List Value} {MR' : Mem} {r : Int64} (hM : k_Met l y bytes maxL ret fr lo (D, aR, cA) shR (.ref (aR 0) :: As) MR (k_Ql (D, aR, cA) shR r MR')) (Lw : ML y bytes maxL ret np) (hk : Cond.methodLink RL index y ∈ bigW) (hc : RX12 = y.cls) (hn : As.length = np) (hR : fr + 1 ≤ 2048 ∧ 8 + (maxL + 11) + lo ≤ 84000) (hcat : (st.map fun v => v.category).sum ≤ 8) (d : decode code pc = .ok (.invokevirtual index, 3)) (kk : KL p l e s m below meth c b D cA aC aR (pc + 3) lv (.long r :: st) MC MR') : KL p l e s m below meth c b D cA aC aR pc lv (As.reverse ++ .ref (aR 0) :: st) MC MR :=
  fun H locs ls hP1 hP2 hS hl => by
    obtain ⟨L1, L2, L3, L4, L5, L6⟩ := Lw
    have hrc := va_recv (q0 := 0) (ci := 12) C.2.2.1 hP2 rfl (k_ws_obj (G := (D, aR, cA)) shR_0)
    have hrc : ∃ cell : Cell, H[aR 0]? = some cell ∧ cell.vm.isStatics = false ∧ s.vm.findClass y.cls = some cell.cls := by rw [← hc]; exact hrc
    refine va_calll (va_runV (C := y.cls) (b := aR 0) (As := As) (rest := st) C.fix hM (cwV np C.2.1 (good_cons hk (good_cons L1 (good_cons L2 (good_cons L3 (good_cons L4 bigW_good))))) rfl rfl rfl ⟨rfl, L5.1, L5.2, L6⟩ hR) ⟨k_blind, hrc, fun U hU hW => ⟨rfl, by rw [hU]; exact hP2, va_K.moved hW.alike C.2.2.1, C.2.2.2.1.warm hW⟩⟩ rfl hn hl.1 rfl (lv_room hcat) d ⟨Nat.le_of_ble_eq_true rfl, Nat.le_of_ble_eq_true rfl⟩) hS (fun q _ h => ?_) (fun q h => ?_) (fun r' u t H1 locs1 ht hvm hw hB hz1 hk1 hS1 => ?_)
    · obtain ⟨j, hj, rfl⟩ := h; exact C.2.2.2.2.2.2.2.2 j hj
    · obtain ⟨j, hj, rfl⟩ := h; exact C.2.2.2.2.2.2.2.2 j hj
    · subst hw
      exact kk H1 locs1 ls (kept_ws (sh' := shR) hP1 (fun i j hi hj z => C.2.2.2.2.2.2.1 j i hj hi z.symm) hk1) (by rw [← ht]; exact hB.1) hS1 hl

end LROWS
-- BEGIN LOOP
theorem and63 (x : Int32) : ∃ v, v < 64 ∧ x &&& 63 = nI v := by
  refine ⟨x.toBitVec.toNat &&& 63, Nat.lt_of_le_of_lt Nat.and_le_right (by decide), ?_⟩
  have e : x = nI x.toBitVec.toNat := by
    apply Int32.toBitVec_inj.1
    show x.toBitVec = BitVec.ofNat 32 x.toBitVec.toNat
    simp
  rw [← fa_and]
  exact congrArg (fun z => z &&& nI 63) e
theorem law_loop (C : CL p s m meth c b L xs D cA aC aR) (hL : L ≤ 2048) : ∀ (n i : Nat) (MC MR : Mem), L + 1 ≤ i + n → i ≤ L → Inv MC MR → KL p l e s m below meth c b D cA aC aR 18 (lvL b aC aR i) [] MC MR := by
  intro n
  induction n with
  | zero => intro i MC MR h1 h2; omega
  | succ n ih =>
    intro i MC MR h1 h2 hI H locs ls hP1 hP2 hS hl
    refine lv_iload_n C.1.1 C.1.2.1 dL_18 rfl (lv_at hl 3 rfl) ?_
    refine lv_aload_n C.1.1 C.1.2.1 dL_19 rfl (lv_at hl 0 rfl) ?_
    refine va_slen C.1.1 C.1.2.1 C.1.2.2.2.2.2.2.1 C.1.2.2.2.2.2.2.2.1 (Nat.not_le.mpr C.1.2.2.2.2.2.2.2.1) hS dL_20 ?_
    refine lv_iconst (v := 4) C.1.1 C.1.2.1 dL_21 rfl ?_
    refine lv_isub C.1.1 C.1.2.1 dL_22 ?_
    have key : (Int32.ofNat L - 4 < nI i) ↔ L < i + 4 := by
      by_cases c4 : 4 ≤ L
      · rw [show Int32.ofNat L - 4 = nI (L - 4) from sub_one_nI (k := 4) c4, nI_ltI (by omega) (by omega)]
        omega
      · refine ⟨fun _ => by omega, fun _ => i_neg_lt ?_ (by omega)⟩
        rcases (show L = 0 ∨ L = 1 ∨ L = 2 ∨ L = 3 by omega) with rfl | rfl | rfl | rfl <;> decide
    refine lv_icmp_gt (tgt := 1606) C.1.1 C.1.2.1 dL_23 (by decide) (fun _ => ?_) (fun q => ?_)
    · refine lv_iconst (v := 1) C.1.1 C.1.2.1 dL_1606 rfl ?_
      refine va_forget (fun q hq => hS.2.2 q hq) ?_
      refine W.widen (k := 600000) (n := 7302250) (Nat.le_of_ble_eq_true rfl) (Nat.le_of_ble_eq_true rfl) ?_
      exact lw_ret C.1.1 C.1.2.1 C.1.2.2.1 C.1.2.2.2.2.2.2.2.2.1 dL_1607
    · have hi : i + 4 ≤ L := Nat.not_lt.mp (fun z => q (key.mpr z))
      refine lv_aload_n C.1.1 C.1.2.1 dL_26 rfl (lv_at hl 0 rfl) ?_
      refine lv_iload_n C.1.1 C.1.2.1 dL_27 rfl (lv_at hl 3 rfl) ?_
      refine va_sld C.1.1 C.1.2.1 C.1.2.2.2.2.2.2.1 C.1.2.2.2.2.2.2.2.1 (Nat.not_le.mpr C.1.2.2.2.2.2.2.2.1) hS (i := nI i) (vp_in_nI (by omega) (by omega)) dL_28 ?_
      rw [nI_clamp (by omega)]
      refine lv_bipush (v := 63) C.1.1 C.1.2.1 dL_29 rfl ?_
      refine lv_iand C.1.1 C.1.2.1 dL_31 ?_
      obtain ⟨v, hv, ev⟩ := and63 (xs i)
      refine law_switch C hi hL hI (fun MC' MR' hI' => ?_) hv ev H locs ls hP1 hP2 hS hl
      intro H locs ls hP1 hP2 hS hl
      refine lv_iinc (v := nI (i + 4)) (lv' := [(3, .int (nI (i + 4))), (0, .ref b), (1, .ref (aC 0)), (2, .ref (aR 0))]) C.1.1 C.1.2.1 dL_1600 hl (k := 3) rfl (nI_add i 4) (by decide) rfl (fun ls hl => ?_)
      refine lv_goto (tgt := 18) C.1.1 C.1.2.1 dL_1603 (by decide) ?_
      exact ih (i + 4) MC' MR' (by omega) (by omega) hI' H locs ls hP1 hP2 hS (lv_sub hl [1, 2, 3, 0] rfl)
-- END LOOP
-- BEGIN START
theorem i_astore {p : Program} {l : Launch} {e : Env} {R : Room} {s : State} {m : MethodId} {args : Array Value} {below : List Frame} {meth : Method} {c : Code} {cc : ByteArray} {own : String} {nL : Nat} {D : va_G} {cA : Nat → ClassId} {A : Nat → Prop} {Q : State → Prop} {pc : Nat} {lv lv' : List (Nat × Value)} {st : List Value} {ws : va_W} {cells slots : Nat} (C : Ci p s m args c cc own nL D cA A) {k : Fin 4} {i x : Nat} (hi : (k : Nat) = i) (hn : i < nL) (hl : (i, Value.ref x) :: lv.filter (fun q => !(q.1 == i) && !(q.1 + 1 == i && q.2.category == 2)) = lv') (d : decode cc pc = .ok (.astore_n k, 1)) (kk : KI p l e R s m args below meth c nL D A Q (pc + 1) lv' st ws cells slots) : KI p l e R s m args below meth c nL D A Q pc lv (.ref x :: st) ws cells slots :=
  fun H locs ls hP hD hS h => lv_astore_n C.1 C.2.1 d hi h hn hl (fun ls' h' => kk H locs ls' hP hD hS h')
theorem inv_0 : Inv M0 M0 := by
  refine ⟨((0, 0), [], []), none, [], [], [], ⟨⟨by decide, by decide, by decide, by decide, fun d => ⟨by decide, by decide, by decide⟩, fun d hd => by cases hd⟩, fun I hI => by cases hI, by decide, fun I hI => by cases hI, by decide, fun x hx => by cases hx, by decide, fun x hx => by cases hx⟩, ⟨⟨rfl, rfl, rfl, rfl, fun j hj => absurd hj (Nat.not_lt_zero j), fun j hj => absurd hj (Nat.not_lt_zero j), fun j hj => absurd hj (Nat.not_lt_zero j), fun j hj => absurd hj (Nat.not_lt_zero j)⟩, rfl, fun I hI => by cases hI, rfl, fun k hk => absurd hk (Nat.not_lt_zero k), rfl, fun j hj => absurd hj (Nat.not_lt_zero j), rfl, fun j hj => absurd hj (Nat.not_lt_zero j)⟩, ⟨⟨rfl, rfl, rfl, rfl, fun j hj => absurd hj (Nat.not_lt_zero j), fun j hj => absurd hj (Nat.not_lt_zero j), fun j hj => absurd hj (Nat.not_lt_zero j), fun j hj => absurd hj (Nat.not_lt_zero j)⟩, rfl, fun I hI => by cases hI, rfl, fun k hk => absurd hk (Nat.not_lt_zero k), rfl, fun j hj => absurd hj (Nat.not_lt_zero j), rfl, fun j hj => absurd hj (Nat.not_lt_zero j)⟩, fun k hk => rfl⟩
theorem arr_k {s : State} {args : Array Value} {ty : FieldType} (hne : ∀ C, ty ≠ .object C) (h : (Cond.arrayClass ty).before args s = true) : ∃ cI : ClassId, ArrOfT s cI ty ∧ va_RA s cI ty := by
  obtain ⟨cI, kI, pI, i1, i2, i3⟩ := Cond.arrayClass_spec h
  refine ⟨cI, fun n z => ⟨fun k h => (by cases h), kI, i2, pI, i3⟩, ?_⟩
  cases ty with
  | object C => exact absurd rfl (hne C)
  | _ => exact i1
set_option maxHeartbeats 4000000 in
set_option maxRecDepth 100000 in
theorem whole_start {p : Program} {e : Env} {s : State} {m : MethodId} {below : List Frame} {meth : Method} {c : Code} (l : Launch) (hflags : l.flags = flags0) {b L : Nat} {xs : Nat → Int32} (hL : L ≤ 2048) (C0 : lw_At p s m meth c b L xs) : W p l e room_1 s m #[Value.ref b] below meth c s.heap [] 0 0 (lw_Z below #[Value.ref b] s) (entryFrame m ([Value.ref b] : List Value).toArray 4) := by
  obtain ⟨hx, hb, hr, hml, hown, hts, hX, hbl, hlocks, hgv⟩ := id C0
  have htsB : ∀ w ∈ bigW, w.before #[Value.ref b] s = true := fun w hw => hts w (bigW_in w hw)
@KN
  obtain ⟨D, hKc⟩ : ∃ D : va_G, ∀ (k : Nat) (q : vw_C), vwCl[k]? = some q → u_Kn s q.1 q.2.1 q.2.2 (D.1 k) (D.2 k) := by
    refine ⟨(fun k => @IFC, fun k => @IFI), ?_⟩
    intro k q hq
    match k, hq with
@MATCH
    | k + 13, hq => simp [vwCl] at hq
  obtain ⟨cI, aI, rI⟩ := arr_k (by intro _ z; cases z) (htsB _ w_aint)
  obtain ⟨cJ, aJ, rJ⟩ := arr_k (by intro _ z; cases z) (htsB _ w_along)
  obtain ⟨cZ, aZ, rZ⟩ := arr_k (by intro _ z; cases z) (htsB _ w_aboolean)
  obtain ⟨cA, rfl, rfl, rfl⟩ : ∃ cA : Nat → ClassId, cI = cA 0 ∧ cJ = cA 1 ∧ cZ = cA 2 := ⟨fun k => if k = 0 then cI else if k = 1 then cJ else cZ, rfl, rfl, rfl⟩
  have hK : va_K D vwCl (i_tys cA) s := by
    refine ⟨hKc, fun k q hq => ?_⟩
    match k, hq with
    | 0, hq => cases hq; exact ⟨aI, rI⟩
    | 1, hq => cases hq; exact ⟨aJ, rJ⟩
    | 2, hq => cases hq; exact ⟨aZ, rZ⟩
    | k + 3, hq => simp [i_tys] at hq
  have hNw : i_nw s := @NEST1
  have hKn : k_nw s := @NEST2
  have Ci0 : Ci p s m #[Value.ref b] c code RL 4 D cA (lA s) := ⟨hx, hb, hml, hown, htsB, hK, fun q h => h, hNw⟩
  have main : KI p l e room_1 s m #[Value.ref b] below meth c 4 D (lA s) (lw_Z below #[Value.ref b] s) 0 [(0, .ref b)] [] [] 0 0 := by
    refine i_new (fs := @d11) (cells' := 1) (slots' := 14) Ci0 in_X11 tyX11 tyX11_ok @cl1 @in1 @it1 (ci := 11) rfl (fun j hj => by rcases (show @or1 by omega) with @rf1 <;> rfl) rfl rfl (Nat.le_of_ble_eq_true rfl) (Nat.le_of_ble_eq_true rfl) dL_0 (fun q0 => ?_)
    refine i_dup Ci0 rfl dL_3 ?_
    refine i_call (cells' := 44) (slots' := 1598) Ci0 (ci_X11 D cA q0) mi_X11 @ml1 rfl rfl ⟨Nat.le_of_ble_eq_true rfl, Nat.le_of_ble_eq_true rfl⟩ (Nat.le_of_ble_eq_true rfl) rfl rfl (Nat.le_of_ble_eq_true rfl) (Nat.le_of_ble_eq_true rfl) dL_4 (fun w1 hw1 => ?_)
    obtain ⟨aC, rfl, rfl⟩ := hw1
    refine i_astore (lv' := [(1, .ref (aC 0)), (0, .ref b)]) Ci0 rfl (by decide) rfl dL_7 ?_
    refine i_new (fs := @d12) (cells' := 45) (slots' := 1627) Ci0 in_X12 tyX12 tyX12_ok @cl2 @in2 @it2 (ci := 12) rfl (fun j hj => by rcases (show @or2 by omega) with @rf2 <;> rfl) rfl rfl (Nat.le_of_ble_eq_true rfl) (Nat.le_of_ble_eq_true rfl) dL_8 (fun q1 => ?_)
    refine i_dup Ci0 rfl dL_11 ?_
    refine i_call (cells' := 62) (slots' := 3216) Ci0 (ci_X12 D cA q1) mi_X12 @ml2 rfl rfl ⟨Nat.le_of_ble_eq_true rfl, Nat.le_of_ble_eq_true rfl⟩ (Nat.le_of_ble_eq_true rfl) rfl rfl (Nat.le_of_ble_eq_true rfl) (Nat.le_of_ble_eq_true rfl) dL_12 (fun w2 hw2 => ?_)
    obtain ⟨aR, rfl, rfl⟩ := hw2
    refine i_astore (lv' := [(2, .ref (aR 0)), (1, .ref (aC 0)), (0, .ref b)]) Ci0 rfl (by decide) rfl dL_15 ?_
    intro H locs ls hP hD hS hl
    have lenC : ([] ++ k_ws (D, aC, cA) shC M0 : va_W).length = shC.length := by simp [k_ws]
    have atC : ∀ i, i < shC.length → ∃ x : va_E, (([] ++ k_ws (D, aC, cA) shC M0) ++ k_ws (D, aR, cA) shR M0 : va_W)[i]? = some (aC i, x) := fun i hi => by
      rw [List.getElem?_append_left (by rw [lenC]; exact hi), List.nil_append, k_ws_get (List.getElem?_eq_getElem hi)]
      exact ⟨_, rfl⟩
    have atR : ∀ j, j < shR.length → ∃ x : va_E, (([] ++ k_ws (D, aC, cA) shC M0) ++ k_ws (D, aR, cA) shR M0 : va_W)[shC.length + j]? = some (aR j, x) := fun j hj => by
      rw [List.getElem?_append_right (by rw [lenC]; omega), lenC, Nat.add_sub_cancel_left, k_ws_get (List.getElem?_eq_getElem hj)]
      exact ⟨_, rfl⟩
    have hPC : va_P D vwCl (k_ws (D, aC, cA) shC M0) H := fun k x hk => by
      have hlt : k < shC.length := by have := (List.getElem?_eq_some_iff.mp hk).1; simpa [k_ws] using this
      refine hP k x ?_
      rw [List.getElem?_append_left (by rw [lenC]; exact hlt), List.nil_append]
      exact hk
    have hPR : va_P D vwCl (k_ws (D, aR, cA) shR M0) H := fun k x hk => by
      refine hP (shC.length + k) x ?_
      rw [List.getElem?_append_right (by rw [lenC]; omega), lenC, Nat.add_sub_cancel_left]
      exact hk
    have C : CL p s m meth c b L xs D cA aC aR := by
      refine ⟨C0, htsB, hK, hKn, fun i j hi hj hij => ?_, fun i j hi hj hij => ?_, fun i j hi hj hij => ?_, fun i hi => ?_, fun j hj => ?_⟩
      · obtain ⟨x, ex⟩ := atC i hi
        obtain ⟨y, ey⟩ := atC j hj
        exact hD.1 i j _ _ ex ey hij
      · obtain ⟨x, ex⟩ := atR i hi
        obtain ⟨y, ey⟩ := atR j hj
        have := hD.1 _ _ _ _ ex ey hij
        omega
      · obtain ⟨x, ex⟩ := atC i hi
        obtain ⟨y, ey⟩ := atR j hj
        have := hD.1 _ _ _ _ ex ey hij
        omega
      · obtain ⟨x, ex⟩ := atC i hi
        exact hD.2 _ _ ex
      · obtain ⟨x, ex⟩ := atR j hj
        exact hD.2 _ _ ex
    refine lv_iconst (v := 0) hx hb dL_16 rfl ?_
    refine lv_istore_n (lv' := [(3, .int 0), (2, .ref (aR 0)), (1, .ref (aC 0)), (0, .ref b)]) hx hb dL_17 rfl hl (by decide) rfl (fun ls hl => ?_)
    exact law_loop C hL (L + 1) 0 M0 M0 (by omega) (Nat.zero_le _) inv_0 H locs ls hPC hPR hS (lv_sub hl [3, 2, 1, 0] rfl)
  have hl := lv_entry ([.ref b]) (n := 4) (Nat.le_of_ble_eq_true rfl)
  rw [lg_entry_eq]
  exact main s.heap [] _ (fun k q h => by simp at h) ⟨fun i j p q h => by simp at h, fun k q h => by simp at h⟩ va_S.rf hl
-- END START
