/-! THE CLAIM OUT OF ONE WALK OF THE LAW'S BODY. Your part is whole_start (and what it stands on); all else here is the same for every law, but numbers. -/
def R_law : String := "SecondHelpingLaw"
def lw_P (b : Addr) (xs : List Int32) (args : Array Value) (s : State) : Prop := args = #[.ref b] ∧ s.IntsAt b xs ∧ xs.length ≤ 2048 ∧ (Jvm.Cond.and given_1 narrow_1).before args s = true
def lw_Q (_ : Array Value) (s : State) (o : Outcome) (t : State) : Prop := o = .returned (some (.int 1)) ∧ Framed s o t [] 600000 7302250
def lw_Z (below : List Frame) (a : Array Value) (s : State) : State → Prop := fun t => ∃ o, t.status = .running ∧ Ended t below o ∧ lw_Q a s o t
/-- the law's own end, with 1 on the stack, nothing written that was there before, its room as the claim has it -/
theorem lw_ret {p : Program} {l : Launch} {e : Env} {s : State} {m : MethodId} {below : List Frame} {meth : Method} {c : Code} {b : Nat} (hx : p.tables.exec = Jvm.exec) (hb : c.code = code) (hr : meth.sig.returnType = ret) (hlocks : meth.locks = false) {pc : Nat} {H : Heap} {ls : Array Slot} (hdg : decode code pc = .ok (.ireturn, 1)) : W p l e room_1 s m #[Value.ref b] below meth c H [] 600000 7302250 (lw_Z below #[Value.ref b] s) (F0 m pc ls [.int 1]) := by
  intro T hT X
  obtain ⟨fs, hret, hrun, hended, hW, hframe⟩ := X.leave (v := some (.int 1)) (hlocks := hlocks) (fun h => by rw [hr] at h; cases h)
  have hmeth' : T.vm.method? m = some meth := X.method'
  refine ⟨T.setFrames fs, ?_, .returned (some (.int 1)), hrun, hended, rfl, ⟨_, rfl⟩, hW, hframe⟩
  jvm_step X.here [X.here.top, hx, hb, hdg, hmeth', hr, ret, narrow_b1]
  (try refine ⟨rfl, ?_⟩); (try refine ⟨rfl, ?_⟩)
  first | (intro acts; rw [hret _ acts rfl rfl rfl]) | rw [hret _ _ rfl rfl rfl]
  exact Steps.refl _
/-- what holds at the law's entry: the machine, the code, the tables' words (any of lw_tbl by 'hts w (by decide +kernel)'), the script of L ints xs at the cell b, what the Statement gives of the start (any of its parts by flat_of_before) -/
def lw_At (p : Program) (s : State) (m : MethodId) (meth : Method) (c : Code) (b L : Nat) (xs : Nat → Int32) : Prop :=
  p.tables.exec = Jvm.exec ∧ c.code = code ∧ meth.sig.returnType = ret ∧ c.maxLocals = 4 ∧ s.vm.findClass R_law = some m.cls ∧ (∀ w ∈ lw_tbl, w.before #[Value.ref b] s = true) ∧ va_X b L xs s s.heap ∧ b < s.heap.size ∧ meth.locks = false ∧ (Jvm.Cond.and given_1 narrow_1).before #[Value.ref b] s = true
/-! the law's two worlds: rows over both -/
def lA (s : State) : Nat → Prop := fun q => s.heap.size ≤ q
def CL (p : Program) (s : State) (m : MethodId) (meth : Method) (c : Code) (b L : Nat) (xs : Nat → Int32) (D : va_G) (cA : Nat → ClassId) (aC aR : Nat → Nat) : Prop :=
  lw_At p s m meth c b L xs ∧ (∀ w ∈ bigW, w.before #[Value.ref b] s = true) ∧ va_K D vwCl (i_tys cA) s ∧ k_nw s ∧ k_ap (D, aC, cA) shC.length ∧ k_ap (D, aR, cA) shR.length ∧ (∀ i j : Nat, i < shC.length → j < shR.length → aC i ≠ aR j) ∧ (∀ i : Nat, i < shC.length → s.heap.size ≤ aC i) ∧ ∀ j : Nat, j < shR.length → s.heap.size ≤ aR j
def KL (p : Program) (l : Launch) (e : Env) (s : State) (m : MethodId) (below : List Frame) (meth : Method) (c : Code) (b : Nat) (D : va_G) (cA : Nat → ClassId) (aC aR : Nat → Nat) (pc : Nat) (lv : List (Nat × Value)) (st : List Value) (MC MR : Mem) : Prop :=
  ∀ (H : Heap) (locs : List Loc) (ls : Array Slot), va_P D vwCl (k_ws (D, aC, cA) shC MC) H → va_P D vwCl (k_ws (D, aR, cA) shR MR) H → va_S (lA s) s.heap H locs → lv_has ls 4 lv → W p l e room_1 s m #[Value.ref b] below meth c H locs 62 3216 (lw_Z below #[Value.ref b] s) (F0 m pc ls st)
abbrev lvL (b : Nat) (aC aR : Nat → Nat) (i : Nat) : List (Nat × Value) := [(0, .ref b), (1, .ref (aC 0)), (2, .ref (aR 0)), (3, .int (nI i))]
section LROWS
variable {p : Program} {l : Launch} {e : Env} {s : State} {m : MethodId} {below : List Frame} {meth : Method} {c : Code} {b L : Nat} {xs : Nat → Int32} {D : va_G} {cA : Nat → ClassId} {aC aR : Nat → Nat} {pc : Nat} {lv lv' : List (Nat × Value)} {st st' : List Value} {MC MR : Mem}
theorem CL.fix (C : CL p s m meth c b L xs D cA aC aR) : CallFix p m c code 4 s #[Value.ref b] bigW RL := ⟨C.1.1, C.1.2.1, C.1.2.2.2.1, C.1.2.2.2.2.1, C.2.1⟩
theorem w_ald (C : CL p s m meth c b L xs D cA aC aR) {k : Fin 4} (i : Nat) {x : Nat} (_hx : i < 3) (hl : lv[i]? = some (i, .ref x)) (hi : (k : Nat) = i) (d : decode code pc = .ok (.aload_n k, 1)) (kk : KL p l e s m below meth c b D cA aC aR (pc + 1) lv (.ref x :: st) MC MR) : KL p l e s m below meth c b D cA aC aR pc lv st MC MR :=
  fun H locs ls h1 h2 hS h => lv_aload_n C.1.1 C.1.2.1 d hi (lv_at h i hl) (kk H locs ls h1 h2 hS h)
theorem w_arg (C : CL p s m meth c b L xs D cA aC aR) {i k : Nat} {n : Int} (hk : i + k < L) (hL : L < 2 ^ 31) (d0 : decode code pc = .ok (.aload_n 0, 1)) (d1 : decode code (pc + 1) = .ok (.iload_n 3, 1)) (d2 : decode code (pc + 2) = .ok (.iconst n, 1)) (hn : Int32.ofInt n = nI k) (d3 : decode code (pc + 3) = .ok (.iadd, 1)) (d4 : decode code (pc + 4) = .ok (.iaload, 1)) (kk : KL p l e s m below meth c b D cA aC aR (pc + 5) (lvL b aC aR i) (.int (xs (i + k)) :: st) MC MR) : KL p l e s m below meth c b D cA aC aR pc (lvL b aC aR i) st MC MR :=
  fun H locs ls h1 h2 hS h => by
    refine lv_aload_n C.1.1 C.1.2.1 d0 rfl (lv_at h 0 rfl) ?_
    refine lv_iload_n C.1.1 C.1.2.1 d1 rfl (lv_at h 3 rfl) ?_
    refine lv_iconst C.1.1 C.1.2.1 d2 hn ?_
    refine lv_iadd C.1.1 C.1.2.1 d3 ?_
    rw [nI_add]
    refine va_sld C.1.1 C.1.2.1 C.1.2.2.2.2.2.2.1 C.1.2.2.2.2.2.2.2.1 (Nat.not_le.mpr C.1.2.2.2.2.2.2.2.1) hS (i := nI (i + k)) (vp_in_nI hk (by omega)) d4 ?_
    rw [nI_clamp (by omega)]
    exact kk H locs ls h1 h2 hS h
theorem w_lcmp (C : CL p s m meth c b L xs D cA aC aR) {v : Int64} (d : decode code pc = .ok (.lcmp, 1)) (kk : KL p l e s m below meth c b D cA aC aR (pc + 1) lv (.int 0 :: st) MC MR) : KL p l e s m below meth c b D cA aC aR pc lv (.long v :: .long v :: st) MC MR :=
  fun H locs ls h1 h2 hS h => by
    refine W.lcmp C.1.1 C.1.2.1 d ?_
    have e0 : lg_cmp v v = 0 := by
      unfold lg_cmp
      rw [if_neg (show ¬ v > v from fun q => by have q2 : v < v := q; rw [Int64.lt_iff_toInt_lt] at q2; omega), if_pos rfl]
    rw [e0]
    exact kk H locs ls h1 h2 hS h
theorem w_eq (C : CL p s m meth c b L xs D cA aC aR) {v : Int32} {off : Int} {tgt : Nat} (d : decode code pc = .ok (.if_icmp .eq off, 3)) (ht : (pc : Int) + off = (tgt : Int)) (kk : KL p l e s m below meth c b D cA aC aR tgt lv st MC MR) : KL p l e s m below meth c b D cA aC aR pc lv (.int v :: .int v :: st) MC MR :=
  fun H locs ls h1 h2 hS h => lv_icmp_eq C.1.1 C.1.2.1 d ht (fun _ => kk H locs ls h1 h2 hS h) (fun q => absurd rfl q)
theorem w_eq0 (C : CL p s m meth c b L xs D cA aC aR) {off : Int} {tgt : Nat} (d : decode code pc = .ok (.ifCond .eq off, 3)) (ht : (pc : Int) + off = (tgt : Int)) (kk : KL p l e s m below meth c b D cA aC aR tgt lv st MC MR) : KL p l e s m below meth c b D cA aC aR pc lv (.int 0 :: st) MC MR :=
  fun H locs ls h1 h2 hS h => lv_if_eq C.1.1 C.1.2.1 d ht (fun _ => kk H locs ls h1 h2 hS h) (fun q => absurd rfl q)
theorem w_tableIn (C : CL p s m meth c b L xs D cA aC aR) {dflt lo hi : Int} {offs : Array Int} {len : Nat} {x : Int32} (v : Int32) (hx : x = v) (d : decode code pc = .ok (.tableswitch dflt lo hi offs, len)) (h1 : ¬ v.toInt < lo) (h2 : ¬ hi < v.toInt) {off : Int} {tgt : Nat} (ho : offs[(v.toInt - lo).toNat]? = some off) (ht : (pc : Int) + off = (tgt : Int)) (kk : KL p l e s m below meth c b D cA aC aR tgt lv st MC MR) : KL p l e s m below meth c b D cA aC aR pc lv (.int x :: st) MC MR :=
  fun H locs ls g1 g2 hS h => by
    subst hx
    exact lv_tableIn C.1.1 C.1.2.1 d h1 h2 ho ht (kk H locs ls g1 g2 hS h)
theorem w_tableOut (C : CL p s m meth c b L xs D cA aC aR) {dflt lo hi : Int} {offs : Array Int} {len : Nat} {x : Int32} (d : decode code pc = .ok (.tableswitch dflt lo hi offs, len)) (hx : x.toInt < lo ∨ hi < x.toInt) {tgt : Nat} (ht : (pc : Int) + dflt = (tgt : Int)) (kk : KL p l e s m below meth c b D cA aC aR tgt lv st MC MR) : KL p l e s m below meth c b D cA aC aR pc lv (.int x :: st) MC MR :=
  fun H locs ls g1 g2 hS h => lv_tableOut C.1.1 C.1.2.1 d hx ht (kk H locs ls g1 g2 hS h)
theorem kept_ws {D : va_G} {a a' : Nat → Nat} {cA : Nat → ClassId} {sh sh' : List Sh} {M : Mem} {H H1 : Heap} (hP : va_P D vwCl (k_ws (D, a, cA) sh M) H) (hne : ∀ i j : Nat, i < sh'.length → j < sh.length → a' i ≠ a j) (hk : ∀ q : Nat, q < H.size → ¬ k_A (D, a', cA) sh'.length q → H1[q]? = H[q]?) : va_P D vwCl (k_ws (D, a, cA) sh M) H1 := fun k x hx => by
  have lk : k < sh.length := by have := (List.getElem?_eq_some_iff.mp hx).1; simpa [k_ws] using this
  have hat := hP k x hx
  have hx' := hx
  rw [k_ws_get (List.getElem?_eq_getElem lk)] at hx'
  have e0 : a k = x.1 := congrArg Prod.fst (Option.some.inj hx')
  refine hat.kept (hk x.1 hat.lt (fun z => ?_))
  obtain ⟨i, hi, ei⟩ := z
  exact hne i k hi lk (by rw [e0, ei])

theorem w_callCi (C : CL p s m meth c b L xs D cA aC aR) {y : MethodName} {bytes : ByteArray} {maxL fr lo np index : Nat} {ret : Option FieldType} {As : List Value} {MC' : Mem} {r : Int32} (hM : k_Met l y bytes maxL ret fr lo (D, aC, cA) shC (.ref (aC 0) :: As) MC (k_Qi (D, aC, cA) shC r MC')) (Lw : ML y bytes maxL ret np) (hk : Cond.methodLink RL index y ∈ bigW) (hc : RX11 = y.cls) (hn : As.length = np) (hst : st' = As.reverse ++ .ref (aC 0) :: st) (hR : fr + 1 ≤ 2048 ∧ 8 + (maxL + 11) + lo ≤ 84000) (hcat : (st.map fun v => v.category).sum ≤ 8) (d : decode code pc = .ok (.invokevirtual index, 3)) (kk : KL p l e s m below meth c b D cA aC aR (pc + 3) lv (.int r :: st) MC' MR) : KL p l e s m below meth c b D cA aC aR pc lv st' MC MR :=
  fun H locs ls hP1 hP2 hS hl => by
    subst hst
    obtain ⟨L1, L2, L3, L4, L5, L6⟩ := Lw
    have hrc := va_recv (q0 := 0) (ci := 11) C.2.2.1 hP1 rfl (k_ws_obj (G := (D, aC, cA)) shC_0)
    have hrc : ∃ cell : Cell, H[aC 0]? = some cell ∧ cell.vm.isStatics = false ∧ s.vm.findClass y.cls = some cell.cls := by rw [← hc]; exact hrc
    refine va_calli (va_runV (C := y.cls) (b := aC 0) (As := As) (rest := st) C.fix hM (cwV np C.2.1 (good_cons hk (good_cons L1 (good_cons L2 (good_cons L3 (good_cons L4 bigW_good))))) rfl rfl rfl ⟨rfl, L5.1, L5.2, L6⟩ hR) ⟨k_blind, hrc, fun U hU hW => ⟨rfl, by rw [hU]; exact hP1, va_K.moved hW.alike C.2.2.1, C.2.2.2.1.warm hW⟩⟩ rfl hn hl.1 rfl (lv_room hcat) d ⟨Nat.le_of_ble_eq_true rfl, Nat.le_of_ble_eq_true rfl⟩) hS (fun q _ h => ?_) (fun q h => ?_) (fun r' u t H1 locs1 ht hvm hw hB hz1 hk1 hS1 => ?_)
    · obtain ⟨j, hj, rfl⟩ := h; exact C.2.2.2.2.2.2.2.1 j hj
    · obtain ⟨j, hj, rfl⟩ := h; exact C.2.2.2.2.2.2.2.1 j hj
    · subst hw
      exact kk H1 locs1 ls (by rw [← ht]; exact hB.1) (kept_ws (sh' := shC) hP2 C.2.2.2.2.2.2.1 hk1) hS1 hl
theorem w_callCl (C : CL p s m meth c b L xs D cA aC aR) {y : MethodName} {bytes : ByteArray} {maxL fr lo np index : Nat} {ret : Option FieldType} {As : List Value} {MC' : Mem} {r : Int64} (hM : k_Met l y bytes maxL ret fr lo (D, aC, cA) shC (.ref (aC 0) :: As) MC (k_Ql (D, aC, cA) shC r MC')) (Lw : ML y bytes maxL ret np) (hk : Cond.methodLink RL index y ∈ bigW) (hc : RX11 = y.cls) (hn : As.length = np) (hst : st' = As.reverse ++ .ref (aC 0) :: st) (hR : fr + 1 ≤ 2048 ∧ 8 + (maxL + 11) + lo ≤ 84000) (hcat : (st.map fun v => v.category).sum ≤ 8) (d : decode code pc = .ok (.invokevirtual index, 3)) (kk : KL p l e s m below meth c b D cA aC aR (pc + 3) lv (.long r :: st) MC' MR) : KL p l e s m below meth c b D cA aC aR pc lv st' MC MR :=
  fun H locs ls hP1 hP2 hS hl => by
    subst hst
    obtain ⟨L1, L2, L3, L4, L5, L6⟩ := Lw
    have hrc := va_recv (q0 := 0) (ci := 11) C.2.2.1 hP1 rfl (k_ws_obj (G := (D, aC, cA)) shC_0)
    have hrc : ∃ cell : Cell, H[aC 0]? = some cell ∧ cell.vm.isStatics = false ∧ s.vm.findClass y.cls = some cell.cls := by rw [← hc]; exact hrc
    refine va_calll (va_runV (C := y.cls) (b := aC 0) (As := As) (rest := st) C.fix hM (cwV np C.2.1 (good_cons hk (good_cons L1 (good_cons L2 (good_cons L3 (good_cons L4 bigW_good))))) rfl rfl rfl ⟨rfl, L5.1, L5.2, L6⟩ hR) ⟨k_blind, hrc, fun U hU hW => ⟨rfl, by rw [hU]; exact hP1, va_K.moved hW.alike C.2.2.1, C.2.2.2.1.warm hW⟩⟩ rfl hn hl.1 rfl (lv_room hcat) d ⟨Nat.le_of_ble_eq_true rfl, Nat.le_of_ble_eq_true rfl⟩) hS (fun q _ h => ?_) (fun q h => ?_) (fun r' u t H1 locs1 ht hvm hw hB hz1 hk1 hS1 => ?_)
    · obtain ⟨j, hj, rfl⟩ := h; exact C.2.2.2.2.2.2.2.1 j hj
    · obtain ⟨j, hj, rfl⟩ := h; exact C.2.2.2.2.2.2.2.1 j hj
    · subst hw
      exact kk H1 locs1 ls (by rw [← ht]; exact hB.1) (kept_ws (sh' := shC) hP2 C.2.2.2.2.2.2.1 hk1) hS1 hl

theorem w_callRi (C : CL p s m meth c b L xs D cA aC aR) {y : MethodName} {bytes : ByteArray} {maxL fr lo np index : Nat} {ret : Option FieldType} {As : List Value} {MR' : Mem} {r : Int32} (hM : k_Met l y bytes maxL ret fr lo (D, aR, cA) shR (.ref (aR 0) :: As) MR (k_Qi (D, aR, cA) shR r MR')) (Lw : ML y bytes maxL ret np) (hk : Cond.methodLink RL index y ∈ bigW) (hc : RX12 = y.cls) (hn : As.length = np) (hst : st' = As.reverse ++ .ref (aR 0) :: st) (hR : fr + 1 ≤ 2048 ∧ 8 + (maxL + 11) + lo ≤ 84000) (hcat : (st.map fun v => v.category).sum ≤ 8) (d : decode code pc = .ok (.invokevirtual index, 3)) (kk : KL p l e s m below meth c b D cA aC aR (pc + 3) lv (.int r :: st) MC MR') : KL p l e s m below meth c b D cA aC aR pc lv st' MC MR :=
  fun H locs ls hP1 hP2 hS hl => by
    subst hst
    obtain ⟨L1, L2, L3, L4, L5, L6⟩ := Lw
    have hrc := va_recv (q0 := 0) (ci := 12) C.2.2.1 hP2 rfl (k_ws_obj (G := (D, aR, cA)) shR_0)
    have hrc : ∃ cell : Cell, H[aR 0]? = some cell ∧ cell.vm.isStatics = false ∧ s.vm.findClass y.cls = some cell.cls := by rw [← hc]; exact hrc
    refine va_calli (va_runV (C := y.cls) (b := aR 0) (As := As) (rest := st) C.fix hM (cwV np C.2.1 (good_cons hk (good_cons L1 (good_cons L2 (good_cons L3 (good_cons L4 bigW_good))))) rfl rfl rfl ⟨rfl, L5.1, L5.2, L6⟩ hR) ⟨k_blind, hrc, fun U hU hW => ⟨rfl, by rw [hU]; exact hP2, va_K.moved hW.alike C.2.2.1, C.2.2.2.1.warm hW⟩⟩ rfl hn hl.1 rfl (lv_room hcat) d ⟨Nat.le_of_ble_eq_true rfl, Nat.le_of_ble_eq_true rfl⟩) hS (fun q _ h => ?_) (fun q h => ?_) (fun r' u t H1 locs1 ht hvm hw hB hz1 hk1 hS1 => ?_)
    · obtain ⟨j, hj, rfl⟩ := h; exact C.2.2.2.2.2.2.2.2 j hj
    · obtain ⟨j, hj, rfl⟩ := h; exact C.2.2.2.2.2.2.2.2 j hj
    · subst hw
      exact kk H1 locs1 ls (kept_ws (sh' := shR) hP1 (fun i j hi hj z => C.2.2.2.2.2.2.1 j i hj hi z.symm) hk1) (by rw [← ht]; exact hB.1) hS1 hl
theorem w_callRl (C : CL p s m meth c b L xs D cA aC aR) {y : MethodName} {bytes : ByteArray} {maxL fr lo np index : Nat} {ret : Option FieldType} {As : List Value} {MR' : Mem} {r : Int64} (hM : k_Met l y bytes maxL ret fr lo (D, aR, cA) shR (.ref (aR 0) :: As) MR (k_Ql (D, aR, cA) shR r MR')) (Lw : ML y bytes maxL ret np) (hk : Cond.methodLink RL index y ∈ bigW) (hc : RX12 = y.cls) (hn : As.length = np) (hst : st' = As.reverse ++ .ref (aR 0) :: st) (hR : fr + 1 ≤ 2048 ∧ 8 + (maxL + 11) + lo ≤ 84000) (hcat : (st.map fun v => v.category).sum ≤ 8) (d : decode code pc = .ok (.invokevirtual index, 3)) (kk : KL p l e s m below meth c b D cA aC aR (pc + 3) lv (.long r :: st) MC MR') : KL p l e s m below meth c b D cA aC aR pc lv st' MC MR :=
  fun H locs ls hP1 hP2 hS hl => by
    subst hst
    obtain ⟨L1, L2, L3, L4, L5, L6⟩ := Lw
    have hrc := va_recv (q0 := 0) (ci := 12) C.2.2.1 hP2 rfl (k_ws_obj (G := (D, aR, cA)) shR_0)
    have hrc : ∃ cell : Cell, H[aR 0]? = some cell ∧ cell.vm.isStatics = false ∧ s.vm.findClass y.cls = some cell.cls := by rw [← hc]; exact hrc
    refine va_calll (va_runV (C := y.cls) (b := aR 0) (As := As) (rest := st) C.fix hM (cwV np C.2.1 (good_cons hk (good_cons L1 (good_cons L2 (good_cons L3 (good_cons L4 bigW_good))))) rfl rfl rfl ⟨rfl, L5.1, L5.2, L6⟩ hR) ⟨k_blind, hrc, fun U hU hW => ⟨rfl, by rw [hU]; exact hP2, va_K.moved hW.alike C.2.2.1, C.2.2.2.1.warm hW⟩⟩ rfl hn hl.1 rfl (lv_room hcat) d ⟨Nat.le_of_ble_eq_true rfl, Nat.le_of_ble_eq_true rfl⟩) hS (fun q _ h => ?_) (fun q h => ?_) (fun r' u t H1 locs1 ht hvm hw hB hz1 hk1 hS1 => ?_)
    · obtain ⟨j, hj, rfl⟩ := h; exact C.2.2.2.2.2.2.2.2 j hj
    · obtain ⟨j, hj, rfl⟩ := h; exact C.2.2.2.2.2.2.2.2 j hj
    · subst hw
      exact kk H1 locs1 ls (kept_ws (sh' := shR) hP1 (fun i j hi hj z => C.2.2.2.2.2.2.1 j i hj hi z.symm) hk1) (by rw [← ht]; exact hB.1) hS1 hl

end LROWS
