/-! calls by contract, the JDK's small ones, a method's entry -/
def ML (y : MethodName) (bytes : ByteArray) (maxL : Nat) (ret : Option FieldType) (np : Nat) : Prop := Cond.instanceMethod y ∈ bigW ∧ Cond.selects y.cls y y ∈ bigW ∧ Cond.initialized y.cls ∈ bigW ∧ Cond.code y bytes maxL ret ∈ bigW ∧ (y.cls ≠ "java/lang/invoke/MethodHandle" ∧ y.cls ≠ "java/lang/invoke/VarHandle") ∧ (parseMethodDescriptor y.desc).map (fun d => d.parameters.length) = some np
def MS (y : MethodName) (bytes : ByteArray) (maxL : Nat) (ret : Option FieldType) (np : Nat) : Prop := Cond.static y ∈ bigW ∧ Cond.initialized y.cls ∈ bigW ∧ Cond.code y bytes maxL ret ∈ bigW ∧ (y.cls ≠ "java/lang/invoke/MethodHandle" ∧ y.cls ≠ "java/lang/invoke/VarHandle") ∧ (parseMethodDescriptor y.desc).map (fun d => d.parameters.length) = some np
section KCL
variable {p : Program} {l : Launch} {e : Env} {R : Room} {s : State} {m : MethodId} {args : Array Value} {below : List Frame} {meth : Method} {c : Code} {cc : ByteArray} {own : String} {nL : Nat} {G : Gx} {sh : List Sh} {Q : State → Prop} {pc : Nat} {lv lv' : List (Nat × Value)} {st : List Value} {M : Mem}
theorem k_callVi (C : Cx p s m args c cc own nL G sh) {y : MethodName} {bytes : ByteArray} {maxL fr lo np index : Nat} {ret : Option FieldType} {As st' : List Value} {M' : Mem} {r : Int32} {q ci : Nat} {fs : List (Option Nat)} (hM : k_Met l y bytes maxL ret fr lo G sh (.ref (G.2.1 q) :: As) M (k_Qi G sh r M')) (L : ML y bytes maxL ret np) (hk : Cond.methodLink own index y ∈ bigW) (hs : sh[q]? = some (.inr (ci, fs))) (hc : (vwCl[ci]?).map (fun x => x.1) = some y.cls) (hn : As.length = np) (hst : st' = As.reverse ++ .ref (G.2.1 q) :: st) (hR : fr + 1 ≤ R.frames ∧ 8 + (maxL + 11) + lo ≤ R.locals) (hcat : (st.map fun v => v.category).sum ≤ 8) (d : decode cc pc = .ok (.invokevirtual index, 3)) (k : K p l e R s m args below meth c nL G sh Q (pc + 3) lv (.int r :: st) M') : K p l e R s m args below meth c nL G sh Q pc lv st' M := fun H locs ls hP hS hl => by
  subst hst
  obtain ⟨L1, L2, L3, L4, L5, L6⟩ := L
  obtain ⟨x0, hx0, hx1⟩ := Option.map_eq_some_iff.mp hc
  have hrc := va_recv C.2.2.2.2.2.1 hP hx0 (k_ws_obj hs)
  rw [hx1] at hrc
  refine va_calli (va_runV (C := y.cls) (b := G.2.1 q) (As := As) (rest := st) ⟨C.1, C.2.1, C.2.2.1, C.2.2.2.1, C.2.2.2.2.1⟩ hM (cwV np C.2.2.2.2.1 (good_cons hk (good_cons L1 (good_cons L2 (good_cons L3 (good_cons L4 bigW_good))))) rfl rfl rfl ⟨rfl, L5.1, L5.2, L6⟩ hR) ⟨k_blind, hrc, fun U hU hW => ⟨rfl, by rw [hU]; exact hP, va_K.moved hW.alike C.2.2.2.2.2.1, C.2.2.2.2.2.2.1.warm hW⟩⟩ rfl hn hl.1 rfl (lv_room hcat) d ⟨Nat.zero_le _, Nat.zero_le _⟩) hS (fun q _ h => h) (fun q h => h) (fun r' u t H1 locs1 ht hvm hw hB hz1 hk1 hS1 => ?_)
  subst hw
  exact k H1 locs1 ls (by rw [← ht]; exact hB.1) hS1 hl
theorem k_callVl (C : Cx p s m args c cc own nL G sh) {y : MethodName} {bytes : ByteArray} {maxL fr lo np index : Nat} {ret : Option FieldType} {As st' : List Value} {M' : Mem} {r : Int64} {q ci : Nat} {fs : List (Option Nat)} (hM : k_Met l y bytes maxL ret fr lo G sh (.ref (G.2.1 q) :: As) M (k_Ql G sh r M')) (L : ML y bytes maxL ret np) (hk : Cond.methodLink own index y ∈ bigW) (hs : sh[q]? = some (.inr (ci, fs))) (hc : (vwCl[ci]?).map (fun x => x.1) = some y.cls) (hn : As.length = np) (hst : st' = As.reverse ++ .ref (G.2.1 q) :: st) (hR : fr + 1 ≤ R.frames ∧ 8 + (maxL + 11) + lo ≤ R.locals) (hcat : (st.map fun v => v.category).sum ≤ 8) (d : decode cc pc = .ok (.invokevirtual index, 3)) (k : K p l e R s m args below meth c nL G sh Q (pc + 3) lv (.long r :: st) M') : K p l e R s m args below meth c nL G sh Q pc lv st' M := fun H locs ls hP hS hl => by
  subst hst
  obtain ⟨L1, L2, L3, L4, L5, L6⟩ := L
  obtain ⟨x0, hx0, hx1⟩ := Option.map_eq_some_iff.mp hc
  have hrc := va_recv C.2.2.2.2.2.1 hP hx0 (k_ws_obj hs)
  rw [hx1] at hrc
  refine va_calll (va_runV (C := y.cls) (b := G.2.1 q) (As := As) (rest := st) ⟨C.1, C.2.1, C.2.2.1, C.2.2.2.1, C.2.2.2.2.1⟩ hM (cwV np C.2.2.2.2.1 (good_cons hk (good_cons L1 (good_cons L2 (good_cons L3 (good_cons L4 bigW_good))))) rfl rfl rfl ⟨rfl, L5.1, L5.2, L6⟩ hR) ⟨k_blind, hrc, fun U hU hW => ⟨rfl, by rw [hU]; exact hP, va_K.moved hW.alike C.2.2.2.2.2.1, C.2.2.2.2.2.2.1.warm hW⟩⟩ rfl hn hl.1 rfl (lv_room hcat) d ⟨Nat.zero_le _, Nat.zero_le _⟩) hS (fun q _ h => h) (fun q h => h) (fun r' u t H1 locs1 ht hvm hw hB hz1 hk1 hS1 => ?_)
  subst hw
  exact k H1 locs1 ls (by rw [← ht]; exact hB.1) hS1 hl
theorem k_callVv (C : Cx p s m args c cc own nL G sh) {y : MethodName} {bytes : ByteArray} {maxL fr lo np index : Nat} {ret : Option FieldType} {As st' : List Value} {M' : Mem}  {q ci : Nat} {fs : List (Option Nat)} (hM : k_Met l y bytes maxL ret fr lo G sh (.ref (G.2.1 q) :: As) M (k_Qv G sh M')) (L : ML y bytes maxL ret np) (hk : Cond.methodLink own index y ∈ bigW) (hs : sh[q]? = some (.inr (ci, fs))) (hc : (vwCl[ci]?).map (fun x => x.1) = some y.cls) (hn : As.length = np) (hst : st' = As.reverse ++ .ref (G.2.1 q) :: st) (hR : fr + 1 ≤ R.frames ∧ 8 + (maxL + 11) + lo ≤ R.locals) (hcat : (st.map fun v => v.category).sum ≤ 8) (d : decode cc pc = .ok (.invokevirtual index, 3)) (k : K p l e R s m args below meth c nL G sh Q (pc + 3) lv (st) M') : K p l e R s m args below meth c nL G sh Q pc lv st' M := fun H locs ls hP hS hl => by
  subst hst
  obtain ⟨L1, L2, L3, L4, L5, L6⟩ := L
  obtain ⟨x0, hx0, hx1⟩ := Option.map_eq_some_iff.mp hc
  have hrc := va_recv C.2.2.2.2.2.1 hP hx0 (k_ws_obj hs)
  rw [hx1] at hrc
  refine va_callv (va_runV (C := y.cls) (b := G.2.1 q) (As := As) (rest := st) ⟨C.1, C.2.1, C.2.2.1, C.2.2.2.1, C.2.2.2.2.1⟩ hM (cwV np C.2.2.2.2.1 (good_cons hk (good_cons L1 (good_cons L2 (good_cons L3 (good_cons L4 bigW_good))))) rfl rfl rfl ⟨rfl, L5.1, L5.2, L6⟩ hR) ⟨k_blind, hrc, fun U hU hW => ⟨rfl, by rw [hU]; exact hP, va_K.moved hW.alike C.2.2.2.2.2.1, C.2.2.2.2.2.2.1.warm hW⟩⟩ rfl hn hl.1 rfl (lv_room hcat) d ⟨Nat.zero_le _, Nat.zero_le _⟩) hS (fun q _ h => h) (fun q h => h) (fun  u t H1 locs1 ht hvm hw hB hz1 hk1 hS1 => ?_)
  exact k H1 locs1 ls (by rw [← ht]; exact hB.1) hS1 hl
theorem k_callSi (C : Cx p s m args c cc own nL G sh) {y : MethodName} {bytes : ByteArray} {maxL fr lo np index : Nat} {ret : Option FieldType} {As st' : List Value} {M' : Mem} {r : Int32} (hM : k_Met l y bytes maxL ret fr lo G sh (As) M (k_Qi G sh r M')) (L : MS y bytes maxL ret np) (hk : Cond.methodLink own index y ∈ bigW) (hn : As.length = np) (hst : st' = As.reverse ++ st) (hR : fr + 1 ≤ R.frames ∧ 8 + (maxL + 11) + lo ≤ R.locals) (hcat : (st.map fun v => v.category).sum ≤ 8) (d : decode cc pc = .ok (.invokestatic index, 3)) (k : K p l e R s m args below meth c nL G sh Q (pc + 3) lv (.int r :: st) M') : K p l e R s m args below meth c nL G sh Q pc lv st' M := fun H locs ls hP hS hl => by
  subst hst
  obtain ⟨L1, L3, L4, L5, L6⟩ := L
  refine va_calli (va_runS (As := As) (rest := st) ⟨C.1, C.2.1, C.2.2.1, C.2.2.2.1, C.2.2.2.2.1⟩ hM (va_cwS np C.2.2.2.2.1 (good_cons hk (good_cons L1 (good_cons L3 (good_cons L4 bigW_good)))) rfl rfl rfl ⟨L5.1, L5.2, L6⟩ hR) ⟨k_blind, fun U hU hW => ⟨rfl, by rw [hU]; exact hP, va_K.moved hW.alike C.2.2.2.2.2.1, C.2.2.2.2.2.2.1.warm hW⟩⟩ rfl hn hl.1 rfl (lv_room hcat) d ⟨Nat.zero_le _, Nat.zero_le _⟩) hS (fun q _ h => h) (fun q h => h) (fun r' u t H1 locs1 ht hvm hw hB hz1 hk1 hS1 => ?_)
  subst hw
  exact k H1 locs1 ls (by rw [← ht]; exact hB.1) hS1 hl
theorem k_callSl (C : Cx p s m args c cc own nL G sh) {y : MethodName} {bytes : ByteArray} {maxL fr lo np index : Nat} {ret : Option FieldType} {As st' : List Value} {M' : Mem} {r : Int64} (hM : k_Met l y bytes maxL ret fr lo G sh (As) M (k_Ql G sh r M')) (L : MS y bytes maxL ret np) (hk : Cond.methodLink own index y ∈ bigW) (hn : As.length = np) (hst : st' = As.reverse ++ st) (hR : fr + 1 ≤ R.frames ∧ 8 + (maxL + 11) + lo ≤ R.locals) (hcat : (st.map fun v => v.category).sum ≤ 8) (d : decode cc pc = .ok (.invokestatic index, 3)) (k : K p l e R s m args below meth c nL G sh Q (pc + 3) lv (.long r :: st) M') : K p l e R s m args below meth c nL G sh Q pc lv st' M := fun H locs ls hP hS hl => by
  subst hst
  obtain ⟨L1, L3, L4, L5, L6⟩ := L
  refine va_calll (va_runS (As := As) (rest := st) ⟨C.1, C.2.1, C.2.2.1, C.2.2.2.1, C.2.2.2.2.1⟩ hM (va_cwS np C.2.2.2.2.1 (good_cons hk (good_cons L1 (good_cons L3 (good_cons L4 bigW_good)))) rfl rfl rfl ⟨L5.1, L5.2, L6⟩ hR) ⟨k_blind, fun U hU hW => ⟨rfl, by rw [hU]; exact hP, va_K.moved hW.alike C.2.2.2.2.2.1, C.2.2.2.2.2.2.1.warm hW⟩⟩ rfl hn hl.1 rfl (lv_room hcat) d ⟨Nat.zero_le _, Nat.zero_le _⟩) hS (fun q _ h => h) (fun q h => h) (fun r' u t H1 locs1 ht hvm hw hB hz1 hk1 hS1 => ?_)
  subst hw
  exact k H1 locs1 ls (by rw [← ht]; exact hB.1) hS1 hl
theorem k_callSv (C : Cx p s m args c cc own nL G sh) {y : MethodName} {bytes : ByteArray} {maxL fr lo np index : Nat} {ret : Option FieldType} {As st' : List Value} {M' : Mem}  (hM : k_Met l y bytes maxL ret fr lo G sh (As) M (k_Qv G sh M')) (L : MS y bytes maxL ret np) (hk : Cond.methodLink own index y ∈ bigW) (hn : As.length = np) (hst : st' = As.reverse ++ st) (hR : fr + 1 ≤ R.frames ∧ 8 + (maxL + 11) + lo ≤ R.locals) (hcat : (st.map fun v => v.category).sum ≤ 8) (d : decode cc pc = .ok (.invokestatic index, 3)) (k : K p l e R s m args below meth c nL G sh Q (pc + 3) lv (st) M') : K p l e R s m args below meth c nL G sh Q pc lv st' M := fun H locs ls hP hS hl => by
  subst hst
  obtain ⟨L1, L3, L4, L5, L6⟩ := L
  refine va_callv (va_runS (As := As) (rest := st) ⟨C.1, C.2.1, C.2.2.1, C.2.2.2.1, C.2.2.2.2.1⟩ hM (va_cwS np C.2.2.2.2.1 (good_cons hk (good_cons L1 (good_cons L3 (good_cons L4 bigW_good)))) rfl rfl rfl ⟨L5.1, L5.2, L6⟩ hR) ⟨k_blind, fun U hU hW => ⟨rfl, by rw [hU]; exact hP, va_K.moved hW.alike C.2.2.2.2.2.1, C.2.2.2.2.2.2.1.warm hW⟩⟩ rfl hn hl.1 rfl (lv_room hcat) d ⟨Nat.zero_le _, Nat.zero_le _⟩) hS (fun q _ h => h) (fun q h => h) (fun  u t H1 locs1 ht hvm hw hB hz1 hk1 hS1 => ?_)
  exact k H1 locs1 ls (by rw [← ht]; exact hB.1) hS1 hl
theorem k_callNi (C : Cx p s m args c cc own nL G sh) {y : MethodName} {bytes : ByteArray} {maxL fr lo np index : Nat} {ret : Option FieldType} {As st' : List Value} {M' : Mem} {r : Int32} (hM : k_Met l y bytes maxL ret fr lo G sh (As) M (k_Qi G sh r M')) (L : MS y bytes maxL ret np) (hk : (index, y) ∈ k_nest) (ho : own = RX1) (hn : As.length = np) (hst : st' = As.reverse ++ st) (hR : fr + 1 ≤ R.frames ∧ 8 + (maxL + 11) + lo ≤ R.locals) (hcat : (st.map fun v => v.category).sum ≤ 8) (d : decode cc pc = .ok (.invokestatic index, 3)) (k : K p l e R s m args below meth c nL G sh Q (pc + 3) lv (.int r :: st) M') : K p l e R s m args below meth c nL G sh Q pc lv st' M := fun H locs ls hP hS hl => by
  subst hst
  obtain ⟨L1, L3, L4, L5, L6⟩ := L
  subst ho
  refine va_calli (va_runSN (As := As) (rest := st) ⟨C.1, C.2.1, C.2.2.1, C.2.2.2.1, C.2.2.2.2.1⟩ hM ⟨va_cnB np C.2.2.2.2.1 (good_cons L4 bigW_good) rfl rfl rfl (C.2.2.2.2.2.2.1 _ hk) (C.2.2.2.2.1 _ L3) ⟨L5.1, L5.2, L6⟩ hR, C.2.2.2.2.1 _ L1, trivial⟩ ⟨k_blind, fun U hU hW => ⟨rfl, by rw [hU]; exact hP, va_K.moved hW.alike C.2.2.2.2.2.1, C.2.2.2.2.2.2.1.warm hW⟩⟩ rfl hn hl.1 rfl (lv_room hcat) d ⟨Nat.zero_le _, Nat.zero_le _⟩) hS (fun q _ h => h) (fun q h => h) (fun r' u t H1 locs1 ht hvm hw hB hz1 hk1 hS1 => ?_)
  subst hw
  exact k H1 locs1 ls (by rw [← ht]; exact hB.1) hS1 hl
def mxI (x y : Int32) : Int32 := if x < y then y else x
def mnI (x y : Int32) : Int32 := if y < x then y else x
def mxL (x y : Int64) : Int64 := if y < x then x else y
def w_max : Prop := Cond.static Lib.Math.max.name ∈ bigW ∧ Cond.initialized "java/lang/Math" ∈ bigW ∧ Cond.code Lib.Math.max.name Lib.Math.max.code 2 (some .int) ∈ bigW
def w_min : Prop := Cond.static Lib.Math.min.name ∈ bigW ∧ Cond.initialized "java/lang/Math" ∈ bigW ∧ Cond.code Lib.Math.min.name Lib.Math.min.code 2 (some .int) ∈ bigW
def w_maxL : Prop := Cond.static Lib.MathLoose.max_long.x ∈ bigW ∧ Cond.initialized "java/lang/Math" ∈ bigW ∧ Cond.code Lib.MathLoose.max_long.x Lib.MathLoose.max_long.code 4 (some .long) ∈ bigW
def w_cpy : Prop := Cond.native arraycopyName ∈ bigW ∧ Cond.static arraycopyName ∈ bigW ∧ Cond.initialized "java/lang/System" ∈ bigW
theorem k_max (C : Cx p s m args c cc own nL G sh) {index : Nat} (w : w_max) (hk : Cond.methodLink own index Lib.Math.max.name ∈ bigW) (hR : 1 ≤ R.frames ∧ (st.map fun v => v.category).sum + 13 ≤ R.locals) {x y : Int32} (d : decode cc pc = .ok (.invokestatic index, 3)) (k : K p l e R s m args below meth c nL G sh Q (pc + 3) lv (.int (mxI x y) :: st) M) : K p l e R s m args below meth c nL G sh Q pc lv (.int y :: .int x :: st) M := fun H locs ls hP hS hl =>
  va_mmax C.1 C.2.1 (C.2.2.1.trans hl.1.symm) C.2.2.2.1 (C.2.2.2.2.1 _ hk) (C.2.2.2.2.1 _ w.1) (C.2.2.2.2.1 _ w.2.1) (C.2.2.2.2.1 _ w.2.2) hR.1 hR.2 (Nat.zero_le _) (Nat.zero_le _) d (k H locs ls hP hS hl)
theorem k_min (C : Cx p s m args c cc own nL G sh) {index : Nat} (w : w_min) (hk : Cond.methodLink own index Lib.Math.min.name ∈ bigW) (hR : 1 ≤ R.frames ∧ (st.map fun v => v.category).sum + 13 ≤ R.locals) {x y : Int32} (d : decode cc pc = .ok (.invokestatic index, 3)) (k : K p l e R s m args below meth c nL G sh Q (pc + 3) lv (.int (mnI x y) :: st) M) : K p l e R s m args below meth c nL G sh Q pc lv (.int y :: .int x :: st) M := fun H locs ls hP hS hl =>
  va_mmin C.1 C.2.1 (C.2.2.1.trans hl.1.symm) C.2.2.2.1 (C.2.2.2.2.1 _ hk) (C.2.2.2.2.1 _ w.1) (C.2.2.2.2.1 _ w.2.1) (C.2.2.2.2.1 _ w.2.2) hR.1 hR.2 (Nat.zero_le _) (Nat.zero_le _) d (k H locs ls hP hS hl)
theorem k_maxL (C : Cx p s m args c cc own nL G sh) {index : Nat} (w : w_maxL) (hk : Cond.methodLink own index Lib.MathLoose.max_long.x ∈ bigW) (hR : 1 ≤ R.frames ∧ (st.map fun v => v.category).sum + 15 ≤ R.locals) {x y : Int64} (d : decode cc pc = .ok (.invokestatic index, 3)) (k : K p l e R s m args below meth c nL G sh Q (pc + 3) lv (.long (mxL x y) :: st) M) : K p l e R s m args below meth c nL G sh Q pc lv (.long y :: .long x :: st) M := fun H locs ls hP hS hl =>
  va_mmax_long C.1 C.2.1 (C.2.2.1.trans hl.1.symm) C.2.2.2.1 (C.2.2.2.2.1 _ hk) (C.2.2.2.2.1 _ w.1) (C.2.2.2.2.1 _ w.2.1) (C.2.2.2.2.1 _ w.2.2) hR.1 hR.2 (Nat.zero_le _) (Nat.zero_le _) d (k H locs ls hP hS hl)
def cpI (M : Mem) (q0 n0 q1 n1 : Nat) (sp dp n : Int32) : Option Mem := if sp < 0 ∨ dp < 0 ∨ n < 0 ∨ n0 < sp.toNatClampNeg + n.toNatClampNeg ∨ n1 < dp.toNatClampNeg + n.toNatClampNeg then none else some (wA M q1 (va_cpy (M.1 q0) (M.1 q1) sp.toNatClampNeg dp.toNatClampNeg n.toNatClampNeg))
theorem k_cpy (C : Cx p s m args c cc own nL G sh) {index : Nat} (w : w_cpy) (hk : Cond.methodLink own index arraycopyName ∈ bigW) (hR : 1 ≤ R.frames ∧ (st.map fun v => v.category).sum + (nativeFrameWords "java/lang/System" "arraycopy" 5 + 11) ≤ R.locals) {q0 n0 q1 n1 : Nat} (hs0 : sh[q0]? = some (.inl (0, n0))) (hs1 : sh[q1]? = some (.inl (0, n1))) {sp dp n : Int32} {M' : Mem} (hx : cpI M q0 n0 q1 n1 sp dp n = some M') (d : decode cc pc = .ok (.invokestatic index, 3)) (k : K p l e R s m args below meth c nL G sh Q (pc + 3) lv st M') : K p l e R s m args below meth c nL G sh Q pc lv (.int n :: .int dp :: .ref (G.2.1 q1) :: .int sp :: .ref (G.2.1 q0) :: st) M := fun H locs ls hP hS hl => by
  unfold cpI at hx
  split at hx
  · cases hx
  · next h =>
    cases hx
    simp only [not_or, Nat.not_lt] at h
    exact va_copyi C.1 C.2.1 (C.2.2.1.trans hl.1.symm) C.2.2.2.1 (C.2.2.2.2.1 _ hk) (C.2.2.2.2.1 _ w.1) (C.2.2.2.2.1 _ w.2.1) (C.2.2.2.2.1 _ w.2.2) C.2.2.2.2.2.1 hP (k_D C.2.2.2.2.2.2.2) hS q0 q1 0 0 (k_ws_int hs0 (by decide)) (k_ws_int hs1 (by decide)) rfl rfl rfl h.1 h.2.1 h.2.2.1 h.2.2.2.1 h.2.2.2.2 (fun _ _ => rfl) hR.1 hR.2 d (fun H1 locs1 hP1 _ hS1 => k H1 locs1 ls (by rw [k_set_a hs1 (by decide)] at hP1; exact hP1) hS1 hl)
end KCL
theorem k_Met_of {l : Launch} {y : MethodName} {b : ByteArray} {n fr lo : Nat} {ret : Option FieldType} {G : Gx} {sh : List Sh} {av : List Value} {M : Mem} {Q : Array Value → State → Outcome → State → Prop} (hy : plainName y.cls = true) (hap : k_ap G sh.length) (hlen : (lg_sl av).length ≤ n)
    (body : ∀ (p : Program) (e : Env) (s : State) (m : MethodId) (args : Array Value) (below : List Frame) (meth : Method) (c : Code), Cx p s m args c b y.cls n G sh → meth.sig.returnType = ret → meth.locks = false → K p l e (k_rm fr lo) s m args below meth c n G sh (MQ below Q args s 0 0 (k_A G sh.length)) 0 (lv_args 0 av) [] M) : k_Met l y b n ret fr lo G sh av M Q := by
  refine Met.ofW (cc := b) (maxL := n) (ret := ret) hy rfl ?_
  intro p e s m args below meth c s₁ B hml hv
  obtain ⟨rfl, hP, hK, hN⟩ := hv
  have hts := atoms_spec (ws := k_ws1 y b n ret) B.pre
  have C : Cx p s m av.toArray c b y.cls n G sh := ⟨B.exec, B.bytes, hml, findClass_of_methodNamed B.named, fun w hw => hts w (List.mem_cons_of_mem _ hw), hK, hN, hap⟩
  have hl := lv_entry av hlen
  rw [lg_entry_eq]
  exact body p e s m _ below meth c C B.returns B.notSynchronized s.heap [] _ hP va_S.rf hl
/-! what comes of 'some' -/
theorem bnd {α β : Type} {o : Option α} {k : α → Option β} {r : β} (h : o.bind k = some r) : ∃ x, o = some x ∧ k x = some r := Option.bind_eq_some_iff.mp h
theorem ite_s {P : Prop} [Decidable P] {α : Type} {a b : Option α} {r : α} (h : (if P then a else b) = some r) : (P ∧ a = some r) ∨ (¬ P ∧ b = some r) := by
  by_cases hP : P
  · rw [if_pos hP] at h; exact Or.inl ⟨hP, h⟩
  · rw [if_neg hP] at h; exact Or.inr ⟨hP, h⟩
theorem i_ne {x y : Int32} (h : ¬ x = y) : x.toInt ≠ y.toInt := fun q => h (Int32.toInt_inj.mp q)
