/-! what the printed walks stand on: shapes of the two worlds, rows in the words of the functions -/
theorem FU_ex : ∃ n : Nat, n = 100000 := ⟨100000, rfl⟩
noncomputable def FU : Nat := Classical.choose FU_ex
theorem FU_eq : FU = 100000 := Classical.choose_spec FU_ex
def jshl (x y : Int32) : Int32 := x <<< (y &&& 31)
def jshr (x y : Int32) : Int32 := x >>> (y &&& 31)
def jushr (x y : Int32) : Int32 := (x.toUInt32 >>> (y.toUInt32 &&& Int32.toUInt32 31)).toInt32
def jrm (x y : Int32) : Int32 := x - x / y * y
def bp {α β γ : Type} (p : α × β) (f : α → β → γ) : γ := f p.1 p.2
theorem bp_s {α β γ : Type} {a : α} {b : β} {f : α → β → γ} {r : γ} (h : bp (a, b) f = r) : f a b = r := h
theorem gZ0 : gZ 0 = some 0 := rfl
theorem gZ1 : gZ 1 = some 1 := rfl
theorem i_ne2 {x y : Int32} (h : ¬ x = y) {k : Int} (hk : y.toInt = k) : x.toInt ≠ k := hk ▸ i_ne h
section KR2
variable {p : Program} {l : Launch} {e : Env} {R : Room} {s : State} {m : MethodId} {args : Array Value} {below : List Frame} {meth : Method} {c : Code} {cc : ByteArray} {own : String} {nL : Nat} {G : Gx} {sh : List Sh} {Q : State → Prop} {pc : Nat} {lv lv' : List (Nat × Value)} {st : List Value} {M : Mem}
theorem k_geti (C : Cx p s m args c cc own nL G sh) {q ci j index : Nat} {fs : List (Option Nat)} (hs : sh[q]? = some (.inr (ci, fs))) (hj : fs[j]? = some none) (F : FL own index ci j) (d : decode cc pc = .ok (.getfield index, 3)) (k : K p l e R s m args below meth c nL G sh Q (pc + 3) lv (.int (M.1 q j) :: st) M) : K p l e R s m args below meth c nL G sh Q pc lv (.ref (G.2.1 q) :: st) M := k_get C hs hj F d k
theorem k_getr (C : Cx p s m args c cc own nL G sh) {q ci j index r : Nat} {fs : List (Option Nat)} (hs : sh[q]? = some (.inr (ci, fs))) (hj : fs[j]? = some (some r)) (F : FL own index ci j) (d : decode cc pc = .ok (.getfield index, 3)) (k : K p l e R s m args below meth c nL G sh Q (pc + 3) lv (.ref (G.2.1 r) :: st) M) : K p l e R s m args below meth c nL G sh Q pc lv (.ref (G.2.1 q) :: st) M := k_get C hs hj F d k
theorem k_ishlJ (C : Cx p s m args c cc own nL G sh) {x y : Int32} (d : decode cc pc = .ok (.ishl, 1)) (k : K p l e R s m args below meth c nL G sh Q (pc + 1) lv (.int (jshl x y) :: st) M) : K p l e R s m args below meth c nL G sh Q pc lv (.int y :: .int x :: st) M := k_ishl C d k
theorem k_ishrJ (C : Cx p s m args c cc own nL G sh) {x y : Int32} (d : decode cc pc = .ok (.ishr, 1)) (k : K p l e R s m args below meth c nL G sh Q (pc + 1) lv (.int (jshr x y) :: st) M) : K p l e R s m args below meth c nL G sh Q pc lv (.int y :: .int x :: st) M := k_ishr C d k
theorem k_iushrJ (C : Cx p s m args c cc own nL G sh) {x y : Int32} (d : decode cc pc = .ok (.iushr, 1)) (k : K p l e R s m args below meth c nL G sh Q (pc + 1) lv (.int (jushr x y) :: st) M) : K p l e R s m args below meth c nL G sh Q pc lv (.int y :: .int x :: st) M := k_iushr C d k
theorem k_iremJ (C : Cx p s m args c cc own nL G sh) {x y : Int32} (d : decode cc pc = .ok (.irem, 1)) (hn : ¬ y = 0) (k : K p l e R s m args below meth c nL G sh Q (pc + 1) lv (.int (jrm x y) :: st) M) : K p l e R s m args below meth c nL G sh Q pc lv (.int y :: .int x :: st) M := k_irem C d hn k
theorem k_idivO (C : Cx p s m args c cc own nL G sh) {x y z : Int32} (d : decode cc pc = .ok (.idiv, 1)) (h : dvI x y = some z) (k : K p l e R s m args below meth c nL G sh Q (pc + 1) lv (.int z :: st) M) : K p l e R s m args below meth c nL G sh Q pc lv (.int y :: .int x :: st) M := by
  unfold dvI at h
  split at h
  · cases h
  · next hn => cases h; exact k_idiv C d hn k
theorem k_iremO (C : Cx p s m args c cc own nL G sh) {x y z : Int32} (d : decode cc pc = .ok (.irem, 1)) (h : rmI x y = some z) (k : K p l e R s m args below meth c nL G sh Q (pc + 1) lv (.int z :: st) M) : K p l e R s m args below meth c nL G sh Q pc lv (.int y :: .int x :: st) M := by
  unfold rmI at h
  split at h
  · cases h
  · next hn => cases h; exact k_irem C d hn k
theorem k_ldivO (C : Cx p s m args c cc own nL G sh) {x y z : Int64} (d : decode cc pc = .ok (.ldiv, 1)) (h : dvL x y = some z) (k : K p l e R s m args below meth c nL G sh Q (pc + 1) lv (.long z :: st) M) : K p l e R s m args below meth c nL G sh Q pc lv (.long y :: .long x :: st) M := by
  unfold dvL at h
  split at h
  · cases h
  · next hn => cases h; exact k_ldiv C d hn k
theorem k_lremO (C : Cx p s m args c cc own nL G sh) {x y z : Int64} (d : decode cc pc = .ok (.lrem, 1)) (h : rmL x y = some z) (k : K p l e R s m args below meth c nL G sh Q (pc + 1) lv (.long z :: st) M) : K p l e R s m args below meth c nL G sh Q pc lv (.long y :: .long x :: st) M := by
  unfold rmL at h
  split at h
  · cases h
  · next hn => cases h; exact k_lrem C d hn k
end KR2
def wAL (M : Mem) (r : Nat) (f : Nat → Int64) : Mem := (M.1, fun r' => if r' = r then f else M.2 r')
def cpL (M : Mem) (q0 n0 q1 n1 : Nat) (sp dp n : Int32) : Option Mem := if sp < 0 ∨ dp < 0 ∨ n < 0 ∨ n0 < sp.toNatClampNeg + n.toNatClampNeg ∨ n1 < dp.toNatClampNeg + n.toNatClampNeg then none else some (wAL M q1 (va_cpy (M.2 q0) (M.2 q1) sp.toNatClampNeg dp.toNatClampNeg n.toNatClampNeg))
def shC : List Sh := [.inr (11, [some 1, some 6, none, some 11, some 16, some 23, some 25, some 28, some 32, some 34, some 36, some 41, some 42, some 43]), .inr (0, [some 2, some 3, some 4, some 5, none, none, none, none]), .inl (0, 8), .inl (0, 8), .inl (0, 8), .inl (0, 12), .inr (0, [some 7, some 8, some 9, some 10, none, none, none, none]), .inl (0, 8), .inl (0, 8), .inl (0, 8), .inl (0, 12), .inr (10, [some 12, some 13, some 14, some 15, none]), .inl (0, 8), .inl (0, 8), .inl (0, 8), .inl (0, 8), .inr (1, [some 17, some 18, none]), .inl (0, 96), .inr (0, [some 19, some 20, some 21, some 22, none, none, none, none]), .inl (0, 8), .inl (0, 8), .inl (0, 8), .inl (0, 12), .inr (9, [some 24, none]), .inl (0, 12), .inr (8, [some 1, some 26, some 27]), .inl (0, 8), .inl (0, 8), .inr (3, [some 1, some 25, some 29, some 30, some 31]), .inl (0, 12), .inl (0, 12), .inl (0, 12), .inr (7, [some 1, some 25, some 23, some 33]), .inl (0, 288), .inr (6, [some 1, some 25, some 35]), .inl (0, 256), .inr (2, [some 1, some 25, some 37, some 38, some 39, some 40]), .inl (0, 256), .inl (2, 256), .inl (1, 81), .inl (1, 81), .inr (5, [some 1, some 25]), .inr (4, [some 1, some 25]), .inl (0, 7)]
theorem shC_0 : shC[0]? = some (.inr (11, [some 1, some 6, none, some 11, some 16, some 23, some 25, some 28, some 32, some 34, some 36, some 41, some 42, some 43])) := rfl
theorem shC_1 : shC[1]? = some (.inr (0, [some 2, some 3, some 4, some 5, none, none, none, none])) := rfl
theorem shC_2 : shC[2]? = some (.inl (0, 8)) := rfl
theorem shC_3 : shC[3]? = some (.inl (0, 8)) := rfl
theorem shC_4 : shC[4]? = some (.inl (0, 8)) := rfl
theorem shC_5 : shC[5]? = some (.inl (0, 12)) := rfl
theorem shC_6 : shC[6]? = some (.inr (0, [some 7, some 8, some 9, some 10, none, none, none, none])) := rfl
theorem shC_7 : shC[7]? = some (.inl (0, 8)) := rfl
theorem shC_8 : shC[8]? = some (.inl (0, 8)) := rfl
theorem shC_9 : shC[9]? = some (.inl (0, 8)) := rfl
theorem shC_10 : shC[10]? = some (.inl (0, 12)) := rfl
theorem shC_11 : shC[11]? = some (.inr (10, [some 12, some 13, some 14, some 15, none])) := rfl
theorem shC_12 : shC[12]? = some (.inl (0, 8)) := rfl
theorem shC_13 : shC[13]? = some (.inl (0, 8)) := rfl
theorem shC_14 : shC[14]? = some (.inl (0, 8)) := rfl
theorem shC_15 : shC[15]? = some (.inl (0, 8)) := rfl
theorem shC_16 : shC[16]? = some (.inr (1, [some 17, some 18, none])) := rfl
theorem shC_17 : shC[17]? = some (.inl (0, 96)) := rfl
theorem shC_18 : shC[18]? = some (.inr (0, [some 19, some 20, some 21, some 22, none, none, none, none])) := rfl
theorem shC_19 : shC[19]? = some (.inl (0, 8)) := rfl
theorem shC_20 : shC[20]? = some (.inl (0, 8)) := rfl
theorem shC_21 : shC[21]? = some (.inl (0, 8)) := rfl
theorem shC_22 : shC[22]? = some (.inl (0, 12)) := rfl
theorem shC_23 : shC[23]? = some (.inr (9, [some 24, none])) := rfl
theorem shC_24 : shC[24]? = some (.inl (0, 12)) := rfl
theorem shC_25 : shC[25]? = some (.inr (8, [some 1, some 26, some 27])) := rfl
theorem shC_26 : shC[26]? = some (.inl (0, 8)) := rfl
theorem shC_27 : shC[27]? = some (.inl (0, 8)) := rfl
theorem shC_28 : shC[28]? = some (.inr (3, [some 1, some 25, some 29, some 30, some 31])) := rfl
theorem shC_29 : shC[29]? = some (.inl (0, 12)) := rfl
theorem shC_30 : shC[30]? = some (.inl (0, 12)) := rfl
theorem shC_31 : shC[31]? = some (.inl (0, 12)) := rfl
theorem shC_32 : shC[32]? = some (.inr (7, [some 1, some 25, some 23, some 33])) := rfl
theorem shC_33 : shC[33]? = some (.inl (0, 288)) := rfl
theorem shC_34 : shC[34]? = some (.inr (6, [some 1, some 25, some 35])) := rfl
theorem shC_35 : shC[35]? = some (.inl (0, 256)) := rfl
theorem shC_36 : shC[36]? = some (.inr (2, [some 1, some 25, some 37, some 38, some 39, some 40])) := rfl
theorem shC_37 : shC[37]? = some (.inl (0, 256)) := rfl
theorem shC_38 : shC[38]? = some (.inl (2, 256)) := rfl
theorem shC_39 : shC[39]? = some (.inl (1, 81)) := rfl
theorem shC_40 : shC[40]? = some (.inl (1, 81)) := rfl
theorem shC_41 : shC[41]? = some (.inr (5, [some 1, some 25])) := rfl
theorem shC_42 : shC[42]? = some (.inr (4, [some 1, some 25])) := rfl
theorem shC_43 : shC[43]? = some (.inl (0, 7)) := rfl
def shR : List Sh := [.inr (12, [some 1, some 2, some 3, some 4, some 5, none, none, none, none, some 6, some 7, some 8, some 9, none, none, none, some 10, none, none, none, none, some 11, some 12, some 13, none, some 14, some 15, some 16, some 17]), .inl (0, 7), .inl (0, 8), .inl (0, 8), .inl (0, 8), .inl (0, 12), .inl (0, 96), .inl (0, 48), .inl (0, 48), .inl (0, 144), .inl (0, 480), .inl (0, 256), .inl (0, 256), .inl (0, 12), .inl (0, 36), .inl (1, 81), .inl (1, 81), .inl (0, 8)]
theorem shR_0 : shR[0]? = some (.inr (12, [some 1, some 2, some 3, some 4, some 5, none, none, none, none, some 6, some 7, some 8, some 9, none, none, none, some 10, none, none, none, none, some 11, some 12, some 13, none, some 14, some 15, some 16, some 17])) := rfl
theorem shR_1 : shR[1]? = some (.inl (0, 7)) := rfl
theorem shR_2 : shR[2]? = some (.inl (0, 8)) := rfl
theorem shR_3 : shR[3]? = some (.inl (0, 8)) := rfl
theorem shR_4 : shR[4]? = some (.inl (0, 8)) := rfl
theorem shR_5 : shR[5]? = some (.inl (0, 12)) := rfl
theorem shR_6 : shR[6]? = some (.inl (0, 96)) := rfl
theorem shR_7 : shR[7]? = some (.inl (0, 48)) := rfl
theorem shR_8 : shR[8]? = some (.inl (0, 48)) := rfl
theorem shR_9 : shR[9]? = some (.inl (0, 144)) := rfl
theorem shR_10 : shR[10]? = some (.inl (0, 480)) := rfl
theorem shR_11 : shR[11]? = some (.inl (0, 256)) := rfl
theorem shR_12 : shR[12]? = some (.inl (0, 256)) := rfl
theorem shR_13 : shR[13]? = some (.inl (0, 12)) := rfl
theorem shR_14 : shR[14]? = some (.inl (0, 36)) := rfl
theorem shR_15 : shR[15]? = some (.inl (1, 81)) := rfl
theorem shR_16 : shR[16]? = some (.inl (1, 81)) := rfl
theorem shR_17 : shR[17]? = some (.inl (0, 8)) := rfl
def BD (b : Nat) : Prop := shC[b]? = some (.inr (0, [some (b + 1), some (b + 2), some (b + 3), some (b + 4), none, none, none, none])) ∧ shC[b + 1]? = some (.inl (0, 8)) ∧ shC[b + 2]? = some (.inl (0, 8)) ∧ shC[b + 3]? = some (.inl (0, 8)) ∧ shC[b + 4]? = some (.inl (0, 12))
theorem BD_1 : BD 1 := ⟨rfl, rfl, rfl, rfl, rfl⟩
theorem BD_6 : BD 6 := ⟨rfl, rfl, rfl, rfl, rfl⟩
theorem BD_18 : BD 18 := ⟨rfl, rfl, rfl, rfl, rfl⟩
