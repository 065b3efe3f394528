/-! what is made: the walk's layer for constructors -/
def i_tys (cA : Nat → ClassId) : List (ClassId × FieldType) := [(cA 0, .int), (cA 1, .long), (cA 2, .boolean)]
/-- the nest mates' constructors that are called -/
def i_nest : List (String × Nat × MethodName) := [(RX11, 11, yX0_init), (RX11, 25, yX10_init), (RX11, 32, yX1_init), (RX1, 17, yX0_init), (RX11, 39, yX9_init)]
def i_nw (U : State) : Prop := ∀ q ∈ i_nest, va_Nw (.methodLinkNest q.1 q.2.1 q.2.2 RX11) U
theorem i_nw.warm {s U : State} (hW : s.WarmedH U.vm) (h : i_nw s) : i_nw U := fun q hq => va_Nw.warmM hW (h q hq)
theorem i_nw.same {s U : State} (hv : s.vm = U.vm) (h : i_nw s) : i_nw U := fun q hq => va_Nw.same rfl hv (h q hq)
def Ci (p : Program) (s : State) (m : MethodId) (args : Array Value) (c : Code) (cc : ByteArray) (own : String) (nL : Nat) (D : va_G) (cA : Nat → ClassId) (A : Nat → Prop) : Prop :=
  p.tables.exec = Jvm.exec ∧ c.code = cc ∧ c.maxLocals = nL ∧ s.vm.findClass own = some m.cls ∧ (∀ w ∈ bigW, w.before args s = true) ∧ va_K D vwCl (i_tys cA) s ∧ (∀ q : Nat, s.heap.size ≤ q → A q) ∧ i_nw s
def KI (p : Program) (l : Launch) (e : Env) (R : Room) (s : State) (m : MethodId) (args : Array Value) (below : List Frame) (meth : Method) (c : Code) (nL : Nat) (D : va_G) (A : Nat → Prop) (Q : State → Prop) (pc : Nat) (lv : List (Nat × Value)) (st : List Value) (ws : va_W) (cells slots : Nat) : Prop :=
  ∀ (H : Heap) (locs : List Loc) (ls : Array Slot), va_P D vwCl ws H → va_D A ws → va_S A s.heap H locs → lv_has ls nL lv → W p l e R s m args below meth c H locs cells slots Q (F0 m pc ls st)
section KIR
variable {p : Program} {l : Launch} {e : Env} {R : Room} {s : State} {m : MethodId} {args : Array Value} {below : List Frame} {meth : Method} {c : Code} {cc : ByteArray} {own : String} {nL : Nat} {D : va_G} {cA : Nat → ClassId} {A : Nat → Prop} {Q : State → Prop} {pc : Nat} {lv lv' : List (Nat × Value)} {st : List Value} {ws ws' : va_W} {cells slots cells' slots' : Nat}
theorem i_eq (k : KI p l e R s m args below meth c nL D A Q pc lv st ws' cells slots) (h : ws' = ws) : KI p l e R s m args below meth c nL D A Q pc lv st ws cells slots := h ▸ k
theorem i_aload (C : Ci p s m args c cc own nL D cA A) {k : Fin 4} {i x : Nat} (j : Nat) (hl : lv[j]? = some (i, .ref x)) (hi : (k : Nat) = i) (d : decode cc pc = .ok (.aload_n k, 1)) (kk : KI p l e R s m args below meth c nL D A Q (pc + 1) lv (.ref x :: st) ws cells slots) : KI p l e R s m args below meth c nL D A Q pc lv st ws cells slots :=
  fun H locs ls hP hD hS h => lv_aload_n C.1 C.2.1 d hi (lv_at h j hl) (kk H locs ls hP hD hS h)
theorem i_iconst (C : Ci p s m args c cc own nL D cA A) {n : Int} {v : Int32} (hv : Int32.ofInt n = v) (d : decode cc pc = .ok (.iconst n, 1)) (kk : KI p l e R s m args below meth c nL D A Q (pc + 1) lv (.int v :: st) ws cells slots) : KI p l e R s m args below meth c nL D A Q pc lv st ws cells slots :=
  fun H locs ls hP hD hS h => lv_iconst C.1 C.2.1 d hv (kk H locs ls hP hD hS h)
theorem i_bipush (C : Ci p s m args c cc own nL D cA A) {n : Int} {v : Int32} (hv : (Int8.ofInt n).toInt32 = v) (d : decode cc pc = .ok (.bipush n, 2)) (kk : KI p l e R s m args below meth c nL D A Q (pc + 2) lv (.int v :: st) ws cells slots) : KI p l e R s m args below meth c nL D A Q pc lv st ws cells slots :=
  fun H locs ls hP hD hS h => lv_bipush C.1 C.2.1 d hv (kk H locs ls hP hD hS h)
theorem i_sipush (C : Ci p s m args c cc own nL D cA A) {n : Int} {v : Int32} (hv : (Int16.ofInt n).toInt32 = v) (d : decode cc pc = .ok (.sipush n, 3)) (kk : KI p l e R s m args below meth c nL D A Q (pc + 3) lv (.int v :: st) ws cells slots) : KI p l e R s m args below meth c nL D A Q pc lv st ws cells slots :=
  fun H locs ls hP hD hS h => lv_sipush C.1 C.2.1 d hv (kk H locs ls hP hD hS h)
theorem i_dup (C : Ci p s m args c cc own nL D cA A) {va : Value} (hva : va.category = 1) (d : decode cc pc = .ok (.dup, 1)) (kk : KI p l e R s m args below meth c nL D A Q (pc + 1) lv (va :: va :: st) ws cells slots) : KI p l e R s m args below meth c nL D A Q pc lv (va :: st) ws cells slots :=
  fun H locs ls hP hD hS h => lv_dup C.1 C.2.1 d hva (kk H locs ls hP hD hS h)
theorem i_obj (C : Ci p s m args c cc own nL D cA A) {idx : Nat} (w : Cond.methodLink own idx Lib.objectInit ∈ bigW) (w2 : Cond.instanceMethod Lib.objectInit ∈ bigW) (w3 : Cond.code Lib.objectInit ⟨#[0xb1]⟩ 1 none ∈ bigW) {a : Addr} (hf : 1 ≤ R.frames) (hlo : (st.map fun v => v.category).sum + 12 ≤ R.locals) (d : decode cc pc = .ok (.invokespecial idx, 3)) (kk : KI p l e R s m args below meth c nL D A Q (pc + 3) lv st ws cells slots) : KI p l e R s m args below meth c nL D A Q pc lv (.ref a :: st) ws cells slots :=
  fun H locs ls hP hD hS h => W.objInit C.1 C.2.1 C.2.2.2.1 (C.2.2.2.2.1 _ w) (C.2.2.2.2.1 _ w2) (C.2.2.2.2.1 _ w3) rfl (by rw [C.2.2.1]; exact h.1) rfl d hf (by show 2 * 0 + _ + 12 ≤ _; omega) (kk H locs ls hP hD hS h)
theorem i_same {t : Nat} {ty : FieldType} {cx : ClassId} {tys : List (ClassId × FieldType)} (hne : ∀ C, ty ≠ .object C) (h1 : va_K D vwCl (tys ++ [(cx, ty)]) s) {cy : ClassId} (ht : tys[t]? = some (cy, ty)) : cx = cy := by
  have a1 := (h1.2 tys.length (cx, ty) (by simp)).2
  have a2 := (h1.2 t (cy, ty) (by rw [List.getElem?_append_left ((List.getElem?_eq_some_iff.mp ht).1)]; exact ht)).2
  cases ty with
  | object C => exact absurd rfl (hne C)
  | _ => exact Option.some.inj (a1.symm.trans a2)
theorem i_newaI (C : Ci p s m args c cc own nL D cA A) (w : Cond.arrayClass .int ∈ bigW) {n : Int32} {N : Nat} (hn : ¬ n < 0) (hN : n.toNatClampNeg = N) (hb : N * 4 ≤ 536870912) (hc : cells + 1 = cells') (hs : slots + N = slots') (hcR : cells' ≤ R.cells) (hsR : slots' ≤ R.slots) (d : decode cc pc = .ok (.newarray .int, 2)) (kk : ∀ q : Nat, KI p l e R s m args below meth c nL D A Q (pc + 2) lv (.ref q :: st) (ws ++ [(q, .inl (cA 0, (N, .inl fun _ => 0)))]) cells' slots') : KI p l e R s m args below meth c nL D A Q pc lv (.int n :: st) ws cells slots :=
  fun H locs ls hP hD hS h => by
    subst hc; subst hs
    refine va_newa (atype := .int) (ty := .int) C.1 C.2.1 (C.2.2.2.2.1 _ w) rfl C.2.2.2.2.2.1 hP hD hS C.2.2.2.2.2.2.1 (a0 := (N, .inl fun _ => 0)) (fun _ => rfl) hn hN hb hcR hsR d (fun q cx H1 hK1 hP1 hD1 hS1 => ?_)
    obtain rfl : cx = cA 0 := i_same (t := 0) (by intro _ z; cases z) hK1 rfl
    exact kk q H1 locs ls hP1 hD1 hS1 h
theorem i_newaL (C : Ci p s m args c cc own nL D cA A) (w : Cond.arrayClass .long ∈ bigW) {n : Int32} {N : Nat} (hn : ¬ n < 0) (hN : n.toNatClampNeg = N) (hb : N * 8 ≤ 536870912) (hc : cells + 1 = cells') (hs : slots + N = slots') (hcR : cells' ≤ R.cells) (hsR : slots' ≤ R.slots) (d : decode cc pc = .ok (.newarray .long, 2)) (kk : ∀ q : Nat, KI p l e R s m args below meth c nL D A Q (pc + 2) lv (.ref q :: st) (ws ++ [(q, .inl (cA 1, (N, .inr (.inl fun _ => 0))))]) cells' slots') : KI p l e R s m args below meth c nL D A Q pc lv (.int n :: st) ws cells slots :=
  fun H locs ls hP hD hS h => by
    subst hc; subst hs
    refine va_newa (atype := .long) (ty := .long) C.1 C.2.1 (C.2.2.2.2.1 _ w) rfl C.2.2.2.2.2.1 hP hD hS C.2.2.2.2.2.2.1 (a0 := (N, .inr (.inl fun _ => 0))) (fun _ => rfl) hn hN hb hcR hsR d (fun q cx H1 hK1 hP1 hD1 hS1 => ?_)
    obtain rfl : cx = cA 1 := i_same (t := 1) (by intro _ z; cases z) hK1 rfl
    exact kk q H1 locs ls hP1 hD1 hS1 h
theorem i_newaZ (C : Ci p s m args c cc own nL D cA A) (w : Cond.arrayClass .boolean ∈ bigW) {n : Int32} {N : Nat} (hn : ¬ n < 0) (hN : n.toNatClampNeg = N) (hb : N * 1 ≤ 536870912) (hc : cells + 1 = cells') (hs : slots + N = slots') (hcR : cells' ≤ R.cells) (hsR : slots' ≤ R.slots) (d : decode cc pc = .ok (.newarray .boolean, 2)) (kk : ∀ q : Nat, KI p l e R s m args below meth c nL D A Q (pc + 2) lv (.ref q :: st) (ws ++ [(q, .inl (cA 2, (N, .inl fun _ => 0)))]) cells' slots') : KI p l e R s m args below meth c nL D A Q pc lv (.int n :: st) ws cells slots :=
  fun H locs ls hP hD hS h => by
    subst hc; subst hs
    refine va_newa (atype := .boolean) (ty := .boolean) C.1 C.2.1 (C.2.2.2.2.1 _ w) rfl C.2.2.2.2.2.1 hP hD hS C.2.2.2.2.2.2.1 (a0 := (N, .inl fun _ => 0)) (fun _ => rfl) hn hN hb hcR hsR d (fun q cx H1 hK1 hP1 hD1 hS1 => ?_)
    obtain rfl : cx = cA 2 := i_same (t := 2) (by intro _ z; cases z) hK1 rfl
    exact kk q H1 locs ls hP1 hD1 hS1 h
theorem i_putF (C : Ci p s m args c cc own nL D cA A) (hin2 : meth.name = "<init>") {Cn : String} {T : u_T} {N ci index : Nat} (hin : ∀ w ∈ u_ws Cn T N, w ∈ bigW) (ty0 : Nat → FieldType) (hty : ∀ k, k < N → parseFieldDescriptor (T k).2.2.1 = some (ty0 k)) (hnm : ∀ a, a < N → ∀ b, b < N → a ≠ b → (T a).2.1 ≠ (T b).2.1) (hc : vwCl[ci]? = some (Cn, T, N)) (k : Nat) (hk : k < N) (hlink : Cond.fieldLink own index (T k).1 (T k).2.1 (T k).2.2.1 ∈ bigW) (hfin : (T k).2.2.2 = true) (hdecl : (T k).1 = own) {v : Value} (hn : narrow (ty0 k) v = v) (hfit : fits (ty0 k) v = true) {fs fs' : List Value} {h0 : Nat} (hl : k < fs.length) (hfs : fs.set k v = fs') (d : decode cc pc = .ok (.putfield index, 3)) (kk : KI p l e R s m args below meth c nL D A Q (pc + 3) lv st ((h0, .inr (ci, fs')) :: ws) cells slots) : KI p l e R s m args below meth c nL D A Q pc lv (v :: .ref h0 :: st) ((h0, .inr (ci, fs)) :: ws) cells slots :=
  fun H locs ls hP hD hS h => by
    subst hfs
    exact va_putF C.1 C.2.1 C.2.2.2.2.1 hin ty0 hty hnm C.2.2.2.1 C.2.2.2.2.2.1 hP hD hS 0 rfl hc k hk (C.2.2.2.2.1 _ hlink) (fun _ z => z) hfin hin2 hdecl (hty k hk) hn hfit hl d (fun H1 locs1 hP1 hD1 hS1 => kk H1 locs1 ls hP1 hD1 hS1 h)
theorem i_put (C : Ci p s m args c cc own nL D cA A) {Cn : String} {T : u_T} {N ci index : Nat} (hin : ∀ w ∈ u_ws Cn T N, w ∈ bigW) (ty0 : Nat → FieldType) (hty : ∀ k, k < N → parseFieldDescriptor (T k).2.2.1 = some (ty0 k)) (hnm : ∀ a, a < N → ∀ b, b < N → a ≠ b → (T a).2.1 ≠ (T b).2.1) (hc : vwCl[ci]? = some (Cn, T, N)) (k : Nat) (hk : k < N) (hlink : Cond.fieldLink own index (T k).1 (T k).2.1 (T k).2.2.1 ∈ bigW) (hfin : (T k).2.2.2 = false) {v : Value} (hn : narrow (ty0 k) v = v) (hfit : fits (ty0 k) v = true) {fs fs' : List Value} {h0 : Nat} (hl : k < fs.length) (hfs : fs.set k v = fs') (d : decode cc pc = .ok (.putfield index, 3)) (kk : KI p l e R s m args below meth c nL D A Q (pc + 3) lv st ((h0, .inr (ci, fs')) :: ws) cells slots) : KI p l e R s m args below meth c nL D A Q pc lv (v :: .ref h0 :: st) ((h0, .inr (ci, fs)) :: ws) cells slots :=
  fun H locs ls hP hD hS h => by
    subst hfs
    exact va_put C.1 C.2.1 C.2.2.2.2.1 hin ty0 hty hnm C.2.2.2.1 C.2.2.2.2.2.1 hP hD hS 0 rfl hc k hk (C.2.2.2.2.1 _ hlink) (fun _ z => z) hfin (hty k hk) hn hfit hl d (fun H1 locs1 hP1 hD1 hS1 => kk H1 locs1 ls hP1 hD1 hS1 h)
theorem i_get (C : Ci p s m args c cc own nL D cA A) {Cn : String} {T : u_T} {N ci index : Nat} (hin : ∀ w ∈ u_ws Cn T N, w ∈ bigW) (hc : vwCl[ci]? = some (Cn, T, N)) (k : Nat) (hk : k < N) (hlink : Cond.fieldLink own index (T k).1 (T k).2.1 (T k).2.2.1 ∈ bigW) {v : Value} {fs : List Value} {h0 : Nat} (he : ws[0]? = some (h0, .inr (ci, fs))) (hv : fs[k]? = some v) (d : decode cc pc = .ok (.getfield index, 3)) (kk : KI p l e R s m args below meth c nL D A Q (pc + 3) lv (v :: st) ws cells slots) : KI p l e R s m args below meth c nL D A Q pc lv (.ref h0 :: st) ws cells slots :=
  fun H locs ls hP hD hS h => va_get C.1 C.2.1 C.2.2.2.2.1 hin C.2.2.2.1 C.2.2.2.2.2.1 hP 0 he hc k hk (C.2.2.2.2.1 _ hlink) (fun _ z => z) hv d (kk H locs ls hP hD hS h)
theorem i_new (C : Ci p s m args c cc own nL D cA A) {Cn : String} {T : u_T} {N ci index : Nat} (hin : ∀ w ∈ u_ws Cn T N, w ∈ bigW) (ty0 : Nat → FieldType) (hty : ∀ k, k < N → parseFieldDescriptor (T k).2.2.1 = some (ty0 k)) (w1 : Cond.classLink own index Cn ∈ bigW) (w2 : Cond.instantiable Cn N ∈ bigW) (w3 : Cond.initialized Cn ∈ bigW) (hc : vwCl[ci]? = some (Cn, T, N)) {fs : List Value} (hfs : ∀ j, j < N → defaultValue (ty0 j) = vp_V fs j) (hce : cells + 1 = cells') (hs : slots + N = slots') (hcR : cells' ≤ R.cells) (hsR : slots' ≤ R.slots) (d : decode cc pc = .ok (.new index, 3)) (kk : ∀ q : Nat, KI p l e R s m args below meth c nL D A Q (pc + 3) lv (.ref q :: st) (ws ++ [(q, .inr (ci, fs))]) cells' slots') : KI p l e R s m args below meth c nL D A Q pc lv st ws cells slots :=
  fun H locs ls hP hD hS h => by
    subst hce; subst hs
    exact va_new C.1 C.2.1 C.2.2.2.2.1 hin ty0 hty C.2.2.2.1 (C.2.2.2.2.1 _ w1) (C.2.2.2.2.1 _ w2) (C.2.2.2.2.1 _ w3) C.2.2.2.2.2.1 hP hD hS C.2.2.2.2.2.2.1 hc hfs hcR hsR d (fun q H1 hP1 hD1 hS1 => kk q H1 locs ls hP1 hD1 hS1 h)
end KIR
/-- a constructor's contract: one cell with what is there at birth becomes a world -/
def I_Met (l : Launch) (y : MethodName) (b : ByteArray) (n fr lo mc ms : Nat) (D : va_G) (cA : Nat → ClassId) (h0 : Nat) (av : List Value) (ci : Nat) (fs : List Value) (post : va_W → Prop) : Prop :=
  ∀ sz : Nat, Met l y (k_ws1 y b n none) { frames := fr, cells := mc, slots := ms, locals := lo } (va_Pc (.ref h0 :: av) (fun U => U.heap.size = sz ∧ va_P D vwCl [(h0, .inr (ci, fs))] U.heap ∧ va_K D vwCl (i_tys cA) U ∧ i_nw U)) (va_Qv post (fun w t => va_P D vwCl w t.heap ∧ va_D (va_A [(h0, .inr (ci, fs))] sz) w) (va_A [(h0, .inr (ci, fs))] sz)) mc ms (va_A [(h0, .inr (ci, fs))] sz)
theorem I_Met_of {l : Launch} {y : MethodName} {b : ByteArray} {n fr lo mc ms : Nat} {D : va_G} {cA : Nat → ClassId} {h0 : Nat} {av : List Value} {ci : Nat} {fs : List Value} {post : va_W → Prop} (hy : plainName y.cls = true) (hyn : y.name = "<init>") (hlen : (lg_sl (.ref h0 :: av)).length ≤ n)
    (body : ∀ (p : Program) (e : Env) (s : State) (m : MethodId) (args : Array Value) (below : List Frame) (meth : Method) (c : Code) (A : Nat → Prop), Ci p s m args c b y.cls n D cA A → meth.name = "<init>" →
      (∀ (pc : Nat) (lv : List (Nat × Value)) (w : va_W), post w → decode b pc = .ok (.return_, 1) → KI p l e { frames := fr, cells := mc, slots := ms, locals := lo } s m args below meth c n D A (MQ below (va_Qv post (fun w t => va_P D vwCl w t.heap ∧ va_D A w) A) args s mc ms A) pc lv [] w mc ms) →
      KI p l e { frames := fr, cells := mc, slots := ms, locals := lo } s m args below meth c n D A (MQ below (va_Qv post (fun w t => va_P D vwCl w t.heap ∧ va_D A w) A) args s mc ms A) 0 (lv_args 0 (.ref h0 :: av)) [] [(h0, .inr (ci, fs))] 0 0) : I_Met l y b n fr lo mc ms D cA h0 av ci fs post := by
  intro sz
  refine Met.ofW (cc := b) (maxL := n) (ret := none) hy rfl ?_
  intro p e s m args below meth c s₁ B hml hv
  obtain ⟨rfl, hsz, hP, hK, hN⟩ := hv
  subst hsz
  have hts := atoms_spec (ws := k_ws1 y b n none) B.pre
  have hin : meth.name = "<init>" := by
    have := (name_of_methodNamed B.named B.method).1
    rw [this, hyn]
  have hD : va_D (va_A [(h0, .inr (ci, fs))] s.heap.size) [(h0, .inr (ci, fs))] := by
    refine ⟨fun i j x z hx hz hxz => ?_, fun k x hk => va_A.in hk⟩
    have h1 := (List.getElem?_eq_some_iff.mp hx).1
    have h2 := (List.getElem?_eq_some_iff.mp hz).1
    have h1' : i < 1 := h1
    have h2' : j < 1 := h2
    omega
  have C : Ci p s m (Value.ref h0 :: av).toArray c b y.cls n D cA (va_A [(h0, .inr (ci, fs))] s.heap.size) := ⟨B.exec, B.bytes, hml, findClass_of_methodNamed B.named, fun w hw => hts w (List.mem_cons_of_mem _ hw), hK, fun q h => Or.inr h, hN⟩
  have hl := lv_entry (.ref h0 :: av) hlen
  rw [lg_entry_eq]
  have hlocks := B.notSynchronized
  refine body p e s m _ below meth c _ C hin (fun pc lv w hw d H locs ls hP' hD' hS' _ => ?_) s.heap [] _ hP hD va_S.rf hl
  exact W.vret B.exec B.bytes B.returns (fun t ht _ => ⟨⟨w, rfl, hw, by rw [ht]; exact hP', hD'⟩, hS'.F ht⟩) hS'.2.2 d
def MI (y : MethodName) (bytes : ByteArray) (maxL np : Nat) : Prop := Cond.instanceMethod y ∈ bigW ∧ Cond.initialized y.cls ∈ bigW ∧ Cond.code y bytes maxL none ∈ bigW ∧ (y.cls ≠ "java/lang/invoke/MethodHandle" ∧ y.cls ≠ "java/lang/invoke/VarHandle") ∧ (parseMethodDescriptor y.desc).map (fun d => d.parameters.length) = some np ∧ y.name = "<init>"
section KIC
variable {p : Program} {l : Launch} {e : Env} {R : Room} {s : State} {m : MethodId} {args : Array Value} {below : List Frame} {meth : Method} {c : Code} {cc : ByteArray} {own : String} {nL : Nat} {D : va_G} {cA : Nat → ClassId} {A : Nat → Prop} {Q : State → Prop} {pc : Nat} {lv lv' : List (Nat × Value)} {st st' : List Value} {ws ws' : va_W} {cells slots cells' slots' : Nat}
theorem i_call (C : Ci p s m args c cc own nL D cA A) {y : MethodName} {bytes : ByteArray} {maxL fr lo mc ms np index q ci : Nat} {av fs : List Value} {post : va_W → Prop} (hM : I_Met l y bytes maxL fr lo mc ms D cA q av ci fs post) (L : MI y bytes maxL np) (hk : Cond.methodLink own index y ∈ bigW) (hn : av.length = np) (hst : st' = av.reverse ++ .ref q :: st) (hR : fr + 1 ≤ R.frames ∧ 8 + (maxL + 11) + lo ≤ R.locals) (hcat : (st.map fun v => v.category).sum ≤ 8) (hce : cells + mc = cells') (hs : slots + ms = slots') (hcR : cells' ≤ R.cells) (hsR : slots' ≤ R.slots) (d : decode cc pc = .ok (.invokespecial index, 3)) (kk : ∀ w : va_W, post w → KI p l e R s m args below meth c nL D A Q (pc + 3) lv st (ws ++ w) cells' slots') : KI p l e R s m args below meth c nL D A Q pc lv st' (ws ++ [(q, .inr (ci, fs))]) cells slots :=
  fun H locs ls hP hD hS hl => by
    subst hst; subst hce; subst hs
    obtain ⟨L1, L2, L3, L4, L5, L6⟩ := L
    have at0 : (ws ++ [(q, (.inr (ci, fs) : va_E))])[ws.length]? = some (q, .inr (ci, fs)) := by simp
    have hPc : va_P D vwCl [(q, .inr (ci, fs))] H := fun k x hx => by
      have h1 := (List.getElem?_eq_some_iff.mp hx).1
      have h1' : k < 1 := h1
      obtain rfl : k = 0 := by omega
      cases hx
      exact hP _ _ at0
    have hFc : ∀ x, va_A [(q, .inr (ci, fs))] H.size x → A x := fun x hx => by
      rcases hx with ⟨k, e', hk'⟩ | h'
      · have h1 := (List.getElem?_eq_some_iff.mp hk').1
        have h1' : k < 1 := h1
        obtain rfl : k = 0 := by omega
        cases hk'
        exact hD.2 _ _ at0
      · exact C.2.2.2.2.2.2.1 x (Nat.le_trans hS.1 h')
    refine va_callv (va_runI (As := av) (rest := st) ⟨C.1, C.2.1, C.2.2.1, C.2.2.2.1, C.2.2.2.2.1⟩ (hM H.size) (cwI np C.2.2.2.2.1 (good_cons L3 bigW_good) rfl rfl rfl (C.2.2.2.2.1 _ L2) (C.2.2.2.2.1 _ hk) (C.2.2.2.2.1 _ L1) L6 ⟨L4.1, L4.2, L5⟩ hR) ⟨fun a U g mk z => by obtain ⟨z1, z2, z3, z4, z5⟩ := z; exact ⟨z1, z2, z3, va_K.moved (u := U) (U := U.calling g mk a) (Vm.Alike.refl U.vm) z4, i_nw.same rfl z5⟩, fun U hU hW => ⟨rfl, by rw [hU], by rw [hU]; exact hPc, va_K.moved hW.alike C.2.2.2.2.2.1, C.2.2.2.2.2.2.2.warm hW⟩⟩ rfl hn hl.1 rfl (lv_room hcat) d ⟨hcR, hsR⟩) hS (fun q _ h => hFc q h) hFc (fun w t H1 locs1 ht hvm hw hB hz hk1 hS1 => ?_)
    obtain ⟨hP1, hD1⟩ := hB
    rw [ht] at hP1
    have apart : ∀ (k : Nat) (x : Nat × va_E), ws[k]? = some x → x.1 < H.size ∧ ¬ va_A [(q, .inr (ci, fs))] H.size x.1 := fun k x hx => by
      have hlt : k < ws.length := (List.getElem?_eq_some_iff.mp hx).1
      have hx' : (ws ++ [(q, (.inr (ci, fs) : va_E))])[k]? = some x := by rw [List.getElem?_append_left hlt]; exact hx
      have hl' := (hP k x hx').lt
      refine ⟨hl', fun z => ?_⟩
      rcases z with ⟨k2, e', z⟩ | z
      · have h1 := (List.getElem?_eq_some_iff.mp z).1
        have h1' : k2 < 1 := h1
        obtain rfl : k2 = 0 := by omega
        have hq : q = x.1 := congrArg Prod.fst (Option.some.inj z)
        have := hD.1 k ws.length x _ hx' at0 hq.symm
        omega
      · omega
    have hP2 : va_P D vwCl ws H1 := fun k x hx => by
      have hlt : k < ws.length := (List.getElem?_eq_some_iff.mp hx).1
      have hx' : (ws ++ [(q, (.inr (ci, fs) : va_E))])[k]? = some x := by rw [List.getElem?_append_left hlt]; exact hx
      obtain ⟨g1, g2⟩ := apart k x hx
      exact (hP k x hx').kept (hk1 x.1 g1 g2)
    have hD2 : va_D A ws := ⟨fun i j x z hx hz hxz => by
      have h1 : i < ws.length := (List.getElem?_eq_some_iff.mp hx).1
      have h2 : j < ws.length := (List.getElem?_eq_some_iff.mp hz).1
      exact hD.1 i j x z (by rw [List.getElem?_append_left h1]; exact hx) (by rw [List.getElem?_append_left h2]; exact hz) hxz, fun k x hx => by
      have h1 : k < ws.length := (List.getElem?_eq_some_iff.mp hx).1
      exact hD.2 k x (by rw [List.getElem?_append_left h1]; exact hx)⟩
    refine kk w hw H1 locs1 ls (hP2.app hP1) (va_D.app hD2 (hD1.weaken (fun k x _ z => hFc x.1 z)) (fun i j x z hx hz hxz => ?_)) hS1 hl
    exact (apart i x hx).2 (by rw [hxz]; exact hD1.2 j z hz)
theorem i_callN (C : Ci p s m args c cc own nL D cA A) {y : MethodName} {bytes : ByteArray} {maxL fr lo mc ms np index q ci : Nat} {av fs : List Value} {post : va_W → Prop} (hM : I_Met l y bytes maxL fr lo mc ms D cA q av ci fs post) (L : MI y bytes maxL np) (hk : (own, index, y) ∈ i_nest) (hn : av.length = np) (hst : st' = av.reverse ++ .ref q :: st) (hR : fr + 1 ≤ R.frames ∧ 8 + (maxL + 11) + lo ≤ R.locals) (hcat : (st.map fun v => v.category).sum ≤ 8) (hce : cells + mc = cells') (hs : slots + ms = slots') (hcR : cells' ≤ R.cells) (hsR : slots' ≤ R.slots) (d : decode cc pc = .ok (.invokespecial index, 3)) (kk : ∀ w : va_W, post w → KI p l e R s m args below meth c nL D A Q (pc + 3) lv st (ws ++ w) cells' slots') : KI p l e R s m args below meth c nL D A Q pc lv st' (ws ++ [(q, .inr (ci, fs))]) cells slots :=
  fun H locs ls hP hD hS hl => by
    subst hst; subst hce; subst hs
    obtain ⟨L1, L2, L3, L4, L5, L6⟩ := L
    have at0 : (ws ++ [(q, (.inr (ci, fs) : va_E))])[ws.length]? = some (q, .inr (ci, fs)) := by simp
    have hPc : va_P D vwCl [(q, .inr (ci, fs))] H := fun k x hx => by
      have h1 := (List.getElem?_eq_some_iff.mp hx).1
      have h1' : k < 1 := h1
      obtain rfl : k = 0 := by omega
      cases hx
      exact hP _ _ at0
    have hFc : ∀ x, va_A [(q, .inr (ci, fs))] H.size x → A x := fun x hx => by
      rcases hx with ⟨k, e', hk'⟩ | h'
      · have h1 := (List.getElem?_eq_some_iff.mp hk').1
        have h1' : k < 1 := h1
        obtain rfl : k = 0 := by omega
        cases hk'
        exact hD.2 _ _ at0
      · exact C.2.2.2.2.2.2.1 x (Nat.le_trans hS.1 h')
    refine va_callv (va_runIN (As := av) (rest := st) ⟨C.1, C.2.1, C.2.2.1, C.2.2.2.1, C.2.2.2.2.1⟩ (hM H.size) ⟨va_cnB np C.2.2.2.2.1 (good_cons L3 bigW_good) rfl rfl rfl (C.2.2.2.2.2.2.2 _ hk) (C.2.2.2.2.1 _ L2) ⟨L4.1, L4.2, L5⟩ hR, L6, C.2.2.2.2.1 _ L1⟩ ⟨fun a U g mk z => by obtain ⟨z1, z2, z3, z4, z5⟩ := z; exact ⟨z1, z2, z3, va_K.moved (u := U) (U := U.calling g mk a) (Vm.Alike.refl U.vm) z4, i_nw.same rfl z5⟩, fun U hU hW => ⟨rfl, by rw [hU], by rw [hU]; exact hPc, va_K.moved hW.alike C.2.2.2.2.2.1, C.2.2.2.2.2.2.2.warm hW⟩⟩ rfl hn hl.1 rfl (lv_room hcat) d ⟨hcR, hsR⟩) hS (fun q _ h => hFc q h) hFc (fun w t H1 locs1 ht hvm hw hB hz hk1 hS1 => ?_)
    obtain ⟨hP1, hD1⟩ := hB
    rw [ht] at hP1
    have apart : ∀ (k : Nat) (x : Nat × va_E), ws[k]? = some x → x.1 < H.size ∧ ¬ va_A [(q, .inr (ci, fs))] H.size x.1 := fun k x hx => by
      have hlt : k < ws.length := (List.getElem?_eq_some_iff.mp hx).1
      have hx' : (ws ++ [(q, (.inr (ci, fs) : va_E))])[k]? = some x := by rw [List.getElem?_append_left hlt]; exact hx
      have hl' := (hP k x hx').lt
      refine ⟨hl', fun z => ?_⟩
      rcases z with ⟨k2, e', z⟩ | z
      · have h1 := (List.getElem?_eq_some_iff.mp z).1
        have h1' : k2 < 1 := h1
        obtain rfl : k2 = 0 := by omega
        have hq : q = x.1 := congrArg Prod.fst (Option.some.inj z)
        have := hD.1 k ws.length x _ hx' at0 hq.symm
        omega
      · omega
    have hP2 : va_P D vwCl ws H1 := fun k x hx => by
      have hlt : k < ws.length := (List.getElem?_eq_some_iff.mp hx).1
      have hx' : (ws ++ [(q, (.inr (ci, fs) : va_E))])[k]? = some x := by rw [List.getElem?_append_left hlt]; exact hx
      obtain ⟨g1, g2⟩ := apart k x hx
      exact (hP k x hx').kept (hk1 x.1 g1 g2)
    have hD2 : va_D A ws := ⟨fun i j x z hx hz hxz => by
      have h1 : i < ws.length := (List.getElem?_eq_some_iff.mp hx).1
      have h2 : j < ws.length := (List.getElem?_eq_some_iff.mp hz).1
      exact hD.1 i j x z (by rw [List.getElem?_append_left h1]; exact hx) (by rw [List.getElem?_append_left h2]; exact hz) hxz, fun k x hx => by
      have h1 : k < ws.length := (List.getElem?_eq_some_iff.mp hx).1
      exact hD.2 k x (by rw [List.getElem?_append_left h1]; exact hx)⟩
    refine kk w hw H1 locs1 ls (hP2.app hP1) (va_D.app hD2 (hD1.weaken (fun k x _ z => hFc x.1 z)) (fun i j x z hx hz hxz => ?_)) hS1 hl
    exact (apart i x hx).2 (by rw [hxz]; exact hD1.2 j z hz)
end KIC
