/-! The walk's own layer: a world of cells at fixed places, told by a store of numbers; one row an instruction over it. -/
def bigW : List Cond := lw_tbl.filter goodWord
theorem bw (k : Nat) {w : Cond} (h : lw_tbl[k]? = some w) (hg : goodWord w = true) : w ∈ bigW := List.mem_filter.mpr ⟨List.mem_of_getElem? h, hg⟩
theorem bigW_good : GoodIn bigW bigW := fun w hw => ⟨hw, good_of_word (List.mem_filter.mp hw).2⟩
theorem bigW_in : ∀ w ∈ bigW, w ∈ lw_tbl := fun w hw => (List.mem_filter.mp hw).1
theorem good_cons {ws : List Cond} {w : Cond} (h : w ∈ bigW) (hs : GoodIn bigW ws) : GoodIn bigW (w :: ws) := fun v hv => by
  rcases List.mem_cons.mp hv with rfl | hv
  · exact bigW_good v h
  · exact hs v hv
abbrev Sh : Type := (Nat × Nat) ⊕ (Nat × List (Option Nat))
abbrev Mem : Type := (Nat → Nat → Int32) × (Nat → Nat → Int64)
abbrev Gx : Type := va_G × (Nat → Nat) × (Nat → ClassId)
def k_arr (G : Gx) (M : Mem) (q : Nat) (x : Nat × Nat) : va_E := if x.1 = 1 then .inl (G.2.2 1, (x.2, .inr (.inl (M.2 q)))) else .inl (G.2.2 x.1, (x.2, .inl (M.1 q)))
def k_fld (G : Gx) (M : Mem) (q k : Nat) (o : Option Nat) : Value := match o with
  | some r => .ref (G.2.1 r)
  | none => .int (M.1 q k)
def k_cell (G : Gx) (M : Mem) (q : Nat) (x : Sh) : va_E := match x with
  | .inl a => k_arr G M q a
  | .inr o => .inr (o.1, o.2.mapIdx (k_fld G M q))
def k_ws (G : Gx) (sh : List Sh) (M : Mem) : va_W := sh.mapIdx fun q x => (G.2.1 q, k_cell G M q x)
theorem k_ws_get {G : Gx} {sh : List Sh} {M : Mem} {q : Nat} {x : Sh} (h : sh[q]? = some x) : (k_ws G sh M)[q]? = some (G.2.1 q, k_cell G M q x) := by
  simp [k_ws, List.getElem?_mapIdx, h]
theorem k_ws_int {G : Gx} {sh : List Sh} {M : Mem} {q k n : Nat} (h : sh[q]? = some (.inl (k, n))) (hk : k ≠ 1) : (k_ws G sh M)[q]? = some (G.2.1 q, .inl (G.2.2 k, (n, .inl (M.1 q)))) := by
  rw [k_ws_get h]
  show some (G.2.1 q, k_arr G M q (k, n)) = _
  rw [k_arr, if_neg hk]
theorem k_ws_long {G : Gx} {sh : List Sh} {M : Mem} {q n : Nat} (h : sh[q]? = some (.inl (1, n))) : (k_ws G sh M)[q]? = some (G.2.1 q, .inl (G.2.2 1, (n, .inr (.inl (M.2 q))))) := by
  rw [k_ws_get h]
  show some (G.2.1 q, k_arr G M q (1, n)) = _
  rw [k_arr, if_pos rfl]
theorem k_ws_obj {G : Gx} {sh : List Sh} {M : Mem} {q ci : Nat} {fs : List (Option Nat)} (h : sh[q]? = some (.inr (ci, fs))) : (k_ws G sh M)[q]? = some (G.2.1 q, .inr (ci, fs.mapIdx (k_fld G M q))) := by
  rw [k_ws_get h]; rfl
/-- a cell's new content: the world of the new store -/
theorem k_ws_set {G : Gx} {sh : List Sh} {M M' : Mem} {q : Nat} {x : Sh} {e : va_E} (h : sh[q]? = some x) (he : k_cell G M' q x = e) (ho : ∀ r y, r ≠ q → k_cell G M' r y = k_cell G M r y) :
    (k_ws G sh M).set q (G.2.1 q, e) = k_ws G sh M' := by
  refine List.ext_getElem? fun j => ?_
  rw [List.getElem?_set]
  by_cases hj : q = j
  · subst hj
    have hlt : q < sh.length := (List.getElem?_eq_some_iff.mp h).1
    rw [if_pos rfl, if_pos (by simpa [k_ws] using hlt), k_ws_get h, he]
  · rw [if_neg hj]
    cases hx : sh[j]? with
    | none => simp [k_ws, List.getElem?_mapIdx, hx]
    | some y => rw [k_ws_get hx, k_ws_get hx, ho j y (Ne.symm hj)]
def wI (M : Mem) (r i : Nat) (v : Int32) : Mem := (fun r' => if r' = r then upd (M.1 r) i v else M.1 r', M.2)
def wL (M : Mem) (r i : Nat) (v : Int64) : Mem := (M.1, fun r' => if r' = r then vp_updL (M.2 r) i v else M.2 r')
def wA (M : Mem) (r : Nat) (f : Nat → Int32) : Mem := (fun r' => if r' = r then f else M.1 r', M.2)
theorem k_fld_eq {G : Gx} {M M' : Mem} {q k : Nat} {o : Option Nat} (h : M'.1 q = M.1 q) : k_fld G M' q k o = k_fld G M q k o := by
  cases o <;> simp [k_fld, h]
theorem k_cell_eq {G : Gx} {M M' : Mem} {q : Nat} {y : Sh} (h1 : M'.1 q = M.1 q) (h2 : M'.2 q = M.2 q) : k_cell G M' q y = k_cell G M q y := by
  cases y with
  | inl a => simp [k_cell, k_arr, h1, h2]
  | inr o =>
    show Sum.inr _ = Sum.inr _
    congr 2
    have : k_fld G M' q = k_fld G M q := by
      funext k o
      exact k_fld_eq h1
    rw [this]
theorem k_set_i {G : Gx} {sh : List Sh} {M : Mem} {q k n i : Nat} {v : Int32} (h : sh[q]? = some (.inl (k, n))) (hk : k ≠ 1) :
    (k_ws G sh M).set q (G.2.1 q, .inl (G.2.2 k, (n, .inl (upd (M.1 q) i v)))) = k_ws G sh (wI M q i v) := by
  refine k_ws_set h ?_ fun r y hr => k_cell_eq (by simp [wI, hr]) rfl
  show k_arr _ _ _ _ = _
  simp [k_arr, hk, wI]
theorem k_set_a {G : Gx} {sh : List Sh} {M : Mem} {q k n : Nat} {f : Nat → Int32} (h : sh[q]? = some (.inl (k, n))) (hk : k ≠ 1) :
    (k_ws G sh M).set q (G.2.1 q, .inl (G.2.2 k, (n, .inl f))) = k_ws G sh (wA M q f) := by
  refine k_ws_set h ?_ fun r y hr => k_cell_eq (by simp [wA, hr]) rfl
  show k_arr _ _ _ _ = _
  simp [k_arr, hk, wA]
theorem k_set_l {G : Gx} {sh : List Sh} {M : Mem} {q n i : Nat} {v : Int64} (h : sh[q]? = some (.inl (1, n))) :
    (k_ws G sh M).set q (G.2.1 q, .inl (G.2.2 1, (n, .inr (.inl (vp_updL (M.2 q) i v))))) = k_ws G sh (wL M q i v) := by
  refine k_ws_set h ?_ fun r y hr => k_cell_eq rfl (by simp [wL, hr])
  show k_arr _ _ _ _ = _
  simp [k_arr, wL]
theorem k_set_f {G : Gx} {sh : List Sh} {M : Mem} {q ci k : Nat} {fs : List (Option Nat)} {v : Int32} (h : sh[q]? = some (.inr (ci, fs))) (hk : fs[k]? = some none) :
    (k_ws G sh M).set q (G.2.1 q, .inr (ci, (fs.mapIdx (k_fld G M q)).set k (.int v))) = k_ws G sh (wI M q k v) := by
  refine k_ws_set h ?_ fun r y hr => k_cell_eq (by simp [wI, hr]) rfl
  show Sum.inr (ci, fs.mapIdx (k_fld G (wI M q k v) q)) = _
  congr 2
  refine List.ext_getElem? fun j => ?_
  rw [List.getElem?_set, List.getElem?_mapIdx, List.getElem?_mapIdx]
  by_cases hj : k = j
  · subst hj
    have hlt : k < fs.length := (List.getElem?_eq_some_iff.mp hk).1
    rw [if_pos rfl, if_pos (by simpa using hlt), hk]
    simp [k_fld, wI, upd]
  · rw [if_neg hj]
    cases hx : fs[j]? with
    | none => rfl
    | some o =>
      cases o with
      | none => simp [k_fld, wI, upd, Ne.symm hj]
      | some r => simp [k_fld]
def k_tys (G : Gx) : List (ClassId × FieldType) := [(G.2.2 0, .int), (G.2.2 1, .long), (G.2.2 2, .boolean)]
/-- the nest mates' static methods that Letters calls -/
def k_nest : List (Nat × MethodName) := [(103, yX11_isMark), (75, yX11_isKind), (96, yX11_isType)]
def k_nw (U : State) : Prop := ∀ q ∈ k_nest, va_Nw (.methodLinkNest RX1 q.1 q.2 RX11) U
theorem k_nw.warm {s U : State} (hW : s.WarmedH U.vm) (h : k_nw s) : k_nw U := fun q hq => va_Nw.warmM hW (h q hq)
theorem k_nw.same {s U : State} (hv : s.vm = U.vm) (h : k_nw s) : k_nw U := fun q hq => va_Nw.same rfl hv (h q hq)
def k_B (G : Gx) (sh : List Sh) (M : Mem) (U : State) : Prop := va_P G.1 vwCl (k_ws G sh M) U.heap ∧ va_K G.1 vwCl (k_tys G) U ∧ k_nw U
def k_ap (G : Gx) (N : Nat) : Prop := ∀ i j : Nat, i < N → j < N → G.2.1 i = G.2.1 j → i = j
def k_A (G : Gx) (N : Nat) : Nat → Prop := fun a => ∃ q, q < N ∧ a = G.2.1 q
theorem k_D {G : Gx} {sh : List Sh} {M : Mem} (h : k_ap G sh.length) : va_D (k_A G sh.length) (k_ws G sh M) := by
  refine ⟨fun i j p q hi hj hpq => ?_, fun k q hk => ?_⟩
  · have li : i < sh.length := by have := (List.getElem?_eq_some_iff.mp hi).1; simpa [k_ws] using this
    have lj : j < sh.length := by have := (List.getElem?_eq_some_iff.mp hj).1; simpa [k_ws] using this
    rw [k_ws_get (List.getElem?_eq_getElem li)] at hi
    rw [k_ws_get (List.getElem?_eq_getElem lj)] at hj
    cases hi; cases hj
    exact h i j li lj hpq
  · have lk : k < sh.length := by have := (List.getElem?_eq_some_iff.mp hk).1; simpa [k_ws] using this
    rw [k_ws_get (List.getElem?_eq_getElem lk)] at hk
    cases hk
    exact ⟨k, lk, rfl⟩
theorem k_blind {G : Gx} {sh : List Sh} {M : Mem} {av : List Value} : FrameBlind (va_Pc av (k_B G sh M)) := fun a U g mk q => by
  obtain ⟨q1, q2, q3, q4⟩ := q
  exact ⟨q1, q2, va_K.moved (u := U) (U := U.calling g mk a) (Vm.Alike.refl U.vm) q3, k_nw.same rfl q4⟩
def k_ws1 (y : MethodName) (b : ByteArray) (n : Nat) (ret : Option FieldType) : List Cond := .code y b n ret :: bigW
abbrev k_rm (fr lo : Nat) : Room := { frames := fr, cells := 0, slots := 0, locals := lo }
def k_Qi (G : Gx) (sh : List Sh) (r : Int32) (M' : Mem) : Array Value → State → Outcome → State → Prop := va_Qi (fun (x : Int32) (_ : Unit) => x = r) (fun _ t => k_B G sh M' t) (k_A G sh.length)
def k_Ql (G : Gx) (sh : List Sh) (r : Int64) (M' : Mem) : Array Value → State → Outcome → State → Prop := va_Ql (fun (x : Int64) (_ : Unit) => x = r) (fun _ t => k_B G sh M' t) (k_A G sh.length)
def k_Qv (G : Gx) (sh : List Sh) (M' : Mem) : Array Value → State → Outcome → State → Prop := va_Qv (fun (_ : Unit) => True) (fun _ t => k_B G sh M' t) (k_A G sh.length)
def k_Met (l : Launch) (y : MethodName) (b : ByteArray) (n : Nat) (ret : Option FieldType) (fr lo : Nat) (G : Gx) (sh : List Sh) (av : List Value) (M : Mem) (Q : Array Value → State → Outcome → State → Prop) : Prop :=
  Met l y (k_ws1 y b n ret) (k_rm fr lo) (va_Pc av (k_B G sh M)) Q 0 0 (k_A G sh.length)
/-- the walk's standing facts -/
def Cx (p : Program) (s : State) (m : MethodId) (args : Array Value) (c : Code) (cc : ByteArray) (own : String) (nL : Nat) (G : Gx) (sh : List Sh) : Prop :=
  p.tables.exec = Jvm.exec ∧ c.code = cc ∧ c.maxLocals = nL ∧ s.vm.findClass own = some m.cls ∧ (∀ w ∈ bigW, w.before args s = true) ∧ va_K G.1 vwCl (k_tys G) s ∧ k_nw s ∧ k_ap G sh.length
def K (p : Program) (l : Launch) (e : Env) (R : Room) (s : State) (m : MethodId) (args : Array Value) (below : List Frame) (meth : Method) (c : Code) (nL : Nat) (G : Gx) (sh : List Sh) (Q : State → Prop) (pc : Nat) (lv : List (Nat × Value)) (st : List Value) (M : Mem) : Prop :=
  ∀ (H : Heap) (locs : List Loc) (ls : Array Slot), va_P G.1 vwCl (k_ws G sh M) H → va_S (k_A G sh.length) s.heap H locs → lv_has ls nL lv → W p l e R s m args below meth c H locs 0 0 Q (F0 m pc ls st)
