theorem ite_g {P : Prop} [Decidable P] {α : Type} {a b r : α} (h : (if P then a else b) = r) : (P ∧ a = r) ∨ (¬ P ∧ b = r) := by
  by_cases hP : P
  · rw [if_pos hP] at h; exact Or.inl ⟨hP, h⟩
  · rw [if_neg hP] at h; exact Or.inr ⟨hP, h⟩
theorem prf {α β : Type} {a : α} {b : β} {r : α × β} (h : some (a, b) = some r) : a = r.1 := by cases h; rfl
theorem prs {α β : Type} {a : α} {b : β} {r : α × β} (h : some (a, b) = some r) : b = r.2 := by cases h; rfl
theorem k_set_aL {G : Gx} {sh : List Sh} {M : Mem} {q n : Nat} {f : Nat → Int64} (h : sh[q]? = some (.inl (1, n))) :
    (k_ws G sh M).set q (G.2.1 q, .inl (G.2.2 1, (n, .inr (.inl f)))) = k_ws G sh (wAL M q f) := by
  refine k_ws_set h ?_ fun r y hr => k_cell_eq rfl (by simp [wAL, hr])
  show k_arr _ _ _ _ = _
  simp [k_arr, wAL]
section KCL2
variable {p : Program} {l : Launch} {e : Env} {R : Room} {s : State} {m : MethodId} {args : Array Value} {below : List Frame} {meth : Method} {c : Code} {cc : ByteArray} {own : String} {nL : Nat} {G : Gx} {sh : List Sh} {Q : State → Prop} {pc : Nat} {lv lv' : List (Nat × Value)} {st : List Value} {M : Mem}
theorem k_cpyL (C : Cx p s m args c cc own nL G sh) {index : Nat} (w : w_cpy) (hk : Cond.methodLink own index arraycopyName ∈ bigW) (hR : 1 ≤ R.frames ∧ (st.map fun v => v.category).sum + (nativeFrameWords "java/lang/System" "arraycopy" 5 + 11) ≤ R.locals) {q0 n0 q1 n1 : Nat} (hs0 : sh[q0]? = some (.inl (1, n0))) (hs1 : sh[q1]? = some (.inl (1, n1))) {sp dp n : Int32} {M' : Mem} (hx : cpL M q0 n0 q1 n1 sp dp n = some M') (d : decode cc pc = .ok (.invokestatic index, 3)) (k : K p l e R s m args below meth c nL G sh Q (pc + 3) lv st M') : K p l e R s m args below meth c nL G sh Q pc lv (.int n :: .int dp :: .ref (G.2.1 q1) :: .int sp :: .ref (G.2.1 q0) :: st) M := fun H locs ls hP hS hl => by
  unfold cpL at hx
  split at hx
  · cases hx
  · next h =>
    cases hx
    simp only [not_or, Nat.not_lt] at h
    exact va_copyl C.1 C.2.1 (C.2.2.1.trans hl.1.symm) C.2.2.2.1 (C.2.2.2.2.1 _ hk) (C.2.2.2.2.1 _ w.1) (C.2.2.2.2.1 _ w.2.1) (C.2.2.2.2.1 _ w.2.2) C.2.2.2.2.2.1 hP (k_D C.2.2.2.2.2.2.2) hS q0 q1 1 1 (k_ws_long hs0) (k_ws_long hs1) rfl rfl rfl h.1 h.2.1 h.2.2.1 h.2.2.2.1 h.2.2.2.2 (fun _ _ => rfl) hR.1 hR.2 d (fun H1 locs1 hP1 _ hS1 => k H1 locs1 ls (by rw [k_set_aL hs1] at hP1; exact hP1) hS1 hl)
end KCL2
