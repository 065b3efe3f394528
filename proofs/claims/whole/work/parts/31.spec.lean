/-! a board told by lists; who is the same as whom, what is due; how the two stores tell a board -/
abbrev Bd : Type := (Nat × Nat) × List (Nat × Nat × Nat) × List Nat
def bn (B : Bd) : Nat := B.2.1.length
def bpl (B : Bd) : Nat := B.2.2.length
def kd (B : Bd) (d : Nat) : Nat := (B.2.1.getD d (0, 0, 0)).1
def fg (B : Bd) (d : Nat) : Nat := (B.2.1.getD d (0, 0, 0)).2.1
def mk (B : Bd) (d : Nat) : Nat := (B.2.1.getD d (0, 0, 0)).2.2
def lgA (B : Bd) (p : Nat) : Nat := B.2.2.getD p 0
/-- the board under another law -/
def lw (B : Bd) (ty te : Nat) : Bd := ((ty, te), B.2)
def smL (B : Bd) (i j : Nat) : Bool := if B.1.1 = 0 then decide (mk B i = mk B j) else if B.1.1 = 1 then decide (kd B i = kd B j) else if B.1.1 = 2 then decide (B.1.2 ≤ pc (mk B i &&& mk B j)) else decide (pc (mk B i ^^^ mk B j) ≤ B.1.2)
def sm (B : Bd) (i j : Nat) : Bool := decide (i = j) || smL B i j
theorem smL_symm (B : Bd) (i j : Nat) : smL B i j = smL B j i := by
  unfold smL
  rw [Nat.and_comm, Nat.xor_comm]
  simp only [eq_comm]
theorem sm_symm (B : Bd) (i j : Nat) : sm B i j = sm B j i := by
  unfold sm
  rw [smL_symm]
  simp only [eq_comm]
theorem sm_self (B : Bd) (i : Nat) : sm B i i = true := by simp [sm]
def due (B : Bd) (d r : Nat) : Nat :=
  if kd B d = 1 then (fg B d + 1) * r / 2 else if kd B d = 2 then 2 * ((fg B d + 1) * r) else if kd B d = 3 then 0
  else if kd B d = 4 then (if r = 0 then 0 else 2 * (fg B d + 1) * (r - 1)) else if kd B d = 5 then (if r = 0 then 0 else (fg B d + 1) * r / 2 + 3) else (fg B d + 1) * r
def cnt (B : Bd) (l : List Nat) (d : Nat) : Nat := l.countP (fun e => sm B e d)
theorem cnt_nil (B : Bd) (d : Nat) : cnt B [] d = 0 := rfl
theorem cnt_snoc (B : Bd) (l : List Nat) (e d : Nat) : cnt B (l ++ [e]) d = cnt B l d + (sm B e d).toNat := by
  unfold cnt
  rw [List.countP_append, List.countP_singleton]
  cases sm B e d <;> rfl
theorem cnt_le (B : Bd) (l : List Nat) (d : Nat) : cnt B l d ≤ l.length := List.countP_le_length
/-- what is due for a log, one behind the other -/
def totS (B : Bd) (l : List Nat) : Nat × List Nat := l.foldl (fun s d => (s.1 + due B d (cnt B s.2 d), s.2 ++ [d])) (0, [])
def tot (B : Bd) (l : List Nat) : Nat := (totS B l).1
theorem totS_2 (B : Bd) (l : List Nat) : (totS B l).2 = l := by
  have h : ∀ (l : List Nat) (s : Nat × List Nat), (l.foldl (fun s d => (s.1 + due B d (cnt B s.2 d), s.2 ++ [d])) s).2 = s.2 ++ l := by
    intro l
    induction l with
    | nil => intro s; simp
    | cons a l ih => intro s; rw [List.foldl_cons, ih]; simp
  have := h l (0, [])
  rw [List.nil_append] at this
  exact this
theorem tot_nil (B : Bd) : tot B [] = 0 := rfl
theorem tot_snoc (B : Bd) (l : List Nat) (d : Nat) : tot B (l ++ [d]) = tot B l + due B d (cnt B l d) := by
  unfold tot
  have h : totS B (l ++ [d]) = ((totS B l).1 + due B d (cnt B (totS B l).2 d), (totS B l).2 ++ [d]) := by
    show List.foldl _ _ (l ++ [d]) = _
    rw [List.foldl_append]
    rfl
  rw [h, totS_2]
def wfB (B : Bd) : Prop := B.1.1 < 4 ∧ B.1.2 ≤ 8 ∧ bn B ≤ 8 ∧ bpl B ≤ 12 ∧ (∀ d, kd B d < 6 ∧ fg B d ≤ 9 ∧ mk B d < 256) ∧ (∀ d ∈ B.2.2, d < bn B)
theorem lgA_in {B : Bd} (h : wfB B) {p : Nat} (hp : p < bpl B) : lgA B p < bn B := by
  refine h.2.2.2.2.2 _ ?_
  unfold lgA
  rw [List.getD_eq_getElem?_getD, List.getElem?_eq_getElem hp]
  exact List.getElem_mem hp
theorem take_lg {B : Bd} {p : Nat} (hp : p < bpl B) : B.2.2.take (p + 1) = B.2.2.take p ++ [lgA B p] := by
  unfold lgA
  rw [List.getD_eq_getElem?_getD, List.getElem?_eq_getElem hp, List.take_succ_eq_append_getElem hp]
  rfl
theorem due_le {B : Bd} (h : wfB B) (d : Nat) {r : Nat} : due B d r ≤ 20 * r + 3 := by
  obtain ⟨-, h2, -⟩ := h.2.2.2.2.1 d
  have h3 : (fg B d + 1) * r ≤ 10 * r := Nat.mul_le_mul_right r (by omega)
  have h4 : 2 * (fg B d + 1) * (r - 1) ≤ 20 * r := Nat.le_trans (Nat.mul_le_mul_right _ (show 2 * (fg B d + 1) ≤ 20 by omega)) (Nat.mul_le_mul_left _ (Nat.sub_le r 1))
  unfold due
  repeat' split
  all_goals omega
theorem due_0 (B : Bd) (d : Nat) : due B d 0 = 0 := by
  unfold due
  simp
theorem tot_le {B : Bd} (h : wfB B) : ∀ (n : Nat) (l : List Nat), l.length = n → tot B l ≤ n * (20 * n + 3) := by
  intro n
  induction n with
  | zero => intro l hl; rw [List.length_eq_zero_iff.mp hl]; exact Nat.le_refl 0
  | succ n ih =>
    intro l hl
    rcases List.eq_nil_or_concat l with rfl | ⟨l', d, rfl⟩
    · simp at hl
    · rw [List.concat_eq_append] at hl ⊢
      have hl' : l'.length = n := by simp at hl; omega
      rw [tot_snoc]
      have h1 := ih l' hl'
      have h2 := due_le h d (r := cnt B l' d)
      have h3 := cnt_le B l' d
      have h4 : n * (20 * n + 3) ≤ n * (20 * (n + 1) + 3) := Nat.mul_le_mul_left _ (by omega)
      rw [Nat.succ_mul]
      omega
theorem tot_small {B : Bd} (h : wfB B) {l : List Nat} (hl : l.length ≤ 100) : tot B l < 1000000 := by
  have h1 := tot_le h _ l rfl
  have h2 : l.length * (20 * l.length + 3) ≤ 100 * 2003 := Nat.mul_le_mul hl (by omega)
  omega
/-! the class's store, and the model's, hold a board -/
def brdC (b : Nat) (B : Bd) (M : Mem) : Prop := M.1 b 4 = nI (bn B) ∧ M.1 b 5 = nI (bpl B) ∧ M.1 b 6 = nI B.1.1 ∧ M.1 b 7 = nI B.1.2 ∧ (∀ j, j < bn B → M.1 (b + 1) j = nI (kd B j)) ∧ (∀ j, j < bn B → M.1 (b + 2) j = nI (fg B j)) ∧ (∀ j, j < bn B → M.1 (b + 3) j = nI (mk B j)) ∧ (∀ j, j < bpl B → M.1 (b + 4) j = nI (lgA B j))
def brdR (B : Bd) (M : Mem) : Prop := M.1 0 5 = nI (bn B) ∧ M.1 0 6 = nI (bpl B) ∧ M.1 0 7 = nI B.1.1 ∧ M.1 0 8 = nI B.1.2 ∧ (∀ j, j < bn B → M.1 2 j = nI (kd B j)) ∧ (∀ j, j < bn B → M.1 3 j = nI (fg B j)) ∧ (∀ j, j < bn B → M.1 4 j = nI (mk B j)) ∧ (∀ j, j < bpl B → M.1 5 j = nI (lgA B j))
theorem brdC.cong {b : Nat} {B : Bd} {M M' : Mem} (h : brdC b B M) (e : ∀ r, b ≤ r → r ≤ b + 4 → M'.1 r = M.1 r) : brdC b B M' := by
  unfold brdC at *
  rw [e b (by omega) (by omega), e (b + 1) (by omega) (by omega), e (b + 2) (by omega) (by omega), e (b + 3) (by omega) (by omega), e (b + 4) (by omega) (by omega)]
  exact h
