/-! states told in letters: how the text is read -/
def LA (lt : List Nat) (p : Nat) : Int32 := if p < lt.length then nI (lt.getD p 0) else -1
def isD (lt : List Nat) (p : Nat) : Bool := decide (p < lt.length ∧ 48 ≤ lt.getD p 0 ∧ lt.getD p 0 ≤ 57)
def dv (lt : List Nat) (p : Nat) : Nat := if isD lt p = true then lt.getD p 0 - 48 else 0
theorem dv_le (lt : List Nat) (p : Nat) : dv lt p ≤ 9 := by
  unfold dv
  split
  · next h =>
    have := of_decide_eq_true h
    omega
  · omega
/-- the letters of statements -/
def kl (lt : List Nat) (p : Nat) : Nat := if LA lt p = 100 then 100 else if LA lt p = 108 then 108 else if LA lt p = 109 then 109 else if LA lt p = 111 then 111 else if LA lt p = 120 then 120 else 0
def nd (c : Nat) : Nat := if c = 100 then 5 else if c = 108 then 2 else if c = 109 then 2 else if c = 111 then 1 else 0
theorem nd_le (c : Nat) : nd c ≤ 5 := by unfold nd; repeat' split
                                         all_goals omega
theorem LA_k (lt : List Nat) (p : Nat) : (kl lt p = 0 ∧ LA lt p ≠ 100 ∧ LA lt p ≠ 108 ∧ LA lt p ≠ 109 ∧ LA lt p ≠ 111 ∧ LA lt p ≠ 120) ∨ (kl lt p = 100 ∧ LA lt p = 100) ∨ (kl lt p = 108 ∧ LA lt p = 108) ∨ (kl lt p = 109 ∧ LA lt p = 109) ∨ (kl lt p = 111 ∧ LA lt p = 111) ∨ (kl lt p = 120 ∧ LA lt p = 120) := by
  unfold kl
  by_cases c1 : LA lt p = 100
  · rw [if_pos c1]; exact Or.inr (Or.inl ⟨rfl, c1⟩)
  rw [if_neg c1]
  by_cases c2 : LA lt p = 108
  · rw [if_pos c2]; exact Or.inr (Or.inr (Or.inl ⟨rfl, c2⟩))
  rw [if_neg c2]
  by_cases c3 : LA lt p = 109
  · rw [if_pos c3]; exact Or.inr (Or.inr (Or.inr (Or.inl ⟨rfl, c3⟩)))
  rw [if_neg c3]
  by_cases c4 : LA lt p = 111
  · rw [if_pos c4]; exact Or.inr (Or.inr (Or.inr (Or.inr (Or.inl ⟨rfl, c4⟩))))
  rw [if_neg c4]
  by_cases c5 : LA lt p = 120
  · rw [if_pos c5]; exact Or.inr (Or.inr (Or.inr (Or.inr (Or.inr ⟨rfl, c5⟩))))
  · rw [if_neg c5]; exact Or.inl ⟨rfl, c1, c2, c3, c4, c5⟩
theorem LA_in {lt : List Nat} {p : Nat} (h : kl lt p ≠ 0) : p < lt.length := by
  refine Classical.byContradiction (fun q => h ?_)
  have e : LA lt p = -1 := if_neg q
  unfold kl
  rw [e]
  decide
theorem digB (lt : List Nat) (p : Nat) : f_X1_digitsBehind (LA lt p) = if kl lt p = 0 then -1 else nI (nd (kl lt p)) := by
  unfold f_X1_digitsBehind
  rcases LA_k lt p with ⟨e, h1, h2, h3, h4, h5⟩ | ⟨e, h⟩ | ⟨e, h⟩ | ⟨e, h⟩ | ⟨e, h⟩ | ⟨e, h⟩
  · rw [e, if_neg h1, if_neg h2, if_neg h3, if_neg h4, if_neg h5, if_pos rfl]
  · rw [e, h]; decide
  · rw [e, h]; decide
  · rw [e, h]; decide
  · rw [e, h]; decide
  · rw [e, h]; decide
theorem digC {lt : List Nat} {p : Nat} (h : ∀ x ∈ lt, x < 256) : f_X1_isDigit (LA lt p) = bI (isD lt p) := by
  unfold LA isD
  by_cases c : p < lt.length
  · have hx : lt.getD p 0 < 256 := h _ (by rw [List.getD_eq_getElem?_getD, List.getElem?_eq_getElem c]; exact List.getElem_mem c)
    rw [if_pos c]
    exact (isIn_n (a := 48) (b := 57) (by decide) (by decide) (show lt.getD p 0 < 2 ^ 31 by omega)).trans (by
      congr 1
      rw [decide_eq_decide]
      exact ⟨fun q => ⟨c, q⟩, fun q => q.2⟩)
  · rw [if_neg c, decide_eq_false (fun q => c q.1)]
    decide
theorem digR {lt : List Nat} {p : Nat} (h : ∀ x ∈ lt, x < 256) : f_X12_isIn (LA lt p) 48 57 = bI (isD lt p) := digC h
theorem dvA {lt : List Nat} {p : Nat} (h : isD lt p = true) : LA lt p = nI (dv lt p + 48) := by
  have h2 := of_decide_eq_true h
  unfold LA dv
  rw [if_pos h2.1, if_pos h]
  congr 1
  omega
/-- how many digits come first, k at most -/
def rn (lt : List Nat) (p : Nat) : Nat → Nat
  | 0 => 0
  | k + 1 => if isD lt p = true then rn lt (p + 1) k + 1 else 0
theorem rn_le (lt : List Nat) : ∀ k p, rn lt p k ≤ k := by
  intro k
  induction k with
  | zero => intro p; exact Nat.le_refl 0
  | succ k ih =>
    intro p
    show (if isD lt p = true then rn lt (p + 1) k + 1 else 0) ≤ k + 1
    split
    · have := ih (p + 1); omega
    · omega
theorem rn_t {lt : List Nat} {p k : Nat} (h : isD lt p = true) : rn lt p (k + 1) = rn lt (p + 1) k + 1 := by
  show (if isD lt p = true then rn lt (p + 1) k + 1 else 0) = _
  rw [if_pos h]
theorem rn_f {lt : List Nat} {p k : Nat} (h : ¬ isD lt p = true) : rn lt p (k + 1) = 0 := by
  show (if isD lt p = true then rn lt (p + 1) k + 1 else 0) = _
  rw [if_neg h]
theorem rn_add (lt : List Nat) (b : Nat) : ∀ a p, (rn lt p a = a → rn lt p (a + b) = a + rn lt (p + a) b) ∧ (rn lt p a ≠ a → rn lt p (a + b) = rn lt p a) := by
  intro a
  induction a with
  | zero => intro p; exact ⟨fun _ => by rw [Nat.zero_add, Nat.zero_add, Nat.add_zero], fun q => absurd rfl q⟩
  | succ a ih =>
    intro p
    rw [show a + 1 + b = (a + b) + 1 by omega]
    by_cases c : isD lt p = true
    · rw [rn_t c, rn_t c]
      obtain ⟨h1, h2⟩ := ih (p + 1)
      exact ⟨fun q => by rw [h1 (by omega), show p + (a + 1) = p + 1 + a by omega]; omega, fun q => by rw [h2 (by omega)]⟩
    · rw [rn_f c, rn_f c]
      exact ⟨fun q => by omega, fun _ => rfl⟩
theorem rn_dig {lt : List Nat} : ∀ k p j, j < rn lt p k → isD lt (p + j) = true := by
  intro k
  induction k with
  | zero => intro p j h; exact absurd h (Nat.not_lt_zero j)
  | succ k ih =>
    intro p j h
    have st : rn lt p (k + 1) = if isD lt p = true then rn lt (p + 1) k + 1 else 0 := rfl
    rw [st] at h
    by_cases c : isD lt p = true
    · rw [if_pos c] at h
      cases j with
      | zero => exact c
      | succ j =>
        rw [show p + (j + 1) = p + 1 + j by omega]
        exact ih (p + 1) j (by omega)
    · rw [if_neg c] at h; omega
def sok (lt : List Nat) (p : Nat) : Prop := kl lt p ≠ 0 ∧ rn lt (p + 1) (nd (kl lt p)) = nd (kl lt p) ∧ LA lt (p + 1 + nd (kl lt p)) = 59
noncomputable def sokB (lt : List Nat) (p : Nat) : Bool := @decide (sok lt p) (Classical.propDecidable _)
theorem sokB_t {lt : List Nat} {p : Nat} (h : sok lt p) : sokB lt p = true := by unfold sokB; exact @decide_eq_true _ (Classical.propDecidable _) h
theorem sokB_f {lt : List Nat} {p : Nat} (h : ¬ sok lt p) : sokB lt p = false := by unfold sokB; exact @decide_eq_false _ (Classical.propDecidable _) h
def sat (lt : List Nat) (p : Nat) : Nat := if kl lt p = 0 then p else p + 1 + rn lt (p + 1) (nd (kl lt p))
theorem sat_le (lt : List Nat) (p : Nat) : sat lt p ≤ p + 6 := by
  have h1 := rn_le lt (nd (kl lt p)) (p + 1)
  have h2 := nd_le (kl lt p)
  unfold sat
  split <;> omega
theorem sat_ok {lt : List Nat} {p : Nat} (h : sok lt p) : sat lt p = p + 1 + nd (kl lt p) := by
  unfold sat
  rw [if_neg h.1, h.2.1]
/-- the places of the statements, and the first letter with which no state can go on -/
noncomputable def stt (lt : List Nat) : Nat → Nat → List Nat × Option Nat
  | 0, _ => ([], none)
  | f + 1, p => if sokB lt p = true then (if sat lt p + 1 < lt.length then (p :: (stt lt f (sat lt p + 1)).1, (stt lt f (sat lt p + 1)).2) else ([p], none)) else ([], some (sat lt p))
theorem stt_len (lt : List Nat) : ∀ f p, (stt lt f p).1.length ≤ f := by
  intro f
  induction f with
  | zero => intro p; exact Nat.le_refl 0
  | succ f ih =>
    intro p
    show (if sokB lt p = true then (if sat lt p + 1 < lt.length then (p :: (stt lt f (sat lt p + 1)).1, (stt lt f (sat lt p + 1)).2) else ([p], none)) else ([], some (sat lt p)) : List Nat × Option Nat).1.length ≤ f + 1
    split
    · split
      · have := ih (sat lt p + 1)
        show _ + 1 ≤ f + 1
        omega
      · show 0 + 1 ≤ f + 1; omega
    · exact Nat.zero_le _
theorem stt_s1 {lt : List Nat} {f p : Nat} (h : sok lt p) (c : sat lt p + 1 < lt.length) : stt lt (f + 1) p = (p :: (stt lt f (sat lt p + 1)).1, (stt lt f (sat lt p + 1)).2) := by
  show (if sokB lt p = true then (if sat lt p + 1 < lt.length then (p :: (stt lt f (sat lt p + 1)).1, (stt lt f (sat lt p + 1)).2) else ([p], none)) else ([], some (sat lt p)) : List Nat × Option Nat) = _
  rw [if_pos (sokB_t h), if_pos c]
theorem stt_s2 {lt : List Nat} {f p : Nat} (h : sok lt p) (c : ¬ sat lt p + 1 < lt.length) : stt lt (f + 1) p = ([p], none) := by
  show (if sokB lt p = true then (if sat lt p + 1 < lt.length then (p :: (stt lt f (sat lt p + 1)).1, (stt lt f (sat lt p + 1)).2) else ([p], none)) else ([], some (sat lt p)) : List Nat × Option Nat) = _
  rw [if_pos (sokB_t h), if_neg c]
theorem stt_s3 {lt : List Nat} {f p : Nat} (h : ¬ sok lt p) : stt lt (f + 1) p = ([], some (sat lt p)) := by
  show (if sokB lt p = true then (if sat lt p + 1 < lt.length then (p :: (stt lt f (sat lt p + 1)).1, (stt lt f (sat lt p + 1)).2) else ([p], none)) else ([], some (sat lt p)) : List Nat × Option Nat) = _
  rw [if_neg (by rw [sokB_f h]; decide)]
theorem stt_q {lt : List Nat} (hl : lt.length ≤ 96) : ∀ f p q, (p < lt.length ∨ p = 0) → (stt lt f p).2 = some q → q ≤ 102 := by
  intro f
  induction f with
  | zero => intro p q _ h; cases h
  | succ f ih =>
    intro p q hp h
    have := sat_le lt p
    by_cases c : sok lt p
    · by_cases c2 : sat lt p + 1 < lt.length
      · rw [stt_s1 c c2] at h; exact ih _ q (Or.inl c2) h
      · rw [stt_s2 c c2] at h; cases h
    · rw [stt_s3 c] at h; cases h; omega
/-! the class reads -/
def ltC (lt : List Nat) (M : Mem) : Prop := M.1 16 2 = nI lt.length ∧ ∀ j, j < lt.length → M.1 17 j = nI (lt.getD j 0)
theorem letC {lt : List Nat} {M : Mem} {p : Nat} (hl : lt.length ≤ 96) (h : ltC lt M) (hp : p < 2 ^ 31) : f_X1_letterAt (nI p) M = some (LA lt p) := by
  unfold f_X1_letterAt LA
  rw [if_neg (nI_pos hp), h.1]
  by_cases c : p < lt.length
  · rw [if_neg (nI_ge (by omega) (by omega)), if_pos c, ldI_n (by omega) (by decide), h.2 p c]
    rfl
  · rw [if_pos (nI_le (by omega) (by omega)), if_neg c]
theorem digAtC {lt : List Nat} {M : Mem} {p : Nat} (hl : lt.length ≤ 96) (hx : ∀ x ∈ lt, x < 256) (h : ltC lt M) (hp : p < 2 ^ 31) : f_X1_digitAt (nI p) M = some (nI (dv lt p)) := by
  unfold f_X1_digitAt
  rw [letC hl h hp, Option.bind_some, digC hx]
  cases q : isD lt p with
  | false =>
    rw [if_pos (show bI false = 0 from rfl)]
    unfold dv
    rw [q, if_neg (by decide)]
    rfl
  | true =>
    rw [if_neg (show ¬ bI true = 0 from n10), dvA q]
    congr 1
    exact (sub_one_nI (k := 48) (by omega)).trans (by rw [Nat.add_sub_cancel])
theorem fwC_in {lt : List Nat} {M : Mem} {e : Nat} (hl : lt.length ≤ 96) (hx : ∀ x ∈ lt, x < 256) (h : ltC lt M) (he : e < 1000) (kont : Int32 → Option Int32) : ∀ (k q fuel : Nat), q + k = e → k < fuel →
    f_X1_firstWithoutForm_b26 M kont fuel (nI q) (nI e) = if rn lt q k = k then (if LA lt e = 59 then (if e + 1 < lt.length then kont (nI (e + 1)) else some (-1)) else some (nI e)) else some (nI (q + rn lt q k)) := by
  intro k
  induction k with
  | zero =>
    intro q fuel hq hf
    obtain ⟨f, rfl⟩ : ∃ f, fuel = f + 1 := ⟨fuel - 1, by omega⟩
    obtain rfl : q = e := by omega
    unfold f_X1_firstWithoutForm_b26
    rw [if_pos (nI_le (by omega) (by omega)), letC hl h (by omega), Option.bind_some, nI_1, h.1, if_pos (show rn lt q 0 = 0 from rfl)]
    by_cases c : LA lt q = 59
    · rw [if_pos c, if_pos c]
      by_cases c2 : q + 1 < lt.length
      · rw [if_pos (nI_lt c2 (by omega)), if_pos c2]
      · rw [if_neg (fun z => c2 ((nI_ltI (by omega) (by omega)).mp z)), if_neg c2]
    · rw [if_neg c, if_neg c]
  | succ k ih =>
    intro q fuel hq hf
    obtain ⟨f, rfl⟩ : ∃ f, fuel = f + 1 := ⟨fuel - 1, by omega⟩
    have st : rn lt q (k + 1) = if isD lt q = true then rn lt (q + 1) k + 1 else 0 := rfl
    unfold f_X1_firstWithoutForm_b26
    rw [if_neg (nI_ge (by omega) (by omega)), letC hl h (by omega), Option.bind_some, digC hx, nI_1, st]
    cases c : isD lt q with
    | false =>
      rw [if_pos (show bI false = 0 from rfl), if_neg (show ¬ false = true by decide), if_neg (by omega), Nat.add_zero]
    | true =>
      rw [if_neg (show ¬ bI true = 0 from n10), if_pos rfl, ih (q + 1) f (by omega) (by omega)]
      by_cases c2 : rn lt (q + 1) k = k
      · rw [if_pos c2, if_pos (show rn lt (q + 1) k + 1 = k + 1 by omega)]
      · rw [if_neg c2, if_neg (show ¬ rn lt (q + 1) k + 1 = k + 1 by omega), show q + (rn lt (q + 1) k + 1) = q + 1 + rn lt (q + 1) k by omega]
def fwA (o : Option Nat) : Int32 := match o with
  | none => -1
  | some q => nI q
theorem fwC {lt : List Nat} {M : Mem} (hl : lt.length ≤ 96) (hx : ∀ x ∈ lt, x < 256) (h : ltC lt M) : ∀ (f p fuel : Nat), lt.length < p + f → f < fuel → (p < lt.length ∨ p = 0) → f_X1_firstWithoutForm_b2 M fuel (nI p) = some (fwA (stt lt f p).2) := by
  intro f
  induction f with
  | zero => intro p fuel h1 h2 h3; omega
  | succ f ih =>
    intro p fuel h1 h2 h3
    obtain ⟨g, rfl⟩ : ∃ g, fuel = g + 1 := ⟨fuel - 1, by omega⟩
    have hn := nd_le (kl lt p)
    unfold f_X1_firstWithoutForm_b2
    rw [letC hl h (by omega), Option.bind_some, digB]
    by_cases c : kl lt p = 0
    · rw [if_pos c, if_neg (by decide), stt_s3 (fun q => q.1 c)]
      have : sat lt p = p := by unfold sat; rw [if_pos c]
      rw [this]
      rfl
    · rw [if_neg c, if_pos (nI_pos' (by omega)), nI_1, nI_add, fwC_in hl hx h (by omega) _ (nd (kl lt p)) (p + 1) FU (by omega) (FU_big (by omega))]
      by_cases c2 : rn lt (p + 1) (nd (kl lt p)) = nd (kl lt p)
      · rw [if_pos c2]
        have hs : sat lt p = p + 1 + nd (kl lt p) := by unfold sat; rw [if_neg c, c2]
        by_cases c3 : LA lt (p + 1 + nd (kl lt p)) = 59
        · rw [if_pos c3]
          have ok' : sok lt p := ⟨c, c2, c3⟩
          by_cases c4 : p + 1 + nd (kl lt p) + 1 < lt.length
          · rw [if_pos c4, stt_s1 ok' (by rw [hs]; exact c4), hs]
            exact ih _ g (by omega) (by omega) (Or.inl c4)
          · rw [if_neg c4, stt_s2 ok' (by rw [hs]; exact c4)]
            rfl
        · rw [if_neg c3, stt_s3 (fun q => c3 q.2.2), hs]
          rfl
      · rw [if_neg c2, stt_s3 (fun q => c2 q.2.1)]
        have hs : sat lt p = p + 1 + rn lt (p + 1) (nd (kl lt p)) := by unfold sat; rw [if_neg c]
        rw [hs]
        rfl
/-! the model reads -/
def ltR (lt : List Nat) (M : Mem) : Prop := M.1 0 13 = nI lt.length ∧ ∀ j, j < lt.length → M.1 6 j = nI (lt.getD j 0)
theorem peekR {lt : List Nat} {M : Mem} {p : Nat} (hl : lt.length ≤ 96) (h : ltR lt M) (h14 : M.1 0 14 = nI p) (hp : p < 2 ^ 31) : f_X12_peeked M = some (LA lt p) := by
  unfold f_X12_peeked LA
  rw [h.1, h14]
  by_cases c : p < lt.length
  · rw [if_neg (nI_ge (by omega) (by omega)), if_pos c, ldI_n (by omega) (by decide), h.2 p c]
    rfl
  · rw [if_pos (nI_le (by omega) (by omega)), if_neg c]
def vl (lt : List Nat) (q : Nat) : Nat → Nat → Nat
  | 0, acc => acc
  | k + 1, acc => vl lt (q + 1) k (10 * acc + dv lt q)
/-- only the place, the tables of letters and of what was told -/
def frL (M M' : Mem) : Prop := (∀ k, k ≠ 14 → M'.1 0 k = M.1 0 k) ∧ ∀ r, r ≠ 0 → r ≠ 7 → r ≠ 8 → r ≠ 9 → M'.1 r = M.1 r
theorem frL.rf {M : Mem} : frL M M := ⟨fun _ _ => rfl, fun _ _ _ _ _ => rfl⟩
theorem frL.tr {M M' M'' : Mem} (h : frL M M') (g : frL M' M'') : frL M M'' := ⟨fun k hk => (g.1 k hk).trans (h.1 k hk), fun r h0 h7 h8 h9 => (g.2 r h0 h7 h8 h9).trans (h.2 r h0 h7 h8 h9)⟩
theorem frL.w14 {M : Mem} {v : Int32} : frL M (wI M 0 14 v) := ⟨fun k hk => by rw [wI_at, if_neg (by omega)], fun r h0 _ _ _ => wI_other h0⟩
theorem frL.w {M : Mem} {r i : Nat} {v : Int32} (h : r = 7 ∨ r = 8 ∨ r = 9) : frL M (wI M r i v) := ⟨fun k hk => by rw [wI_at, if_neg (by omega)], fun r' _ h7 h8 h9 => wI_other (by omega)⟩
theorem ltR.fr {lt : List Nat} {M M' : Mem} (h : ltR lt M) (e : frL M M') : ltR lt M' := ⟨(e.1 13 (by decide)).trans h.1, fun j hj => by rw [e.2 6 (by decide) (by decide) (by decide) (by decide)]; exact h.2 j hj⟩
theorem rdgR {lt : List Nat} {x n : Nat} (hl : lt.length ≤ 96) (hx : ∀ x ∈ lt, x < 256) (hx1 : x < 144) (hn : n ≤ 5) : ∀ (k i q acc fuel : Nat) (M : Mem), i + k = n → k < fuel → q + k < 1000 → ltR lt M → M.1 0 14 = nI q →
    ok2 (f_X12_readsDigits_b5 fuel (nI x) (nI n) (nI acc) (nI i) M) (fun t M' => t = bI (decide (rn lt q k = k)) ∧ M'.1 0 14 = nI (q + rn lt q k) ∧ (rn lt q k = k → M'.1 9 x = nI (vl lt q k acc)) ∧ (∀ j, j ≠ x → M'.1 9 j = M.1 9 j) ∧ M'.1 7 = M.1 7 ∧ M'.1 8 = M.1 8 ∧ frL M M') := by
  intro k
  induction k with
  | zero =>
    intro i q acc fuel M hi hf hq h h14
    obtain ⟨f, rfl⟩ : ∃ f, fuel = f + 1 := ⟨fuel - 1, by omega⟩
    obtain rfl : i = n := by omega
    refine ok2_mk ?_
    unfold f_X12_readsDigits_b5
    refine ok_pos (nI_le (by omega) (by omega)) (ok_st (by omega) (by decide) (ok_some ⟨rfl, ?_, fun _ => ?_, fun j hj => ?_, wI_other (by decide), wI_other (by decide), frL.w (by omega)⟩))
    · rw [wI_other (by decide)]; exact h14
    · rw [wI_at, if_pos ⟨rfl, rfl⟩]; rfl
    · rw [wI_at, if_neg (by omega)]
  | succ k ih =>
    intro i q acc fuel M hi hf hq h h14
    obtain ⟨f, rfl⟩ : ∃ f, fuel = f + 1 := ⟨fuel - 1, by omega⟩
    have st : rn lt q (k + 1) = if isD lt q = true then rn lt (q + 1) k + 1 else 0 := rfl
    refine ok2_mk ?_
    unfold f_X12_readsDigits_b5
    refine ok_neg (nI_ge (by omega) (by omega)) ?_
    rw [peekR hl h h14 (by omega), Option.bind_some, Option.bind_some, digR hx, st]
    cases c : isD lt q with
    | false =>
      refine ok_pos rfl (ok_some ⟨?_, ?_, fun z => ?_, fun j _ => rfl, rfl, rfl, frL.rf⟩)
      · rw [if_neg (show ¬ false = true by decide), decide_eq_false (by omega)]; rfl
      · rw [if_neg (show ¬ false = true by decide)]; exact h14
      · rw [if_neg (show ¬ false = true by decide)] at z; omega
    | true =>
      refine ok_neg n10 ?_
      have ev : 10 * nI acc + LA lt q - 48 = nI (10 * acc + dv lt q) := by
        rw [dvA c, l_10, pk_mul, nI_add]
        exact (sub_one_nI (k := 48) (by omega)).trans (by congr 1)
      rw [ev, h14, nI_1, nI_1]
      have h' : ltR lt (wI M 0 14 (nI (q + 1))) := h.fr frL.w14
      refine (ih (i + 1) (q + 1) (10 * acc + dv lt q) f _ (by omega) (by omega) (by omega) h' (by rw [wI_at, if_pos ⟨rfl, rfl⟩])).mono (fun t M' ⟨g1, g2, g3, g4, g5, g6, g7⟩ => ?_)
      rw [if_pos rfl]
      refine ⟨?_, ?_, fun z => g3 (by omega), fun j hj => (g4 j hj).trans (by rw [wI_other (by decide)]), g5.trans (wI_other (by decide)), g6.trans (wI_other (by decide)), frL.w14.tr g7⟩
      · show t = _
        rw [g1]
        congr 1
        rw [decide_eq_decide]
        omega
      · show M'.1 0 14 = _
        rw [g2, show q + 1 + rn lt (q + 1) k = q + (rn lt (q + 1) k + 1) by omega]
theorem rdsR {lt : List Nat} {x n q : Nat} {M : Mem} (hl : lt.length ≤ 96) (hx : ∀ x ∈ lt, x < 256) (hx1 : x < 144) (hn : n ≤ 5) (hq : q + n < 1000) (h : ltR lt M) (h14 : M.1 0 14 = nI q) :
    ok2 (f_X12_readsDigits (nI x) (nI n) M) (fun t M' => t = bI (decide (rn lt q n = n)) ∧ M'.1 0 14 = nI (q + rn lt q n) ∧ (rn lt q n = n → M'.1 9 x = nI (vl lt q n 0)) ∧ (∀ j, j ≠ x → M'.1 9 j = M.1 9 j) ∧ M'.1 7 = M.1 7 ∧ M'.1 8 = M.1 8 ∧ frL M M') :=
  rdgR hl hx hx1 hn n 0 q 0 FU M (by omega) (FU_big (by omega)) hq h h14
