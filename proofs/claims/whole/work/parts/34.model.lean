/-! the model's small methods, over any board that its store holds -/
theorem bitsR_lp {a : Nat} (ha : a < 2 ^ 31) : ∀ (k i fuel : Nat), i + k = 31 → k < fuel → f_X12_bits_b4 fuel (nI a) (nI (pcn i a)) (nI i) = some (nI (pcn 31 a)) := by
  intro k
  induction k with
  | zero =>
    intro i fuel hi hf
    obtain ⟨f, rfl⟩ : ∃ f, fuel = f + 1 := ⟨fuel - 1, by omega⟩
    obtain rfl : i = 31 := by omega
    unfold f_X12_bits_b4
    rw [if_pos (by decide)]
  | succ k ih =>
    intro i fuel hi hf
    obtain ⟨f, rfl⟩ : ∃ f, fuel = f + 1 := ⟨fuel - 1, by omega⟩
    unfold f_X12_bits_b4
    rw [l_31, if_neg (nI_ge (a := i) (b := 31) (by omega) (by omega)), bit_n ha (by omega), nI_1, nI_add]
    exact ih (i + 1) f (by omega) (by omega)
theorem bitsR {a : Nat} (ha : a < 4096) : f_X12_bits (nI a) = some (nI (pc a)) := by
  unfold f_X12_bits
  have h := bitsR_lp (a := a) (by omega) 31 0 FU (by omega) (FU_big (by omega))
  rw [show pc a = pcn 31 a from (pcn_hi (m := 12) (k := 19) ha).symm]
  exact h
theorem areSameR {B : Bd} {M : Mem} {i j : Nat} (hb : brdR B M) (hw : wfB B) (hi : i < bn B) (hj : j < bn B) : f_X12_areSame (nI i) (nI j) M = some (bI (sm B i j)) := by
  obtain ⟨h0, h1, h2, h3, hk, hf, hm, hl⟩ := hb
  have hn := hw.2.2.1
  have hty := hw.1
  have hte := hw.2.1
  obtain ⟨ki, -, mi⟩ := hw.2.2.2.2.1 i
  obtain ⟨kj, -, mj⟩ := hw.2.2.2.2.1 j
  have s0 : sm B i j = (decide (i = j) || smL B i j) := rfl
  have s1 : smL B i j = if B.1.1 = 0 then decide (mk B i = mk B j) else if B.1.1 = 1 then decide (kd B i = kd B j) else if B.1.1 = 2 then decide (B.1.2 ≤ pc (mk B i &&& mk B j)) else decide (pc (mk B i ^^^ mk B j) ≤ B.1.2) := rfl
  have lm := fun x hx => ldI_n (M := M) (q := 4) (n := 8) (i := x) (show x < 8 by omega) (by decide) |>.trans (congrArg some (hm x hx))
  have lk := fun x hx => ldI_n (M := M) (q := 2) (n := 8) (i := x) (show x < 8 by omega) (by decide) |>.trans (congrArg some (hk x hx))
  unfold f_X12_areSame
  rw [lm i hi, lm j hj, lk i hi, lk j hj, h2, h3]
  simp only [Option.bind_some]
  rw [fa_and, fa_xor, bitsR (and_small mi), bitsR (xor_small mi mj)]
  have p1 := pc_le (mk B i &&& mk B j)
  have p2 := pc_le (mk B i ^^^ mk B j)
  have n8 : i < 8 := by omega
  have m8 : j < 8 := by omega
  simp only [l_0, l_1, l_2, l_3, l_4, l_5, l_6, l_7, l_8, l_9, l_10, l_11, l_12, l_16, l_20, l_31, l_35, l_36, l_40, l_48, l_57, l_59, l_60, l_63, l_64, l_80, l_81, l_96, l_99, l_100, l_108, l_109, l_111, l_120, l_255, l_256, l_400, l_999, l_12345, l_65536, l_1000000, l_252645135, l_858993459, l_1103515245, l_1431655765, l_2147483647, Option.bind_some]
  simp (disch := omega) only [nI_eq, nI_ltI]
  rw [s0, s1]
  by_cases c : i = j
  · simp [c, bI]; rfl
  have ht : B.1.1 = 0 ∨ B.1.1 = 1 ∨ B.1.1 = 2 ∨ B.1.1 = 3 := by omega
  rcases ht with h | h | h | h
  · by_cases q : mk B i = mk B j <;> simp [h, c, q, bI] <;> rfl
  · by_cases q : kd B i = kd B j <;> simp [h, c, q, bI] <;> rfl
  · by_cases q : B.1.2 ≤ pc (mk B i &&& mk B j)
    · have q2 : ¬ pc (mk B i &&& mk B j) < B.1.2 := by omega
      simp [h, c, q, q2, bI]; rfl
    · have q2 : pc (mk B i &&& mk B j) < B.1.2 := by omega
      simp [h, c, q, q2, bI]; rfl
  · by_cases q : pc (mk B i ^^^ mk B j) ≤ B.1.2
    · have q2 : ¬ B.1.2 < pc (mk B i ^^^ mk B j) := by omega
      simp [h, c, q, q2, bI]; rfl
    · have q2 : B.1.2 < pc (mk B i ^^^ mk B j) := by omega
      simp [h, c, q, q2, bI]; rfl
theorem dueOfR {B : Bd} {M : Mem} {d r : Nat} (hb : brdR B M) (hw : wfB B) (hd : d < bn B) (hr : r ≤ 1000) : f_X12_dueOf (nI d) (nI r) M = some (nI (due B d r)) := by
  obtain ⟨h0, h1, h2, h3, hk, hf, hm, hl⟩ := hb
  have hn := hw.2.2.1
  obtain ⟨k6, f9, m8⟩ := hw.2.2.2.2.1 d
  have e1 := ldI_n (M := M) (q := 3) (n := 8) (i := d) (by omega) (by decide) |>.trans (congrArg some (hf d hd))
  have e2 := ldI_n (M := M) (q := 2) (n := 8) (i := d) (by omega) (by decide) |>.trans (congrArg some (hk d hd))
  have hp : (fg B d + 1) * r ≤ 10 * 1000 := Nat.mul_le_mul (by omega) hr
  unfold f_X12_dueOf
  rw [e1, e2]
  simp only [l_0, l_1, l_2, l_3, l_4, l_5, l_6, l_7, l_8, l_9, l_10, l_11, l_12, l_16, l_20, l_31, l_35, l_36, l_40, l_48, l_57, l_59, l_60, l_63, l_64, l_80, l_81, l_96, l_99, l_100, l_108, l_109, l_111, l_120, l_255, l_256, l_400, l_999, l_12345, l_65536, l_1000000, l_252645135, l_858993459, l_1103515245, l_1431655765, l_2147483647]
  simp (disch := omega) only [nI_eq, nI_leI, nI_add, pk_mul, Option.bind_some, nI_div]
  unfold due
  have ht : kd B d = 0 ∨ kd B d = 1 ∨ kd B d = 2 ∨ kd B d = 3 ∨ kd B d = 4 ∨ kd B d = 5 := by omega
  by_cases z : r = 0
  · rcases ht with h | h | h | h | h | h <;> simp [h, z, nI_add]
  · have z2 : ¬ r ≤ 0 := by omega
    have hge : fg B d + 1 ≤ (fg B d + 1) * r := Nat.le_mul_of_pos_right _ (by omega)
    rcases ht with h | h | h | h | h | h <;> simp [h, z, nI_add]
    rw [pk_sub (by omega), pk_sub (by omega), pk_mul]
    congr 1
    obtain ⟨r', rfl⟩ : ∃ r', r = r' + 1 := ⟨r - 1, by omega⟩
    rw [Nat.add_sub_cancel, Nat.mul_succ, Nat.mul_assoc]
    congr 1
    omega
theorem repeatsR_lp {B : Bd} {M : Mem} {d p : Nat} (hb : brdR B M) (hw : wfB B) (hd : d < bn B) (hp : p ≤ bpl B) :
    ∀ (k i fuel : Nat), i + k = p → k < fuel → f_X12_repeatsAt_b5 M fuel (nI p) (nI d) (nI (cnt B (B.2.2.take i) d)) (nI i) = some (nI (cnt B (B.2.2.take p) d)) := by
  have h12 := hw.2.2.2.1
  intro k
  induction k with
  | zero =>
    intro i fuel hi hf
    obtain ⟨f, rfl⟩ : ∃ f, fuel = f + 1 := ⟨fuel - 1, by omega⟩
    obtain rfl : i = p := by omega
    unfold f_X12_repeatsAt_b5
    rw [if_pos (nI_le (by omega) (by omega))]
  | succ k ih =>
    intro i fuel hi hf
    obtain ⟨f, rfl⟩ : ∃ f, fuel = f + 1 := ⟨fuel - 1, by omega⟩
    unfold f_X12_repeatsAt_b5
    rw [if_neg (nI_ge (by omega) (by omega)), ldI_n (by omega) (by decide), hb.2.2.2.2.2.2.2 i (by omega), Option.bind_some, areSameR hb hw (lgA_in hw (by omega)) hd, Option.bind_some, nI_1]
    have e : nI (cnt B (B.2.2.take i) d) + (if bI (sm B (lgA B i) d) = 0 then (0 : Int32) else 1) = nI (cnt B (B.2.2.take (i + 1)) d) := by
      rw [take_lg (by omega), cnt_snoc]
      cases sm B (lgA B i) d
      · rw [if_pos (by decide)]; exact nI_add _ 0
      · rw [if_neg (by decide)]; exact nI_add _ 1
    rw [e]
    exact ih (i + 1) f (by omega) (by omega)
theorem repeatsR {B : Bd} {M : Mem} {d p : Nat} (hb : brdR B M) (hw : wfB B) (hd : d < bn B) (hp : p ≤ bpl B) : f_X12_repeatsAt (nI p) (nI d) M = some (nI (cnt B (B.2.2.take p) d)) := by
  unfold f_X12_repeatsAt
  exact repeatsR_lp hb hw hd hp p 0 FU (by omega) (FU_big (by have := hw.2.2.2.1; omega))
theorem cnt_take_le (B : Bd) (l : List Nat) (p d : Nat) : cnt B (l.take p) d ≤ p := Nat.le_trans (cnt_le _ _ _) (List.length_take_le _ _)
theorem dueAtR {B : Bd} {M : Mem} {p : Nat} (hb : brdR B M) (hw : wfB B) (hp : p < bpl B) : f_X12_dueAt (nI p) M = some (nI (due B (lgA B p) (cnt B (B.2.2.take p) (lgA B p)))) := by
  have h12 := hw.2.2.2.1
  have hd := lgA_in hw hp
  have hc := cnt_take_le B B.2.2 p (lgA B p)
  unfold f_X12_dueAt
  rw [ldI_n (by omega) (by decide), hb.2.2.2.2.2.2.2 p hp, Option.bind_some, Option.bind_some, repeatsR hb hw hd (by omega), Option.bind_some, dueOfR hb hw hd (by omega)]
  rfl
theorem allR_lp {B : Bd} {M : Mem} (hb : brdR B M) (hw : wfB B) : ∀ (k i fuel : Nat), i + k = bpl B → k < fuel → f_X12_all_b4 M fuel (nI (tot B (B.2.2.take i))) (nI i) = some (nI (tot B B.2.2)) := by
  have h12 := hw.2.2.2.1
  intro k
  induction k with
  | zero =>
    intro i fuel hi hf
    obtain ⟨f, rfl⟩ : ∃ f, fuel = f + 1 := ⟨fuel - 1, by omega⟩
    unfold f_X12_all_b4
    rw [hb.2.1, if_pos (nI_le (by omega) (by omega)), List.take_of_length_le (by unfold bpl at hi; omega)]
  | succ k ih =>
    intro i fuel hi hf
    obtain ⟨f, rfl⟩ : ∃ f, fuel = f + 1 := ⟨fuel - 1, by omega⟩
    unfold f_X12_all_b4
    rw [hb.2.1, if_neg (nI_ge (by omega) (by omega)), dueAtR hb hw (by omega), Option.bind_some, nI_1, nI_add, ← tot_snoc, ← take_lg (by omega)]
    exact ih (i + 1) f (by omega) (by omega)
theorem allR {B : Bd} {M : Mem} (hb : brdR B M) (hw : wfB B) : f_X12_all M = some (nI (tot B B.2.2)) := by
  unfold f_X12_all
  exact allR_lp hb hw (bpl B) 0 FU (by omega) (FU_big (by have := hw.2.2.2.1; omega))
theorem nextOfR {B : Bd} {M : Mem} {d : Nat} (hb : brdR B M) (hw : wfB B) (hd : d < bn B) : f_X12_nextOf (nI d) M = some (nI (due B d (cnt B B.2.2 d))) := by
  have h12 := hw.2.2.2.1
  have hc := cnt_le B B.2.2 d
  unfold bpl at h12
  unfold f_X12_nextOf
  rw [hb.2.1, repeatsR hb hw hd (Nat.le_refl _), Option.bind_some, show B.2.2.take (bpl B) = B.2.2 from List.take_length, dueOfR hb hw hd (by omega)]
  rfl
theorem hasR {a k : Nat} (ha : a < 2 ^ 31) (hk : k < 31) : f_X12_has (nI a) (nI k) = bI (a.testBit k) := by
  unfold f_X12_has
  rw [bit_n ha hk]
  cases a.testBit k <;> rfl
theorem isDoingR {B : Bd} {M : Mem} (hb : brdR B M) (hw : wfB B) (v : Int32) : (f_X12_isDoing v M = 0 ∧ (v < 0 ∨ ∃ d, d < 2 ^ 31 ∧ bn B ≤ d ∧ v = nI d)) ∨ (f_X12_isDoing v M = 1 ∧ ∃ d, d < bn B ∧ v = nI d) := by
  have hn := hw.2.2.1
  unfold f_X12_isDoing
  rw [hb.1]
  rcases i_cases v with h | ⟨d, h, rfl⟩
  · rw [if_pos h]; exact Or.inl ⟨rfl, Or.inl h⟩
  · rw [if_neg (nI_pos h)]
    by_cases c : bn B ≤ d
    · rw [if_pos ((nI_leI (by omega) h).mpr c)]; exact Or.inl ⟨rfl, Or.inr ⟨d, h, c, rfl⟩⟩
    · rw [if_neg (fun q => c ((nI_leI (by omega) h).mp q))]; exact Or.inr ⟨rfl, d, by omega, rfl⟩
