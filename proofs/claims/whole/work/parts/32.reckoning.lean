/-! the class's Reckoning: rows of bits, of repeats; steps and walks -/
theorem areAlikeC {B : Bd} {M : Mem} {ty te i j : Nat} (hb : brdC 1 B M) (hw : wfB B) (hty : ty < 4) (hte : te ≤ 8) (hi : i < bn B) (hj : j < bn B) :
    f_X0_areAlike 1 (nI i) (nI j) (nI ty) (nI te) M = some (bI (sm (lw B ty te) i j)) := by
  obtain ⟨h0, h1, h2, h3, hk, hf, hm, hl⟩ := hb
  have hn := hw.2.2.1
  obtain ⟨ki, -, mi⟩ := hw.2.2.2.2.1 i
  obtain ⟨kj, -, mj⟩ := hw.2.2.2.2.1 j
  have s0 : sm (lw B ty te) i j = (decide (i = j) || smL (lw B ty te) i j) := rfl
  have s1 : smL (lw B ty te) i j = if ty = 0 then decide (mk B i = mk B j) else if ty = 1 then decide (kd B i = kd B j) else if ty = 2 then decide (te ≤ pc (mk B i &&& mk B j)) else decide (pc (mk B i ^^^ mk B j) ≤ te) := rfl
  have lm := fun x hx => ldI_n (M := M) (q := 1 + 3) (n := 8) (i := x) (show x < 8 by omega) (by decide) |>.trans (congrArg some (hm x hx))
  have lk := fun x hx => ldI_n (M := M) (q := 1 + 1) (n := 8) (i := x) (show x < 8 by omega) (by decide) |>.trans (congrArg some (hk x hx))
  unfold f_X0_areAlike
  rw [lm i hi, lm j hj, lk i hi, lk j hj]
  simp only [Option.bind_some]
  rw [fa_and, fa_xor, bitCount_n (and_small mi), bitCount_n (xor_small mi mj)]
  have p1 := pc_le (mk B i &&& mk B j)
  have p2 := pc_le (mk B i ^^^ mk B j)
  have n8 : i < 8 := by omega
  have m8 : j < 8 := by omega
  simp only [l_0, l_1, l_2, l_3, l_4, l_5, l_6, l_7, l_8, l_9, l_10, l_11, l_12, l_16, l_20, l_31, l_35, l_36, l_40, l_48, l_57, l_59, l_60, l_63, l_64, l_80, l_81, l_96, l_99, l_100, l_108, l_109, l_111, l_120, l_255, l_256, l_400, l_999, l_12345, l_65536, l_1000000, l_252645135, l_858993459, l_1103515245, l_1431655765, l_2147483647]
  simp (disch := omega) only [nI_eq, nI_ltI]
  rw [s0, s1]
  by_cases c : i = j
  · simp [c, bI]; rfl
  have ht : ty = 0 ∨ ty = 1 ∨ ty = 2 ∨ ty = 3 := by omega
  rcases ht with h | h | h | h
  · by_cases q : mk B i = mk B j <;> simp [h, c, q, bI] <;> rfl
  · by_cases q : kd B i = kd B j <;> simp [h, c, q, bI] <;> rfl
  · by_cases q : te ≤ pc (mk B i &&& mk B j)
    · have q2 : ¬ pc (mk B i &&& mk B j) < te := by omega
      simp [h, c, q, q2, bI]; rfl
    · have q2 : pc (mk B i &&& mk B j) < te := by omega
      simp [h, c, q, q2, bI]; rfl
  · by_cases q : pc (mk B i ^^^ mk B j) ≤ te
    · have q2 : ¬ te < pc (mk B i ^^^ mk B j) := by omega
      simp [h, c, q, q2, bI]; rfl
    · have q2 : te < pc (mk B i ^^^ mk B j) := by omega
      simp [h, c, q, q2, bI]; rfl
theorem dueForC {B : Bd} {M : Mem} {d r : Nat} (hb : brdC 1 B M) (hw : wfB B) (hd : d < bn B) (hr : r ≤ 1000) : f_X0_dueFor 1 (nI d) (nI r) M = some (nI (due B d r)) := by
  obtain ⟨h0, h1, h2, h3, hk, hf, hm, hl⟩ := hb
  have hn := hw.2.2.1
  obtain ⟨k6, f9, m8⟩ := hw.2.2.2.2.1 d
  have e1 := ldI_n (M := M) (q := 1 + 2) (n := 8) (i := d) (by omega) (by decide) |>.trans (congrArg some (hf d hd))
  have e2 := ldI_n (M := M) (q := 1 + 1) (n := 8) (i := d) (by omega) (by decide) |>.trans (congrArg some (hk d hd))
  have hp : (fg B d + 1) * r ≤ 10 * 1000 := Nat.mul_le_mul (by omega) hr
  unfold f_X0_dueFor
  rw [e1, e2]
  simp only [l_0, l_1, l_2, l_3, l_4, l_5, l_6, l_7, l_8, l_9, l_10, l_11, l_12, l_16, l_20, l_31, l_35, l_36, l_40, l_48, l_57, l_59, l_60, l_63, l_64, l_80, l_81, l_96, l_99, l_100, l_108, l_109, l_111, l_120, l_255, l_256, l_400, l_999, l_12345, l_65536, l_1000000, l_252645135, l_858993459, l_1103515245, l_1431655765, l_2147483647]
  simp (disch := omega) only [nI_eq, nI_leI, nI_add, pk_mul, Option.bind_some, nI_div]
  unfold due
  have ht : kd B d = 0 ∨ kd B d = 1 ∨ kd B d = 2 ∨ kd B d = 3 ∨ kd B d = 4 ∨ kd B d = 5 := by omega
  by_cases z : r = 0
  · rcases ht with h | h | h | h | h | h <;> simp [h, z]
  · have z2 : ¬ r ≤ 0 := by omega
    rcases ht with h | h | h | h | h | h <;> simp [h, z]
    rw [pk_sub (by omega), pk_mul]
