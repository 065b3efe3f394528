/-! chance -/
theorem sumN_add (f g : Nat → Nat) : ∀ n, sumN (fun k => f k + g k) n = sumN f n + sumN g n := by
  intro n
  induction n with
  | zero => rfl
  | succ n ih =>
    show sumN (fun k => f k + g k) n + (f n + g n) = sumN f n + f n + (sumN g n + g n)
    rw [ih]; omega
theorem sumN_zero {f : Nat → Nat} : ∀ n, (∀ k, k < n → f k = 0) → sumN f n = 0 := by
  intro n
  induction n with
  | zero => intro _; rfl
  | succ n ih =>
    intro h
    show sumN f n + f n = 0
    rw [ih (fun k hk => h k (by omega)), h n (by omega)]
theorem sumN_split (f : Nat → Nat) (q : Nat) : ∀ m, sumN f (q + m) = sumN f q + sumN (fun d => f (q + d)) m := by
  intro m
  induction m with
  | zero => rfl
  | succ m ih =>
    show sumN f (q + m) + f (q + m) = sumN f q + (sumN (fun d => f (q + d)) m + f (q + m))
    rw [ih]; omega
theorem sumN_mul (f : Nat → Nat) (m : Nat) : ∀ q, sumN f (q * m) = sumN (fun d => sumN (fun c => f (c * m + d)) q) m := by
  intro q
  induction q with
  | zero =>
    rw [Nat.zero_mul]
    exact (sumN_zero m (fun k _ => rfl)).symm
  | succ q ih =>
    rw [Nat.succ_mul, sumN_split, ih, ← sumN_add]
    rfl
theorem sumN_le {f : Nat → Nat} {b : Nat} : ∀ n, (∀ k, k < n → f k ≤ b) → sumN f n ≤ n * b := by
  intro n
  induction n with
  | zero => intro _; exact Nat.zero_le _
  | succ n ih =>
    intro h
    show sumN f n + f n ≤ _
    have h1 := ih (fun k hk => h k (by omega))
    have h2 := h n (by omega)
    rw [Nat.succ_mul]; omega
/-- rows of k doings more by which nothing is due -/
def luk (B : Bd) : Nat → List Nat → Nat
  | 0, _ => 1
  | k + 1, pre => sumN (fun d => if due B d (cnt B pre d) = 0 then luk B k (pre ++ [d]) else 0) (bn B)
def lukG (B : Bd) (k : Nat) (pre : List Nat) (d : Nat) : Nat := if due B d (cnt B pre d) = 0 then luk B k (pre ++ [d]) else 0
theorem luk_s (B : Bd) (k : Nat) (pre : List Nat) : luk B (k + 1) pre = sumN (lukG B k pre) (bn B) := rfl
theorem luk_le {B : Bd} (hn : bn B ≤ 8) : ∀ (k : Nat) (pre : List Nat), luk B k pre ≤ 8 ^ k := by
  intro k
  induction k with
  | zero => intro pre; exact Nat.le_refl 1
  | succ k ih =>
    intro pre
    rw [luk_s]
    refine Nat.le_trans (sumN_le (b := 8 ^ k) (bn B) (fun d _ => ?_)) ?_
    · unfold lukG
      split
      · exact ih _
      · exact Nat.zero_le _
    · rw [Nat.pow_succ, Nat.mul_comm]
      exact Nat.mul_le_mul_left _ hn
def dgL (m c : Nat) : Nat → List Nat
  | 0 => []
  | k + 1 => c % m :: dgL m (c / m) k
theorem tot_ne {B : Bd} : ∀ (l pre : List Nat), ¬ tot B pre = 0 → ¬ tot B (pre ++ l) = 0 := by
  intro l
  induction l with
  | nil => intro pre h; rw [List.append_nil]; exact h
  | cons a l ih =>
    intro pre h
    rw [show pre ++ a :: l = (pre ++ [a]) ++ l by simp]
    refine ih _ ?_
    rw [tot_snoc]; omega
theorem luk_sum {B : Bd} (h0 : 0 < bn B) : ∀ (k : Nat) (pre : List Nat), tot B pre = 0 → sumN (fun c => if tot B (pre ++ dgL (bn B) c k) = 0 then 1 else 0) (bn B ^ k) = luk B k pre := by
  intro k
  induction k with
  | zero =>
    intro pre h
    show 0 + (if tot B (pre ++ []) = 0 then 1 else 0) = 1
    rw [List.append_nil, if_pos h]
  | succ k ih =>
    intro pre h
    rw [Nat.pow_succ, sumN_mul, luk_s]
    refine sumN_cong _ (fun d hd => ?_)
    have e : ∀ c, dgL (bn B) (c * bn B + d) (k + 1) = d :: dgL (bn B) c k := fun c => by
      show (c * bn B + d) % bn B :: dgL (bn B) ((c * bn B + d) / bn B) k = _
      have e1 : (c * bn B + d) % bn B = d := by rw [Nat.mul_add_mod_self_right]; exact Nat.mod_eq_of_lt hd
      have e2 : (c * bn B + d) / bn B = c := by
        rw [Nat.mul_comm, Nat.mul_add_div h0, Nat.div_eq_of_lt hd, Nat.add_zero]
      rw [e1, e2]
    have e3 : ∀ c, tot B (pre ++ dgL (bn B) (c * bn B + d) (k + 1)) = tot B ((pre ++ [d]) ++ dgL (bn B) c k) := fun c => by
      rw [e c]; simp
    simp only [e3]
    unfold lukG
    have ts := tot_snoc B pre d
    by_cases c : due B d (cnt B pre d) = 0
    · rw [if_pos c]
      exact ih _ (by omega)
    · rw [if_neg c]
      exact sumN_zero _ (fun x _ => if_neg (tot_ne _ _ (by omega)))
/-! the class -/
theorem lkC_in {B : Bd} {pre : List Nat} {v : Nat} {rec : Int32 → Mem → Option (Int32 × Mem)} (hw : wfB B) (hp : pre.length ≤ 800) (hv : v < 5)
    (hrec : 0 < v → ∀ (q : List Nat) (M : Mem), q.length ≤ pre.length + 1 → RK B B.1.1 B.1.2 q M → ok2 (rec (nI v) M) (fun x M' => x = nI (luk B v q) ∧ RK B B.1.1 B.1.2 q M' ∧ fr [27] M M')) :
    ∀ (k i fuel : Nat) (M : Mem), i + k = bn B → k < fuel → RK B B.1.1 B.1.2 pre M →
    ok2 (f_X4_luckyRows_S_b11 rec fuel (nI (v + 1)) (nI (sumN (lukG B v pre) i)) (nI i) M) (fun x M' => x = nI (sumN (lukG B v pre) (bn B)) ∧ RK B B.1.1 B.1.2 pre M' ∧ fr [27] M M') := by
  have hn := hw.2.2.1
  intro k
  induction k with
  | zero =>
    intro i fuel M hi hf h
    obtain ⟨f, rfl⟩ : ∃ f, fuel = f + 1 := ⟨fuel - 1, by omega⟩
    obtain rfl : i = bn B := by omega
    refine ok2_mk ?_
    unfold f_X4_luckyRows_S_b11
    rw [h.1.1]
    exact ok_pos (nI_le (by omega) (by omega)) (ok_some ⟨rfl, h, fr.rf⟩)
  | succ k ih =>
    intro i fuel M hi hf h
    obtain ⟨f, rfl⟩ : ∃ f, fuel = f + 1 := ⟨fuel - 1, by omega⟩
    have hd := due_le hw i (r := cnt B pre i)
    have hc := cnt_le B pre i
    have st : sumN (lukG B v pre) (i + 1) = sumN (lukG B v pre) i + lukG B v pre i := rfl
    refine ok2_mk ?_
    unfold f_X4_luckyRows_S_b11
    rw [h.1.1]
    refine ok_neg (nI_ge (by omega) (by omega)) ?_
    rw [dueNow_ok hw h (by omega) (by omega), Option.bind_some, nI_1]
    refine ok_ite (fun c => ?_) (fun c => ?_)
    · have c' : due B i (cnt B pre i) = 0 := nI_e (b := 0) (by omega) (by decide) c
      have g1 : lukG B v pre i = luk B v (pre ++ [i]) := if_pos c'
      refine ok_ite (fun e => ?_) (fun e => ?_)
      · have ev : v + 1 = 1 := nI_e (b := 1) (by omega) (by decide) e
        obtain rfl : v = 0 := by omega
        rw [nI_1]
        have := ih (i + 1) f M (by omega) (by omega) h
        rw [st, g1] at this
        exact this.mono (fun x M' z => z)
      · have hv0 : 0 < v := by
          rcases Nat.eq_zero_or_pos v with z | z
          · subst z; exact absurd rfl e
          · exact z
        refine ok_bind (shift_ok hw h.1 h.2.1 (d := i) (by omega)) (fun M1 q1 => ?_)
        have h1 : RK B B.1.1 B.1.2 (pre ++ [i]) M1 := ⟨h.1.fr q1.2 (by decide), h.2.1.fr (q1.2 26 (by decide)), fun x hx => by
          show M1.1 27 x = _
          rw [q1.1 x hx, h.2.2 x hx, cnt_snoc]
          by_cases y : sm (lw B B.1.1 B.1.2) i x = true
          · rw [if_pos y, y]; exact nI_1 _
          · rw [if_neg y]
            have y0 : sm (lw B B.1.1 B.1.2) i x = false := by simpa using y
            rw [y0]; rfl⟩
        rw [show nI (v + 1) - 1 = nI v from sub_one_nI (k := 1) (by omega)]
        refine ok_bp (hrec hv0 _ M1 (by simp) h1) (fun t M2 q2 => ?_)
        obtain ⟨rfl, h2, f2⟩ := q2
        refine ok_bind (shift_ok hw h2.1 h2.2.1 (d := i) (by omega)) (fun M3 q3 => ?_)
        have h3 : RK B B.1.1 B.1.2 pre M3 := ⟨h2.1.fr q3.2 (by decide), h2.2.1.fr (q3.2 26 (by decide)), fun x hx => by
          show M3.1 27 x = _
          rw [q3.1 x hx, h2.2.2 x hx, cnt_snoc]
          by_cases y : sm (lw B B.1.1 B.1.2) i x = true
          · rw [if_pos y, y, show (-1 : Int32) = 0 - nI 1 from rfl]
            show nI (cnt (lw B B.1.1 B.1.2) pre x + 1) + (0 - nI 1) = _
            rw [← nI_add]
            generalize nI (cnt (lw B B.1.1 B.1.2) pre x) = z
            rw [Int32.add_assoc]
            exact Int32.add_zero z
          · rw [if_neg y]
            have y0 : sm (lw B B.1.1 B.1.2) i x = false := by simpa using y
            rw [y0]; rfl⟩
        rw [nI_add, nI_1]
        have := ih (i + 1) f M3 (by omega) (by omega) h3
        rw [st, g1] at this
        exact this.mono (fun x M' z => ⟨z.1, z.2.1, ((q1.2.tr f2).tr q3.2).tr z.2.2⟩)
    · have c' : ¬ due B i (cnt B pre i) = 0 := fun z => c (show nI (due B i (cnt B pre i)) = 0 by rw [z]; rfl)
      have g1 : lukG B v pre i = 0 := if_neg c'
      have := ih (i + 1) f M (by omega) (by omega) h
      rw [st, g1, Nat.add_zero] at this
      rw [nI_1]
      exact this.mono (fun x M' z => z)
theorem lkC {B : Bd} (hw : wfB B) : ∀ (lv v : Nat) (pre : List Nat) (M : Mem), v ≤ lv → 0 < v → v ≤ 5 → pre.length + lv ≤ 100 → RK B B.1.1 B.1.2 pre M →
    ok2 (f_X4_luckyRows lv (nI v) M) (fun x M' => x = nI (luk B v pre) ∧ RK B B.1.1 B.1.2 pre M' ∧ fr [27] M M') := by
  have hn := hw.2.2.1
  intro lv
  induction lv with
  | zero => intro v pre M h1 h2; omega
  | succ lv ih =>
    intro v pre M h1 h2 h5 hp h
    obtain ⟨v', rfl⟩ : ∃ v', v = v' + 1 := ⟨v - 1, by omega⟩
    show ok2 (f_X4_luckyRows_S (f_X4_luckyRows lv) (nI (v' + 1)) M) _
    unfold f_X4_luckyRows_S
    rw [if_pos (show 0 < nI (v' + 1) from nI_lt (a := 0) (by omega) (by omega)), luk_s]
    exact lkC_in hw (by omega) (by omega) (fun hv q M' hq hM => ih v' q M' (by omega) hv (by omega) (by omega) hM) (bn B) 0 FU M (by omega) (FU_big (by omega)) h
theorem lk0 {B : Bd} {v : Nat} {M : Mem} (hw : wfB B) (hv : v ≤ 5) (h : RK B B.1.1 B.1.2 [] M) : ok2 (f_X4_luckyRows 5 (nI v) M) (fun x M' => x = nI (luk B v []) ∧ fr [27] M M') := by
  rcases Nat.eq_zero_or_pos v with z | z
  · subst z
    refine ⟨nI 1, M, ?_, rfl, fr.rf⟩
    show f_X4_luckyRows_S (f_X4_luckyRows 4) (nI 0) M = _
    unfold f_X4_luckyRows_S
    rw [if_neg (show ¬ 0 < nI 0 by decide)]
    rfl
  · exact (lkC hw 5 v [] M hv z hv (by decide) h).mono2 (fun a b q => ⟨q.1, q.2.2⟩)
theorem noDC {B : Bd} {m : Nat} (hw : wfB B) (hm : m ≤ 5) (v2 : Int32) : ∀ (k i fuel : Nat) (M : Mem), i + k = m → k < fuel → RK B B.1.1 B.1.2 [] M →
    ok2 (f_X4_nothingDue_b12 fuel (nI m) v2 (nL (bn B ^ i)) (nI i) M) (fun x M' => f_X4_lowest (nL (luk B m [])) (nL (bn B ^ m)) v2 = some x ∧ fr [27] M M') ∨ f_X4_lowest (nL (luk B m [])) (nL (bn B ^ m)) v2 = none := by
  have hn := hw.2.2.1
  intro k
  induction k with
  | zero =>
    intro i fuel M hi hf h
    obtain ⟨f, rfl⟩ : ∃ f, fuel = f + 1 := ⟨fuel - 1, by omega⟩
    obtain rfl : i = m := by omega
    cases e : f_X4_lowest (nL (luk B i [])) (nL (bn B ^ i)) v2 with
    | none => exact Or.inr rfl
    | some r =>
      left
      refine ok2_mk ?_
      unfold f_X4_nothingDue_b12
      refine ok_pos (nI_le (by omega) (by omega)) ?_
      refine ok_bp (lk0 hw hm h) (fun t M' q => ?_)
      have hl := luk_le hn i []
      have h8 : 8 ^ i ≤ 8 ^ 5 := Nat.pow_le_pow_right (by decide) hm
      rw [q.1, nI_long (by omega), e]
      exact ok_some ⟨rfl, q.2⟩
  | succ k ih =>
    intro i fuel M hi hf h
    obtain ⟨f, rfl⟩ : ∃ f, fuel = f + 1 := ⟨fuel - 1, by omega⟩
    rcases ih (i + 1) f M (by omega) (by omega) h with g | g
    · left
      refine ok2_mk ?_
      unfold f_X4_nothingDue_b12
      refine ok_neg (nI_ge (by omega) (by omega)) ?_
      rw [h.1.1, nI_long (by omega), nL_mul, ← Nat.pow_succ, nI_1]
      exact g.mono (fun x M' z => z)
    · exact Or.inr g
/-! the model -/
theorem dvI_n {a n : Nat} (ha : a < 2 ^ 31) (h0 : 0 < n) (hn : n < 2 ^ 31) : dvI (nI a) (nI n) = some (nI (a / n)) := by
  unfold dvI
  rw [if_neg (show ¬ nI n = 0 from fun q => absurd (nI_e (b := 0) hn (by decide) q) (by omega)), nI_div ha h0 hn]
theorem dgL_len (m : Nat) : ∀ (k c : Nat), (dgL m c k).length = k := by
  intro k
  induction k with
  | zero => intro c; rfl
  | succ k ih => intro c; show (dgL m (c / m) k).length + 1 = _; rw [ih]
theorem dgL_at (m : Nat) : ∀ (k c j : Nat), j < k → (dgL m c k).getD j 0 = c / m ^ j % m := by
  intro k
  induction k with
  | zero => intro c j h; omega
  | succ k ih =>
    intro c j h
    cases j with
    | zero => show c % m = c / m ^ 0 % m; rw [Nat.pow_zero, Nat.div_one]
    | succ j =>
      show (dgL m (c / m) k).getD j 0 = _
      rw [ih _ _ (by omega), Nat.div_div_eq_div_mul, Nat.pow_succ, Nat.mul_comm]
theorem dgL_in {m : Nat} (h0 : 0 < m) : ∀ (k c : Nat), ∀ d ∈ dgL m c k, d < m := by
  intro k
  induction k with
  | zero => intro c d hd; cases hd
  | succ k ih =>
    intro c d hd
    rcases List.mem_cons.mp hd with z | z
    · rw [z]; exact Nat.mod_lt _ h0
    · exact ih _ _ z
def brdM (B : Bd) (v : Nat) (M : Mem) : Prop := M.1 0 5 = nI (bn B) ∧ M.1 0 6 = nI v ∧ M.1 0 7 = nI B.1.1 ∧ M.1 0 8 = nI B.1.2 ∧ (∀ j, j < bn B → M.1 2 j = nI (kd B j)) ∧ (∀ j, j < bn B → M.1 3 j = nI (fg B j)) ∧ (∀ j, j < bn B → M.1 4 j = nI (mk B j))
theorem brdM.w5 {B : Bd} {v j : Nat} {M : Mem} {x : Int32} (h : brdM B v M) : brdM B v (wI M 5 j x) := by
  unfold brdM
  rw [wI_other (by decide), wI_other (by decide), wI_other (by decide), wI_other (by decide)]
  exact h
theorem chR_in {B : Bd} {c m : Nat} {M0 : Mem} (hw : wfB B) (h0 : 0 < bn B) (hm : m ≤ 5) (hc : c < 2 ^ 31) (v2 v4 : Int32) (v5 : Int64) (v7 : Int32) (kont : Int32 → Int32 → Int32 → Int64 → Int32 → Mem → Option (Int64 × Mem)) (Q : Int64 × Mem → Prop) :
    ∀ (k i fuel : Nat) (M : Mem), i + k = m → k < fuel → brdM B m M → mR M0 M → (∀ j, j < i → M.1 5 j = nI (c / bn B ^ j % bn B)) →
    (∀ M', brdM B m M' → mR M0 M' → ok (kont (nI m) v2 v4 (v5 + (if tot B (dgL (bn B) c m) = 0 then (1 : Int64) else 0)) (v7 + 1) M') Q) →
    ok (f_X12_chance_b107 kont fuel (nI m) v2 v4 v5 v7 (nI (c / bn B ^ i)) (nI i) M) Q := by
  have hn := hw.2.2.1
  intro k
  induction k with
  | zero =>
    intro i fuel M hi hf hb hmr hl hk
    obtain ⟨f, rfl⟩ : ∃ f, fuel = f + 1 := ⟨fuel - 1, by omega⟩
    obtain rfl : i = m := by omega
    obtain ⟨b1, b2, b3, b4, b5, b6, b7⟩ := id hb
    have hlen := dgL_len (bn B) i c
    have hbr : brdR (B.1, B.2.1, dgL (bn B) c i) M := ⟨b1, by unfold bpl; rw [hlen]; exact b2, b3, b4, b5, b6, b7, fun j hj => by
      unfold bpl at hj
      rw [hlen] at hj
      show M.1 5 j = nI ((dgL (bn B) c i).getD j 0)
      rw [dgL_at _ _ _ _ hj]
      exact hl j hj⟩
    have hwf : wfB (B.1, B.2.1, dgL (bn B) c i) := ⟨hw.1, hw.2.1, hw.2.2.1, by unfold bpl; rw [hlen]; omega, hw.2.2.2.2.1, fun d hd => dgL_in h0 _ _ d hd⟩
    have e : f_X12_all M = some (nI (tot B (dgL (bn B) c i))) := allR hbr hwf
    have ht : tot B (dgL (bn B) c i) < 1000000 := tot_small hw (by rw [hlen]; omega)
    unfold f_X12_chance_b107
    refine ok_pos (nI_le (by omega) (by omega)) ?_
    rw [e, Option.bind_some]
    have e2 : (if nI (tot B (dgL (bn B) c i)) = 0 then (1 : Int64) else 0) = if tot B (dgL (bn B) c i) = 0 then (1 : Int64) else 0 := by
      by_cases z : tot B (dgL (bn B) c i) = 0
      · rw [if_pos z, if_pos (by rw [z]; rfl)]
      · rw [if_neg z, if_neg (show ¬ nI (tot B (dgL (bn B) c i)) = 0 from fun q => z (nI_e (b := 0) (by omega) (by decide) q))]
    rw [e2]
    exact hk M hb hmr
  | succ k ih =>
    intro i fuel M hi hf hb hmr hl hk
    obtain ⟨f, rfl⟩ : ∃ f, fuel = f + 1 := ⟨fuel - 1, by omega⟩
    have hle : c / bn B ^ i ≤ c := Nat.div_le_self _ _
    unfold f_X12_chance_b107
    refine ok_neg (nI_ge (by omega) (by omega)) ?_
    rw [hb.1, rmI_n (by omega) h0 (by omega), Option.bind_some]
    refine ok_st (by omega) (by decide) ?_
    rw [show (wI M 5 i (nI (c / bn B ^ i % bn B))).1 0 5 = nI (bn B) from hb.w5.1, dvI_n (by omega) h0 (by omega), Option.bind_some, nI_1, Nat.div_div_eq_div_mul, ← Nat.pow_succ]
    refine ih (i + 1) f _ (by omega) (by omega) hb.w5 (hmr.tr (mR.wI (Or.inr (by omega)))) (fun j hj => ?_) hk
    rw [wI_at]
    by_cases z : j = i
    · rw [if_pos ⟨rfl, z⟩, z]
    · rw [if_neg (by omega)]; exact hl j (by omega)
def chS (B : Bd) (m : Nat) (c : Nat) : Nat := if tot B (dgL (bn B) c m) = 0 then 1 else 0
theorem chRo {B : Bd} {m : Nat} {MR M0 : Mem} {r : Int64} (hw : wfB B) (h0 : 0 < bn B) (hm : m ≤ 5) (ht : TH MR M0) (v2 : Int32) (hr : f_X12_partOf (nL (sumN (chS B m) (bn B ^ m))) (nL (bn B ^ m)) v2 = some r) :
    ∀ (k c fuel : Nat) (M : Mem), c + k = bn B ^ m → k < fuel → brdM B m M → mR M0 M →
    ok2 (f_X12_chance_b93 fuel (nI m) v2 (nI (bn B ^ m)) (nL (sumN (chS B m) c)) (nI c) M) (fun x M' => x = r ∧ agR MR M') := by
  have hn := hw.2.2.1
  have hb8 : bn B ^ m ≤ 8 ^ m := Nat.pow_le_pow_left hn m
  have h8 : 8 ^ m ≤ 8 ^ 5 := Nat.pow_le_pow_right (by decide) hm
  intro k
  induction k with
  | zero =>
    intro c fuel M hi hf hb hmr
    obtain ⟨f, rfl⟩ : ∃ f, fuel = f + 1 := ⟨fuel - 1, by omega⟩
    obtain rfl : c = bn B ^ m := by omega
    refine ok2_mk ?_
    unfold f_X12_chance_b93
    refine ok_pos (nI_le (by omega) (by omega)) ?_
    refine ok_bind (forgets_ok ht hmr) (fun M6 g => ?_)
    rw [nI_long (by omega), hr]
    exact ok_some ⟨rfl, g⟩
  | succ k ih =>
    intro c fuel M hi hf hb hmr
    obtain ⟨f, rfl⟩ : ∃ f, fuel = f + 1 := ⟨fuel - 1, by omega⟩
    refine ok2_mk ?_
    unfold f_X12_chance_b93
    refine ok_neg (nI_ge (by omega) (by omega)) ?_
    have := chR_in (M0 := M0) (c := c) hw h0 hm (by omega) v2 (nI (bn B ^ m)) (nL (sumN (chS B m) c)) (nI c) (f_X12_chance_b93 f) (fun p => p.1 = r ∧ agR MR p.2) m 0 FU M (by omega) (FU_big (by omega)) hb hmr (fun j hj => by omega) (fun M' g1 g2 => ?_)
    · rw [Nat.pow_zero, Nat.div_one] at this
      exact this
    · have e : nL (sumN (chS B m) c) + (if tot B (dgL (bn B) c m) = 0 then (1 : Int64) else 0) = nL (sumN (chS B m) (c + 1)) := by
        show _ = nL (sumN (chS B m) c + chS B m c)
        rw [← nL_add]
        unfold chS
        by_cases z : tot B (dgL (bn B) c m) = 0
        · rw [if_pos z, if_pos z]; rfl
        · rw [if_neg z, if_neg z]; rfl
      rw [e, nI_1]
      exact (ih (c + 1) f M' (by omega) (by omega) g1 g2).mono (fun v M2 z => z)
theorem chR_pw {B : Bd} {m : Nat} {M : Mem} {v2 : Int32} (hb : brdR B M) : ∀ (k i fuel : Nat), i + k = m → k < fuel → m ≤ 5 →
    f_X12_chance_b57 fuel (nI m) v2 (nI (bn B ^ i)) (nI i) M = (f_X12_thinks M).bind fun M5 => f_X12_chance_b93 FU (nI m) v2 (nI (bn B ^ m)) 0 0 (wI M5 0 6 (nI m)) := by
  intro k
  induction k with
  | zero =>
    intro i fuel hi hf hm
    obtain ⟨f, rfl⟩ : ∃ f, fuel = f + 1 := ⟨fuel - 1, by omega⟩
    obtain rfl : i = m := by omega
    unfold f_X12_chance_b57
    rw [if_pos (nI_le (by omega) (by omega))]
  | succ k ih =>
    intro i fuel hi hf hm
    obtain ⟨f, rfl⟩ : ∃ f, fuel = f + 1 := ⟨fuel - 1, by omega⟩
    unfold f_X12_chance_b57
    rw [if_neg (nI_ge (by omega) (by omega)), hb.1, pk_mul, ← Nat.pow_succ, nI_1]
    exact ih (i + 1) f (by omega) (by omega) hm
theorem sim_chance {MC MR : Mem} (h : Inv MC MR) (a b : Int32) : Sim (f_X11_chance a b MC) (f_X12_chance a b MR) := by
  obtain ⟨B, im, S, lt, rw', hw, hC, hR, hf⟩ := id h
  have hn := hw.1.2.2.1
  unfold f_X11_chance f_X12_chance f_X12_chance_b23
  simp only [bind_bp]
  rcases boundR a 5 (by decide) with ⟨h0, e⟩ | ⟨d, hd, hm, rfl, e⟩ | ⟨d, hd, rfl, e⟩
  · rw [show f_X12_bound a 0 5 = -4 from e, if_neg (show ¬ 0 ≤ a from i_neg_nle h0 (n := 0) (by decide)), if_neg (show ¬ (-4 : Int32) = 0 by decide), if_neg (show ¬ (-4 : Int32) = 0 by decide)]; exact Sim.noL h 4 (by decide) _ (by decide)
  · rw [show f_X12_bound (nI d) 0 5 = -6 from e, if_pos (show 0 ≤ nI d from nI_pos' hd), if_neg (show ¬ nI d ≤ 5 from nI_ge (a := 5) hm hd), if_neg (show ¬ (-6 : Int32) = 0 by decide), if_neg (show ¬ (-6 : Int32) = 0 by decide)]; exact Sim.noL h 6 (by decide) _ (by decide)
  rw [show f_X12_bound (nI d) 0 5 = 0 from e, if_pos (show 0 ≤ nI d from nI_pos' (by omega)), if_pos (show nI d ≤ 5 from nI_le (b := 5) hd (by decide)), if_pos p00, if_pos p00, hR.1.1]
  have go : (b = 0 ∨ b = 1) → Sim (f_X4_nothingDue (nI d) b MC) (if nI (bn B) = 0 then (if nI d = 0 then some ((1 : Int64), MR) else some (b.toInt64, MR)) else f_X12_chance_b57 FU (nI d) b 1 0 MR) := by
    intro hb
    by_cases c0 : bn B = 0
    · rw [if_pos (show nI (bn B) = 0 by rw [c0]; rfl)]
      by_cases d0 : d = 0
      · subst d0
        rw [if_pos (show nI 0 = 0 from rfl)]
        refine Sim.q h 1 (ok2_mk ?_) ⟨_, _, rfl, rfl, agR.rf⟩
        unfold f_X4_nothingDue
        refine ok_bind (open_ok hw.1 hC.1) (fun M1 ⟨h1', f1⟩ => ?_)
        have hl : f_X4_lowest (nL (luk B 0 [])) (nL (bn B ^ 0)) b = some 1 := by
          obtain ⟨r, e1, e2⟩ := part_eq (x := 1) (y := 1) (by decide) (by decide) (by decide) hb
          refine e1.trans ?_
          rw [← e2]
          unfold f_X12_partOf f_X12_divisor
          rw [divR_lp 1 1 1 FU (Nat.le_refl 1) (FU_big (by decide)) (by decide) (by decide), Option.bind_some, show Nat.gcd 1 1 = 1 from rfl, show (if b = 0 then nL 1 else nL 1) = nL 1 from by split <;> rfl, dvL_n (by decide) (by decide) (by decide)]
          rfl
        rcases noDC (m := 0) hw.1 (by omega) b 0 0 FU M1 (by omega) (FU_big (by omega)) h1' with g | g
        · refine g.mono (fun x M2 z => ?_)
          rw [hl] at z
          exact ⟨(Option.some.inj z.1).symm, (f1.q (by decide)).tr (z.2.q (by decide))⟩
        · rw [hl] at g; cases g
      · rw [if_neg (show ¬ nI d = 0 from fun q => d0 (nI_e (b := 0) (by omega) (by decide) q))]
        refine Sim.q h b.toInt64 (ok2_mk ?_) ⟨_, _, rfl, rfl, agR.rf⟩
        unfold f_X4_nothingDue
        refine ok_bind (open_ok hw.1 hC.1) (fun M1 ⟨h1', f1⟩ => ?_)
        have hl : f_X4_lowest (nL (luk B d [])) (nL (bn B ^ d)) b = some b.toInt64 := by
          obtain ⟨d', rfl⟩ : ∃ d', d = d' + 1 := ⟨d - 1, by omega⟩
          rw [luk_s, c0]
          unfold f_X4_lowest
          rw [if_pos (by rw [show nL (sumN (lukG B d' []) 0) = nL 0 from rfl, cmp_0 (by decide)])]
        rcases noDC (m := d) hw.1 hd b d 0 FU M1 (by omega) (FU_big (by omega)) h1' with g | g
        · refine g.mono (fun x M2 z => ?_)
          rw [hl] at z
          exact ⟨(Option.some.inj z.1).symm, (f1.q (by decide)).tr (z.2.q (by decide))⟩
        · rw [hl] at g; cases g
    · rw [if_neg (show ¬ nI (bn B) = 0 from fun q => c0 (nI_e (b := 0) (by omega) (by decide) q))]
      have hpos : 0 < bn B ^ d := Nat.pow_pos (by omega)
      have hb8 : bn B ^ d ≤ 8 ^ d := Nat.pow_le_pow_left hn d
      have h8 : 8 ^ d ≤ 8 ^ 5 := Nat.pow_le_pow_right (by decide) hd
      have hl := luk_le hn d []
      obtain ⟨r, e1, e2⟩ := part_eq (x := luk B d []) (y := bn B ^ d) (by omega) (by omega) hpos hb
      refine Sim.q h r (ok2_mk ?_) (ok2_mk ?_)
      · unfold f_X4_nothingDue
        refine ok_bind (open_ok hw.1 hC.1) (fun M1 ⟨h1', f1⟩ => ?_)
        rcases noDC (m := d) hw.1 hd b d 0 FU M1 (by omega) (FU_big (by omega)) h1' with g | g
        · refine g.mono (fun x M2 z => ?_)
          rw [e1] at z
          exact ⟨(Option.some.inj z.1).symm, (f1.q (by decide)).tr (z.2.q (by decide))⟩
        · rw [e1] at g; cases g
      · have es : sumN (chS B d) (bn B ^ d) = luk B d [] := by
          have := luk_sum (B := B) (by omega) d [] rfl
          simp only [List.nil_append] at this
          exact this
        rw [show f_X12_chance_b57 FU (nI d) b 1 0 MR = _ from chR_pw (v2 := b) hR.1 d 0 FU (by omega) (FU_big (by omega)) hd]
        refine ok_bind thinks_ok (fun M4 ht => ?_)
        have hb4 := TH.brd hw.1 hR.1 ht
        have hbn : brdM B d (wI M4 0 6 (nI d)) := by
          obtain ⟨h1, h2, h3, h4, h5, h6, h7, h8⟩ := hb4
          refine ⟨?_, ?_, ?_, ?_, fun j hj => ?_, fun j hj => ?_, fun j hj => ?_⟩
          · rw [wI_at, if_neg (by omega)]; exact h1
          · rw [wI_at, if_pos ⟨rfl, rfl⟩]
          · rw [wI_at, if_neg (by omega)]; exact h3
          · rw [wI_at, if_neg (by omega)]; exact h4
          · rw [wI_other (by decide)]; exact h5 j hj
          · rw [wI_other (by decide)]; exact h6 j hj
          · rw [wI_other (by decide)]; exact h7 j hj
        exact (chRo (MR := MR) (r := r) hw.1 (by omega) hd ht b (by rw [es]; exact e2) (bn B ^ d) 0 FU (wI M4 0 6 (nI d)) (by omega) (FU_big (by omega)) hbn (mR.wI (Or.inl ⟨rfl, by decide, by decide, by decide, by decide⟩))).mono (fun v M2 z => z)
  rcases either b with ⟨e1, e2⟩ | ⟨e1, e2, e3⟩ | ⟨e1, e2, e3⟩
  · rw [e1, e2, if_pos p00, if_pos p00, if_neg (show ¬ (-2 : Int32) = 0 by decide)]; exact Sim.noL h 2 (by decide) _ (by decide)
  · rw [e1, e2, if_neg n10, if_neg n10]; exact go (Or.inl e3)
  · rw [e1, e2, if_neg n10, if_neg n10]; exact go (Or.inr e3)
