/-! pair, streak -/
theorem ams_in {α : Type} {g : α → Nat} {T : Nat} {P : α → Prop} {acc : Option α} {y : α} (ha : ∀ x, acc = some x → P x) (hy : P y) : ∀ x, ams g T acc y = some x → P x := by
  intro x hx
  cases acc with
  | none =>
    unfold ams at hx
    by_cases c : g y < T
    · simp only [if_pos c] at hx; cases hx; exact hy
    · simp only [if_neg c] at hx; cases hx
  | some b =>
    unfold ams at hx
    by_cases c : g y < g b
    · simp only [if_pos c] at hx; cases hx; exact hy
    · simp only [if_neg c] at hx; cases hx; exact ha _ rfl
theorem rowF_in {g : Nat × Nat → Nat} {T a n : Nat} (ha : a < n) : ∀ (k b : Nat) (acc : Option (Nat × Nat)), b + k ≤ n → (∀ x, acc = some x → x.1 < n ∧ x.2 < n) → ∀ x, rowF g T a acc b k = some x → x.1 < n ∧ x.2 < n := by
  intro k
  induction k with
  | zero => intro b acc _ h x hx; exact h x hx
  | succ k ih => intro b acc hb h x hx; exact ih (b + 1) _ (by omega) (ams_in h ⟨ha, show b < n by omega⟩) x hx
theorem prsF_in {g : Nat × Nat → Nat} {T n : Nat} : ∀ (k a : Nat) (acc : Option (Nat × Nat)), a + k = n → (∀ x, acc = some x → x.1 < n ∧ x.2 < n) → ∀ x, prsF g T n acc a k = some x → x.1 < n ∧ x.2 < n := by
  intro k
  induction k with
  | zero => intro a acc _ h x hx; exact h x hx
  | succ k ih => intro a acc hb h x hx; exact ih (a + 1) _ (by omega) (rowF_in (by omega) _ _ _ (by omega) h) x hx
def tB (B : Bd) (a b : Nat) : Nat := 1 + (sm B a b).toNat
def prS (B : Bd) (a b : Nat) : Nat → Nat
  | 0 => 0
  | i + 1 => prS B a b i + (due B a (tB B a b * i) + due B b (tB B a b * i + tB B a b - 1))
theorem tB_le (B : Bd) (a b : Nat) : 1 ≤ tB B a b ∧ tB B a b ≤ 2 := by
  unfold tB
  cases sm B a b <;> simp
theorem prS_le {B : Bd} (hw : wfB B) (a b : Nat) : ∀ i, i ≤ 6 → prS B a b i ≤ i * 1000 := by
  intro i
  induction i with
  | zero => intro _; exact Nat.le_refl _
  | succ i ih =>
    intro hi
    have h1 := ih (by omega)
    have ht := tB_le B a b
    have h2 : tB B a b * i ≤ 2 * 6 := Nat.mul_le_mul ht.2 (by omega)
    have h3 := due_le hw a (r := tB B a b * i)
    have h4 := due_le hw b (r := tB B a b * i + tB B a b - 1)
    show prS B a b i + _ ≤ _
    omega
theorem turnsC {B : Bd} {a b v : Nat} (hw : wfB B) (ha : a < bn B) (hb' : b < bn B) (hv : v ≤ 6) : ∀ (k i fuel : Nat) (pre : List Nat) (M : Mem), i + k = v → k < fuel → pre.length = 2 * i → cnt B pre a = tB B a b * i → cnt B pre b = tB B a b * i → RK B B.1.1 B.1.2 pre M →
    ok2 (f_X6_totalByTurns_b13 fuel (nI a) (nI b) (nI v) (nI (prS B a b i)) (nI i) M) (fun x M' => x = nI (prS B a b v) ∧ brdC 1 B M' ∧ RA B M' ∧ fr [27] M M') := by
  intro k
  induction k with
  | zero =>
    intro i fuel pre M hi hf hp h1 h2 h
    obtain ⟨f, rfl⟩ : ∃ f, fuel = f + 1 := ⟨fuel - 1, by omega⟩
    obtain rfl : i = v := by omega
    refine ok2_mk ?_
    unfold f_X6_totalByTurns_b13
    exact ok_pos (nI_le (by omega) (by omega)) (ok_some ⟨rfl, h.1, h.2.1, fr.rf⟩)
  | succ k ih =>
    intro i fuel pre M hi hf hp h1 h2 h
    obtain ⟨f, rfl⟩ : ∃ f, fuel = f + 1 := ⟨fuel - 1, by omega⟩
    refine ok2_mk ?_
    unfold f_X6_totalByTurns_b13
    refine ok_neg (nI_ge (by omega) (by omega)) ?_
    refine ok_bp (step_ok hw h ha (by omega)) (fun w M1 ⟨q1, q2, q3⟩ => ?_)
    refine ok_bp (step_ok hw q2 hb' (by simp; omega)) (fun w2 M2 ⟨r1, r2, r3⟩ => ?_)
    have q1 : w = nI (due B a (cnt B pre a)) := q1
    have r1 : w2 = nI (due B b (cnt B (pre ++ [a]) b)) := r1
    have e1 : cnt B (pre ++ [a]) b = tB B a b * i + tB B a b - 1 := by
      rw [cnt_snoc, h2]; unfold tB; omega
    have e2 : cnt B (pre ++ [a] ++ [b]) a = tB B a b * (i + 1) := by
      rw [cnt_snoc, cnt_snoc, h1, sm_self, sm_symm B b a, Nat.mul_succ]
      show tB B a b * i + 1 + (sm B a b).toNat = tB B a b * i + tB B a b
      have : tB B a b = 1 + (sm B a b).toNat := rfl
      omega
    have e3 : cnt B (pre ++ [a] ++ [b]) b = tB B a b * (i + 1) := by
      rw [cnt_snoc, e1, sm_self, Nat.mul_succ]
      have := tB_le B a b
      show tB B a b * i + tB B a b - 1 + 1 = tB B a b * i + tB B a b
      omega
    rw [q1, r1, h1, e1, nI_add, nI_add, nI_1, Nat.add_assoc]
    exact (ih (i + 1) f (pre ++ [a] ++ [b]) M2 (by omega) (by omega) (by simp; omega) e2 e3 r2).mono (fun x M' z => ⟨z.1, z.2.1, z.2.2.1, (q3.tr r3).tr z.2.2.2⟩)
theorem pairR_lp {B : Bd} {M : Mem} {a b v : Nat} (hw : wfB B) (hb : brdR B M) (ha : a < bn B) (hb' : b < bn B) (hv : v ≤ 6) : ∀ (k i fuel : Nat), i + k = v → k < fuel →
    f_X12_dueOfPair_b22 M fuel (nI a) (nI b) (nI v) (nI (tB B a b)) (nI (prS B a b i)) (nI i) = some (nI (prS B a b v)) := by
  intro k
  induction k with
  | zero =>
    intro i fuel hi hf
    obtain ⟨f, rfl⟩ : ∃ f, fuel = f + 1 := ⟨fuel - 1, by omega⟩
    obtain rfl : i = v := by omega
    unfold f_X12_dueOfPair_b22
    rw [if_pos (nI_le (by omega) (by omega))]
  | succ k ih =>
    intro i fuel hi hf
    obtain ⟨f, rfl⟩ : ∃ f, fuel = f + 1 := ⟨fuel - 1, by omega⟩
    have ht := tB_le B a b
    have h2 : tB B a b * i ≤ 2 * 6 := Nat.mul_le_mul ht.2 (by omega)
    unfold f_X12_dueOfPair_b22
    rw [if_neg (nI_ge (by omega) (by omega)), pk_mul, dueOfR hb hw ha (by omega), Option.bind_some, nI_add, show nI (tB B a b * i + tB B a b) - 1 = nI (tB B a b * i + tB B a b - 1) from sub_one_nI (k := 1) (by omega), dueOfR hb hw hb' (by omega), Option.bind_some, nI_add, nI_add, nI_1]
    exact ih (i + 1) f (by omega) (by omega)
theorem pairR1 {B : Bd} {M : Mem} {a b v : Nat} (hw : wfB B) (hb : brdR B M) (ha : a < bn B) (hb' : b < bn B) (hv : v ≤ 6) : f_X12_dueOfPair (nI a) (nI b) (nI v) M = some (nI (prS B a b v)) := by
  unfold f_X12_dueOfPair
  rw [areSameR hb hw ha hb', Option.bind_some]
  have e : (if bI (sm B a b) = 0 then (1 : Int32) else 2) = nI (tB B a b) := by
    unfold tB
    cases sm B a b <;> rfl
  rw [e]
  exact pairR_lp hw hb ha hb' hv v 0 FU (by omega) (FU_big (by omega))
def gPr (B : Bd) (v : Nat) (x : Nat × Nat) : Nat := prS B x.1 x.2 v
theorem gPr_lt {B : Bd} (hw : wfB B) {v : Nat} (hv : v ≤ 6) (x : Nat × Nat) : gPr B v x < 10000 := by have := prS_le hw x.1 x.2 v hv; unfold gPr; omega
def prA (B : Bd) (v : Nat) (v2 : Int32) : Int32 := if v2 = 0 then oP 10 (prsF (gPr B v) 2147483647 (bn B) none 0 (bn B)) else oX (-9) (gPr B v) (prsF (gPr B v) 2147483647 (bn B) none 0 (bn B))
theorem prC_in {B : Bd} {a v : Nat} (hw : wfB B) (hv : v ≤ 6) (ha : a < bn B) (v2 : Int32) (kont : Int32 → Int32 → Int32 → Int32 → Int32 → Mem → Option (Int32 × Mem)) (Q : Int32 × Mem → Prop) (acc' : Option (Nat × Nat)) :
    ∀ (k b fuel : Nat) (acc : Option (Nat × Nat)) (M : Mem), b + k = bn B → k < fuel → brdC 1 B M → RA B M → rowF (gPr B v) 2147483647 a acc b k = acc' →
    (∀ M', brdC 1 B M' → RA B M' → fr [27] M M' → ok (kont (nI v) v2 (oP 10 acc') (nI (oVp (gPr B v) 2147483647 acc')) (nI (a + 1)) M') Q) →
    ok (f_X6_cheapestTwo_b35 kont fuel (nI v) v2 (oP 10 acc) (nI (oVp (gPr B v) 2147483647 acc)) (nI a) (nI b) M) Q := by
  have hn := hw.2.2.1
  intro k
  induction k with
  | zero =>
    intro b fuel acc M hi hf hb hA he hk
    obtain ⟨f, rfl⟩ : ∃ f, fuel = f + 1 := ⟨fuel - 1, by omega⟩
    unfold f_X6_cheapestTwo_b35
    rw [hb.1, nI_1]
    refine ok_pos (nI_le (by omega) (by omega)) ?_
    cases he
    exact hk M hb hA fr.rf
  | succ k ih =>
    intro b fuel acc M hi hf hb hA he hk
    obtain ⟨f, rfl⟩ : ∃ f, fuel = f + 1 := ⟨fuel - 1, by omega⟩
    have hvv : oVp (gPr B v) 2147483647 acc < 2 ^ 31 := oVp_lt (by decide) (fun x => by have := gPr_lt hw hv x; omega) acc
    have hg := gPr_lt hw hv (a, b)
    unfold f_X6_cheapestTwo_b35 f_X6_totalByTurns
    rw [hb.1]
    refine ok_neg (nI_ge (by omega) (by omega)) ?_
    refine ok_bp (P := fun w M' => w = nI (gPr B v (a, b)) ∧ brdC 1 B M' ∧ RA B M' ∧ fr [27] M M') (ok2_mk ?_) (fun w M' ⟨q1, q2, q3, q4⟩ => ?_)
    · refine ok_bind (forget_RK (ty := B.1.1) (te := B.1.2) hw hb hA) (fun M1 ⟨h1, f1⟩ => ?_)
      exact (turnsC hw ha (by omega) hv v 0 FU [] M1 (by omega) (FU_big (by omega)) rfl rfl rfl h1).mono (fun x M' z => ⟨z.1, z.2.1, z.2.2.1, f1.tr z.2.2.2⟩)
    rw [q1, nI_1, l_10, pk_mul, nI_add]
    have he2 : rowF (gPr B v) 2147483647 a (ams (gPr B v) 2147483647 acc (a, b)) (b + 1) k = acc' := he
    rw [amsP] at he2
    by_cases c : gPr B v (a, b) < oVp (gPr B v) 2147483647 acc
    · rw [if_pos c] at he2
      refine ok_neg (nI_ge c hvv) ?_
      exact ih (b + 1) f (some (a, b)) M' (by omega) (by omega) q2 q3 he2 (fun M2 g1 g2 g3 => hk M2 g1 g2 (q4.tr g3))
    · rw [if_neg c] at he2
      refine ok_pos ((nI_leI hvv (by omega)).mpr (by omega)) ?_
      exact ih (b + 1) f acc M' (by omega) (by omega) q2 q3 he2 (fun M2 g1 g2 g3 => hk M2 g1 g2 (q4.tr g3))
theorem prC {B : Bd} {v : Nat} (hw : wfB B) (hv : v ≤ 6) (v2 : Int32) : ∀ (k a fuel : Nat) (acc : Option (Nat × Nat)) (M : Mem), a + k = bn B → k < fuel → brdC 1 B M → RA B M → prsF (gPr B v) 2147483647 (bn B) acc a k = prsF (gPr B v) 2147483647 (bn B) none 0 (bn B) →
    ok2 (f_X6_cheapestTwo_b17 fuel (nI v) v2 (oP 10 acc) (nI (oVp (gPr B v) 2147483647 acc)) (nI a) M) (fun x M' => x = prA B v v2 ∧ fr [27] M M') := by
  have hn := hw.2.2.1
  intro k
  induction k with
  | zero =>
    intro a fuel acc M hi hf hb hA he
    obtain ⟨f, rfl⟩ : ∃ f, fuel = f + 1 := ⟨fuel - 1, by omega⟩
    refine ok2_mk ?_
    unfold f_X6_cheapestTwo_b17 prA
    rw [hb.1, ← he]
    refine ok_pos (nI_le (by omega) (by omega)) ?_
    rw [show prsF (gPr B v) 2147483647 (bn B) acc a 0 = acc from rfl]
    by_cases c : v2 = 0
    · rw [if_pos c, if_pos c]; exact ok_some ⟨rfl, fr.rf⟩
    · rw [if_neg c, if_neg c]
      cases acc with
      | none => rw [if_pos (show oP 10 (none : Option (Nat × Nat)) = -9 from rfl)]; exact ok_some ⟨rfl, fr.rf⟩
      | some x =>
        have hx := prsF_in (g := gPr B v) (T := 2147483647) (n := bn B) (bn B) 0 none (by omega) (fun x q => by cases q) x he.symm
        rw [if_neg (show ¬ oP 10 (some x) = -9 from nI_ne_m9 (n := 10 * x.1 + x.2) (by omega))]
        exact ok_some ⟨rfl, fr.rf⟩
  | succ k ih =>
    intro a fuel acc M hi hf hb hA he
    obtain ⟨f, rfl⟩ : ∃ f, fuel = f + 1 := ⟨fuel - 1, by omega⟩
    refine ok2_mk ?_
    unfold f_X6_cheapestTwo_b17
    rw [hb.1, nI_1]
    refine ok_neg (nI_ge (by omega) (by omega)) ?_
    exact prC_in hw hv (by omega) v2 _ _ (rowF (gPr B v) 2147483647 a acc (a + 1) (bn B - (a + 1))) (bn B - (a + 1)) (a + 1) FU acc M (by omega) (FU_big (by omega)) hb hA rfl (fun M' g1 g2 g3 => (ih (a + 1) f _ M' (by omega) (by omega) g1 g2 he).mono (fun x M2 z => ⟨z.1, g3.tr z.2⟩))
theorem prR_in {B : Bd} {M : Mem} {a v : Nat} (hw : wfB B) (hb : brdR B M) (hv : v ≤ 6) (ha : a < bn B) (v2 : Int32) (kont : Int32 → Int32 → Int32 → Int32 → Int32 → Mem → Option (Int32 × Mem)) (acc' : Option (Nat × Nat)) :
    ∀ (k b fuel : Nat) (acc : Option (Nat × Nat)), b + k = bn B → k < fuel → (∀ x, acc = some x → x.1 < bn B ∧ x.2 < bn B) → rowF (gPr B v) 2147483647 a acc b k = acc' →
    f_X12_pair_b60 kont fuel (nI v) v2 (oP 10 acc) (oX (-9) (gPr B v) acc) (nI a) (nI b) M = kont (nI v) v2 (oP 10 acc') (oX (-9) (gPr B v) acc') (nI (a + 1)) M := by
  have hn := hw.2.2.1
  intro k
  induction k with
  | zero =>
    intro b fuel acc hi hf hin he
    obtain ⟨f, rfl⟩ : ∃ f, fuel = f + 1 := ⟨fuel - 1, by omega⟩
    unfold f_X12_pair_b60
    rw [hb.1, if_pos (nI_le (by omega) (by omega)), nI_1]
    cases he
    rfl
  | succ k ih =>
    intro b fuel acc hi hf hin he
    obtain ⟨f, rfl⟩ : ∃ f, fuel = f + 1 := ⟨fuel - 1, by omega⟩
    have hg := gPr_lt hw hv (a, b)
    unfold f_X12_pair_b60
    rw [hb.1, if_neg (nI_ge (by omega) (by omega)), pairR1 hw hb ha (by omega) hv, Option.bind_some, nI_1, l_10, pk_mul, nI_add]
    have he2 : rowF (gPr B v) 2147483647 a (ams (gPr B v) 2147483647 acc (a, b)) (b + 1) k = acc' := he
    rw [amsP] at he2
    cases acc with
    | none =>
      rw [if_pos (show oP 10 (none : Option (Nat × Nat)) < 0 by decide)]
      rw [if_pos (show gPr B v (a, b) < oVp (gPr B v) 2147483647 none from (show gPr B v (a, b) < 2147483647 by omega))] at he2
      exact ih (b + 1) f (some (a, b)) (by omega) (by omega) (fun x q => by cases q; exact ⟨ha, show b < bn B by omega⟩) he2
    | some x =>
      have hx := hin x rfl
      have hgx := gPr_lt hw hv x
      rw [if_neg (show ¬ oP 10 (some x) < 0 from nI_pos (n := 10 * x.1 + x.2) (by omega))]
      show (if nI (gPr B v (a, b)) < nI (gPr B v x) then _ else _) = _
      by_cases c : gPr B v (a, b) < gPr B v x
      · rw [if_pos (show gPr B v (a, b) < oVp (gPr B v) 2147483647 (some x) from c)] at he2
        rw [if_pos ((nI_ltI (by omega) (by omega)).mpr c)]
        exact ih (b + 1) f (some (a, b)) (by omega) (by omega) (fun x q => by cases q; exact ⟨ha, show b < bn B by omega⟩) he2
      · rw [if_neg (show ¬ gPr B v (a, b) < oVp (gPr B v) 2147483647 (some x) from c)] at he2
        rw [if_neg (fun q => c ((nI_ltI (by omega) (by omega)).mp q))]
        exact ih (b + 1) f (some x) (by omega) (by omega) hin he2
theorem prR {B : Bd} {M : Mem} {v : Nat} (hw : wfB B) (hb : brdR B M) (hv : v ≤ 6) (v2 : Int32) : ∀ (k a fuel : Nat) (acc : Option (Nat × Nat)), a + k = bn B → k < fuel → (∀ x, acc = some x → x.1 < bn B ∧ x.2 < bn B) → prsF (gPr B v) 2147483647 (bn B) acc a k = prsF (gPr B v) 2147483647 (bn B) none 0 (bn B) →
    f_X12_pair_b45 fuel (nI v) v2 (oP 10 acc) (oX (-9) (gPr B v) acc) (nI a) M = some (prA B v v2, M) := by
  have hn := hw.2.2.1
  intro k
  induction k with
  | zero =>
    intro a fuel acc hi hf hin he
    obtain ⟨f, rfl⟩ : ∃ f, fuel = f + 1 := ⟨fuel - 1, by omega⟩
    unfold f_X12_pair_b45 prA
    rw [hb.1, if_pos (nI_le (by omega) (by omega)), ← he]
    show (if v2 = 0 then _ else _) = some (if v2 = 0 then oP 10 acc else oX (-9) (gPr B v) acc, M)
    by_cases c : v2 = 0
    · rw [if_pos c, if_pos c]
    · rw [if_neg c, if_neg c]
  | succ k ih =>
    intro a fuel acc hi hf hin he
    obtain ⟨f, rfl⟩ : ∃ f, fuel = f + 1 := ⟨fuel - 1, by omega⟩
    unfold f_X12_pair_b45
    rw [hb.1, if_neg (nI_ge (by omega) (by omega)), nI_1]
    rw [prR_in hw hb hv (by omega) v2 _ (rowF (gPr B v) 2147483647 a acc (a + 1) (bn B - (a + 1))) (bn B - (a + 1)) (a + 1) FU acc (by omega) (FU_big (by omega)) hin rfl]
    exact ih (a + 1) f _ (by omega) (by omega) (rowF_in (by omega) _ _ _ (by omega) hin) he
theorem sim_pair {MC MR : Mem} (h : Inv MC MR) (a b : Int32) : Sim (f_X11_pair a b MC) (f_X12_pair a b MR) := by
  obtain ⟨B, im, S, lt, rw', hw, hC, hR, hf⟩ := id h
  have hn := hw.1.2.2.1
  unfold f_X11_pair f_X12_pair f_X12_pair_b24
  simp only [bind_bp]
  rcases boundR a 6 (by decide) with ⟨h0, e⟩ | ⟨m, hm', hm, rfl, e⟩ | ⟨m, hm, rfl, e⟩
  · rw [show f_X12_bound a 0 6 = -4 from e, if_neg (show ¬ 0 ≤ a from i_neg_nle h0 (n := 0) (by decide)), if_neg (show ¬ (-4 : Int32) = 0 by decide), if_neg (show ¬ (-4 : Int32) = 0 by decide)]; exact Sim.no4 h
  · rw [show f_X12_bound (nI m) 0 6 = -6 from e, if_pos (nI_pos' hm'), if_neg (show ¬ nI m ≤ 6 from nI_ge (a := 6) hm hm'), if_neg (show ¬ (-6 : Int32) = 0 by decide), if_neg (show ¬ (-6 : Int32) = 0 by decide)]; exact Sim.no6 h
  rw [show f_X12_bound (nI m) 0 6 = 0 from e, if_pos (nI_pos' (by omega)), if_pos (show nI m ≤ 6 from nI_le (b := 6) hm (by decide)), if_pos p00, if_pos p00]
  have go : Sim (f_X6_cheapestTwo (nI m) b MC) (f_X12_pair_b45 FU (nI m) b (-9) (-9) 0 MR) := by
    have e2 : f_X12_pair_b45 FU (nI m) b (-9) (-9) 0 MR = some (prA B m b, MR) := prR hw.1 hR.1 hm b (bn B) 0 FU none (by omega) (FU_big (by omega)) (fun x q => by cases q) rfl
    rw [e2]
    refine Sim.q h (prA B m b) (ok2_mk ?_) ⟨_, _, rfl, rfl, agR.rf⟩
    unfold f_X6_cheapestTwo
    refine ok_bind (open_ok hw.1 hC.1) (fun M1 ⟨h1, f1⟩ => ?_)
    exact (prC hw.1 hm b (bn B) 0 FU none M1 (by omega) (FU_big (by omega)) h1.1 h1.2.1 rfl).mono (fun x M' z => ⟨z.1, (f1.q (by decide)).tr (z.2.q (by decide))⟩)
  rcases either b with ⟨e1, e2⟩ | ⟨e1, e2, -⟩ | ⟨e1, e2, -⟩
  · rw [e1, e2, if_pos p00, if_pos p00, if_neg (show ¬ (-2 : Int32) = 0 by decide)]; exact Sim.no2 h
  · rw [e1, e2, if_neg n10, if_neg n10]; exact go
  · rw [e1, e2, if_neg n10, if_neg n10]; exact go
/-! streak -/
def stkR (B : Bd) : Nat → Nat
  | 0 => 0
  | i + 1 => if i = 0 then 1 else if sm B (lgA B (i - 1)) (lgA B i) = true then stkR B i + 1 else 1
def stkM (B : Bd) : Nat → Nat
  | 0 => 0
  | i + 1 => max (stkM B i) (stkR B (i + 1))
theorem stkR_le (B : Bd) : ∀ i, stkR B i ≤ i := by
  intro i
  induction i with
  | zero => exact Nat.le_refl _
  | succ i ih =>
    show (if i = 0 then 1 else if sm B (lgA B (i - 1)) (lgA B i) = true then stkR B i + 1 else 1) ≤ _
    split
    · omega
    · split <;> omega
theorem stkM_le (B : Bd) : ∀ i, stkM B i ≤ i := by
  intro i
  induction i with
  | zero => exact Nat.le_refl _
  | succ i ih =>
    have := stkR_le B (i + 1)
    exact Nat.max_le.mpr ⟨by omega, this⟩
theorem alikeC {B : Bd} {M : Mem} {p q : Nat} (hw : wfB B) (hb : brdC 1 B M) (hA : RA B M) (hp : p < bpl B) (hq : q < bpl B) : f_X3_areAlikePlaces (nI p) (nI q) M = some (bI (sm B (lgA B p) (lgA B q))) := by
  have h12 := hw.2.2.2.1
  have hn := hw.2.2.1
  have l1 := lgA_in hw hp
  have l2 := lgA_in hw hq
  have ha := aM_lt hw (lgA B p)
  unfold f_X3_areAlikePlaces
  rw [ldI_n (by omega) (by decide), show M.1 5 p = nI (lgA B p) from hb.2.2.2.2.2.2.2 p hp, Option.bind_some, ldA hw hA l1, Option.bind_some, ldI_n (by omega) (by decide), show M.1 5 q = nI (lgA B q) from hb.2.2.2.2.2.2.2 q hq, Option.bind_some]
  have e := aM_tb B (lgA B p) (lgA B q)
  rw [decide_eq_true l2, Bool.true_and] at e
  cases z : sm B (lgA B p) (lgA B q) with
  | false => rw [z] at e; rw [if_pos ((bit_0 (by omega) (by omega)).mpr e)]; rfl
  | true => rw [z] at e; rw [if_neg (fun y => by rw [bit_0 (by omega) (by omega), e] at y; cases y)]; rfl
theorem stkC {B : Bd} {M : Mem} (hw : wfB B) (hb : brdC 1 B M) (hA : RA B M) : ∀ (k i fuel : Nat), i + k = bpl B → k < fuel → f_X3_longestStreak_b13 fuel (nI (stkM B i)) (nI (stkR B i)) (nI i) M = some (nI (stkM B (bpl B)), M) := by
  have h12 := hw.2.2.2.1
  intro k
  induction k with
  | zero =>
    intro i fuel hi hf
    obtain ⟨f, rfl⟩ : ∃ f, fuel = f + 1 := ⟨fuel - 1, by omega⟩
    obtain rfl : i = bpl B := by omega
    unfold f_X3_longestStreak_b13
    rw [hb.2.1, if_pos (nI_le (by omega) (by omega))]
  | succ k ih =>
    intro i fuel hi hf
    obtain ⟨f, rfl⟩ : ∃ f, fuel = f + 1 := ⟨fuel - 1, by omega⟩
    have m1 := stkM_le B i
    have m2 := stkR_le B i
    have m3 := stkR_le B (i + 1)
    have st : stkR B (i + 1) = if i = 0 then 1 else if sm B (lgA B (i - 1)) (lgA B i) = true then stkR B i + 1 else 1 := rfl
    have fin : ∀ s0 : Int32, (if s0 = 0 then (1 : Int32) else nI (stkR B i) + 1) = nI (stkR B (i + 1)) → f_X3_longestStreak_b44 (f_X3_longestStreak_b13 f) (nI (stkM B i)) (nI (stkR B i)) (nI i) s0 M = some (nI (stkM B (bpl B)), M) := by
      intro s0 e
      unfold f_X3_longestStreak_b44
      rw [e, mxI_n (by omega) (by omega), nI_1]
      exact ih (i + 1) f (by omega) (by omega)
    unfold f_X3_longestStreak_b13 f_X3_longestStreak_b43
    rw [hb.2.1, if_neg (nI_ge (by omega) (by omega))]
    by_cases c : i = 0
    · subst c
      rw [if_pos (show nI 0 ≤ 0 by decide)]
      exact fin 0 rfl
    · rw [if_neg (show ¬ nI i ≤ 0 from fun q => absurd ((nI_leI (b := 0) (by omega) (by decide)).mp q) (by omega)), show nI i - 1 = nI (i - 1) from sub_one_nI (k := 1) (by omega), alikeC hw hb hA (by omega) (by omega), Option.bind_some]
      refine fin _ ?_
      rw [st, if_neg c]
      cases q : sm B (lgA B (i - 1)) (lgA B i)
      · rw [if_pos (show bI false = 0 from rfl), if_pos (show (0 : Int32) = 0 from rfl), if_neg (by decide)]; rfl
      · rw [if_neg (show ¬ bI true = 0 from n10), if_neg n10, if_pos rfl]; exact nI_1 _
theorem stkRR {B : Bd} {M : Mem} (hw : wfB B) (hb : brdR B M) : ∀ (k i fuel : Nat), i + k = bpl B → k < fuel → f_X12_streak_b6 M fuel (nI (stkM B i)) (nI (stkR B i)) (nI i) = some (nI (stkM B (bpl B))) := by
  have h12 := hw.2.2.2.1
  intro k
  induction k with
  | zero =>
    intro i fuel hi hf
    obtain ⟨f, rfl⟩ : ∃ f, fuel = f + 1 := ⟨fuel - 1, by omega⟩
    obtain rfl : i = bpl B := by omega
    unfold f_X12_streak_b6
    rw [hb.2.1, if_pos (nI_le (by omega) (by omega))]
  | succ k ih =>
    intro i fuel hi hf
    obtain ⟨f, rfl⟩ : ∃ f, fuel = f + 1 := ⟨fuel - 1, by omega⟩
    have m1 := stkM_le B i
    have m2 := stkR_le B i
    have m3 := stkR_le B (i + 1)
    have st : stkR B (i + 1) = if i = 0 then 1 else if sm B (lgA B (i - 1)) (lgA B i) = true then stkR B i + 1 else 1 := rfl
    have fin : ∀ s0 : Int32, s0 = nI (stkR B (i + 1)) → f_X12_streak_b46 M (f_X12_streak_b6 M f) (nI (stkM B i)) (nI i) s0 = some (nI (stkM B (bpl B))) := by
      intro s0 e
      unfold f_X12_streak_b46
      rw [e, nI_1]
      have e2 : (if nI (stkR B (i + 1)) ≤ nI (stkM B i) then nI (stkM B i) else nI (stkR B (i + 1))) = nI (stkM B (i + 1)) := by
        show _ = nI (max (stkM B i) (stkR B (i + 1)))
        by_cases c : stkR B (i + 1) ≤ stkM B i
        · rw [if_pos (nI_le c (by omega)), Nat.max_eq_left c]
        · rw [if_neg (nI_ge (by omega) (by omega)), Nat.max_eq_right (by omega)]
      rw [e2]
      exact ih (i + 1) f (by omega) (by omega)
    unfold f_X12_streak_b6 f_X12_streak_b45
    rw [hb.2.1, if_neg (nI_ge (by omega) (by omega))]
    by_cases c : i = 0
    · subst c
      rw [if_pos (show nI 0 ≤ 0 by decide)]
      exact fin 1 rfl
    · rw [if_neg (show ¬ nI i ≤ 0 from fun q => absurd ((nI_leI (b := 0) (by omega) (by decide)).mp q) (by omega)), show nI i - 1 = nI (i - 1) from sub_one_nI (k := 1) (by omega), ldI_n (by omega) (by decide), hb.2.2.2.2.2.2.2 _ (by omega), Option.bind_some, ldI_n (by omega) (by decide), hb.2.2.2.2.2.2.2 _ (by omega), Option.bind_some, areSameR hb hw (lgA_in hw (by omega)) (lgA_in hw (by omega)), Option.bind_some]
      refine fin _ ?_
      rw [st, if_neg c]
      cases q : sm B (lgA B (i - 1)) (lgA B i)
      · rw [if_pos (show bI false = 0 from rfl), if_neg (by decide)]; rfl
      · rw [if_neg (show ¬ bI true = 0 from n10), if_pos rfl]; exact nI_1 _
theorem sim_streak {MC MR : Mem} (h : Inv MC MR) : Sim (f_X11_streak MC) ((f_X12_streak MR).map (·, MR)) := by
  obtain ⟨B, im, S, lt, rw', hw, hC, hR, hf⟩ := id h
  have h12 := hw.1.2.2.2.1
  unfold f_X11_streak
  rw [bind_bp, show f_X12_streak MR = some (nI (stkM B (bpl B))) from stkRR hw.1 hR.1 (bpl B) 0 FU (by omega) (FU_big (by omega))]
  refine Sim.q h (nI (stkM B (bpl B))) (ok2_mk ?_) ⟨_, _, rfl, rfl, agR.rf⟩
  unfold f_X3_longestStreak
  refine ok_bind (open_ok hw.1 hC.1) (fun M1 ⟨h1, f1⟩ => ?_)
  exact ok_eq (stkC hw.1 h1.1 h1.2.1 (bpl B) 0 FU (by omega) (FU_big (by omega))) ⟨rfl, f1.q (by decide)⟩
