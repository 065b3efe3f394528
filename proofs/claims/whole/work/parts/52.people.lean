/-! people, inspectors -/
def anot (a b : Nat) : Nat := a &&& (b ^^^ 4294967295)
theorem anot_tb (a b i : Nat) (hi : i < 32) : (anot a b).testBit i = (a.testBit i && !b.testBit i) := by
  unfold anot
  rw [Nat.testBit_and, Nat.testBit_xor, show (4294967295 : Nat) = 2 ^ 32 - 1 from rfl, Nat.testBit_two_pow_sub_one, decide_eq_true hi, Bool.xor_true]
theorem anot_le (a b : Nat) : anot a b ≤ a := Nat.and_le_left
theorem anot_lt {v x : Nat} (hv : v < 256) (hx : 0 < x) (h : x &&& v = x) : anot v x < v := by
  rcases Nat.lt_or_ge (anot v x) v with c | c
  · exact c
  · exfalso
    have e : anot v x = v := Nat.le_antisymm (anot_le v x) c
    have hxv : x ≤ v := by rw [← h]; exact Nat.and_le_right
    have : x = 0 := by
      apply Nat.eq_of_testBit_eq
      intro i
      rw [Nat.zero_testBit]
      cases q : x.testBit i
      · rfl
      · exfalso
        have hi : i < 8 := tb_lt (n := 8) (by omega) q
        have q2 : v.testBit i = true := by
          have := congrArg (fun z => z.testBit i) h
          simp only [Nat.testBit_and] at this
          rw [q, Bool.true_and] at this
          exact this
        have q3 := anot_tb v x i (by omega)
        rw [e, q2, q] at q3
        cases q3
    omega
theorem m1_n : (-1 : Int32) = nI 4294967295 := by decide
def fewS (T : Nat → Nat) (I : Nat → Bool) (v : Nat) : Nat → Nat → Nat → Nat
  | 0, acc, _ => acc
  | k + 1, acc, x => if x = 0 then acc else fewS T I v k (if I x = true then min acc (T (anot v x) + 1) else acc) ((x - 1) &&& v)
theorem fewS_le (T : Nat → Nat) (I : Nat → Bool) (v : Nat) : ∀ (k acc x : Nat), fewS T I v k acc x ≤ acc := by
  intro k
  induction k with
  | zero => intro acc x; exact Nat.le_refl _
  | succ k ih =>
    intro acc x
    show (if x = 0 then acc else fewS T I v k (if I x = true then min acc (T (anot v x) + 1) else acc) ((x - 1) &&& v)) ≤ acc
    split
    · exact Nat.le_refl _
    · refine Nat.le_trans (ih _ _) ?_
      split
      · exact Nat.min_le_left _ _
      · exact Nat.le_refl _
def ppT (I : Nat → Bool) : Nat → Nat → Nat
  | 0 => fun _ => 0
  | v + 1 => fun s => if s = v then (if v = 0 then 0 else fewS (ppT I v) I v v 8 v) else ppT I v s
theorem ppT_le (I : Nat → Bool) : ∀ v s, ppT I v s ≤ 8 := by
  intro v
  induction v with
  | zero => intro s; exact Nat.zero_le _
  | succ v ih =>
    intro s
    show (if s = v then (if v = 0 then 0 else fewS (ppT I v) I v v 8 v) else ppT I v s) ≤ 8
    split
    · split
      · exact Nat.zero_le _
      · exact fewS_le _ _ _ _ _ _
    · exact ih s
theorem fewC {M : Mem} {T : Nat → Nat} {I : Nat → Bool} {v : Nat} (hv : v < 256) (h38 : ∀ s, 1 ≤ s → s ≤ v → M.1 38 s = bI (I s)) (h37 : ∀ s, s < v → M.1 37 s = nI (T s)) (hT : ∀ s, T s ≤ 8) :
    ∀ (k x acc fuel : Nat), x ≤ k → k < fuel → x &&& v = x → acc ≤ 8 → f_X2_fewestFor_b5 M fuel (nI v) (nI acc) (nI x) = some (nI (fewS T I v k acc x)) := by
  intro k
  induction k with
  | zero =>
    intro x acc fuel hx hf hm ha
    obtain ⟨f, rfl⟩ : ∃ f, fuel = f + 1 := ⟨fuel - 1, by omega⟩
    obtain rfl : x = 0 := by omega
    unfold f_X2_fewestFor_b5
    rw [if_pos (show nI 0 ≤ 0 by decide)]
    rfl
  | succ k ih =>
    intro x acc fuel hx hf hm ha
    obtain ⟨f, rfl⟩ : ∃ f, fuel = f + 1 := ⟨fuel - 1, by omega⟩
    have hxv : x ≤ v := by rw [← hm]; exact Nat.and_le_right
    unfold f_X2_fewestFor_b5
    show _ = some (nI (if x = 0 then acc else fewS T I v k (if I x = true then min acc (T (anot v x) + 1) else acc) ((x - 1) &&& v)))
    by_cases c : x = 0
    · subst c
      rw [if_pos (show nI 0 ≤ 0 by decide), if_pos rfl]
    · have hx1 : (x - 1) &&& v ≤ x - 1 := Nat.and_le_left
      have hm1 : ((x - 1) &&& v) &&& v = (x - 1) &&& v := by rw [Nat.and_assoc, Nat.and_self]
      have ht := hT (anot v x)
      have hal := anot_lt hv (by omega) hm
      rw [if_neg (show ¬ nI x ≤ 0 from fun q => absurd ((nI_leI (b := 0) (by omega) (by decide)).mp q) (by omega)), if_neg c, ldI_n (by omega) (by decide), h38 x (by omega) hxv, Option.bind_some, show nI x - 1 = nI (x - 1) from sub_one_nI (k := 1) (by omega), fa_and]
      cases q : I x with
      | false =>
        rw [if_pos (show bI false = 0 from rfl), if_neg (by decide)]
        exact ih _ acc f (by omega) (by omega) hm1 ha
      | true =>
        rw [if_neg (show ¬ bI true = 0 from n10), if_pos rfl, m1_n, fa_xor, fa_and, show v &&& (x ^^^ 4294967295) = anot v x from rfl, ldI_n (by omega) (by decide), h37 _ hal, Option.bind_some, nI_1, mnI_n (by omega) (by omega)]
        exact ih _ _ f (by omega) (by omega) hm1 (by omega)
theorem stZ_n {M : Mem} {q n i : Nat} {b : Bool} (h : i < n) (hn : n < 2 ^ 31) : stZ M q n (nI i) (bI b) = some (wI M q i (bI b)) := by
  have hc := nI_clamp (n := i) (by omega)
  unfold stZ
  rw [hc, if_neg, if_pos (by cases b <;> decide)]
  intro q
  rcases q with q | q
  · exact nI_pos (by omega) q
  · omega
theorem pplC {B : Bd} (hw : wfB B) : ∀ (k v fuel : Nat) (M : Mem), v + k = 2 ^ bn B → k < fuel → 1 ≤ v → brdC 1 B M → RA B M → (∀ s, 1 ≤ s → s < v → M.1 38 s = bI (indB B s)) → (∀ s, s < v → M.1 37 s = nI (ppT (indB B) v s)) →
    ok2 (f_X2_fewestPeople_b16 fuel (nI v) M) (fun x M' => x = nI (ppT (indB B) (2 ^ bn B) (2 ^ bn B - 1)) ∧ fr [37, 38] M M') := by
  have hn := hw.2.2.1
  have h8 := p8 hn
  intro k
  induction k with
  | zero =>
    intro v fuel M hi hf h1 hb hA h38 h37
    obtain ⟨f, rfl⟩ : ∃ f, fuel = f + 1 := ⟨fuel - 1, by omega⟩
    obtain rfl : v = 2 ^ bn B := by omega
    refine ok2_mk ?_
    unfold f_X2_fewestPeople_b16 f_X2_sets
    rw [hb.1, jshl_1 (by omega), show nI (2 ^ bn B) - 1 = nI (2 ^ bn B - 1) from sub_one_nI (k := 1) (by omega)]
    refine ok_pos (nI_le (by omega) (by omega)) ?_
    refine ok_ld (by omega) (by decide) (h37 _ (by omega)) ?_
    exact ok_some ⟨rfl, fr.rf⟩
  | succ k ih =>
    intro v fuel M hi hf h1 hb hA h38 h37
    obtain ⟨f, rfl⟩ : ∃ f, fuel = f + 1 := ⟨fuel - 1, by omega⟩
    refine ok2_mk ?_
    unfold f_X2_fewestPeople_b16 f_X2_sets
    rw [hb.1, jshl_1 (by omega), apartC hw hb hA (by omega), Option.bind_some, stZ_n (by omega) (by decide), Option.bind_some]
    refine ok_neg (nI_ge (by omega) (by omega)) ?_
    have w38 : ∀ s, 1 ≤ s → s ≤ v → (wI M 38 v (bI (indB B v))).1 38 s = bI (indB B s) := by
      intro s z1 z2
      rw [wI_at]
      by_cases c : s = v
      · rw [if_pos ⟨rfl, c⟩, c]
      · rw [if_neg (by omega)]; exact h38 s z1 (by omega)
    have w37 : ∀ s, s < v → (wI M 38 v (bI (indB B v))).1 37 s = nI (ppT (indB B) v s) := fun s z => by rw [wI_other (by decide)]; exact h37 s z
    have e : f_X2_fewestFor (nI v) (wI M 38 v (bI (indB B v))) = some (nI (fewS (ppT (indB B) v) (indB B) v v 8 v)) :=
      fewC (by omega) w38 w37 (ppT_le _ _) v v 8 FU (Nat.le_refl _) (FU_big (by omega)) (Nat.and_self v) (Nat.le_refl _)
    rw [e, Option.bind_some, stI_n (by omega) (by decide), Option.bind_some, nI_1]
    have fr1 : fr [37, 38] M (wI (wI M 38 v (bI (indB B v))) 37 v (nI (fewS (ppT (indB B) v) (indB B) v v 8 v))) := (fr.wI (by simp)).tr (fr.wI (by simp))
    refine (ih (v + 1) f _ (by omega) (by omega) (by omega) (hb.fr fr1 (by decide)) (hA.fr (fr1 26 (by decide))) (fun s z1 z2 => ?_) (fun s z => ?_)).mono (fun x M' g => ⟨g.1, fr1.tr g.2⟩)
    · rw [wI_other (by decide)]; exact w38 s z1 (by omega)
    · show _ = nI (if s = v then (if v = 0 then 0 else fewS (ppT (indB B) v) (indB B) v v 8 v) else ppT (indB B) v s)
      rw [wI_at]
      by_cases c : s = v
      · rw [if_pos ⟨rfl, c⟩, if_pos c, if_neg (by omega)]
      · rw [if_neg (by omega), if_neg c]; exact w37 s (by omega)
theorem fewR {B : Bd} {T : Nat → Nat} {v : Nat} {M0 : Mem} (hw : wfB B) (hv : v < 2 ^ bn B) (hT : ∀ s, T s ≤ 8) (kont : Int32 → Mem → Option (Int32 × Mem)) (Q : Int32 × Mem → Prop) :
    ∀ (k x acc fuel : Nat) (M : Mem), x ≤ k → k < fuel → x &&& v = x → acc ≤ 8 → brdR B M → agR M0 M → M.1 12 v = nI acc → (∀ s, s < v → M.1 12 s = nI (T s)) →
    (∀ M', brdR B M' → agR M0 M' → M'.1 12 v = nI (fewS T (indB B) v k acc x) → (∀ s, s < v → M'.1 12 s = nI (T s)) → ok (kont (nI (v + 1)) M') Q) →
    ok (f_X12_people_b30 kont fuel (nI v) (nI x) M) Q := by
  have hn := hw.2.2.1
  have h8 := p8 hn
  intro k
  induction k with
  | zero =>
    intro x acc fuel M hx hf hm ha hb hA hv' hs hk
    obtain ⟨f, rfl⟩ : ∃ f, fuel = f + 1 := ⟨fuel - 1, by omega⟩
    obtain rfl : x = 0 := by omega
    unfold f_X12_people_b30
    rw [nI_1]
    exact ok_pos (show nI 0 ≤ 0 by decide) (hk M hb hA hv' hs)
  | succ k ih =>
    intro x acc fuel M hx hf hm ha hb hA hv' hs hk
    obtain ⟨f, rfl⟩ : ∃ f, fuel = f + 1 := ⟨fuel - 1, by omega⟩
    have hxv : x ≤ v := by rw [← hm]; exact Nat.and_le_right
    have sp : fewS T (indB B) v (k + 1) acc x = if x = 0 then acc else fewS T (indB B) v k (if indB B x = true then min acc (T (anot v x) + 1) else acc) ((x - 1) &&& v) := rfl
    rw [sp] at hk
    unfold f_X12_people_b30
    by_cases c : x = 0
    · subst c
      rw [nI_1]
      rw [if_pos rfl] at hk
      exact ok_pos (show nI 0 ≤ 0 by decide) (hk M hb hA hv' hs)
    · have hx1 : (x - 1) &&& v ≤ x - 1 := Nat.and_le_left
      have hm1 : ((x - 1) &&& v) &&& v = (x - 1) &&& v := by rw [Nat.and_assoc, Nat.and_self]
      have ht := hT (anot v x)
      have hal := anot_lt (by omega) (by omega) hm
      rw [if_neg c] at hk
      refine ok_neg (show ¬ nI x ≤ 0 from fun q => absurd ((nI_leI (b := 0) (by omega) (by decide)).mp q) (by omega)) ?_
      rw [unlkR hw hb (by omega), Option.bind_some, show nI x - 1 = nI (x - 1) from sub_one_nI (k := 1) (by omega), fa_and]
      cases q : indB B x with
      | false =>
        rw [q, if_neg (by decide)] at hk
        refine ok_pos (show bI false = 0 from rfl) ?_
        exact ih _ acc f M (by omega) (by omega) hm1 ha hb hA hv' hs hk
      | true =>
        rw [q, if_pos rfl] at hk
        refine ok_neg (show ¬ bI true = 0 from n10) ?_
        rw [m1_n, fa_xor, fa_and, show v &&& (x ^^^ 4294967295) = anot v x from rfl]
        refine ok_ld (by omega) (by decide) (hs _ hal) ?_
        refine ok_ld (by omega) (by decide) hv' ?_
        rw [nI_1]
        by_cases c2 : acc ≤ T (anot v x) + 1
        · rw [Nat.min_eq_left c2] at hk
          exact ok_pos (nI_le c2 (by omega)) (ih _ acc f M (by omega) (by omega) hm1 ha hb hA hv' hs hk)
        · rw [Nat.min_eq_right (by omega)] at hk
          refine ok_neg (nI_ge (by omega) (by omega)) ?_
          refine ok_ld (by omega) (by decide) (hs _ hal) ?_
          refine ok_st (by omega) (by decide) ?_
          have hag : agR M (wI M 12 v (nI (T (anot v x) + 1))) := ⟨fun i hi => by unfold bv; simp only [wI_at]; simp, fun k hk => by rw [wI_other (by decide)], fun r hr => wI_other (by omega), fun j hj => by rw [wI_other (by decide)]⟩
          rw [nI_1]
          exact ih _ _ f _ (by omega) (by omega) hm1 (by omega) (brdR_bv hw hb hag.1) (hA.tr hag) (by rw [wI_at, if_pos ⟨rfl, rfl⟩]) (fun s z => by rw [wI_at, if_neg (by omega)]; exact hs s z) hk
theorem pplR {B : Bd} {M0 : Mem} (hw : wfB B) : ∀ (k v fuel : Nat) (M : Mem), v + k = 2 ^ bn B → k < fuel → brdR B M → agR M0 M → (∀ s, s < v → M.1 12 s = nI (ppT (indB B) v s)) →
    ok2 (f_X12_people_b2 fuel (nI v) M) (fun x M' => x = nI (ppT (indB B) (2 ^ bn B) (2 ^ bn B - 1)) ∧ agR M0 M') := by
  have hn := hw.2.2.1
  have h8 := p8 hn
  have h1 : 1 ≤ 2 ^ bn B := Nat.one_le_two_pow
  intro k
  induction k with
  | zero =>
    intro v fuel M hi hf hb hA hs
    obtain ⟨f, rfl⟩ : ∃ f, fuel = f + 1 := ⟨fuel - 1, by omega⟩
    obtain rfl : v = 2 ^ bn B := by omega
    refine ok2_mk ?_
    unfold f_X12_people_b2
    rw [hb.1, jshl_1 (by omega), show nI (2 ^ bn B) - 1 = nI (2 ^ bn B - 1) from sub_one_nI (k := 1) (by omega)]
    refine ok_pos (nI_le (by omega) (by omega)) ?_
    refine ok_ld (by omega) (by decide) (hs _ (by omega)) ?_
    exact ok_some ⟨rfl, hA⟩
  | succ k ih =>
    intro v fuel M hi hf hb hA hs
    obtain ⟨f, rfl⟩ : ∃ f, fuel = f + 1 := ⟨fuel - 1, by omega⟩
    refine ok2_mk ?_
    unfold f_X12_people_b2
    rw [hb.1, jshl_1 (by omega)]
    refine ok_neg (nI_ge (by omega) (by omega)) ?_
    refine ok_st (by omega) (by decide) ?_
    have e0 : (if nI v = 0 then (0 : Int32) else 8) = nI (if v = 0 then 0 else 8) := by
      by_cases c : v = 0
      · subst c; rfl
      · rw [if_neg (show ¬ nI v = 0 from fun q => c (nI_e (b := 0) (by omega) (by decide) q)), if_neg c]; rfl
    rw [e0]
    have hag : ∀ x, agR M (wI M 12 v x) := fun x => ⟨fun i hi => by unfold bv; simp only [wI_at]; simp, fun k hk => by rw [wI_other (by decide)], fun r hr => wI_other (by omega), fun j hj => by rw [wI_other (by decide)]⟩
    refine fewR hw (by omega) (ppT_le (indB B) v) (f_X12_people_b2 f) _ v v (if v = 0 then 0 else 8) FU _ (Nat.le_refl _) (FU_big (by omega)) (Nat.and_self v) (by split <;> omega) (brdR_bv hw hb (hag _).1) (hA.tr (hag _)) (by rw [wI_at, if_pos ⟨rfl, rfl⟩]) (fun s z => by rw [wI_at, if_neg (by omega)]; exact hs s z) (fun M' g1 g2 g3 g4 => ?_)
    refine (ih (v + 1) f M' (by omega) (by omega) g1 g2 (fun s z => ?_)).mono (fun x M2 g => g)
    show _ = nI (if s = v then (if v = 0 then 0 else fewS (ppT (indB B) v) (indB B) v v 8 v) else ppT (indB B) v s)
    by_cases c : s = v
    · rw [c, g3, if_pos rfl]
      by_cases c2 : v = 0
      · subst c2; rfl
      · rw [if_neg c2, if_neg c2]
    · rw [if_neg c]; exact g4 s (by omega)
theorem sim_people {MC MR : Mem} (h : Inv MC MR) : Sim (f_X11_people MC) (f_X12_people MR) := by
  obtain ⟨B, im, S, lt, rw', hw, hC, hR, hf⟩ := id h
  have hn := hw.1.2.2.1
  have h8 := p8 hn
  have h1 : 1 ≤ 2 ^ bn B := Nat.one_le_two_pow
  unfold f_X11_people f_X12_people
  rw [bind_bp]
  refine Sim.q h (nI (ppT (indB B) (2 ^ bn B) (2 ^ bn B - 1))) (ok2_mk ?_) (pplR hw.1 (2 ^ bn B) 0 FU MR (by omega) (FU_big (by omega)) hR.1 agR.rf (fun s z => by omega))
  unfold f_X2_fewestPeople
  refine ok_bind (open_ok hw.1 hC.1) (fun M1 ⟨h1', f1⟩ => ?_)
  rw [l_0]
  refine ok_st (by decide) (by decide) ?_
  have f2 : fr [37, 38] M1 (wI M1 37 0 (nI 0)) := fr.wI (by simp)
  refine (pplC hw.1 (2 ^ bn B - 1) 1 FU _ (by omega) (FU_big (by omega)) (by decide) (h1'.1.fr f2 (by decide)) (RA.fr h1'.2.1 (f2 26 (by decide))) (fun s z1 z2 => by omega) (fun s z => ?_)).mono (fun x M' g => ⟨g.1, ((f1.q (by decide)).tr (f2.q (by decide))).tr (g.2.q (by decide))⟩)
  obtain rfl : s = 0 := by omega
  rw [wI_at, if_pos ⟨rfl, rfl⟩]
  rfl
