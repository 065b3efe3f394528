/-! tellsMost: how many different values -/
def nwG (f : Nat → Nat) (d : Nat) : Nat → Bool
  | 0 => true
  | k + 1 => nwG f d k && !decide (f k = f d)
theorem nwG_iff (f : Nat → Nat) (d k : Nat) : nwG f d k = true ↔ ∀ u, u < k → ¬ f u = f d := by
  induction k with
  | zero => exact ⟨(fun _ u hu => absurd hu (Nat.not_lt_zero u)), (fun _ => rfl)⟩
  | succ k ih =>
    show (nwG f d k && !decide (f k = f d)) = true ↔ _
    rw [Bool.and_eq_true, ih, Bool.not_eq_true', decide_eq_false_iff_not]
    constructor
    · rintro ⟨h1, h2⟩ u hu
      by_cases c : u = k
      · rw [c]; exact h2
      · exact h1 u (by omega)
    · intro h
      exact ⟨fun u hu => h u (by omega), h k (by omega)⟩
def dC (f : Nat → Nat) : Nat → Nat
  | 0 => 0
  | k + 1 => dC f k + (nwG f k k).toNat
def dL (f : Nat → Nat) : Nat → List Nat
  | 0 => []
  | k + 1 => if nwG f k k = true then dL f k ++ [f k] else dL f k
theorem dL_len (f : Nat → Nat) (k : Nat) : (dL f k).length = dC f k := by
  induction k with
  | zero => rfl
  | succ k ih =>
    show (if nwG f k k = true then dL f k ++ [f k] else dL f k).length = dC f k + (nwG f k k).toNat
    cases nwG f k k
    · rw [if_neg (by decide), ih]; rfl
    · rw [if_pos rfl, List.length_append, ih]; rfl
theorem dC_le (f : Nat → Nat) (k : Nat) : dC f k ≤ k := by
  induction k with
  | zero => exact Nat.le_refl _
  | succ k ih =>
    have : (nwG f k k).toNat ≤ 1 := by cases nwG f k k <;> decide
    show dC f k + _ ≤ _
    omega
theorem dL_mem (f : Nat → Nat) (x : Nat) : ∀ k, x ∈ dL f k ↔ ∃ u, u < k ∧ f u = x := by
  intro k
  induction k with
  | zero => exact ⟨(fun h => by cases h), (fun ⟨u, h, _⟩ => absurd h (Nat.not_lt_zero u))⟩
  | succ k ih =>
    show x ∈ (if nwG f k k = true then dL f k ++ [f k] else dL f k) ↔ _
    by_cases c : nwG f k k = true
    · rw [if_pos c, List.mem_append, ih, List.mem_singleton]
      constructor
      · rintro (⟨u, h1, h2⟩ | h)
        · exact ⟨u, by omega, h2⟩
        · exact ⟨k, by omega, h.symm⟩
      · rintro ⟨u, h1, h2⟩
        by_cases z : u = k
        · exact Or.inr (by rw [← h2, z])
        · exact Or.inl ⟨u, by omega, h2⟩
    · rw [if_neg c, ih]
      constructor
      · rintro ⟨u, h1, h2⟩
        exact ⟨u, by omega, h2⟩
      · rintro ⟨u, h1, h2⟩
        by_cases z : u = k
        · have : ¬ ∀ u, u < k → ¬ f u = f k := fun h => c ((nwG_iff f k k).mpr h)
          obtain ⟨t, ht⟩ := Classical.not_forall.mp this
          obtain ⟨t1, t2⟩ := Classical.not_imp.mp ht
          exact ⟨t, t1, by rw [← h2, z]; exact Classical.not_not.mp t2⟩
        · exact ⟨u, by omega, h2⟩
theorem newC {M : Mem} {f : Nat → Nat} {d m : Nat} (hd : d < 8) (hm : m ≤ 36) (h33 : ∀ v, v < m → M.1 33 (v * 8 + d) = nI (f v)) (hf : ∀ v, f v < 2 ^ 31) {v : Nat} (hv : v < m) : ∀ (k i fuel : Nat), i + k = v → k < fuel → nwG f v i = true →
    f_X7_isNewNext_b2 M fuel (nI d) (nI v) (nI i) = some (bI (nwG f v v)) := by
  intro k
  induction k with
  | zero =>
    intro i fuel hi hf' h
    obtain ⟨f_1, rfl⟩ : ∃ g, fuel = g + 1 := ⟨fuel - 1, by omega⟩
    obtain rfl : i = v := by omega
    unfold f_X7_isNewNext_b2
    rw [if_pos (nI_le (by omega) (by omega)), h]
    rfl
  | succ k ih =>
    intro i fuel hi hf' h
    obtain ⟨f_1, rfl⟩ : ∃ g, fuel = g + 1 := ⟨fuel - 1, by omega⟩
    unfold f_X7_isNewNext_b2
    rw [if_neg (nI_ge (by omega) (by omega)), l_8, pk_mul, pk_mul, nI_add, nI_add, ldI_n (by omega) (by decide), h33 i (by omega), Option.bind_some, ldI_n (by omega) (by decide), h33 v hv, Option.bind_some, nI_1]
    by_cases c : f i = f v
    · rw [if_pos (by rw [c])]
      have : nwG f v v = false := by
        cases z : nwG f v v
        · rfl
        · exact absurd c ((nwG_iff f v v).mp z i (by omega))
      rw [this]; rfl
    · rw [if_neg (fun q => c (nI_e (hf _) (hf _) q))]
      exact ih (i + 1) f_1 (by omega) (by omega) (by
        show (nwG f v i && !decide (f i = f v)) = true
        rw [h, decide_eq_false c]; rfl)
theorem cntC {M : Mem} {f : Nat → Nat} {d m : Nat} (hd : d < 8) (hm : m ≤ 36) (h33 : ∀ v, v < m → M.1 33 (v * 8 + d) = nI (f v)) (hf : ∀ v, f v < 2 ^ 31) : ∀ (k i fuel : Nat), i + k = m → k < fuel → f_X7_unlikeNexts_b5 M fuel (nI d) (nI m) (nI (dC f i)) (nI i) = some (nI (dC f m)) := by
  intro k
  induction k with
  | zero =>
    intro i fuel hi hf'
    obtain ⟨f_1, rfl⟩ : ∃ g, fuel = g + 1 := ⟨fuel - 1, by omega⟩
    obtain rfl : i = m := by omega
    unfold f_X7_unlikeNexts_b5
    rw [if_pos (nI_le (by omega) (by omega))]
  | succ k ih =>
    intro i fuel hi hf'
    obtain ⟨f_1, rfl⟩ : ∃ g, fuel = g + 1 := ⟨fuel - 1, by omega⟩
    have e : f_X7_isNewNext (nI d) (nI i) M = some (bI (nwG f i i)) := newC hd hm h33 hf (by omega) i 0 FU (by omega) (FU_big (by omega)) rfl
    have := ih (i + 1) f_1 (by omega) (by omega)
    have st : dC f (i + 1) = dC f i + (nwG f i i).toNat := rfl
    rw [st] at this
    unfold f_X7_unlikeNexts_b5
    rw [if_neg (nI_ge (by omega) (by omega)), e, Option.bind_some, nI_1]
    cases q : nwG f i i with
    | false => rw [q] at this; rw [if_pos (show bI false = 0 from rfl)]; exact this
    | true => rw [q] at this; rw [if_neg (show ¬ bI true = 0 from n10), nI_1]; exact this
def vlW (B : Bd) (w d : Nat) : Nat := due B d (cnt (lwW B w) B.2.2 d)
theorem vlW_lt {B : Bd} (hw : wfB B) (w d : Nat) : vlW B w d < 1000 := by
  have h12 : B.2.2.length ≤ 12 := hw.2.2.2.1
  have h1 := cnt_le (lwW B w) B.2.2 d
  have h2 := due_le hw d (r := cnt (lwW B w) B.2.2 d)
  unfold vlW
  omega
def flW (B : Bd) (rw' : List Nat) (i : Nat) : List Nat := (List.range i).filter (fitB B rw')
theorem flW_s (B : Bd) (rw' : List Nat) (i : Nat) : flW B rw' (i + 1) = if fitB B rw' i = true then flW B rw' i ++ [i] else flW B rw' i := by
  unfold flW
  rw [List.range_succ, List.filter_append]
  by_cases c : fitB B rw' i = true
  · rw [if_pos c, List.filter_cons, if_pos c]; rfl
  · rw [if_neg c, List.filter_cons, if_neg c]; simp
theorem flW_len (B : Bd) (rw' : List Nat) (i : Nat) : (flW B rw' i).length ≤ i := by
  unfold flW
  exact Nat.le_trans (List.length_filter_le _ _) (by simp)
theorem keepN {B : Bd} {ty te v : Nat} (hw : wfB B) (hv : v < 36) : ∀ (k i fuel : Nat) (M : Mem), i + k = bn B → k < fuel → RK B ty te B.2.2 M →
    ok (f_X7_keepNexts_b2 fuel (nI v) (nI i) M) (fun M' => (∀ d, i ≤ d → d < bn B → M'.1 33 (v * 8 + d) = nI (due B d (cnt (lw B ty te) B.2.2 d))) ∧ (∀ j, (j < v * 8 + i ∨ v * 8 + 8 ≤ j) → M'.1 33 j = M.1 33 j) ∧ fr [33] M M') := by
  have hn := hw.2.2.1
  have h12 : B.2.2.length ≤ 12 := hw.2.2.2.1
  intro k
  induction k with
  | zero =>
    intro i fuel M hi hf h
    obtain ⟨f, rfl⟩ : ∃ f, fuel = f + 1 := ⟨fuel - 1, by omega⟩
    unfold f_X7_keepNexts_b2
    rw [h.1.1]
    exact ok_pos (nI_le (by omega) (by omega)) (ok_some ⟨fun d h1 h2 => by omega, fun j hj => rfl, fr.rf⟩)
  | succ k ih =>
    intro i fuel M hi hf h
    obtain ⟨f, rfl⟩ : ∃ f, fuel = f + 1 := ⟨fuel - 1, by omega⟩
    unfold f_X7_keepNexts_b2
    rw [h.1.1]
    refine ok_neg (nI_ge (by omega) (by omega)) ?_
    rw [dueNow_ok hw h (by omega) (by omega), Option.bind_some, l_8, pk_mul, nI_add]
    refine ok_st (by omega) (by decide) ?_
    rw [nI_1]
    have f1 : fr [33] M (wI M 33 (v * 8 + i) (nI (due B i (cnt (lw B ty te) B.2.2 i)))) := fr.wI (by simp)
    refine ok_mono (ih (i + 1) f _ (by omega) (by omega) ⟨h.1.fr f1 (by decide), h.2.1.fr (f1 26 (by decide)), fun d hd => by rw [f1 27 (by decide)]; exact h.2.2 d hd⟩) (fun M' ⟨g1, g2, g3⟩ => ⟨fun d h1 h2 => ?_, fun j hj => ?_, f1.tr g3⟩)
    · by_cases c : d = i
      · rw [c, g2 _ (by omega), wI_at, if_pos ⟨rfl, rfl⟩]
      · exact g1 d (by omega) h2
    · rw [g2 j (by omega), wI_at, if_neg (by omega)]
/-- the class's table of what the fitting laws say next -/
def TN (B : Bd) (l : List Nat) (M : Mem) : Prop := ∀ v, v < l.length → ∀ d, d < bn B → M.1 33 (v * 8 + d) = nI (vlW B (l.getD v 0) d)
theorem gatC_in {B : Bd} {rw' : List Nat} {ty : Nat} (hw : wfB B) (hty : ty < 4) (hrl : rw'.length ≤ bpl B) (hr : ∀ x ∈ rw', x < 100) (kont : Int32 → Int32 → Mem → Option (Int32 × Mem)) (Q : Int32 × Mem → Prop) :
    ∀ (k te fuel : Nat) (M : Mem), te + k = 9 → k < fuel → brdC 1 B M → rowC rw' M → TN B (flW B rw' (9 * ty + te)) M →
    (∀ M', brdC 1 B M' → rowC rw' M' → TN B (flW B rw' (9 * (ty + 1))) M' → fr [26, 27, 33] M M' → ok (kont (nI (flW B rw' (9 * (ty + 1))).length) (nI (ty + 1)) M') Q) →
    ok (f_X7_gatherNexts_b11 kont fuel (nI (flW B rw' (9 * ty + te)).length) (nI ty) (nI te) M) Q := by
  have hn := hw.2.2.1
  intro k
  induction k with
  | zero =>
    intro te fuel M hi hf hb hrow hT hk
    obtain ⟨f, rfl⟩ : ∃ f, fuel = f + 1 := ⟨fuel - 1, by omega⟩
    obtain rfl : te = 9 := by omega
    unfold f_X7_gatherNexts_b11
    rw [nI_1]
    exact ok_pos (by decide) (hk M hb hrow hT fr.rf)
  | succ k ih =>
    intro te fuel M hi hf hb hrow hT hk
    obtain ⟨f, rfl⟩ : ∃ f, fuel = f + 1 := ⟨fuel - 1, by omega⟩
    have hle := flW_len B rw' (9 * ty + te)
    unfold f_X7_gatherNexts_b11
    refine ok_neg (show ¬ 8 < nI te from fun q => absurd ((nI_ltI (a := 8) (by decide) (by omega)).mp q) (by omega)) ?_
    refine ok_bp (toldC hw hty (by omega) hrl hr hb hrow) (fun v M' ⟨q1, q2, q3, q4⟩ => ?_)
    have st := flW_s B rw' (9 * ty + te)
    rw [q1, nI_1]
    cases q : fitB B rw' (9 * ty + te) with
    | false =>
      rw [q, if_neg (show ¬ false = true by decide)] at st
      have := ih (te + 1) f M' (by omega) (by omega) q2 q3
      rw [show 9 * ty + (te + 1) = 9 * ty + te + 1 by omega, st] at this
      exact ok_pos (show bI false = 0 from rfl) (this (fun u hu d hd => by rw [q4 33 (by decide)]; exact hT u hu d hd) (fun M2 z1 z2 z3 z4 => hk M2 z1 z2 z3 ((q4.mono (by decide)).tr z4)))
    | true =>
      rw [q, if_pos rfl] at st
      have hlen : (flW B rw' (9 * ty + te + 1)).length = (flW B rw' (9 * ty + te)).length + 1 := by rw [st]; simp
      refine ok_neg (show ¬ bI true = 0 from n10) ?_
      refine ok_bp (totalBy_ok hw hty (by omega) q2) (fun w M1 ⟨r1, r2, r3⟩ => ?_)
      refine ok_bind (keepN (v := (flW B rw' (9 * ty + te)).length) hw (by omega) (bn B) 0 FU M1 (by omega) (FU_big (by omega)) r2) (fun M2 ⟨g1, g2, g3⟩ => ?_)
      have this := ih (te + 1) f M2 (by omega) (by omega) (r2.1.fr g3 (by decide)) ((q3.fr r3 (by decide)).fr g3 (by decide))
      rw [show 9 * ty + (te + 1) = 9 * ty + te + 1 by omega, hlen] at this
      rw [nI_1]
      refine this (fun u hu d hd => ?_) (fun M3 z1 z2 z3 z4 => hk M3 z1 z2 z3 ((((q4.tr r3).mono (by decide)).tr (g3.mono (by decide))).tr z4))
      rw [hlen] at hu
      rw [st, getD_snoc]
      by_cases c : u = (flW B rw' (9 * ty + te)).length
      · rw [if_neg (by omega), if_pos c, c, g1 d (by omega) hd]
        unfold vlW
        rw [lwW_at B (by omega)]
      · rw [if_pos (by omega), g2 _ (by omega), r3 33 (by decide), q4 33 (by decide)]
        exact hT u (by omega) d hd
theorem gatC {B : Bd} {rw' : List Nat} (hw : wfB B) (hrl : rw'.length ≤ bpl B) (hr : ∀ x ∈ rw', x < 100) : ∀ (k ty fuel : Nat) (M : Mem), ty + k = 4 → k < fuel → brdC 1 B M → rowC rw' M → TN B (flW B rw' (9 * ty)) M →
    ok2 (f_X7_gatherNexts_b4 fuel (nI (flW B rw' (9 * ty)).length) (nI ty) M) (fun x M' => x = nI (flW B rw' 36).length ∧ brdC 1 B M' ∧ TN B (flW B rw' 36) M' ∧ fr [26, 27, 33] M M') := by
  intro k
  induction k with
  | zero =>
    intro ty fuel M hi hf hb hrow hT
    obtain ⟨f, rfl⟩ : ∃ f, fuel = f + 1 := ⟨fuel - 1, by omega⟩
    obtain rfl : ty = 4 := by omega
    refine ok2_mk ?_
    unfold f_X7_gatherNexts_b4
    exact ok_pos (by decide) (ok_some ⟨rfl, hb, hT, fr.rf⟩)
  | succ k ih =>
    intro ty fuel M hi hf hb hrow hT
    obtain ⟨f, rfl⟩ : ∃ f, fuel = f + 1 := ⟨fuel - 1, by omega⟩
    refine ok2_mk ?_
    unfold f_X7_gatherNexts_b4
    refine ok_neg (show ¬ 4 ≤ nI ty from fun q => absurd ((nI_leI (a := 4) (by decide) (by omega)).mp q) (by omega)) ?_
    exact gatC_in hw (by omega) hrl hr (f_X7_gatherNexts_b4 f) _ 9 0 FU M (by omega) (FU_big (by omega)) hb hrow hT (fun M' h1 h2 h3 h4 => (ih (ty + 1) f M' (by omega) (by omega) h1 h2 h3).mono (fun x M2 z => ⟨z.1, z.2.1, z.2.2.1, h4.tr z.2.2.2⟩))
def amz (g : Nat → Nat) : Nat → Option Nat
  | 0 => none
  | n + 1 => if o0 g (amz g n) < g n then some n else amz g n
theorem amz_lt {g : Nat → Nat} : ∀ {n b : Nat}, amz g n = some b → b < n := by
  intro n
  induction n with
  | zero => intro b h; cases h
  | succ n ih =>
    intro b h
    have h : (if o0 g (amz g n) < g n then some n else amz g n) = some b := h
    by_cases c : o0 g (amz g n) < g n
    · rw [if_pos c] at h; cases h; omega
    · rw [if_neg c] at h; have := ih h; omega
theorem o0_le {g : Nat → Nat} {m : Nat} (h : ∀ x, g x ≤ m) (o : Option Nat) : o0 g o ≤ m := by
  cases o with
  | none => exact Nat.zero_le _
  | some b => exact h b
def fTn (B : Bd) (rw' : List Nat) (d v : Nat) : Nat := vlW B ((flW B rw' 36).getD v 0) d
def gTn (B : Bd) (rw' : List Nat) (d : Nat) : Nat := dC (fTn B rw' d) (flW B rw' 36).length
theorem gTn_le (B : Bd) (rw' : List Nat) (d : Nat) : gTn B rw' d ≤ 36 := Nat.le_trans (dC_le _ _) (flW_len _ _ _)
def tlA (B : Bd) (rw' : List Nat) (v1 : Int32) : Int32 := if v1 = 0 then oI (amz (gTn B rw') (bn B)) else oC (gTn B rw') (amz (gTn B rw') (bn B))
theorem mtC {B : Bd} {rw' : List Nat} {M : Mem} (hw : wfB B) (hb : brdC 1 B M) (hT : TN B (flW B rw' 36) M) (v1 : Int32) : ∀ (k i fuel : Nat), i + k = bn B → k < fuel →
    f_X7_mostTelling_b14 fuel v1 (nI (flW B rw' 36).length) (oI (amz (gTn B rw') i)) (nI (o0 (gTn B rw') (amz (gTn B rw') i))) (nI i) M = some (tlA B rw' v1, M) := by
  have hn := hw.2.2.1
  intro k
  induction k with
  | zero =>
    intro i fuel hi hf
    obtain ⟨f, rfl⟩ : ∃ f, fuel = f + 1 := ⟨fuel - 1, by omega⟩
    obtain rfl : i = bn B := by omega
    unfold f_X7_mostTelling_b14 tlA
    rw [hb.1, if_pos (nI_le (by omega) (by omega))]
    by_cases c : v1 = 0
    · rw [if_pos c, if_pos c]
    · rw [if_neg c, if_neg c]
      cases e : amz (gTn B rw') (bn B) with
      | none => rw [if_pos (show oI none = -9 from rfl)]; rfl
      | some b =>
        have := amz_lt e
        rw [if_neg (show ¬ oI (some b) = -9 from nI_ne_m9 (n := b) (by omega))]
        rfl
  | succ k ih =>
    intro i fuel hi hf
    obtain ⟨f, rfl⟩ : ∃ f, fuel = f + 1 := ⟨fuel - 1, by omega⟩
    have hl := flW_len B rw' 36
    have hg := gTn_le B rw' i
    have ho := o0_le (gTn_le B rw') (amz (gTn B rw') i)
    have st : amz (gTn B rw') (i + 1) = if o0 (gTn B rw') (amz (gTn B rw') i) < gTn B rw' i then some i else amz (gTn B rw') i := rfl
    have e : f_X7_unlikeNexts (nI i) (nI (flW B rw' 36).length) M = some (nI (gTn B rw' i)) := cntC (f := fTn B rw' i) (d := i) (by omega) hl (fun v hv => hT v hv i (by omega)) (fun v => by have := vlW_lt hw ((flW B rw' 36).getD v 0) i; unfold fTn; omega) (flW B rw' 36).length 0 FU (by omega) (FU_big (by omega))
    have := ih (i + 1) f (by omega) (by omega)
    rw [st] at this
    unfold f_X7_mostTelling_b14
    rw [hb.1, if_neg (nI_ge (by omega) (by omega)), e, Option.bind_some, nI_1]
    by_cases c : o0 (gTn B rw') (amz (gTn B rw') i) < gTn B rw' i
    · rw [if_pos c] at this
      rw [if_neg (nI_ge c (by omega))]; exact this
    · rw [if_neg c] at this
      rw [if_pos (nI_le (by omega) (by omega))]; exact this
theorem flW_pre (B : Bd) (rw' : List Nat) : ∀ (k i v : Nat), v < (flW B rw' i).length → (flW B rw' (i + k)).getD v 0 = (flW B rw' i).getD v 0 := by
  intro k
  induction k with
  | zero => intro i v _; rfl
  | succ k ih =>
    intro i v hv
    have e := ih i v hv
    have hl : (flW B rw' i).length ≤ (flW B rw' (i + k)).length := by
      have : ∀ k, (flW B rw' i).length ≤ (flW B rw' (i + k)).length := by
        intro k
        induction k with
        | zero => exact Nat.le_refl _
        | succ k ih2 =>
          refine Nat.le_trans ih2 ?_
          rw [show i + (k + 1) = i + k + 1 by omega, flW_s]
          split
          · rw [List.length_append]; omega
          · exact Nat.le_refl _
      exact this k
    rw [show i + (k + 1) = i + k + 1 by omega, flW_s]
    by_cases c : fitB B rw' (i + k) = true
    · rw [if_pos c, getD_snoc, if_pos (by omega)]; exact e
    · rw [if_neg c]; exact e
theorem unD_in {M : Mem} {L : List Nat} {x w : Nat} {v1 : Int32} (hL : L.length ≤ 36) (hw36 : w < 36) (hx : x < 2 ^ 31) (hLx : ∀ y ∈ L, y < 2 ^ 31) (h14 : ∀ u, u < L.length → M.1 14 u = nI (L.getD u 0)) (kont : Int32 → Int32 → Int32 → Mem → Option (Int32 × Mem)) (R : Option (Int32 × Mem))
    (h1 : x ∈ L → R = kont v1 (nI L.length) (nI (w + 1)) M) (h2 : x ∉ L → R = (stI M 14 36 (nI L.length) (nI x)).bind fun M12 => kont v1 (nI (L.length + 1)) (nI (w + 1)) M12) :
    ∀ (k u fuel : Nat) (b : Bool), u + k = L.length → k < fuel → (b = true ↔ ∀ t, t < u → ¬ L.getD t 0 = x) → f_X12_unlikeDues_b42 kont fuel v1 (nI L.length) (nI w) (nI x) (bI b) (nI u) M = R := by
  intro k
  induction k with
  | zero =>
    intro u fuel b hi hf hb
    obtain ⟨f, rfl⟩ : ∃ f, fuel = f + 1 := ⟨fuel - 1, by omega⟩
    obtain rfl : u = L.length := by omega
    unfold f_X12_unlikeDues_b42
    rw [if_pos (nI_le (by omega) (by omega)), nI_1, nI_1]
    cases b with
    | false =>
      rw [if_pos (show bI false = 0 from rfl), h1]
      refine Classical.byContradiction (fun hn => ?_)
      have := hb.mpr (fun t ht e => hn (by
        rw [← e, List.getD_eq_getElem?_getD, List.getElem?_eq_getElem ht]
        exact List.getElem_mem ht))
      cases this
    | true =>
      rw [if_neg (show ¬ bI true = 0 from n10), h2]
      intro hm
      obtain ⟨t, ht, e⟩ := List.getElem_of_mem hm
      exact hb.mp rfl t ht (by rw [List.getD_eq_getElem?_getD, List.getElem?_eq_getElem ht]; exact e)
  | succ k ih =>
    intro u fuel b hi hf hb
    obtain ⟨f, rfl⟩ : ∃ f, fuel = f + 1 := ⟨fuel - 1, by omega⟩
    unfold f_X12_unlikeDues_b42
    rw [if_neg (nI_ge (by omega) (by omega)), nI_1]
    have hu : u < L.length := by omega
    cases b with
    | false =>
      rw [if_pos (show bI false = 0 from rfl)]
      refine ih (u + 1) f false (by omega) (by omega) ⟨(fun q => by cases q), (fun q => hb.mpr (fun t ht => q t (by omega)))⟩
    | true =>
      rw [if_neg (show ¬ bI true = 0 from n10), ldI_n (by omega) (by decide), h14 u hu, Option.bind_some]
      have hmem : L.getD u 0 ∈ L := by
        rw [List.getD_eq_getElem?_getD, List.getElem?_eq_getElem hu]
        exact List.getElem_mem hu
      by_cases c : L.getD u 0 = x
      · rw [if_pos (by rw [c])]
        exact ih (u + 1) f false (by omega) (by omega) ⟨(fun q => by cases q), (fun q => absurd c (q u (by omega)))⟩
      · rw [if_neg (fun q => c (nI_e (hLx _ hmem) hx q))]
        refine ih (u + 1) f true (by omega) (by omega) ⟨fun _ t ht => ?_, fun _ => rfl⟩
        by_cases z : t = u
        · rw [z]; exact c
        · exact hb.mp rfl t (by omega)
theorem unR {B : Bd} {rw' : List Nat} {d : Nat} {M M0 : Mem} (hw : wfB B) (hrl : rw'.length ≤ bpl B) (hr : ∀ x ∈ rw', x < 100) (hd : d < bn B) (ht : TH M0 M) (hrow : rowR rw' M) : ∀ (k w fuel x y : Nat) (M1 : Mem), w + k = 36 → k < fuel → brdR (lw B x y) M1 → mR M M1 →
    (∀ u, u < (dL (fTn B rw' d) (flW B rw' w).length).length → M1.1 14 u = nI ((dL (fTn B rw' d) (flW B rw' w).length).getD u 0)) →
    ok2 (f_X12_unlikeDues_b8 fuel (nI d) (nI (dL (fTn B rw' d) (flW B rw' w).length).length) (nI w) M1) (fun v M' => v = nI (gTn B rw' d) ∧ agR M0 M') := by
  intro k
  induction k with
  | zero =>
    intro w fuel x y M1 hi hf hb hm h14
    obtain ⟨f, rfl⟩ : ∃ f, fuel = f + 1 := ⟨fuel - 1, by omega⟩
    obtain rfl : w = 36 := by omega
    refine ok2_mk ?_
    unfold f_X12_unlikeDues_b8
    refine ok_pos (by decide) ?_
    refine ok_bind (forgets_ok ht hm) (fun M2 g => ok_some ⟨?_, g⟩)
    rw [dL_len]
    rfl
  | succ k ih =>
    intro w fuel x y M1 hi hf hb hm h14
    obtain ⟨f, rfl⟩ : ∃ f, fuel = f + 1 := ⟨fuel - 1, by omega⟩
    have hlen := flW_len B rw' w
    have hdl : (dL (fTn B rw' d) (flW B rw' w).length).length ≤ w := by rw [dL_len]; exact Nat.le_trans (dC_le _ _) hlen
    have st := flW_s B rw' w
    refine ok2_mk ?_
    unfold f_X12_unlikeDues_b8
    refine ok_neg (show ¬ 36 ≤ nI w from fun q => absurd ((nI_leI (a := 36) (by decide) (by omega)).mp q) (by omega)) ?_
    obtain ⟨M2, e1, b1, m1, -, m2⟩ := layR hb hm (w := w) (by omega)
    have h14' : ∀ u, u < (dL (fTn B rw' d) (flW B rw' w).length).length → M2.1 14 u = nI ((dL (fTn B rw' d) (flW B rw' w).length).getD u 0) := fun u hu => by rw [m2 14 (by decide)]; exact h14 u hu
    rw [e1, Option.bind_some, isSoR hw (by omega) b1 hrl hr (hrow.to m1), Option.bind_some, nI_1]
    cases q : fitB B rw' w with
    | false =>
      rw [q, if_neg (show ¬ false = true by decide)] at st
      have := ih (w + 1) f (w / 9) (w % 9) M2 (by omega) (by omega) b1 m1
      rw [st] at this
      exact ok_pos (show bI false = 0 from rfl) ((this h14').mono (fun v M' z => z))
    | true =>
      rw [q, if_pos rfl] at st
      have hl1 : (flW B rw' (w + 1)).length = (flW B rw' w).length + 1 := by rw [st]; simp
      have ef : fTn B rw' d (flW B rw' w).length = vlW B w d := by
        unfold fTn
        have := flW_pre B rw' (36 - (w + 1)) (w + 1) (flW B rw' w).length (by omega)
        rw [show w + 1 + (36 - (w + 1)) = 36 by omega] at this
        rw [this, st, getD_snoc, if_neg (by omega), if_pos rfl]
      have sd : dL (fTn B rw' d) ((flW B rw' w).length + 1) = if nwG (fTn B rw' d) (flW B rw' w).length (flW B rw' w).length = true then dL (fTn B rw' d) (flW B rw' w).length ++ [fTn B rw' d (flW B rw' w).length] else dL (fTn B rw' d) (flW B rw' w).length := rfl
      have hmem : vlW B w d ∈ dL (fTn B rw' d) (flW B rw' w).length ↔ ¬ nwG (fTn B rw' d) (flW B rw' w).length (flW B rw' w).length = true := by
        rw [dL_mem, nwG_iff, ← ef]
        constructor
        · rintro ⟨u, h1, h2⟩ h; exact h u h1 h2
        · intro h
          obtain ⟨t, ht⟩ := Classical.not_forall.mp h
          obtain ⟨t1, t2⟩ := Classical.not_imp.mp ht
          exact ⟨t, t1, Classical.not_not.mp t2⟩
      have hv := vlW_lt hw w d
      have := ih (w + 1) f (w / 9) (w % 9)
      rw [hl1, sd] at this
      refine ok_neg (show ¬ bI true = 0 from n10) ?_
      rw [nextOfR b1 (lwW_wf hw (by omega)) hd, Option.bind_some, show nI (due (lwW B w) d (cnt (lwW B w) (lwW B w).2.2 d)) = nI (vlW B w d) from rfl]
      have hLx : ∀ y ∈ dL (fTn B rw' d) (flW B rw' w).length, y < 2 ^ 31 := fun y hy => by
        obtain ⟨u, -, e⟩ := (dL_mem _ _ _).mp hy
        have := vlW_lt hw ((flW B rw' 36).getD u 0) d
        unfold fTn at e
        omega
      have core := unD_in (v1 := nI d) (M := M2) (L := dL (fTn B rw' d) (flW B rw' w).length) (x := vlW B w d) (w := w) (by omega) (by omega) (by omega) hLx h14' (f_X12_unlikeDues_b8 f)
        (if vlW B w d ∈ dL (fTn B rw' d) (flW B rw' w).length then f_X12_unlikeDues_b8 f (nI d) (nI (dL (fTn B rw' d) (flW B rw' w).length).length) (nI (w + 1)) M2 else (stI M2 14 36 (nI (dL (fTn B rw' d) (flW B rw' w).length).length) (nI (vlW B w d))).bind fun M12 => f_X12_unlikeDues_b8 f (nI d) (nI ((dL (fTn B rw' d) (flW B rw' w).length).length + 1)) (nI (w + 1)) M12)
        (fun h => if_pos h) (fun h => if_neg h) (dL (fTn B rw' d) (flW B rw' w).length).length 0 FU true (by omega) (FU_big (by omega)) ⟨fun _ t ht => absurd ht (Nat.not_lt_zero t), fun _ => rfl⟩
      rw [show f_X12_unlikeDues_b42 (f_X12_unlikeDues_b8 f) FU (nI d) (nI (dL (fTn B rw' d) (flW B rw' w).length).length) (nI w) (nI (vlW B w d)) 1 0 M2 = _ from core]
      by_cases c : vlW B w d ∈ dL (fTn B rw' d) (flW B rw' w).length
      · rw [if_neg (hmem.mp c)] at this
        rw [if_pos c]
        exact (this M2 (by omega) (by omega) b1 m1 h14').mono (fun v M' z => z)
      · have c2 : nwG (fTn B rw' d) (flW B rw' w).length (flW B rw' w).length = true := Classical.not_not.mp (fun z => c (hmem.mpr z))
        rw [if_pos c2, ef] at this
        rw [if_neg c, stI_n (by omega) (by decide), Option.bind_some]
        have hl2 : (dL (fTn B rw' d) (flW B rw' w).length ++ [vlW B w d]).length = (dL (fTn B rw' d) (flW B rw' w).length).length + 1 := by simp
        rw [hl2] at this
        refine (this _ (by omega) (by omega) ?_ (m1.tr (mR.wI (Or.inr (by omega)))) (fun u hu => ?_)).mono (fun v M' z => z)
        · obtain ⟨g1, g2, g3, g4, g5, g6, g7, g8⟩ := b1
          unfold brdR
          rw [wI_other (by decide), wI_other (by decide), wI_other (by decide), wI_other (by decide), wI_other (by decide)]
          exact ⟨g1, g2, g3, g4, g5, g6, g7, g8⟩
        · rw [wI_at, getD_snoc]
          by_cases z : u = (dL (fTn B rw' d) (flW B rw' w).length).length
          · rw [if_pos ⟨rfl, z⟩, if_neg (by omega), if_pos z]
          · rw [if_neg (by omega), if_pos (by omega)]; exact h14' u (by omega)
theorem undR {B : Bd} {rw' : List Nat} {d : Nat} {M : Mem} (hw : wfB B) (hb : brdR B M) (hrl : rw'.length ≤ bpl B) (hr : ∀ x ∈ rw', x < 100) (hd : d < bn B) (hrow : rowR rw' M) : ok2 (f_X12_unlikeDues (nI d) M) (fun v M' => v = nI (gTn B rw' d) ∧ agR M M') := by
  refine ok2_mk ?_
  unfold f_X12_unlikeDues
  refine ok_bind thinks_ok (fun M1 ht => ?_)
  have rr2 : rowR rw' M1 := by
    unfold rowR
    rw [ht.2.2.2.1 24 (by omega), ht.2.2.2.2.1 13 (by omega)]
    exact hrow
  exact (unR hw hrl hr hd ht rr2 36 0 FU B.1.1 B.1.2 M1 (by omega) (FU_big (by omega)) (TH.brd hw hb ht) mR.rf (fun u hu => absurd hu (Nat.not_lt_zero u))).mono (fun v M' z => z)
theorem tmR {B : Bd} {rw' : List Nat} {M0 : Mem} (hw : wfB B) (hrl : rw'.length ≤ bpl B) (hr : ∀ x ∈ rw', x < 100) (v1 : Int32) : ∀ (k i fuel : Nat) (M : Mem), i + k = bn B → k < fuel → brdR B M → rowR rw' M → agR M0 M →
    ok2 (f_X12_tellsMost_b51 fuel v1 (oI (amz (gTn B rw') i)) (nI (o0 (gTn B rw') (amz (gTn B rw') i))) (nI i) M) (fun x M' => x = tlA B rw' v1 ∧ agR M0 M') := by
  have hn := hw.2.2.1
  intro k
  induction k with
  | zero =>
    intro i fuel M hi hf hb hrow hA
    obtain ⟨f, rfl⟩ : ∃ f, fuel = f + 1 := ⟨fuel - 1, by omega⟩
    obtain rfl : i = bn B := by omega
    refine ok2_mk ?_
    unfold f_X12_tellsMost_b51 tlA
    rw [hb.1]
    refine ok_pos (nI_le (by omega) (by omega)) ?_
    by_cases c : v1 = 0
    · rw [if_pos c, if_pos c]; exact ok_some ⟨rfl, hA⟩
    · rw [if_neg c, if_neg c]
      cases e : amz (gTn B rw') (bn B) with
      | none => rw [if_neg (show ¬ 0 ≤ oI none by decide)]; exact ok_some ⟨rfl, hA⟩
      | some b =>
        have := amz_lt e
        rw [if_pos (show 0 ≤ oI (some b) from nI_pos' (by omega))]
        exact ok_some ⟨rfl, hA⟩
  | succ k ih =>
    intro i fuel M hi hf hb hrow hA
    obtain ⟨f, rfl⟩ : ∃ f, fuel = f + 1 := ⟨fuel - 1, by omega⟩
    have hg := gTn_le B rw' i
    have ho := o0_le (gTn_le B rw') (amz (gTn B rw') i)
    have st : amz (gTn B rw') (i + 1) = if o0 (gTn B rw') (amz (gTn B rw') i) < gTn B rw' i then some i else amz (gTn B rw') i := rfl
    refine ok2_mk ?_
    unfold f_X12_tellsMost_b51
    rw [hb.1, nI_1]
    refine ok_neg (nI_ge (by omega) (by omega)) ?_
    refine ok_bp (undR hw hb hrl hr (by omega) hrow) (fun w M' ⟨q1, q2⟩ => ?_)
    have hrow' : rowR rw' M' := by
      unfold rowR
      rw [q2.2.1 24 (by omega), q2.2.2.1 13 (by omega)]
      exact hrow
    have := ih (i + 1) f M' (by omega) (by omega) (brdR_bv hw hb q2.1) hrow' (hA.tr q2)
    rw [st] at this
    rw [q1]
    by_cases c : o0 (gTn B rw') (amz (gTn B rw') i) < gTn B rw' i
    · rw [if_pos c] at this
      exact ok_pos ((nI_ltI (by omega) (by omega)).mpr c) (this.mono (fun v M2 z => z))
    · rw [if_neg c] at this
      exact ok_neg (fun q => c ((nI_ltI (by omega) (by omega)).mp q)) (this.mono (fun v M2 z => z))
theorem sim_tellsMost {MC MR : Mem} (h : Inv MC MR) (a : Int32) : Sim (f_X11_tellsMost a MC) (f_X12_tellsMost a MR) := by
  obtain ⟨B, im, S, lt, rw', hw, hC, hR, hf⟩ := id h
  have hn := hw.1.2.2.1
  have h12 := hw.1.2.2.2.1
  have hl := hw.2.2.2.2.2.2.1
  have hr := hw.2.2.2.2.2.2.2
  unfold f_X11_tellsMost f_X12_tellsMost f_X12_tellsMost_b31
  simp only [bind_bp]
  have rc : rowC rw' MC := ⟨hC.2.2.2.2.2.2.2.1, hC.2.2.2.2.2.2.2.2⟩
  have rr : rowR rw' MR := ⟨hR.2.2.2.2.2.2.2.1, hR.2.2.2.2.2.2.2.2⟩
  rw [rc.1, rr.1, hC.1.2.1, hR.1.2.1]
  have go : Sim (if nI rw'.length ≤ nI (bpl B) then f_X7_mostTelling a MC else f_X11_refuse (-3) MC) (if (if nI rw'.length ≤ nI (bpl B) then (0 : Int32) else -3) = 0 then f_X12_tellsMost_b51 FU a (-9) 0 0 MR else f_X12_no (if nI rw'.length ≤ nI (bpl B) then (0 : Int32) else -3) MR) := by
    by_cases c : rw'.length ≤ bpl B
    · rw [if_pos (nI_le c (by omega)), if_pos (nI_le c (by omega)), if_pos p00]
      refine Sim.q h (tlA B rw' a) (ok2_mk ?_) (tmR hw.1 c hr a (bn B) 0 FU MR (by omega) (FU_big (by omega)) hR.1 rr agR.rf)
      unfold f_X7_mostTelling f_X7_gatherNexts
      refine ok_bp (gatC hw.1 c hr 4 0 FU MC (by omega) (FU_big (by omega)) hC.1 rc (fun v hv => absurd hv (Nat.not_lt_zero v))) (fun m M1 ⟨q1, q2, q3, q4⟩ => ?_)
      rw [q1]
      exact ok_eq (mtC hw.1 q2 q3 a (bn B) 0 FU (by omega) (FU_big (by omega))) ⟨rfl, q4.q (by decide)⟩
    · rw [if_neg (nI_ge (by omega) (by omega)), if_neg (nI_ge (by omega) (by omega)), if_neg (show ¬ (-3 : Int32) = 0 by decide)]
      exact Sim.no3 h
  rcases either a with ⟨e1, e2⟩ | ⟨e1, e2, -⟩ | ⟨e1, e2, -⟩
  · rw [e1, e2, if_pos p00, if_pos p00, if_neg (show ¬ (-2 : Int32) = 0 by decide)]; exact Sim.no2 h
  · rw [e1, e2, if_neg n10, if_neg n10]; exact go
  · rw [e1, e2, if_neg n10, if_neg n10]; exact go
