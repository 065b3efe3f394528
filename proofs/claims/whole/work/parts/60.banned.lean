/-! banned -/
def flt (B : Bd) (d i : Nat) : List Nat := (B.2.2.take i).filter (fun x => !decide (x = d))
theorem flt_s {B : Bd} {d i : Nat} (h : i < bpl B) : flt B d (i + 1) = if lgA B i = d then flt B d i else flt B d i ++ [lgA B i] := by
  unfold flt
  rw [take_lg h, List.filter_append]
  by_cases c : lgA B i = d
  · rw [if_pos c]
    rw [List.filter_cons, if_neg (by rw [decide_eq_true c]; decide)]
    simp
  · rw [if_neg c]
    rw [List.filter_cons, if_pos (by rw [decide_eq_false c]; rfl)]
    simp
theorem flt_len (B : Bd) (d i : Nat) : (flt B d i).length ≤ i := Nat.le_trans (List.length_filter_le _ _) (List.length_take_le _ _)
def gBan (B : Bd) (d : Nat) : Nat := tot B (flt B d (bpl B))
theorem flt_tot {B : Bd} (hw : wfB B) (d : Nat) {i : Nat} (hi : i ≤ bpl B) : tot B (flt B d i) < 1000000 := tot_small hw (by have := flt_len B d i; have := hw.2.2.2.1; omega)
theorem gBan_lt {B : Bd} (hw : wfB B) (d : Nat) : gBan B d < 1000000 := flt_tot hw d (Nat.le_refl _)
def inL (B : Bd) (d : Nat) : Bool := anyN (fun p => decide (lgA B p = d)) (bpl B)
theorem inLC_lp {B : Bd} {M : Mem} {d : Nat} (hw : wfB B) (hb : brdC 1 B M) (hd : d < bn B) : ∀ (k i fuel : Nat), i + k = bpl B → k < fuel → (∀ p, p < i → ¬ lgA B p = d) → f_X3_isInLog_b2 M fuel (nI d) (nI i) = some (bI (inL B d)) := by
  have hn := hw.2.2.1
  have h12 := hw.2.2.2.1
  intro k
  induction k with
  | zero =>
    intro i fuel hi hf hI
    obtain ⟨f, rfl⟩ : ∃ f, fuel = f + 1 := ⟨fuel - 1, by omega⟩
    unfold f_X3_isInLog_b2
    rw [hb.2.1, if_pos (nI_le (by omega) (by omega))]
    have : inL B d = false := by
      unfold inL
      cases z : anyN (fun p => decide (lgA B p = d)) (bpl B)
      · rfl
      · obtain ⟨p, h1, h2⟩ := (anyN_iff _ _).mp z
        exact absurd (of_decide_eq_true h2) (hI p (by omega))
    rw [this]
    rfl
  | succ k ih =>
    intro i fuel hi hf hI
    obtain ⟨f, rfl⟩ : ∃ f, fuel = f + 1 := ⟨fuel - 1, by omega⟩
    have hl := lgA_in hw (p := i) (by omega)
    unfold f_X3_isInLog_b2
    rw [hb.2.1, if_neg (nI_ge (by omega) (by omega)), ldI_n (by omega) (by decide), show M.1 5 i = nI (lgA B i) from hb.2.2.2.2.2.2.2 i (by omega), Option.bind_some, nI_1]
    by_cases c : lgA B i = d
    · rw [if_pos (by rw [c])]
      have : inL B d = true := (anyN_iff _ _).mpr ⟨i, by omega, decide_eq_true c⟩
      rw [this]; rfl
    · rw [if_neg (fun q => c (nI_e (by omega) (by omega) q))]
      exact ih (i + 1) f (by omega) (by omega) (fun p hp => by
        by_cases z : p = i
        · rw [z]; exact c
        · exact hI p (by omega))
theorem inLR_lp {B : Bd} {M : Mem} {d : Nat} (hw : wfB B) (hb : brdR B M) (hd : d < bn B) : ∀ (k i fuel : Nat), i + k = bpl B → k < fuel → (∀ p, p < i → ¬ lgA B p = d) → f_X12_isDone_b2 M fuel (nI d) (nI i) = some (bI (inL B d)) := by
  have hn := hw.2.2.1
  have h12 := hw.2.2.2.1
  intro k
  induction k with
  | zero =>
    intro i fuel hi hf hI
    obtain ⟨f, rfl⟩ : ∃ f, fuel = f + 1 := ⟨fuel - 1, by omega⟩
    unfold f_X12_isDone_b2
    rw [hb.2.1, if_pos (nI_le (by omega) (by omega))]
    have : inL B d = false := by
      unfold inL
      cases z : anyN (fun p => decide (lgA B p = d)) (bpl B)
      · rfl
      · obtain ⟨p, h1, h2⟩ := (anyN_iff _ _).mp z
        exact absurd (of_decide_eq_true h2) (hI p (by omega))
    rw [this]
    rfl
  | succ k ih =>
    intro i fuel hi hf hI
    obtain ⟨f, rfl⟩ : ∃ f, fuel = f + 1 := ⟨fuel - 1, by omega⟩
    have hl := lgA_in hw (p := i) (by omega)
    unfold f_X12_isDone_b2
    rw [hb.2.1, if_neg (nI_ge (by omega) (by omega)), ldI_n (by omega) (by decide), hb.2.2.2.2.2.2.2 i (by omega), Option.bind_some, nI_1]
    by_cases c : lgA B i = d
    · rw [if_pos (by rw [c])]
      have : inL B d = true := (anyN_iff _ _).mpr ⟨i, by omega, decide_eq_true c⟩
      rw [this]; rfl
    · rw [if_neg (fun q => c (nI_e (by omega) (by omega) q))]
      exact ih (i + 1) f (by omega) (by omega) (fun p hp => by
        by_cases z : p = i
        · rw [z]; exact c
        · exact hI p (by omega))
theorem banC_lp {B : Bd} {d : Nat} (hw : wfB B) (hd : d < bn B) : ∀ (k i fuel : Nat) (M : Mem), i + k = bpl B → k < fuel → RK B B.1.1 B.1.2 (flt B d i) M →
    ok2 (f_X3_sumBanning_b11 fuel (nI d) (nI (tot B (flt B d i))) (nI i) M) (fun x M' => x = nI (gBan B d) ∧ brdC 1 B M' ∧ RA B M' ∧ fr [27] M M') := by
  have hn := hw.2.2.1
  have h12 := hw.2.2.2.1
  intro k
  induction k with
  | zero =>
    intro i fuel M hi hf h
    obtain ⟨f, rfl⟩ : ∃ f, fuel = f + 1 := ⟨fuel - 1, by omega⟩
    obtain rfl : i = bpl B := by omega
    refine ok2_mk ?_
    unfold f_X3_sumBanning_b11
    rw [h.1.2.1]
    exact ok_pos (nI_le (by omega) (by omega)) (ok_some ⟨rfl, h.1, h.2.1, fr.rf⟩)
  | succ k ih =>
    intro i fuel M hi hf h
    obtain ⟨f, rfl⟩ : ∃ f, fuel = f + 1 := ⟨fuel - 1, by omega⟩
    have hl := lgA_in hw (p := i) (by omega)
    have st := flt_s (B := B) (d := d) (i := i) (by omega)
    have hle := flt_len B d i
    refine ok2_mk ?_
    unfold f_X3_sumBanning_b11
    rw [h.1.2.1]
    refine ok_neg (nI_ge (by omega) (by omega)) ?_
    refine ok_ld (by omega) (by decide) (h.1.2.2.2.2.2.2.2 i (by omega)) ?_
    rw [nI_1]
    by_cases c : lgA B i = d
    · rw [if_pos c] at st
      have := ih (i + 1) f M (by omega) (by omega) (by rw [st]; exact h)
      rw [st] at this
      exact ok_pos (by rw [c]) (this.mono (fun x M' z => z))
    · rw [if_neg c] at st
      refine ok_neg (fun q => c (nI_e (by omega) (by omega) q)) ?_
      refine ok_ld (by omega) (by decide) (h.1.2.2.2.2.2.2.2 i (by omega)) ?_
      refine ok_bp (step_ok hw h hl (by omega)) (fun w M' ⟨q1, q2, q3⟩ => ?_)
      have q1 : w = nI (due B (lgA B i) (cnt B (flt B d i) (lgA B i))) := q1
      have := ih (i + 1) f M' (by omega) (by omega) (by rw [st]; exact q2)
      rw [st, tot_snoc] at this
      rw [q1, nI_add]
      exact this.mono (fun x M2 z => ⟨z.1, z.2.1, z.2.2.1, q3.tr z.2.2.2⟩)
def bnA (B : Bd) (v1 : Int32) : Int32 := if v1 = 0 then oI (apm (inL B) (gBan B) 2147483647 (bn B)) else oC (gBan B) (apm (inL B) (gBan B) 2147483647 (bn B))
theorem bnC {B : Bd} (hw : wfB B) (v1 : Int32) : ∀ (k i fuel : Nat) (M : Mem), i + k = bn B → k < fuel → brdC 1 B M → RA B M →
    ok2 (f_X3_bestBan_b16 fuel v1 (oI (apm (inL B) (gBan B) 2147483647 i)) (nI (oV (gBan B) 2147483647 (apm (inL B) (gBan B) 2147483647 i))) (nI i) M) (fun x M' => x = bnA B v1 ∧ fr [27] M M') := by
  have hn := hw.2.2.1
  have h12 := hw.2.2.2.1
  intro k
  induction k with
  | zero =>
    intro i fuel M hi hf hb hA
    obtain ⟨f, rfl⟩ : ∃ f, fuel = f + 1 := ⟨fuel - 1, by omega⟩
    obtain rfl : i = bn B := by omega
    refine ok2_mk ?_
    unfold f_X3_bestBan_b16 bnA
    rw [hb.1]
    refine ok_pos (nI_le (by omega) (by omega)) ?_
    by_cases c : v1 = 0
    · rw [if_pos c, if_pos c]; exact ok_some ⟨rfl, fr.rf⟩
    · rw [if_neg c, if_neg c]
      cases e : apm (inL B) (gBan B) 2147483647 (bn B) with
      | none => rw [if_pos (show oI none = -9 from rfl)]; exact ok_some ⟨rfl, fr.rf⟩
      | some b =>
        have := apm_lt e
        rw [if_neg (show ¬ oI (some b) = -9 from nI_ne_m9 (n := b) (by omega))]
        exact ok_some ⟨rfl, fr.rf⟩
  | succ k ih =>
    intro i fuel M hi hf hb hA
    obtain ⟨f, rfl⟩ : ∃ f, fuel = f + 1 := ⟨fuel - 1, by omega⟩
    have hv : oV (gBan B) 2147483647 (apm (inL B) (gBan B) 2147483647 i) < 2 ^ 31 := oV_lt (by decide) (fun b e => by have := gBan_lt hw b; omega)
    have hg := gBan_lt hw i
    have st : apm (inL B) (gBan B) 2147483647 (i + 1) = if inL B i = true then ams (gBan B) 2147483647 (apm (inL B) (gBan B) 2147483647 i) i else apm (inL B) (gBan B) 2147483647 i := rfl
    have e1 : f_X3_isInLog (nI i) M = some (bI (inL B i)) := inLC_lp hw hb (by omega) (bpl B) 0 FU (by omega) (FU_big (by omega)) (fun p hp => by omega)
    refine ok2_mk ?_
    unfold f_X3_bestBan_b16 f_X3_bestBan_b48
    rw [hb.1, e1, Option.bind_some, nI_1]
    refine ok_neg (nI_ge (by omega) (by omega)) ?_
    cases q : inL B i with
    | false =>
      have := ih (i + 1) f M (by omega) (by omega) hb hA
      rw [st, q, if_neg (by decide)] at this
      refine ok_pos (show bI false = 0 from rfl) ?_
      refine ok_pos (show nI (oV (gBan B) 2147483647 (apm (inL B) (gBan B) 2147483647 i)) ≤ 2147483647 from (nI_leI (b := 2147483647) hv (by decide)).mpr (by omega)) ?_
      exact this.mono (fun x M' z => z)
    | true =>
      refine ok_neg (show ¬ bI true = 0 from n10) ?_
      refine ok_bp (P := fun w M' => w = nI (gBan B i) ∧ brdC 1 B M' ∧ RA B M' ∧ fr [27] M M') (ok2_mk ?_) (fun w M' ⟨q1, q2, q3, q4⟩ => ?_)
      · unfold f_X3_sumBanning
        refine ok_bind (forget_RK (ty := B.1.1) (te := B.1.2) hw hb hA) (fun M1 ⟨h1, f1⟩ => ?_)
        exact (banC_lp hw (by omega) (bpl B) 0 FU M1 (by omega) (FU_big (by omega)) h1).mono (fun x M' z => ⟨z.1, z.2.1, z.2.2.1, f1.tr z.2.2.2⟩)
      · have := ih (i + 1) f M' (by omega) (by omega) q2 q3
        rw [st, q, if_pos rfl, amsN] at this
        rw [q1]
        by_cases c : gBan B i < oV (gBan B) 2147483647 (apm (inL B) (gBan B) 2147483647 i)
        · rw [if_pos c] at this
          exact ok_neg (nI_ge c hv) (this.mono (fun x M2 z => ⟨z.1, q4.tr z.2⟩))
        · rw [if_neg c] at this
          exact ok_pos ((nI_leI hv (by omega)).mpr (by omega)) (this.mono (fun x M2 z => ⟨z.1, q4.tr z.2⟩))
theorem wooR_lp {B : Bd} {d : Nat} {MR M0 : Mem} (hw : wfB B) (hd : d < bn B) (hb0 : brdR B M0) (ht : TH MR M0) : ∀ (k i fuel : Nat) (M : Mem), i + k = bpl B → k < fuel → mR M0 M → (∀ r, r ≠ 5 → M.1 r = M0.1 r) → (∀ j, j < (flt B d i).length → M.1 5 j = nI ((flt B d i).getD j 0)) → (∀ j, i ≤ j → j < bpl B → M.1 5 j = nI (lgA B j)) →
    ok2 (f_X12_dueWithout_b8 fuel (nI d) (nI (flt B d i).length) (nI i) M) (fun x M' => x = nI (gBan B d) ∧ agR MR M') := by
  have hn := hw.2.2.1
  have h12 := hw.2.2.2.1
  intro k
  induction k with
  | zero =>
    intro i fuel M hi hf hm hr h1 h2
    obtain ⟨f, rfl⟩ : ∃ f, fuel = f + 1 := ⟨fuel - 1, by omega⟩
    obtain rfl : i = bpl B := by omega
    have hle := flt_len B d (bpl B)
    refine ok2_mk ?_
    unfold f_X12_dueWithout_b8
    have e6 : M.1 0 6 = nI (bpl B) := by rw [hr 0 (by decide)]; exact hb0.2.1
    rw [e6]
    refine ok_pos (nI_le (by omega) (by omega)) ?_
    have hb : brdR (B.1, B.2.1, flt B d (bpl B)) (wI M 0 6 (nI (flt B d (bpl B)).length)) := by
      obtain ⟨g1, g2, g3, g4, g5, g6, g7, g8⟩ := hb0
      refine ⟨?_, ?_, ?_, ?_, fun j hj => ?_, fun j hj => ?_, fun j hj => ?_, fun j hj => ?_⟩
      · rw [wI_at, if_neg (by omega), hr 0 (by decide)]; exact g1
      · rw [wI_at, if_pos ⟨rfl, rfl⟩]; rfl
      · rw [wI_at, if_neg (by omega), hr 0 (by decide)]; exact g3
      · rw [wI_at, if_neg (by omega), hr 0 (by decide)]; exact g4
      · rw [wI_other (by decide), hr 2 (by decide)]; exact g5 j hj
      · rw [wI_other (by decide), hr 3 (by decide)]; exact g6 j hj
      · rw [wI_other (by decide), hr 4 (by decide)]; exact g7 j hj
      · rw [wI_other (by decide)]; exact h1 j hj
    have hwf : wfB (B.1, B.2.1, flt B d (bpl B)) := ⟨hw.1, hw.2.1, hw.2.2.1, Nat.le_trans hle h12, hw.2.2.2.2.1, fun x hx => by
      unfold flt at hx
      exact hw.2.2.2.2.2 x (List.mem_of_mem_take (List.mem_filter.mp hx).1)⟩
    have e : f_X12_all (wI M 0 6 (nI (flt B d (bpl B)).length)) = some (nI (gBan B d)) := allR hb hwf
    rw [e, Option.bind_some]
    refine ok_bind (forgets_ok ht (hm.tr (mR.wI (Or.inl ⟨rfl, by decide, by decide, by decide, by decide⟩)))) (fun M4 g => ok_some ⟨rfl, g⟩)
  | succ k ih =>
    intro i fuel M hi hf hm hr h1 h2
    obtain ⟨f, rfl⟩ : ∃ f, fuel = f + 1 := ⟨fuel - 1, by omega⟩
    have hle := flt_len B d i
    have hl := lgA_in hw (p := i) (by omega)
    have st := flt_s (B := B) (d := d) (i := i) (by omega)
    have e6 : M.1 0 6 = nI (bpl B) := by rw [hr 0 (by decide)]; exact hb0.2.1
    refine ok2_mk ?_
    unfold f_X12_dueWithout_b8
    rw [e6]
    refine ok_neg (nI_ge (by omega) (by omega)) ?_
    refine ok_ld (by omega) (by decide) (h2 i (Nat.le_refl i) (by omega)) ?_
    refine ok_st (by omega) (by decide) ?_
    refine ok_ld (v := nI (lgA B i)) (by omega) (by decide) (by
      rw [wI_at]
      by_cases c : i = (flt B d i).length
      · rw [if_pos ⟨rfl, c⟩]
      · rw [if_neg (by omega)]; exact h2 i (Nat.le_refl i) (by omega)) ?_
    have hm' : mR M0 (wI M 5 (flt B d i).length (nI (lgA B i))) := hm.tr (mR.wI (Or.inr (by omega)))
    have hr' : ∀ r, r ≠ 5 → (wI M 5 (flt B d i).length (nI (lgA B i))).1 r = M0.1 r := fun r hr' => by rw [wI_other hr']; exact hr r hr'
    have h2' : ∀ j, i + 1 ≤ j → j < bpl B → (wI M 5 (flt B d i).length (nI (lgA B i))).1 5 j = nI (lgA B j) := fun j z1 z2 => by rw [wI_at, if_neg (by omega)]; exact h2 j (by omega) z2
    rw [nI_1]
    by_cases c : lgA B i = d
    · rw [if_pos c] at st
      have := ih (i + 1) f (wI M 5 (flt B d i).length (nI (lgA B i))) (by omega) (by omega) hm' hr' (fun j hj => by
        rw [st] at hj ⊢
        rw [wI_at, if_neg (by omega)]; exact h1 j hj) h2'
      rw [st] at this
      rw [if_pos (by rw [c]), show nI (flt B d i).length + 0 = nI (flt B d i).length from nI_add _ 0]
      exact this.mono (fun x M' z => z)
    · rw [if_neg c] at st
      have hlen : (flt B d (i + 1)).length = (flt B d i).length + 1 := by rw [st]; simp
      have := ih (i + 1) f (wI M 5 (flt B d i).length (nI (lgA B i))) (by omega) (by omega) hm' hr' (fun j hj => by
        rw [hlen] at hj
        rw [st, getD_snoc, wI_at]
        by_cases z : j = (flt B d i).length
        · rw [if_pos ⟨rfl, z⟩, if_neg (by omega), if_pos z]
        · rw [if_neg (by omega), if_pos (by omega)]; exact h1 j (by omega)) h2'
      rw [hlen] at this
      rw [if_neg (fun q => c (nI_e (by omega) (by omega) q)), nI_1]
      exact this.mono (fun x M' z => z)
theorem wooR {B : Bd} {M : Mem} {d : Nat} (hw : wfB B) (hb : brdR B M) (hd : d < bn B) : ok2 (f_X12_dueWithout (nI d) M) (fun x M' => x = nI (gBan B d) ∧ agR M M') := by
  have h12 := hw.2.2.2.1
  refine ok2_mk ?_
  unfold f_X12_dueWithout
  refine ok_bind thinks_ok (fun M1 ht => ?_)
  have hb1 := TH.brd hw hb ht
  exact (wooR_lp hw hd hb1 ht (bpl B) 0 FU M1 (by omega) (FU_big (by omega)) mR.rf (fun _ _ => rfl) (fun j hj => absurd hj (Nat.not_lt_zero j)) (fun j _ hj => hb1.2.2.2.2.2.2.2 j hj)).mono (fun x M' z => z)
theorem bnR {B : Bd} {M0 : Mem} (hw : wfB B) (v1 : Int32) : ∀ (k i fuel : Nat) (M : Mem), i + k = bn B → k < fuel → brdR B M → agR M0 M →
    ok2 (f_X12_banned_b25 fuel v1 (oI (apm (inL B) (gBan B) 2147483647 i)) (oC (gBan B) (apm (inL B) (gBan B) 2147483647 i)) (nI i) M) (fun x M' => x = bnA B v1 ∧ agR M0 M') := by
  have hn := hw.2.2.1
  have h12 := hw.2.2.2.1
  intro k
  induction k with
  | zero =>
    intro i fuel M hi hf hb hA
    obtain ⟨f, rfl⟩ : ∃ f, fuel = f + 1 := ⟨fuel - 1, by omega⟩
    obtain rfl : i = bn B := by omega
    refine ok2_mk ?_
    unfold f_X12_banned_b25 bnA
    rw [hb.1]
    refine ok_pos (nI_le (by omega) (by omega)) ?_
    by_cases c : v1 = 0
    · rw [if_pos c, if_pos c]; exact ok_some ⟨rfl, hA⟩
    · rw [if_neg c, if_neg c]; exact ok_some ⟨rfl, hA⟩
  | succ k ih =>
    intro i fuel M hi hf hb hA
    obtain ⟨f, rfl⟩ : ∃ f, fuel = f + 1 := ⟨fuel - 1, by omega⟩
    have hg := gBan_lt hw i
    have st : apm (inL B) (gBan B) 2147483647 (i + 1) = if inL B i = true then ams (gBan B) 2147483647 (apm (inL B) (gBan B) 2147483647 i) i else apm (inL B) (gBan B) 2147483647 i := rfl
    have e1 : f_X12_isDone (nI i) M = some (bI (inL B i)) := inLR_lp hw hb (by omega) (bpl B) 0 FU (by omega) (FU_big (by omega)) (fun p hp => by omega)
    refine ok2_mk ?_
    unfold f_X12_banned_b25
    rw [hb.1, e1, Option.bind_some, nI_1]
    refine ok_neg (nI_ge (by omega) (by omega)) ?_
    cases q : inL B i with
    | false =>
      have := ih (i + 1) f M (by omega) (by omega) hb hA
      rw [st, q, if_neg (by decide)] at this
      exact ok_pos (show bI false = 0 from rfl) (this.mono (fun x M' z => z))
    | true =>
      refine ok_neg (show ¬ bI true = 0 from n10) ?_
      refine ok_bp (wooR hw hb (by omega)) (fun w M' ⟨q1, q2⟩ => ?_)
      have := ih (i + 1) f M' (by omega) (by omega) (brdR_bv hw hb q2.1) (hA.tr q2)
      rw [st, q, if_pos rfl] at this
      rw [q1]
      cases e : apm (inL B) (gBan B) 2147483647 i with
      | none =>
        rw [e, show ams (gBan B) 2147483647 none i = some i from if_pos (show gBan B i < 2147483647 by omega)] at this
        exact ok_pos (show oI none < 0 by decide) (this.mono (fun x M2 z => z))
      | some b =>
        have hlt := apm_lt e
        have hgb := gBan_lt hw b
        rw [e] at this
        refine ok_neg (show ¬ oI (some b) < 0 from nI_pos (by omega)) ?_
        show ok (if nI (gBan B i) < nI (gBan B b) then _ else _) _
        by_cases c : gBan B i < gBan B b
        · rw [show ams (gBan B) 2147483647 (some b) i = some i from if_pos c] at this
          exact ok_pos ((nI_ltI (by omega) (by omega)).mpr c) (this.mono (fun x M2 z => z))
        · rw [show ams (gBan B) 2147483647 (some b) i = some b from if_neg c] at this
          exact ok_neg (fun q => c ((nI_ltI (by omega) (by omega)).mp q)) (this.mono (fun x M2 z => z))
theorem sim_banned {MC MR : Mem} (h : Inv MC MR) (a : Int32) : Sim (f_X11_banned a MC) (f_X12_banned a MR) := by
  obtain ⟨B, im, S, lt, rw', hw, hC, hR, hf⟩ := id h
  have hn := hw.1.2.2.1
  unfold f_X11_banned f_X12_banned
  simp only [bind_bp]
  have go : Sim (f_X3_bestBan a MC) (f_X12_banned_b25 FU a (-9) (-9) 0 MR) := by
    refine Sim.q h (bnA B a) (ok2_mk ?_) (bnR hw.1 a (bn B) 0 FU MR (by omega) (FU_big (by omega)) hR.1 agR.rf)
    unfold f_X3_bestBan
    refine ok_bind (open_ok hw.1 hC.1) (fun M1 ⟨h1, f1⟩ => ?_)
    exact (bnC hw.1 a (bn B) 0 FU M1 (by omega) (FU_big (by omega)) h1.1 h1.2.1).mono (fun x M' z => ⟨z.1, (f1.q (by decide)).tr (z.2.q (by decide))⟩)
  rcases either a with ⟨e1, e2⟩ | ⟨e1, e2, -⟩ | ⟨e1, e2, -⟩
  · rw [e1, e2, if_pos p00, if_pos p00]; exact Sim.no2 h
  · rw [e1, e2, if_neg n10, if_neg n10]; exact go
  · rw [e1, e2, if_neg n10, if_neg n10]; exact go
