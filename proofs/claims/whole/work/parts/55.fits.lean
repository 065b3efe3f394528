/-! fits -/
def dpW (B : Bd) (w p : Nat) : Nat := dpA (lwW B w) p
def fitB (B : Bd) (rw' : List Nat) (w : Nat) : Bool := !anyN (fun p => !decide (min (dpW B w p) 99 = rw'.getD p 0)) rw'.length
theorem fit_f {B : Bd} {rw' : List Nat} {w p : Nat} (hp : p < rw'.length) (h : ¬ min (dpW B w p) 99 = rw'.getD p 0) : fitB B rw' w = false := by
  unfold fitB
  rw [(anyN_iff _ _).mpr ⟨p, hp, by rw [decide_eq_false h]; rfl⟩]
  rfl
theorem fit_t {B : Bd} {rw' : List Nat} {w : Nat} (h : ∀ p, p < rw'.length → min (dpW B w p) 99 = rw'.getD p 0) : fitB B rw' w = true := by
  unfold fitB
  cases z : anyN (fun p => !decide (min (dpW B w p) 99 = rw'.getD p 0)) rw'.length
  · rfl
  · obtain ⟨p, h1, h2⟩ := (anyN_iff _ _).mp z
    rw [decide_eq_true (h p h1)] at h2
    cases h2
theorem dpW_lt {B : Bd} (hw : wfB B) {w p : Nat} (h : w < 36) (hp : p < bpl B) : dpW B w p < 1000 := dpA_le (lwW_wf hw h) hp
/-- the row, in the class's store -/
def rowC (rw' : List Nat) (M : Mem) : Prop := M.1 23 1 = nI rw'.length ∧ ∀ j, j < rw'.length → M.1 24 j = nI (rw'.getD j 0)
theorem rowC.fr {rw' : List Nat} {M M' : Mem} {rs : List Nat} (h : rowC rw' M) (hf : fr rs M M') (hrs : ∀ r ∈ rs, 24 < r) : rowC rw' M' := by
  unfold rowC
  rw [hf 23 (fun q => absurd (hrs 23 q) (by omega)), hf 24 (fun q => absurd (hrs 24 q) (by omega))]
  exact h
theorem told_lp {B : Bd} {rw' : List Nat} {ty te : Nat} (hw : wfB B) (hty : ty < 4) (hte : te < 9) (hrl : rw'.length ≤ bpl B) (hr : ∀ x ∈ rw', x < 100) : ∀ (k i fuel : Nat) (M : Mem), i + k = rw'.length → k < fuel → RK B ty te (B.2.2.take i) M → rowC rw' M → (∀ p, p < i → min (dpW B (9 * ty + te) p) 99 = rw'.getD p 0) →
    ok2 (f_X7_isAsTold_b11 fuel (nI i) M) (fun x M' => x = bI (fitB B rw' (9 * ty + te)) ∧ fr [27] M M') := by
  have h12 := hw.2.2.2.1
  intro k
  induction k with
  | zero =>
    intro i fuel M hi hf h hrow hI
    obtain ⟨f, rfl⟩ : ∃ f, fuel = f + 1 := ⟨fuel - 1, by omega⟩
    obtain rfl : i = rw'.length := by omega
    refine ok2_mk ?_
    unfold f_X7_isAsTold_b11
    rw [hrow.1]
    refine ok_pos (nI_le (by omega) (by omega)) (ok_some ⟨?_, fr.rf⟩)
    rw [fit_t hI]
    rfl
  | succ k ih =>
    intro i fuel M hi hf h hrow hI
    obtain ⟨f, rfl⟩ : ∃ f, fuel = f + 1 := ⟨fuel - 1, by omega⟩
    have hlg := lgA_in hw (p := i) (by omega)
    refine ok2_mk ?_
    unfold f_X7_isAsTold_b11
    rw [hrow.1, h.1.2.1]
    refine ok_neg (nI_ge (by omega) (by omega)) ?_
    refine ok_neg (nI_ge (by omega) (by omega)) ?_
    refine ok_ld (by omega) (by decide) (h.1.2.2.2.2.2.2.2 i (by omega)) ?_
    refine ok_bp (step_ok hw h hlg (by rw [List.length_take]; omega)) (fun v M' ⟨q1, q2, q3⟩ => ?_)
    have q1 : v = nI (due B (lgA B i) (cnt (lw B ty te) (B.2.2.take i) (lgA B i))) := q1
    have hrow' : rowC rw' M' := hrow.fr q3 (by decide)
    have ed : due B (lgA B i) (cnt (lw B ty te) (B.2.2.take i) (lgA B i)) = dpW B (9 * ty + te) i := by
      unfold dpW
      rw [lwW_at B hte]
      rfl
    have hdl := dpW_lt hw (w := 9 * ty + te) (p := i) (by omega) (by omega)
    have hx : rw'.getD i 0 < 100 := by
      have hi' : i < rw'.length := by omega
      rw [List.getD_eq_getElem?_getD, List.getElem?_eq_getElem hi']
      exact hr _ (List.getElem_mem hi')
    refine ok_ld (by omega) (by decide) (hrow'.2 i (by omega)) ?_
    rw [q1, ed, l_99, mnI_n (by omega) (by decide), nI_1]
    by_cases c : min (dpW B (9 * ty + te) i) 99 = rw'.getD i 0
    · refine ok_pos (by rw [c]) ?_
      rw [← take_lg (by omega)] at q2
      exact (ih (i + 1) f M' (by omega) (by omega) q2 hrow' (fun p hp => by
        by_cases z : p = i
        · rw [z]; exact c
        · exact hI p (by omega))).mono (fun x M2 z => ⟨z.1, q3.tr z.2⟩)
    · refine ok_neg (fun q => c (nI_e (by omega) (by omega) q)) (ok_some ⟨?_, q3⟩)
      rw [fit_f (by omega) c]
      rfl
theorem toldC {B : Bd} {rw' : List Nat} {ty te : Nat} {M : Mem} (hw : wfB B) (hty : ty < 4) (hte : te < 9) (hrl : rw'.length ≤ bpl B) (hr : ∀ x ∈ rw', x < 100) (hb : brdC 1 B M) (hrow : rowC rw' M) :
    ok2 (f_X7_isAsTold (nI ty) (nI te) M) (fun x M' => x = bI (fitB B rw' (9 * ty + te)) ∧ brdC 1 B M' ∧ rowC rw' M' ∧ fr [26, 27] M M') := by
  have h12 := hw.2.2.2.1
  refine ok2_mk ?_
  unfold f_X7_isAsTold
  refine ok_bind (openBy_ok hw hty (by omega) hb) (fun M1 ⟨h1, f1⟩ => ?_)
  exact (told_lp hw hty hte hrl hr rw'.length 0 FU M1 (by omega) (FU_big (by omega)) h1 (hrow.fr f1 (by decide)) (fun p hp => by omega)).mono (fun x M' z => ⟨z.1, h1.1.fr z.2 (by decide), (hrow.fr f1 (by decide)).fr z.2 (by decide), f1.tr (z.2.mono (by decide))⟩)
theorem manyC_in {B : Bd} {rw' : List Nat} {ty : Nat} (hw : wfB B) (hty : ty < 4) (hrl : rw'.length ≤ bpl B) (hr : ∀ x ∈ rw', x < 100) (kont : Int32 → Int32 → Mem → Option (Int32 × Mem)) (Q : Int32 × Mem → Prop) :
    ∀ (k te fuel : Nat) (M : Mem), te + k = 9 → k < fuel → brdC 1 B M → rowC rw' M →
    (∀ M', brdC 1 B M' → rowC rw' M' → fr [26, 27] M M' → ok (kont (nI (cntN (fitB B rw') (9 * (ty + 1)))) (nI (ty + 1)) M') Q) →
    ok (f_X7_howManyFit_b11 kont fuel (nI (cntN (fitB B rw') (9 * ty + te))) (nI ty) (nI te) M) Q := by
  intro k
  induction k with
  | zero =>
    intro te fuel M hi hf hb hrow hk
    obtain ⟨f, rfl⟩ : ∃ f, fuel = f + 1 := ⟨fuel - 1, by omega⟩
    obtain rfl : te = 9 := by omega
    unfold f_X7_howManyFit_b11
    rw [nI_1]
    exact ok_pos (by decide) (hk M hb hrow fr.rf)
  | succ k ih =>
    intro te fuel M hi hf hb hrow hk
    obtain ⟨f, rfl⟩ : ∃ f, fuel = f + 1 := ⟨fuel - 1, by omega⟩
    unfold f_X7_howManyFit_b11
    refine ok_neg (show ¬ 8 < nI te from fun q => absurd ((nI_ltI (a := 8) (by decide) (by omega)).mp q) (by omega)) ?_
    refine ok_bp (toldC hw hty (by omega) hrl hr hb hrow) (fun v M' ⟨q1, q2, q3, q4⟩ => ?_)
    have st : cntN (fitB B rw') (9 * ty + te + 1) = cntN (fitB B rw') (9 * ty + te) + (fitB B rw' (9 * ty + te)).toNat := rfl
    have := ih (te + 1) f M' (by omega) (by omega) q2 q3 (fun M2 z1 z2 z3 => hk M2 z1 z2 (q4.tr z3))
    rw [show 9 * ty + (te + 1) = 9 * ty + te + 1 by omega, st] at this
    rw [q1, nI_1, nI_1]
    cases q : fitB B rw' (9 * ty + te) with
    | false => rw [q] at this; exact ok_pos (show bI false = 0 from rfl) this
    | true => rw [q] at this; exact ok_neg (show ¬ bI true = 0 from n10) this
theorem manyC {B : Bd} {rw' : List Nat} (hw : wfB B) (hrl : rw'.length ≤ bpl B) (hr : ∀ x ∈ rw', x < 100) : ∀ (k ty fuel : Nat) (M : Mem), ty + k = 4 → k < fuel → brdC 1 B M → rowC rw' M →
    ok2 (f_X7_howManyFit_b4 fuel (nI (cntN (fitB B rw') (9 * ty))) (nI ty) M) (fun x M' => x = nI (cntN (fitB B rw') 36) ∧ fr [26, 27] M M') := by
  intro k
  induction k with
  | zero =>
    intro ty fuel M hi hf hb hrow
    obtain ⟨f, rfl⟩ : ∃ f, fuel = f + 1 := ⟨fuel - 1, by omega⟩
    obtain rfl : ty = 4 := by omega
    refine ok2_mk ?_
    unfold f_X7_howManyFit_b4
    exact ok_pos (by decide) (ok_some ⟨rfl, fr.rf⟩)
  | succ k ih =>
    intro ty fuel M hi hf hb hrow
    obtain ⟨f, rfl⟩ : ∃ f, fuel = f + 1 := ⟨fuel - 1, by omega⟩
    refine ok2_mk ?_
    unfold f_X7_howManyFit_b4
    refine ok_neg (show ¬ 4 ≤ nI ty from fun q => absurd ((nI_leI (a := 4) (by decide) (by omega)).mp q) (by omega)) ?_
    exact manyC_in hw (by omega) hrl hr (f_X7_howManyFit_b4 f) _ 9 0 FU M (by omega) (FU_big (by omega)) hb hrow (fun M' h1 h2 h3 => (ih (ty + 1) f M' (by omega) (by omega) h1 h2).mono (fun x M2 z => ⟨z.1, h3.tr z.2⟩))
/-- the first that fits -/
def lsF (p : Nat → Bool) : Nat → Nat → Int32
  | _, 0 => -9
  | i, k + 1 => if p i = true then nI (cdW i) else lsF p (i + 1) k
theorem firstC_in {B : Bd} {rw' : List Nat} {ty : Nat} (hw : wfB B) (hty : ty < 4) (hrl : rw'.length ≤ bpl B) (hr : ∀ x ∈ rw', x < 100) (kont : Int32 → Mem → Option (Int32 × Mem)) (M0 : Mem) (m : Nat)
    (hk : ∀ M', brdC 1 B M' → rowC rw' M' → fr [26, 27] M0 M' → ok2 (kont (nI (ty + 1)) M') (fun x M2 => x = lsF (fitB B rw') (9 * (ty + 1)) m ∧ fr [26, 27] M0 M2)) :
    ∀ (k te fuel : Nat) (M : Mem), te + k = 9 → k < fuel → brdC 1 B M → rowC rw' M → fr [26, 27] M0 M →
    ok2 (f_X7_firstFitting_b9 kont fuel (nI ty) (nI te) M) (fun x M2 => x = lsF (fitB B rw') (9 * ty + te) (k + m) ∧ fr [26, 27] M0 M2) := by
  intro k
  induction k with
  | zero =>
    intro te fuel M hi hf hb hrow hfr
    obtain ⟨f, rfl⟩ : ∃ f, fuel = f + 1 := ⟨fuel - 1, by omega⟩
    obtain rfl : te = 9 := by omega
    refine ok2_mk ?_
    unfold f_X7_firstFitting_b9
    rw [nI_1, Nat.zero_add]
    exact ok_pos (by decide) ((hk M hb hrow hfr).mono (fun x M2 z => z))
  | succ k ih =>
    intro te fuel M hi hf hb hrow hfr
    obtain ⟨f, rfl⟩ : ∃ f, fuel = f + 1 := ⟨fuel - 1, by omega⟩
    refine ok2_mk ?_
    unfold f_X7_firstFitting_b9
    refine ok_neg (show ¬ 8 < nI te from fun q => absurd ((nI_ltI (a := 8) (by decide) (by omega)).mp q) (by omega)) ?_
    refine ok_bp (toldC hw hty (by omega) hrl hr hb hrow) (fun v M' ⟨q1, q2, q3, q4⟩ => ?_)
    have := ih (te + 1) f M' (by omega) (by omega) q2 q3 (hfr.tr q4)
    rw [q1, nI_1, show k + 1 + m = k + m + 1 by omega]
    have st : lsF (fitB B rw') (9 * ty + te) (k + m + 1) = if fitB B rw' (9 * ty + te) = true then nI (cdW (9 * ty + te)) else lsF (fitB B rw') (9 * ty + te + 1) (k + m) := rfl
    rw [st, l_10, pk_mul, nI_add]
    cases q : fitB B rw' (9 * ty + te) with
    | false =>
      rw [if_neg (show ¬ false = true by decide)]
      exact ok_pos (show bI false = 0 from rfl) (this.mono (fun x M2 z => z))
    | true =>
      rw [if_pos rfl]
      exact ok_neg (show ¬ bI true = 0 from n10) (ok_some ⟨by rw [cdW_at (by omega)], hfr.tr q4⟩)
theorem firstC {B : Bd} {rw' : List Nat} {M0 : Mem} (hw : wfB B) (hrl : rw'.length ≤ bpl B) (hr : ∀ x ∈ rw', x < 100) : ∀ (k ty fuel : Nat) (M : Mem), ty + k = 4 → k < fuel → brdC 1 B M → rowC rw' M → fr [26, 27] M0 M →
    ok2 (f_X7_firstFitting_b2 fuel (nI ty) M) (fun x M' => x = lsF (fitB B rw') (9 * ty) (9 * k) ∧ fr [26, 27] M0 M') := by
  intro k
  induction k with
  | zero =>
    intro ty fuel M hi hf hb hrow hfr
    obtain ⟨f, rfl⟩ : ∃ f, fuel = f + 1 := ⟨fuel - 1, by omega⟩
    obtain rfl : ty = 4 := by omega
    refine ok2_mk ?_
    unfold f_X7_firstFitting_b2
    exact ok_pos (by decide) (ok_some ⟨rfl, hfr⟩)
  | succ k ih =>
    intro ty fuel M hi hf hb hrow hfr
    obtain ⟨f, rfl⟩ : ∃ f, fuel = f + 1 := ⟨fuel - 1, by omega⟩
    refine ok2_mk ?_
    unfold f_X7_firstFitting_b2
    refine ok_neg (show ¬ 4 ≤ nI ty from fun q => absurd ((nI_leI (a := 4) (by decide) (by omega)).mp q) (by omega)) ?_
    have := firstC_in (te := 0) (ty := ty) hw (by omega) hrl hr (f_X7_firstFitting_b2 f) M0 (9 * k) (fun M' h1 h2 h3 => ih (ty + 1) f M' (by omega) (by omega) h1 h2 h3) 9 FU M (by omega) (FU_big (by omega)) hb hrow hfr
    rw [show 9 + 9 * k = 9 * (k + 1) by omega] at this
    exact this.mono (fun x M2 z => z)
/-! the model: does the row stand for this law -/
def rowR (rw' : List Nat) (M : Mem) : Prop := M.1 0 24 = nI rw'.length ∧ ∀ j, j < rw'.length → M.1 13 j = nI (rw'.getD j 0)
theorem isSo_lp {B : Bd} {rw' : List Nat} {w : Nat} {M : Mem} (hw : wfB B) (h36 : w < 36) (hb : brdR (lwW B w) M) (hrl : rw'.length ≤ bpl B) (hr : ∀ x ∈ rw', x < 100) (hrow : rowR rw' M) : ∀ (k i fuel : Nat), i + k = rw'.length → k < fuel → (∀ p, p < i → min (dpW B w p) 99 = rw'.getD p 0) →
    f_X12_isSo_b2 M fuel (nI i) = some (bI (fitB B rw' w)) := by
  have h12 := hw.2.2.2.1
  intro k
  induction k with
  | zero =>
    intro i fuel hi hf hI
    obtain ⟨f, rfl⟩ : ∃ f, fuel = f + 1 := ⟨fuel - 1, by omega⟩
    obtain rfl : i = rw'.length := by omega
    unfold f_X12_isSo_b2
    rw [hrow.1, if_pos (nI_le (by omega) (by omega)), fit_t hI]
    rfl
  | succ k ih =>
    intro i fuel hi hf hI
    obtain ⟨f, rfl⟩ : ∃ f, fuel = f + 1 := ⟨fuel - 1, by omega⟩
    have hdl := dpW_lt hw (w := w) (p := i) h36 (by omega)
    have hx : rw'.getD i 0 < 100 := by
      have hi' : i < rw'.length := by omega
      rw [List.getD_eq_getElem?_getD, List.getElem?_eq_getElem hi']
      exact hr _ (List.getElem_mem hi')
    unfold f_X12_isSo_b2 f_X12_isSo_b28
    rw [hrow.1, if_neg (nI_ge (by omega) (by omega)), dueAtR hb (lwW_wf hw h36) (show i < bpl B by omega), Option.bind_some, ldI_n (by omega) (by decide), hrow.2 i (by omega), Option.bind_some, nI_1]
    have e : (if nI (due (lwW B w) (lgA (lwW B w) i) (cnt (lwW B w) ((lwW B w).2.2.take i) (lgA (lwW B w) i))) ≤ 99 then nI (due (lwW B w) (lgA (lwW B w) i) (cnt (lwW B w) ((lwW B w).2.2.take i) (lgA (lwW B w) i))) else (99 : Int32)) = nI (min (dpW B w i) 99) := by
      show (if nI (dpW B w i) ≤ 99 then nI (dpW B w i) else (99 : Int32)) = _
      by_cases c : dpW B w i ≤ 99
      · rw [if_pos (show nI (dpW B w i) ≤ 99 from nI_le (b := 99) c (by decide)), Nat.min_eq_left c]
      · rw [if_neg (show ¬ nI (dpW B w i) ≤ 99 from nI_ge (a := 99) (by omega) (by omega)), Nat.min_eq_right (by omega)]; rfl
    rw [e]
    by_cases c : min (dpW B w i) 99 = rw'.getD i 0
    · rw [if_pos (by rw [c])]
      exact ih (i + 1) f (by omega) (by omega) (fun p hp => by
        by_cases z : p = i
        · rw [z]; exact c
        · exact hI p (by omega))
    · rw [if_neg (fun q => c (nI_e (by omega) (by omega) q)), fit_f (by omega) c]
      rfl
theorem isSoR {B : Bd} {rw' : List Nat} {w : Nat} {M : Mem} (hw : wfB B) (h36 : w < 36) (hb : brdR (lwW B w) M) (hrl : rw'.length ≤ bpl B) (hr : ∀ x ∈ rw', x < 100) (hrow : rowR rw' M) : f_X12_isSo M = some (bI (fitB B rw' w)) :=
  isSo_lp hw h36 hb hrl hr hrow rw'.length 0 FU (by omega) (FU_big (by have := hw.2.2.2.1; omega)) (fun p hp => by omega)
def dn : Nat → Int32
  | 0 => -1
  | i + 1 => nI i
theorem dn_next (i : Nat) (hi : i < 2 ^ 31) : nI i + -1 = dn i := by
  cases i with
  | zero => rfl
  | succ i =>
    show nI (i + 1) + -1 = nI i
    have := (sub_one_nI (j := i + 1) (k := 1) (by omega)).trans (by rw [Nat.add_sub_cancel])
    rw [← this, Int32.sub_eq_add_neg]
    rfl
def cDn (p : Nat → Bool) : Nat → Nat → Nat
  | _, 0 => 0
  | i, k + 1 => (p i).toNat + cDn p (i + 1) k
theorem cDn_cnt (p : Nat → Bool) : ∀ (k i : Nat), cntN p i + cDn p i k = cntN p (i + k) := by
  intro k
  induction k with
  | zero => intro i; rfl
  | succ k ih =>
    intro i
    have := ih (i + 1)
    have e : cntN p (i + 1) = cntN p i + (p i).toNat := rfl
    rw [show i + (k + 1) = i + 1 + k by omega, ← this, e]
    show cntN p i + ((p i).toNat + cDn p (i + 1) k) = _
    omega
theorem rowR.to {rw' : List Nat} {M M' : Mem} (h : rowR rw' M) (e : mR M M') : rowR rw' M' := by
  unfold rowR
  rw [e.1 24 (by omega), e.2 13 (by omega)]
  exact h
theorem fitsR {B : Bd} {rw' : List Nat} {M M0 : Mem} (hw : wfB B) (hrl : rw'.length ≤ bpl B) (hr : ∀ x ∈ rw', x < 100) (ht : TH M0 M) (hrow : rowR rw' M) (v1 : Int32) : ∀ (i k fuel x y : Nat) (M1 : Mem), i + k = 36 → i < fuel → brdR (lw B x y) M1 → mR M M1 →
    ok2 (f_X12_fits_b56 fuel v1 (nI (cDn (fitB B rw') i k)) (lsF (fitB B rw') i k) (dn i) M1) (fun v M' => v = (if v1 = 0 then nI (cDn (fitB B rw') 0 36) else lsF (fitB B rw') 0 36) ∧ agR M0 M') := by
  intro i
  induction i with
  | zero =>
    intro k fuel x y M1 hi hf hb hm
    obtain ⟨f, rfl⟩ : ∃ f, fuel = f + 1 := ⟨fuel - 1, by omega⟩
    obtain rfl : k = 36 := by omega
    refine ok2_mk ?_
    unfold f_X12_fits_b56
    refine ok_pos (show dn 0 < 0 by decide) ?_
    refine ok_bind (forgets_ok ht hm) (fun M2 g => ?_)
    by_cases c : v1 = 0
    · rw [if_pos c, if_pos c]; exact ok_some ⟨rfl, g⟩
    · rw [if_neg c, if_neg c]; exact ok_some ⟨rfl, g⟩
  | succ i ih =>
    intro k fuel x y M1 hi hf hb hm
    obtain ⟨f, rfl⟩ : ∃ f, fuel = f + 1 := ⟨fuel - 1, by omega⟩
    refine ok2_mk ?_
    unfold f_X12_fits_b56
    rw [show dn (i + 1) = nI i from rfl]
    refine ok_neg (nI_pos (by omega)) ?_
    obtain ⟨M2, e1, b1, m1, -, -⟩ := layR hb hm (w := i) (by omega)
    rw [e1, Option.bind_some, isSoR hw (by omega) b1 hrl hr (hrow.to m1), Option.bind_some, nI_1, dn_next i (by omega), codeOf_n (by omega)]
    have := ih (k + 1) f (i / 9) (i % 9) M2 (by omega) (by omega) b1 m1
    have s1 : cDn (fitB B rw') i (k + 1) = (fitB B rw' i).toNat + cDn (fitB B rw') (i + 1) k := rfl
    have s2 : lsF (fitB B rw') i (k + 1) = if fitB B rw' i = true then nI (cdW i) else lsF (fitB B rw') (i + 1) k := rfl
    rw [s1, s2] at this
    cases q : fitB B rw' i with
    | false =>
      rw [q, if_neg (by decide), show (false.toNat + cDn (fitB B rw') (i + 1) k) = cDn (fitB B rw') (i + 1) k from Nat.zero_add _] at this
      exact ok_pos (show bI false = 0 from rfl) (this.mono (fun v M' z => z))
    | true =>
      rw [q, if_pos rfl, show (true.toNat + cDn (fitB B rw') (i + 1) k) = cDn (fitB B rw') (i + 1) k + 1 from Nat.add_comm _ _] at this
      exact ok_neg (show ¬ bI true = 0 from n10) (this.mono (fun v M' z => z))
theorem sim_fits {MC MR : Mem} (h : Inv MC MR) (a : Int32) : Sim (f_X11_fits a MC) (f_X12_fits a MR) := by
  obtain ⟨B, im, S, lt, rw', hw, hC, hR, hf⟩ := id h
  have h12 := hw.1.2.2.2.1
  have hl := hw.2.2.2.2.2.2.1
  have hr := hw.2.2.2.2.2.2.2
  unfold f_X11_fits f_X12_fits f_X12_fits_b31
  simp only [bind_bp]
  have rc : rowC rw' MC := ⟨hC.2.2.2.2.2.2.2.1, hC.2.2.2.2.2.2.2.2⟩
  have rr : rowR rw' MR := ⟨hR.2.2.2.2.2.2.2.1, hR.2.2.2.2.2.2.2.2⟩
  rw [rc.1, rr.1, hC.1.2.1, hR.1.2.1]
  have go : Sim (if nI rw'.length ≤ nI (bpl B) then (if a = 0 then f_X7_howManyFit MC else f_X7_firstFitting MC) else f_X11_refuse (-3) MC) (if (if nI rw'.length ≤ nI (bpl B) then (0 : Int32) else -3) = 0 then (f_X12_thinks MR).bind fun M2 => f_X12_fits_b56 FU a 0 (-9) 35 M2 else f_X12_no (if nI rw'.length ≤ nI (bpl B) then (0 : Int32) else -3) MR) := by
    by_cases c : rw'.length ≤ bpl B
    · rw [if_pos (nI_le c (by omega)), if_pos (nI_le c (by omega)), if_pos p00]
      refine Sim.q h (if a = 0 then nI (cntN (fitB B rw') 36) else lsF (fitB B rw') 0 36) ?_ (ok2_mk ?_)
      · by_cases z : a = 0
        · rw [if_pos z, if_pos z]
          exact (manyC hw.1 c hr 4 0 FU MC (by omega) (FU_big (by omega)) hC.1 rc).mono2 (fun x M' q => ⟨q.1, q.2.q (by decide)⟩)
        · rw [if_neg z, if_neg z]
          exact (firstC hw.1 c hr 4 0 FU MC (by omega) (FU_big (by omega)) hC.1 rc fr.rf).mono2 (fun x M' q => ⟨q.1, q.2.q (by decide)⟩)
      · refine ok_bind thinks_ok (fun M2 ht => ?_)
        have rr2 : rowR rw' M2 := by
          unfold rowR
          rw [ht.2.2.2.1 24 (by omega), ht.2.2.2.2.1 13 (by omega)]
          exact rr
        refine (fitsR (M0 := MR) hw.1 c hr ht rr2 a 36 0 FU B.1.1 B.1.2 M2 (by omega) (FU_big (by omega)) (TH.brd hw.1 hR.1 ht) mR.rf).mono (fun v M' z => ⟨?_, z.2⟩)
        have e := cDn_cnt (fitB B rw') 36 0
        rw [show cntN (fitB B rw') 0 + cDn (fitB B rw') 0 36 = cDn (fitB B rw') 0 36 from Nat.zero_add _] at e
        rw [z.1, e]
    · rw [if_neg (nI_ge (by omega) (by omega)), if_neg (nI_ge (by omega) (by omega)), if_neg (show ¬ (-3 : Int32) = 0 by decide)]
      exact Sim.no3 h
  rcases either a with ⟨e1, e2⟩ | ⟨e1, e2, -⟩ | ⟨e1, e2, -⟩
  · rw [e1, e2, if_pos p00, if_pos p00, if_neg (show ¬ (-2 : Int32) = 0 by decide)]; exact Sim.no2 h
  · rw [e1, e2, if_neg n10, if_neg n10]; exact go
  · rw [e1, e2, if_neg n10, if_neg n10]; exact go
