/-! logs told by a row of places: turned, saves, moved, changed -/
def wl (B : Bd) (l : List Nat) : Bd := (B.1, B.2.1, l)
def lgF (B : Bd) (f : Nat → Nat) (n : Nat) : List Nat := (List.range n).map (fun p => lgA B (f p))
theorem lgF_len (B : Bd) (f : Nat → Nat) (n : Nat) : (lgF B f n).length = n := by simp [lgF]
theorem lgF_s (B : Bd) (f : Nat → Nat) (n : Nat) : lgF B f (n + 1) = lgF B f n ++ [lgA B (f n)] := by
  unfold lgF
  rw [List.range_succ, List.map_append]
  rfl
theorem lgF_at (B : Bd) (f : Nat → Nat) {n p : Nat} (hp : p < n) : (lgF B f n).getD p 0 = lgA B (f p) := by
  unfold lgF
  rw [List.getD_eq_getElem?_getD, List.getElem?_map, List.getElem?_range hp]
  rfl
theorem lgF_congr {B : Bd} {f g : Nat → Nat} : ∀ {n : Nat}, (∀ p, p < n → f p = g p) → lgF B f n = lgF B g n := by
  intro n
  induction n with
  | zero => intro _; rfl
  | succ n ih =>
    intro h
    rw [lgF_s, lgF_s, ih (fun p hp => h p (by omega)), h n (by omega)]
theorem wf_lgF {B : Bd} {f : Nat → Nat} {n : Nat} (hw : wfB B) (hn : n ≤ 12) (hf : ∀ p, p < n → f p < bpl B) : wfB (wl B (lgF B f n)) := by
  refine ⟨hw.1, hw.2.1, hw.2.2.1, ?_, hw.2.2.2.2.1, fun d hd => ?_⟩
  · show (lgF B f n).length ≤ 12
    rw [lgF_len]; exact hn
  · obtain ⟨p, hp, rfl⟩ := List.mem_map.mp hd
    exact lgA_in hw (hf p (List.mem_range.mp hp))
theorem stepF {B : Bd} {f : Nat → Nat} {i : Nat} {M : Mem} (hw : wfB B) (h : RK B B.1.1 B.1.2 (lgF B f i) M) (hi : i ≤ 100) (hf : f i < bpl B) :
    ok2 (f_X8_step (nI (lgA B (f i))) M) (fun v M' => nI (tot B (lgF B f i)) + v = nI (tot B (lgF B f (i + 1))) ∧ RK B B.1.1 B.1.2 (lgF B f (i + 1)) M' ∧ fr [27] M M') :=
  (step_ok hw h (lgA_in hw hf) (by rw [lgF_len]; omega)).mono2 (fun v M' q => by
    refine ⟨?_, ?_, q.2.2⟩
    · rw [q.1, nI_add, lgF_s, tot_snoc]; rfl
    · rw [lgF_s]; exact q.2.1)
theorem totF_lt {B : Bd} (hw : wfB B) {f : Nat → Nat} {n : Nat} (hn : n ≤ 100) : tot B (lgF B f n) < 1000000 := tot_small hw (by rw [lgF_len]; exact hn)
theorem ldLog {B : Bd} {M : Mem} (hw : wfB B) (hb : brdC 1 B M) {p : Nat} (hp : p < bpl B) : ldI M 5 12 (nI p) = some (nI (lgA B p)) := by
  have := hw.2.2.2.1
  rw [ldI_n (by omega) (by decide)]
  exact congrArg some (hb.2.2.2.2.2.2.2 p hp)
theorem ldLogR {B : Bd} {M : Mem} (hw : wfB B) (hb : brdR B M) {p : Nat} (hp : p < bpl B) : ldI M 5 12 (nI p) = some (nI (lgA B p)) := by
  have := hw.2.2.2.1
  rw [ldI_n (by omega) (by decide)]
  exact congrArg some (hb.2.2.2.2.2.2.2 p hp)
theorem brdR_wl {B : Bd} {M M2 : Mem} {l : List Nat} (hb : brdR B M) (e5 : M2.1 0 5 = M.1 0 5) (e7 : M2.1 0 7 = M.1 0 7) (e8 : M2.1 0 8 = M.1 0 8) (r2 : M2.1 2 = M.1 2) (r3 : M2.1 3 = M.1 3) (r4 : M2.1 4 = M.1 4) (e6 : M2.1 0 6 = nI l.length) (hl : ∀ j, j < l.length → M2.1 5 j = nI (l.getD j 0)) : brdR (wl B l) M2 := by
  obtain ⟨h0, h1, h2, h3, hk, hf, hm, -⟩ := hb
  exact ⟨e5.trans h0, e6, e7.trans h2, e8.trans h3, fun j hj => (congrFun r2 j).trans (hk j hj), fun j hj => (congrFun r3 j).trans (hf j hj), fun j hj => (congrFun r4 j).trans (hm j hj), hl⟩
theorem finR {B : Bd} {M M1 M2 : Mem} {l : List Nat} (ht : TH M M1) (hm : mR M1 M2) (hb : brdR (wl B l) M2) (hw : wfB (wl B l)) :
    ok2 ((f_X12_all M2).bind fun t => (f_X12_forgets M2).bind fun M3 => some (t, M3)) (fun v M3 => v = nI (tot B l) ∧ agR M M3) := by
  refine ok2_mk ?_
  rw [allR hb hw, Option.bind_some]
  exact ok_bind (forgets_ok ht hm) (fun M3 h => ok_some ⟨rfl, h⟩)
/-! turned -/
theorem sub1 (x : Int32) : x + (-1) = x - 1 := (Int32.sub_eq_add_neg x 1).symm
theorem turned_lp {B : Bd} (hw : wfB B) : ∀ (k i fuel : Nat) (M : Mem), i + k = bpl B → k < fuel → RK B B.1.1 B.1.2 (lgF B (fun p => bpl B - 1 - p) i) M →
    ok2 (f_X3_totalFromBehind_b19 fuel (nI (tot B (lgF B (fun p => bpl B - 1 - p) i))) (nI k - 1) M) (fun v M' => v = nI (tot B (lgF B (fun p => bpl B - 1 - p) (bpl B))) ∧ fr [27] M M') := by
  have h12 := hw.2.2.2.1
  intro k
  induction k with
  | zero =>
    intro i fuel M hi hf h
    obtain ⟨f, rfl⟩ : ∃ f, fuel = f + 1 := ⟨fuel - 1, by omega⟩
    obtain rfl : i = bpl B := by omega
    refine ok2_mk ?_
    unfold f_X3_totalFromBehind_b19
    exact ok_pos (by decide) (ok_some ⟨rfl, fr.rf⟩)
  | succ k ih =>
    intro i fuel M hi hf h
    obtain ⟨f, rfl⟩ : ∃ f, fuel = f + 1 := ⟨fuel - 1, by omega⟩
    refine ok2_mk ?_
    unfold f_X3_totalFromBehind_b19
    rw [nI_pred]
    refine ok_neg (nI_pos (by omega)) ?_
    rw [ldLog hw h.1 (by omega), Option.bind_some]
    have e : bpl B - 1 - i = k := by omega
    have hs := stepF (f := fun p => bpl B - 1 - p) hw h (by omega) (show bpl B - 1 - i < bpl B by omega)
    rw [e] at hs
    refine ok_bp hs (fun v M' ⟨q1, q2, q3⟩ => ?_)
    rw [q1, sub1]
    exact (ih (i + 1) f M' (by omega) (by omega) q2).mono (fun v M2 z => ⟨z.1, q3.tr z.2⟩)
theorem turned_C {B : Bd} {M : Mem} (hw : wfB B) (hb : brdC 1 B M) : ok2 (f_X3_totalFromBehind M) (fun v M' => v = nI (tot B (lgF B (fun p => bpl B - 1 - p) (bpl B))) ∧ frQ M M') := by
  refine ok2_mk ?_
  unfold f_X3_totalFromBehind
  refine ok_bind (open_ok hw hb) (fun M1 ⟨h1, f1⟩ => ?_)
  rw [h1.1.2.1]
  have := turned_lp hw (bpl B) 0 FU M1 (by omega) (FU_big (by have := hw.2.2.2.1; omega)) h1
  exact this.mono (fun v M2 z => ⟨z.1, (f1.q (by decide)).tr (z.2.q (by decide))⟩)
theorem exR {M : Mem} {a b : Nat} {x y : Int32} (ha : a < 12) (hb : b < 12) (ea : M.1 5 a = x) (eb : M.1 5 b = y) : f_X12_exchanges (nI a) (nI b) M = some (wI (wI M 5 a y) 5 b x) := by
  unfold f_X12_exchanges
  rw [ldI_n ha (by decide), Option.bind_some, ldI_n hb (by decide), Option.bind_some, stI_n ha (by decide), Option.bind_some, stI_n hb (by decide), Option.bind_some, ea, eb]
theorem nI_half2 {n : Nat} (h : n < 2 ^ 31) : nI n / (2 : Int32) = nI (n / 2) := nI_div h (by decide) (by decide)
theorem turnedR_lp {B : Bd} {M M1 : Mem} (hw : wfB B) (ht : TH M M1) (hb1 : brdR B M1) : ∀ (k i fuel : Nat) (M2 : Mem), i + k = bpl B / 2 → k < fuel → mR M1 M2 → (∀ r, r ≠ 5 → M2.1 r = M1.1 r) →
    (∀ p, p < bpl B → M2.1 5 p = nI (lgA B (if p < i ∨ bpl B - i ≤ p then bpl B - 1 - p else p))) →
    ok2 (f_X12_turned_b6 fuel (nI i) M2) (fun v M' => v = nI (tot B (lgF B (fun p => bpl B - 1 - p) (bpl B))) ∧ agR M M') := by
  have h12 := hw.2.2.2.1
  intro k
  induction k with
  | zero =>
    intro i fuel M2 hi hf hm h0 hl
    obtain ⟨f, rfl⟩ : ∃ f, fuel = f + 1 := ⟨fuel - 1, by omega⟩
    refine ok2_mk ?_
    unfold f_X12_turned_b6
    have e6 : M2.1 0 6 = nI (bpl B) := by rw [h0 0 (by decide)]; exact hb1.2.1
    rw [e6, nI_half2 (by omega)]
    refine ok_pos (nI_le (by omega) (by omega)) ?_
    have hwf : wfB (wl B (lgF B (fun p => bpl B - 1 - p) (bpl B))) := wf_lgF hw h12 (fun p hp => by show bpl B - 1 - p < bpl B; omega)
    have hbr : brdR (wl B (lgF B (fun p => bpl B - 1 - p) (bpl B))) M2 := by
      refine brdR_wl hb1 (by rw [h0 0 (by decide)]) (by rw [h0 0 (by decide)]) (by rw [h0 0 (by decide)]) (h0 2 (by decide)) (h0 3 (by decide)) (h0 4 (by decide)) (by rw [lgF_len]; exact e6) (fun j hj => ?_)
      rw [lgF_len] at hj
      rw [hl j hj, lgF_at _ _ hj]
      congr 2
      show _ = bpl B - 1 - j
      split <;> omega
    exact (finR ht hm hbr hwf).mono (fun v M3 z => z)
  | succ k ih =>
    intro i fuel M2 hi hf hm h0 hl
    obtain ⟨f, rfl⟩ : ∃ f, fuel = f + 1 := ⟨fuel - 1, by omega⟩
    refine ok2_mk ?_
    unfold f_X12_turned_b6
    have e6 : M2.1 0 6 = nI (bpl B) := by rw [h0 0 (by decide)]; exact hb1.2.1
    rw [e6, nI_half2 (by omega), l_1, pk_sub (by omega), pk_sub (by omega)]
    refine ok_neg (nI_ge (by omega) (by omega)) ?_
    have ea := hl i (by omega)
    have eb := hl (bpl B - 1 - i) (by omega)
    rw [if_neg (by omega)] at ea eb
    rw [exR (by omega) (by omega) ea eb, Option.bind_some, nI_add]
    refine (ih (i + 1) f _ (by omega) (by omega) ?_ (fun r hr => ?_) (fun p hp => ?_)).mono (fun v M3 z => z)
    · exact (hm.tr (mR.wI (by omega))).tr (mR.wI (by omega))
    · rw [wI_other hr, wI_other hr]; exact h0 r hr
    · rw [wI_at, wI_at]
      by_cases c1 : p = bpl B - 1 - i
      · rw [if_pos ⟨rfl, c1⟩, if_pos (by omega)]
        congr 2; omega
      · rw [if_neg (by omega)]
        by_cases c2 : p = i
        · rw [if_pos ⟨rfl, c2⟩, if_pos (by omega)]
          congr 2; omega
        · rw [if_neg (by omega), hl p hp]
          congr 2
          by_cases c3 : p < i ∨ bpl B - i ≤ p
          · rw [if_pos c3, if_pos (by omega)]
          · rw [if_neg c3, if_neg (by omega)]
theorem TH.brd {B : Bd} {M M1 : Mem} (hw : wfB B) (hb : brdR B M) (h : TH M M1) : brdR B M1 := brdR_bv hw hb h.2.1
theorem turned_R {B : Bd} {M : Mem} (hw : wfB B) (hb : brdR B M) : ok2 (f_X12_turned M) (fun v M' => v = nI (tot B (lgF B (fun p => bpl B - 1 - p) (bpl B))) ∧ agR M M') := by
  have h12 := hw.2.2.2.1
  refine ok2_mk ?_
  unfold f_X12_turned
  refine ok_bind thinks_ok (fun M1 ht => ?_)
  have hb1 := TH.brd hw hb ht
  exact (turnedR_lp hw ht hb1 (bpl B / 2) 0 FU M1 (by omega) (FU_big (by omega)) mR.rf (fun _ _ => rfl) (fun p hp => by rw [if_neg (by omega)]; exact hb1.2.2.2.2.2.2.2 p hp)).mono (fun v M3 z => z)
theorem sim_turned {MC MR : Mem} (h : Inv MC MR) : Sim (f_X11_turned MC) (f_X12_turned MR) := by
  obtain ⟨B, im, S, lt, rw', hw, hC, hR, hf⟩ := id h
  unfold f_X11_turned
  rw [bind_bp]
  exact Sim.q h _ (turned_C hw.1 hC.1) (turned_R hw.1 hR.1)
/-! without a place -/
def skp (q p : Nat) : Nat := if p < q then p else p + 1
def gW (B : Bd) (q : Nat) : Nat := tot B (lgF B (skp q) (bpl B - 1))
theorem without_lp {B : Bd} {q : Nat} (hw : wfB B) (hq : q < bpl B) : ∀ (k i fuel : Nat) (M : Mem), i + k = bpl B → k < fuel → RK B B.1.1 B.1.2 (lgF B (skp q) (if q < i then i - 1 else i)) M →
    ok2 (f_X3_sumWithout_b11 fuel (nI q) (nI (tot B (lgF B (skp q) (if q < i then i - 1 else i)))) (nI i) M) (fun v M' => v = nI (gW B q) ∧ RK B B.1.1 B.1.2 (lgF B (skp q) (bpl B - 1)) M' ∧ fr [27] M M') := by
  have h12 := hw.2.2.2.1
  intro k
  induction k with
  | zero =>
    intro i fuel M hi hf h
    obtain ⟨f, rfl⟩ : ∃ f, fuel = f + 1 := ⟨fuel - 1, by omega⟩
    obtain rfl : i = bpl B := by omega
    refine ok2_mk ?_
    unfold f_X3_sumWithout_b11
    rw [h.1.2.1]
    rw [if_pos hq] at h ⊢
    exact ok_pos (nI_le (by omega) (by omega)) (ok_some ⟨rfl, h, fr.rf⟩)
  | succ k ih =>
    intro i fuel M hi hf h
    obtain ⟨f, rfl⟩ : ∃ f, fuel = f + 1 := ⟨fuel - 1, by omega⟩
    refine ok2_mk ?_
    have := ih (i + 1) f
    unfold f_X3_sumWithout_b11
    rw [h.1.2.1]
    refine ok_neg (nI_ge (by omega) (by omega)) ?_
    rw [nI_1]
    by_cases c : i = q
    · subst c
      refine ok_pos rfl ?_
      rw [if_neg (by omega)] at h ⊢
      have t := this M (by omega) (by omega)
      rw [if_pos (by omega), Nat.add_sub_cancel] at t
      exact (t h).mono (fun v M' z => z)
    · refine ok_neg (fun z => c (nI_e (by omega) (by omega) z)) ?_
      rw [ldLog hw h.1 (by omega), Option.bind_some]
      have e : skp q (if q < i then i - 1 else i) = i := by
        unfold skp
        by_cases c2 : q < i
        · rw [if_pos c2, if_neg (by omega)]; omega
        · rw [if_neg c2, if_pos (by omega)]
      have hs := stepF (f := skp q) hw h (by split <;> omega) (by rw [e]; omega)
      rw [e] at hs
      refine ok_bp hs (fun v M' ⟨q1, q2, q3⟩ => ?_)
      rw [q1]
      have e2 : (if q < i then i - 1 else i) + 1 = if q < i + 1 then i + 1 - 1 else i + 1 := by split <;> split <;> omega
      rw [e2] at q2 ⊢
      exact (this M' (by omega) (by omega) q2).mono (fun v M2 z => ⟨z.1, z.2.1, q3.tr z.2.2⟩)
theorem without_C {B : Bd} {M : Mem} {q : Nat} (hw : wfB B) (hq : q < bpl B) (hb : brdC 1 B M) (hA : RA B M) : ok2 (f_X3_sumWithout (nI q) M) (fun v M' => v = nI (gW B q) ∧ RK B B.1.1 B.1.2 (lgF B (skp q) (bpl B - 1)) M' ∧ fr [27] M M') := by
  refine ok2_mk ?_
  unfold f_X3_sumWithout
  refine ok_bind (forget_RK (ty := B.1.1) (te := B.1.2) hw hb hA) (fun M1 ⟨h1, f1⟩ => ?_)
  have := without_lp hw hq (bpl B) 0 FU M1 (by omega) (FU_big (by have := hw.2.2.2.1; omega))
  rw [if_neg (by omega)] at this
  exact (this h1).mono (fun v M2 z => ⟨z.1, z.2.1, f1.tr z.2.2⟩)
theorem shiftR_lp {B : Bd} {M M1 : Mem} {q : Nat} {t : Int32} (hw : wfB B) (hq : q < bpl B) (ht : TH M M1) (hb1 : brdR B M1) : ∀ (k i fuel : Nat) (M2 : Mem), i + k = bpl B - 1 → k < fuel → q ≤ i → mR M1 M2 → M2.1 0 6 = nI (bpl B - 1) → M2.1 0 5 = M1.1 0 5 → M2.1 0 7 = M1.1 0 7 → M2.1 0 8 = M1.1 0 8 → (∀ r, r ≠ 5 → r ≠ 0 → M2.1 r = M1.1 r) →
    (∀ p, p < bpl B → M2.1 5 p = nI (lgA B (if p < i then skp q p else p))) →
    ok2 (f_X12_savesAt_b21 fuel t (nI i) M2) (fun v M' => v = t - nI (gW B q) ∧ agR M M') := by
  have h12 := hw.2.2.2.1
  intro k
  induction k with
  | zero =>
    intro i fuel M2 hi hf hqi hm e6 e5 e7 e8 h0 hl
    obtain ⟨f, rfl⟩ : ∃ f, fuel = f + 1 := ⟨fuel - 1, by omega⟩
    refine ok2_mk ?_
    unfold f_X12_savesAt_b21
    rw [e6]
    refine ok_pos (nI_le (by omega) (by omega)) ?_
    have hwf : wfB (wl B (lgF B (skp q) (bpl B - 1))) := wf_lgF hw (by omega) (fun p hp => by unfold skp; split <;> omega)
    have hbr : brdR (wl B (lgF B (skp q) (bpl B - 1))) M2 := by
      refine brdR_wl hb1 e5 e7 e8 (h0 2 (by decide) (by decide)) (h0 3 (by decide) (by decide)) (h0 4 (by decide) (by decide)) (by rw [lgF_len]; exact e6) (fun j hj => ?_)
      rw [lgF_len] at hj
      rw [hl j (by omega), lgF_at _ _ hj, if_pos (by omega)]
    rw [allR hbr hwf, Option.bind_some]
    exact ok_bind (forgets_ok ht hm) (fun M3 h => ok_some ⟨rfl, h⟩)
  | succ k ih =>
    intro i fuel M2 hi hf hqi hm e6 e5 e7 e8 h0 hl
    obtain ⟨f, rfl⟩ : ∃ f, fuel = f + 1 := ⟨fuel - 1, by omega⟩
    refine ok2_mk ?_
    unfold f_X12_savesAt_b21
    rw [e6, nI_1]
    refine ok_neg (nI_ge (by omega) (by omega)) ?_
    refine ok_ld (by omega) (by decide) (hl (i + 1) (by omega)) ?_
    refine ok_st (by omega) (by decide) ?_
    refine (ih (i + 1) f _ (by omega) (by omega) (by omega) (hm.tr (mR.wI (by omega))) (by rw [wI_other (by decide)]; exact e6) (by rw [wI_other (by decide)]; exact e5) (by rw [wI_other (by decide)]; exact e7) (by rw [wI_other (by decide)]; exact e8) (fun r hr hr0 => by rw [wI_other hr]; exact h0 r hr hr0) (fun p hp => ?_)).mono (fun v M3 z => z)
    rw [wI_at]
    by_cases c : p = i
    · subst c
      rw [if_pos ⟨rfl, rfl⟩, if_neg (by omega), if_pos (by omega)]
      unfold skp
      rw [if_neg (by omega)]
    · rw [if_neg (by omega), hl p hp]
      congr 2
      by_cases c2 : p < i
      · rw [if_pos c2, if_pos (by omega)]
      · rw [if_neg c2, if_neg (by omega)]
theorem savesAt_R {B : Bd} {M : Mem} {q : Nat} (hw : wfB B) (hb : brdR B M) (hq : q < bpl B) : ok2 (f_X12_savesAt (nI q) M) (fun v M' => v = nI (tot B B.2.2) - nI (gW B q) ∧ agR M M') := by
  have h12 := hw.2.2.2.1
  refine ok2_mk ?_
  unfold f_X12_savesAt
  refine ok_bind thinks_ok (fun M1 ht => ?_)
  have hb1 := TH.brd hw hb ht
  rw [allR hb1 hw, Option.bind_some, hb1.2.1, l_1, pk_sub (by omega)]
  exact (shiftR_lp hw hq ht hb1 (bpl B - 1 - q) q FU _ (by omega) (FU_big (by omega)) (by omega) (mR.wI (by omega)) (by rw [wI_at, if_pos ⟨rfl, rfl⟩]) (by rw [wI_at, if_neg (by omega)]) (by rw [wI_at, if_neg (by omega)]) (by rw [wI_at, if_neg (by omega)]) (fun r hr hr0 => wI_other hr0) (fun p hp => by
    rw [wI_other (by decide), hb1.2.2.2.2.2.2.2 p hp]
    congr 2
    split
    · unfold skp; rw [if_pos (by omega)]
    · rfl)).mono (fun v M3 z => z)
theorem gW_lt {B : Bd} (hw : wfB B) (q : Nat) : gW B q < 1000000 := totF_lt hw (by have := hw.2.2.2.1; omega)
theorem bestSav_C {B : Bd} (hw : wfB B) : ∀ (k i fuel : Nat) (M : Mem), i + k = bpl B → k < fuel → brdC 1 B M → RA B M →
    ok2 (f_X3_bestSaving_b15 fuel (oI (amin (gW B) 2147483647 i)) (nI (oV (gW B) 2147483647 (amin (gW B) 2147483647 i))) (nI i) M) (fun v M' => v = oI (amin (gW B) 2147483647 (bpl B)) ∧ fr [27] M M') := by
  have h12 := hw.2.2.2.1
  intro k
  induction k with
  | zero =>
    intro i fuel M hi hf hb hA
    obtain ⟨f, rfl⟩ : ∃ f, fuel = f + 1 := ⟨fuel - 1, by omega⟩
    obtain rfl : i = bpl B := by omega
    refine ok2_mk ?_
    unfold f_X3_bestSaving_b15
    rw [hb.2.1]
    exact ok_pos (nI_le (by omega) (by omega)) (ok_some ⟨rfl, fr.rf⟩)
  | succ k ih =>
    intro i fuel M hi hf hb hA
    obtain ⟨f, rfl⟩ : ∃ f, fuel = f + 1 := ⟨fuel - 1, by omega⟩
    refine ok2_mk ?_
    have st := amin_step (gW B) 2147483647 i
    have hv : oV (gW B) 2147483647 (amin (gW B) 2147483647 i) < 2 ^ 31 := oV_lt (by decide) (fun b e => by have := gW_lt hw b; omega)
    have hg := gW_lt hw i
    unfold f_X3_bestSaving_b15
    rw [hb.2.1]
    refine ok_neg (nI_ge (by omega) (by omega)) ?_
    refine ok_bp (without_C hw (by omega) hb hA) (fun v M' ⟨q1, q2, q3⟩ => ?_)
    rw [q1, nI_1]
    have t := ih (i + 1) f M' (by omega) (by omega) q2.1 q2.2.1
    rw [st] at t
    by_cases c : gW B i < oV (gW B) 2147483647 (amin (gW B) 2147483647 i)
    · rw [if_pos c] at t
      refine ok_neg (fun z => absurd ((nI_leI hv (by omega)).mp z) (by omega)) ?_
      exact t.mono (fun v M2 z => ⟨z.1, q3.tr z.2⟩)
    · rw [if_neg c] at t
      refine ok_pos ((nI_leI hv (by omega)).mpr (by omega)) ?_
      exact t.mono (fun v M2 z => ⟨z.1, q3.tr z.2⟩)
theorem sub2 {T a b : Nat} (hT : T < 2 ^ 30) (ha : a < 2 ^ 30) (hb : b < 2 ^ 30) : nI T - nI a ≤ nI T - nI b ↔ b ≤ a := by
  rw [Int32.le_iff_toInt_le, pk_sub_toInt hT ha, pk_sub_toInt hT hb]
  omega
theorem savesR_lp {B : Bd} {M : Mem} (hw : wfB B) : ∀ (k i fuel : Nat) (M2 : Mem), i + k = bpl B → k < fuel → 0 < i → brdR B M2 → agR M M2 →
    ok2 (f_X12_saves_b45 fuel (oI (amin (gW B) 2147483647 i)) (nI i) M2) (fun v M' => v = oI (amin (gW B) 2147483647 (bpl B)) ∧ agR M M') := by
  have h12 := hw.2.2.2.1
  intro k
  induction k with
  | zero =>
    intro i fuel M2 hi hf h0 hb ha
    obtain ⟨f, rfl⟩ : ∃ f, fuel = f + 1 := ⟨fuel - 1, by omega⟩
    obtain rfl : i = bpl B := by omega
    refine ok2_mk ?_
    unfold f_X12_saves_b45
    rw [hb.2.1]
    exact ok_pos (nI_le (by omega) (by omega)) (ok_some ⟨rfl, ha⟩)
  | succ k ih =>
    intro i fuel M2 hi hf h0 hb ha
    obtain ⟨f, rfl⟩ : ∃ f, fuel = f + 1 := ⟨fuel - 1, by omega⟩
    obtain ⟨j, rfl⟩ : ∃ j, i = j + 1 := ⟨i - 1, by omega⟩
    obtain ⟨b, e⟩ : ∃ b, amin (gW B) 2147483647 (j + 1) = some b := by
      cases h : amin (gW B) 2147483647 (j + 1) with
      | none => exact absurd h (amin_ne (fun x _ => by have := gW_lt hw x; omega))
      | some b => exact ⟨b, rfl⟩
    have hbl := amin_lt e
    have st := amin_step (gW B) 2147483647 (j + 1)
    have g1 := gW_lt hw (j + 1)
    have g2 := gW_lt hw b
    have gT := tot_small hw (l := B.2.2) (by unfold bpl at h12; omega)
    refine ok2_mk ?_
    unfold f_X12_saves_b45
    rw [hb.2.1]
    refine ok_neg (nI_ge (by omega) (by omega)) ?_
    refine ok_bp (savesAt_R hw hb (by omega)) (fun v M3 ⟨q1, q2⟩ => ?_)
    have hb3 := brdR_bv hw hb q2.1
    rw [e] at st ⊢
    refine ok_bp (show ok2 (f_X12_savesAt (nI b) M3) _ from savesAt_R hw hb3 (by omega)) (fun v2 M4 ⟨r1, r2⟩ => ?_)
    have hb4 := brdR_bv hw hb3 r2.1
    rw [q1, r1, nI_1]
    have t := ih (j + 1 + 1) f M4 (by omega) (by omega) (by omega) hb4 ((ha.tr q2).tr r2)
    rw [st] at t
    by_cases c : gW B (j + 1) < gW B b
    · rw [show (if gW B (j + 1) < oV (gW B) 2147483647 (some b) then some (j + 1) else some b) = some (j + 1) from if_pos c] at t
      rw [if_neg (fun z => absurd ((sub2 (by omega) (by omega) (by omega)).mp z) (by omega))]
      exact t.mono (fun v M2 z => z)
    · rw [show (if gW B (j + 1) < oV (gW B) 2147483647 (some b) then some (j + 1) else some b) = some b from if_neg c] at t
      rw [if_pos ((sub2 (by omega) (by omega) (by omega)).mpr (by omega))]
      exact t.mono (fun v M2 z => z)
theorem saving_C {B : Bd} {M : Mem} {q : Nat} (hw : wfB B) (hb : brdC 1 B M) (hq : q < bpl B) : ok2 (f_X3_savingOf (nI q) M) (fun v M' => v = nI (tot B B.2.2) - nI (gW B q) ∧ frQ M M') := by
  refine ok2_mk ?_
  unfold f_X3_savingOf
  refine ok_bp (total_ok hw hb) (fun v M1 ⟨q1, q2, q3⟩ => ?_)
  refine ok_bp (without_C hw hq q2.1 q2.2.1) (fun v2 M2 ⟨r1, r2, r3⟩ => ?_)
  rw [q1, r1]
  exact ok_some ⟨rfl, (q3.q (by decide)).tr (r3.q (by decide))⟩
theorem sim_saves {MC MR : Mem} (h : Inv MC MR) (a : Int32) : Sim (f_X11_saves a MC) (f_X12_saves a MR) := by
  obtain ⟨B, im, S, lt, rw', hw, hC, hR, hf⟩ := id h
  have h12 := hw.1.2.2.2.1
  unfold f_X11_saves f_X12_saves
  simp only [bind_bp]
  rw [hC.1.2.1]
  rcases i_cases a with hn | ⟨d, hd, rfl⟩
  · rcases neg_cases hn with hm | rfl
    · have e2 : f_X12_isPlace a MR = 0 := by unfold f_X12_isPlace; rw [if_pos hn]
      rw [if_pos hm, if_neg (fun z => by rw [z] at hm; exact absurd hm (by decide)), e2, if_pos p00]
      exact Sim.no1 h
    · rw [if_neg (show ¬ (-1 : Int32) < -1 by decide), if_pos (i_neg_lt hn (by omega)), if_neg (show ¬ (0 : Int32) ≤ -1 by decide), if_pos rfl]
      unfold f_X12_saves_b19
      rw [if_pos (show (-1 : Int32) < 0 by decide), hR.1.2.1]
      refine Sim.q h (oI (amin (gW B) 2147483647 (bpl B))) (ok2_mk ?_) ?_
      · unfold f_X3_bestSaving
        refine ok_bind (open_ok hw.1 hC.1) (fun M1 ⟨h1, f1⟩ => ?_)
        exact (bestSav_C hw.1 (bpl B) 0 FU M1 (by omega) (FU_big (by omega)) h1.1 h1.2.1).mono (fun v M2 z => ⟨z.1, (f1.q (by decide)).tr (z.2.q (by decide))⟩)
      · by_cases c : bpl B = 0
        · rw [if_pos (show nI (bpl B) = 0 by rw [c]; rfl), c]
          obtain ⟨f, hfu⟩ : ∃ f, FU = f + 1 := ⟨FU - 1, by rw [FU_eq]⟩
          rw [hfu]
          unfold f_X12_saves_b45
          rw [hR.1.2.1, if_pos (show nI (bpl B) ≤ 1 by rw [c]; decide)]
          exact ⟨_, _, rfl, rfl, agR.rf⟩
        · rw [if_neg (show ¬ nI (bpl B) = 0 from fun z => c (nI_e (b := 0) (by omega) (by decide) z))]
          have g0 := gW_lt hw.1 0
          have e1 : amin (gW B) 2147483647 1 = some 0 := by
            rw [amin_step, show amin (gW B) 2147483647 0 = none from rfl, if_pos (show gW B 0 < oV (gW B) 2147483647 none from (show gW B 0 < 2147483647 by omega))]
          have t := savesR_lp (M := MR) hw.1 (bpl B - 1) 1 FU MR (by omega) (FU_big (by omega)) (by omega) hR.1 agR.rf
          rw [e1] at t
          exact t
  · rw [if_neg (nI_nlt_m1 hd), if_neg (nI_ne_m1 hd)]
    rcases knowsP hC.1 hR.1 hw.1 (nI d) with ⟨e1, e2⟩ | ⟨e1, e2, p, hp, e3⟩
    · have c : ¬ nI d < nI (bpl B) := by
        unfold f_X0_hasPlace at e1
        rw [if_neg (nI_pos hd), hC.1.2.1] at e1
        intro q
        rw [if_neg (fun z => absurd ((nI_leI (by omega) hd).mp z) (by have := (nI_ltI hd (by omega)).mp q; omega))] at e1
        exact absurd e1 (by decide)
      rw [if_neg c, e2, if_pos p00]
      exact Sim.no1 h
    · obtain rfl : d = p := nI_e hd (by omega) e3
      rw [if_pos (nI_lt hp (by omega)), if_pos (nI_pos' hd), e2, if_neg n10]
      unfold f_X12_saves_b19
      rw [if_neg (nI_pos hd), bind_bp]
      exact Sim.q h _ (saving_C hw.1 hC.1 hp) (savesAt_R hw.1 hR.1 hp)
