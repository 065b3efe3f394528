/-! lots -/
theorem i_nat (y : Int32) : y = nI y.toBitVec.toNat := by
  apply Int32.toBitVec_inj.1
  show y.toBitVec = BitVec.ofNat 32 y.toBitVec.toNat
  rw [BitVec.ofNat_toNat, BitVec.setWidth_eq]
def rq (y : Int32) : Nat := (y.toBitVec.toNat &&& 2147483647) / 65536
theorem rq_ok (y : Int32) : (y &&& 2147483647) / 65536 = nI (rq y) ∧ rq y < 65536 := by
  have h : y.toBitVec.toNat &&& 2147483647 ≤ 2147483647 := Nat.and_le_right
  constructor
  · have e : y &&& 2147483647 = nI (y.toBitVec.toNat &&& 2147483647) := by
      have e1 := i_nat y
      calc y &&& 2147483647 = nI y.toBitVec.toNat &&& nI 2147483647 := by rw [← e1]; rfl
        _ = _ := fa_and _ _
    rw [e, l_65536, nI_div (by omega) (by decide) (by decide)]
    rfl
  · unfold rq
    omega
def it (x : Int32) : Nat → Int32
  | 0 => x
  | i + 1 => it x i * 1103515245 + 12345
def drw (n : Nat) (x : Int32) (j : Nat) : Nat := rq (it x (j + 1)) % n
def lsD (n : Nat) (x : Int32) (i : Nat) : List Nat := (List.range i).map (drw n x)
theorem lsD_s (n : Nat) (x : Int32) (i : Nat) : lsD n x (i + 1) = lsD n x i ++ [drw n x i] := by
  unfold lsD
  rw [List.range_succ, List.map_append]
  rfl
theorem lsD_len (n : Nat) (x : Int32) (i : Nat) : (lsD n x i).length = i := by unfold lsD; simp
theorem lsD_at (n : Nat) (x : Int32) {i j : Nat} (h : j < i) : (lsD n x i).getD j 0 = drw n x j := by
  unfold lsD
  rw [List.getD_eq_getElem?_getD, List.getElem?_map, List.getElem?_range h, Option.map_some, Option.getD_some]
def wkS (B : Bd) (x : Int32) : Nat := tot B (lsD (bn B) x 12)
theorem wkS_lt {B : Bd} (hw : wfB B) (x : Int32) {i : Nat} (hi : i ≤ 12) : tot B (lsD (bn B) x i) < 1000000 :=
  tot_small hw (by rw [lsD_len]; omega)
def wksS (B : Bd) : Nat → Int32 → Nat × Nat → Nat × Nat
  | 0, _, p => p
  | k + 1, x, p => wksS B k (it x 12) (p.1 + wkS B x, p.2 + (if wkS B x = 0 then 1 else 0))
def ltA (v3 : Int32) (p : Nat × Nat) : Int32 := if v3 = 0 then nI p.1 else nI p.2
theorem wkC {B : Bd} {x : Int32} (hw : wfB B) (h0 : 0 < bn B) (v1 v3 v5 v6 v7 : Int32) (kont : Int32 → Int32 → Int32 → Int32 → Int32 → Int32 → Mem → Option (Int32 × Mem)) (Q : Int32 × Mem → Prop) :
    ∀ (k i fuel : Nat) (M : Mem), i + k = 12 → k < fuel → RK B B.1.1 B.1.2 (lsD (bn B) x i) M →
    (∀ M', brdC 1 B M' → RA B M' → fr [27] M M' → ok (kont v1 v3 (it x 12) (v5 + nI (wkS B x)) (v6 + (if nI (wkS B x) = 0 then (1 : Int32) else 0)) (v7 + 1) M') Q) →
    ok (f_X4_weeks_b48 kont fuel v1 v3 (it x i) v5 v6 v7 (nI (tot B (lsD (bn B) x i))) (nI i) M) Q := by
  have hn := hw.2.2.1
  intro k
  induction k with
  | zero =>
    intro i fuel M hi hf h hk
    obtain ⟨f, rfl⟩ : ∃ f, fuel = f + 1 := ⟨fuel - 1, by omega⟩
    obtain rfl : i = 12 := by omega
    unfold f_X4_weeks_b48
    exact ok_pos (by decide) (hk M h.1 h.2.1 fr.rf)
  | succ k ih =>
    intro i fuel M hi hf h hk
    obtain ⟨f, rfl⟩ : ∃ f, fuel = f + 1 := ⟨fuel - 1, by omega⟩
    obtain ⟨r1, r2⟩ := rq_ok (it x (i + 1))
    have hd : drw (bn B) x i < bn B := Nat.mod_lt _ h0
    unfold f_X4_weeks_b48
    refine ok_neg (show ¬ 12 ≤ nI i from fun q => absurd ((nI_leI (a := 12) (by decide) (by omega)).mp q) (by omega)) ?_
    rw [show (it x i * 1103515245 + 12345) = it x (i + 1) from rfl, r1, h.1.1, rmI_n (by omega) h0 (by omega), Option.bind_some, show nI (rq (it x (i + 1)) % bn B) = nI (drw (bn B) x i) from rfl]
    refine ok_bp (step_ok hw h hd (by rw [lsD_len]; omega)) (fun w M' ⟨q1, q2, q3⟩ => ?_)
    have q1 : w = nI (due B (drw (bn B) x i) (cnt B (lsD (bn B) x i) (drw (bn B) x i))) := q1
    have et : tot B (lsD (bn B) x (i + 1)) = tot B (lsD (bn B) x i) + due B (drw (bn B) x i) (cnt B (lsD (bn B) x i) (drw (bn B) x i)) := by rw [lsD_s, tot_snoc]
    rw [q1, nI_add, ← et, nI_1]
    rw [← lsD_s] at q2
    exact ih (i + 1) f M' (by omega) (by omega) q2 (fun M2 g1 g2 g3 => hk M2 g1 g2 (q3.tr g3))
theorem zadd (z t : Nat) (ht : t < 2 ^ 31) : nI z + (if nI t = 0 then (1 : Int32) else 0) = nI (z + (if t = 0 then 1 else 0)) := by
  by_cases c : t = 0
  · subst c; rw [if_pos (show nI 0 = 0 from rfl), if_pos rfl]; exact nI_1 z
  · rw [if_neg (show ¬ nI t = 0 from fun q => c (nI_e (b := 0) ht (by decide) q)), if_neg c]; exact nI_add z 0
theorem wksC {B : Bd} {m : Nat} (hw : wfB B) (h0 : 0 < bn B) (hm : m ≤ 20) (v3 : Int32) : ∀ (k w fuel : Nat) (x : Int32) (p : Nat × Nat) (M : Mem), w + k = m → k < fuel → brdC 1 B M → RA B M →
    ok2 (f_X4_weeks_b19 fuel (nI m) v3 x (nI p.1) (nI p.2) (nI w) M) (fun v M' => v = ltA v3 (wksS B k x p) ∧ fr [27] M M') := by
  have hn := hw.2.2.1
  intro k
  induction k with
  | zero =>
    intro w fuel x p M hi hf hb hA
    obtain ⟨f, rfl⟩ : ∃ f, fuel = f + 1 := ⟨fuel - 1, by omega⟩
    refine ok2_mk ?_
    unfold f_X4_weeks_b19 f_X4_weeks_b128 ltA
    refine ok_pos (nI_le (by omega) (by omega)) ?_
    by_cases c : v3 = 0
    · rw [if_pos c, if_pos c]; exact ok_some ⟨rfl, fr.rf⟩
    · rw [if_neg c, if_neg c]; exact ok_some ⟨rfl, fr.rf⟩
  | succ k ih =>
    intro w fuel x p M hi hf hb hA
    obtain ⟨f, rfl⟩ : ∃ f, fuel = f + 1 := ⟨fuel - 1, by omega⟩
    have ht := wkS_lt hw x (i := 12) (Nat.le_refl _)
    refine ok2_mk ?_
    unfold f_X4_weeks_b19
    refine ok_neg (nI_ge (by omega) (by omega)) ?_
    rw [hb.1]
    refine ok_neg (show ¬ nI (bn B) ≤ 0 from fun q => absurd ((nI_leI (b := 0) (by omega) (by decide)).mp q) (by omega)) ?_
    refine ok_bind (forget_RK (ty := B.1.1) (te := B.1.2) hw hb hA) (fun M1 ⟨h1, f1⟩ => ?_)
    refine wkC (x := x) hw h0 (nI m) v3 (nI p.1) (nI p.2) (nI w) (f_X4_weeks_b19 f) _ 12 0 FU M1 (by omega) (FU_big (by omega)) h1 (fun M' g1 g2 g3 => ?_)
    rw [nI_add, zadd _ _ (show wkS B x < 2 ^ 31 by unfold wkS; omega), nI_1]
    exact (ih (w + 1) f (it x 12) (p.1 + wkS B x, p.2 + (if wkS B x = 0 then 1 else 0)) M' (by omega) (by omega) g1 g2).mono (fun v M2 z => ⟨z.1, (f1.tr g3).tr z.2⟩)
/-- the model's board but for its log, that has 12 places -/
def brdN (B : Bd) (M : Mem) : Prop := M.1 0 5 = nI (bn B) ∧ M.1 0 6 = nI 12 ∧ M.1 0 7 = nI B.1.1 ∧ M.1 0 8 = nI B.1.2 ∧ (∀ j, j < bn B → M.1 2 j = nI (kd B j)) ∧ (∀ j, j < bn B → M.1 3 j = nI (fg B j)) ∧ (∀ j, j < bn B → M.1 4 j = nI (mk B j))
theorem brdN.w5 {B : Bd} {M : Mem} {j : Nat} {v : Int32} (h : brdN B M) : brdN B (wI M 5 j v) := by
  unfold brdN
  rw [wI_other (by decide), wI_other (by decide), wI_other (by decide), wI_other (by decide)]
  exact h
theorem wkR {B : Bd} {x : Int32} {M0 : Mem} (hw : wfB B) (h0 : 0 < bn B) (v1 v3 v6 v7 v8 : Int32) (kont : Int32 → Int32 → Int32 → Int32 → Int32 → Int32 → Mem → Option (Int32 × Mem)) (Q : Int32 × Mem → Prop) :
    ∀ (k i fuel : Nat) (M : Mem), i + k = 12 → k < fuel → brdN B M → mR M0 M → (∀ j, j < i → M.1 5 j = nI (drw (bn B) x j)) →
    (∀ M', brdN B M' → mR M0 M' → ok (kont v1 v3 (it x 12) (v6 + nI (wkS B x)) (v7 + (if nI (wkS B x) = 0 then (1 : Int32) else 0)) (v8 + 1) M') Q) →
    ok (f_X12_lots_b79 kont fuel v1 v3 (it x i) v6 v7 v8 (nI i) M) Q := by
  have hn := hw.2.2.1
  intro k
  induction k with
  | zero =>
    intro i fuel M hi hf hb hm hl hk
    obtain ⟨f, rfl⟩ : ∃ f, fuel = f + 1 := ⟨fuel - 1, by omega⟩
    obtain rfl : i = 12 := by omega
    obtain ⟨b1, b2, b3, b4, b5, b6, b7⟩ := id hb
    have n12 : bpl (B.1, B.2.1, lsD (bn B) x 12) = 12 := lsD_len _ _ _
    have hbr : brdR (B.1, B.2.1, lsD (bn B) x 12) M := ⟨b1, by rw [n12]; exact b2, b3, b4, b5, b6, b7, fun j hj => by
      rw [n12] at hj
      show M.1 5 j = nI ((lsD (bn B) x 12).getD j 0)
      rw [lsD_at _ _ hj]
      exact hl j hj⟩
    have hwf : wfB (B.1, B.2.1, lsD (bn B) x 12) := ⟨hw.1, hw.2.1, hw.2.2.1, by rw [n12]; omega, hw.2.2.2.2.1, fun d hd => by
      unfold lsD at hd
      obtain ⟨j, -, rfl⟩ := List.mem_map.mp hd
      exact Nat.mod_lt _ h0⟩
    have e : f_X12_all M = some (nI (wkS B x)) := allR hbr hwf
    unfold f_X12_lots_b79
    refine ok_pos (by decide) ?_
    rw [e, Option.bind_some, Option.bind_some]
    exact hk M hb hm
  | succ k ih =>
    intro i fuel M hi hf hb hm hl hk
    obtain ⟨f, rfl⟩ : ∃ f, fuel = f + 1 := ⟨fuel - 1, by omega⟩
    obtain ⟨r1, r2⟩ := rq_ok (it x (i + 1))
    unfold f_X12_lots_b79
    refine ok_neg (show ¬ 12 ≤ nI i from fun q => absurd ((nI_leI (a := 12) (by decide) (by omega)).mp q) (by omega)) ?_
    rw [show (it x i * 1103515245 + 12345) = it x (i + 1) from rfl, r1, hb.1, rmI_n (by omega) h0 (by omega), Option.bind_some]
    refine ok_st (by omega) (by decide) ?_
    rw [nI_1]
    refine ih (i + 1) f _ (by omega) (by omega) hb.w5 (hm.tr (mR.wI (Or.inr (by omega)))) (fun j hj => ?_) hk
    rw [wI_at]
    by_cases c : j = i
    · rw [if_pos ⟨rfl, c⟩, c]; rfl
    · rw [if_neg (by omega)]; exact hl j (by omega)
theorem wksR {B : Bd} {m : Nat} {MR M0 : Mem} (hw : wfB B) (h0 : 0 < bn B) (hm : m ≤ 20) (ht : TH MR M0) (v3 : Int32) : ∀ (k w fuel : Nat) (x : Int32) (p : Nat × Nat) (M : Mem), w + k = m → k < fuel → brdN B M → mR M0 M →
    ok2 (f_X12_lots_b70 fuel (nI m) v3 x (nI p.1) (nI p.2) (nI w) M) (fun v M' => v = ltA v3 (wksS B k x p) ∧ agR MR M') := by
  intro k
  induction k with
  | zero =>
    intro w fuel x p M hi hf hb hmr
    obtain ⟨f, rfl⟩ : ∃ f, fuel = f + 1 := ⟨fuel - 1, by omega⟩
    refine ok2_mk ?_
    unfold f_X12_lots_b70 ltA
    refine ok_pos (nI_le (by omega) (by omega)) ?_
    refine ok_bind (forgets_ok ht hmr) (fun M6 g => ?_)
    by_cases c : v3 = 0
    · rw [if_pos c, if_pos c]; exact ok_some ⟨rfl, g⟩
    · rw [if_neg c, if_neg c]; exact ok_some ⟨rfl, g⟩
  | succ k ih =>
    intro w fuel x p M hi hf hb hmr
    obtain ⟨f, rfl⟩ : ∃ f, fuel = f + 1 := ⟨fuel - 1, by omega⟩
    have ht' := wkS_lt hw x (i := 12) (Nat.le_refl _)
    refine ok2_mk ?_
    unfold f_X12_lots_b70
    refine ok_neg (nI_ge (by omega) (by omega)) ?_
    refine wkR (x := x) (M0 := M0) hw h0 (nI m) v3 (nI p.1) (nI p.2) (nI w) (f_X12_lots_b70 f) _ 12 0 FU M (by omega) (FU_big (by omega)) hb hmr (fun j hj => by omega) (fun M' g1 g2 => ?_)
    rw [nI_add, zadd _ _ (show wkS B x < 2 ^ 31 by unfold wkS; omega), nI_1]
    exact (ih (w + 1) f (it x 12) (p.1 + wkS B x, p.2 + (if wkS B x = 0 then 1 else 0)) M' (by omega) (by omega) g1 g2).mono (fun v M2 z => z)
theorem sim_lots {MC MR : Mem} (h : Inv MC MR) (a b c : Int32) : Sim (f_X11_lots a b c MC) (f_X12_lots a b c MR) := by
  obtain ⟨B, im, S, lt, rw', hw, hC, hR, hf⟩ := id h
  have hn := hw.1.2.2.1
  unfold f_X11_lots f_X12_lots f_X12_lots_b27
  simp only [bind_bp]
  rcases bound1 a 20 (by decide) with ⟨h0, e⟩ | ⟨d, hd, hm, h1, rfl, e⟩ | ⟨d, hd, h1, rfl, e⟩
  · rw [show f_X12_bound a 1 20 = -4 from e, if_neg h0, if_neg (show ¬ (-4 : Int32) = 0 by decide), if_neg (show ¬ (-4 : Int32) = 0 by decide)]; exact Sim.no4 h
  · rw [show f_X12_bound (nI d) 1 20 = -6 from e, if_pos (show 1 ≤ nI d from nI_le (a := 1) h1 hd), if_neg (show ¬ nI d ≤ 20 from nI_ge (a := 20) hm hd), if_neg (show ¬ (-6 : Int32) = 0 by decide), if_neg (show ¬ (-6 : Int32) = 0 by decide)]; exact Sim.no6 h
  rw [show f_X12_bound (nI d) 1 20 = 0 from e, if_pos (show 1 ≤ nI d from nI_le (a := 1) h1 (by omega)), if_pos (show nI d ≤ 20 from nI_le (b := 20) hd (by decide)), if_pos p00, if_pos p00, hR.1.1]
  have go : Sim (f_X4_weeks (nI d) b c MC) (if nI (bn B) = 0 then some ((0 : Int32), MR) else (f_X12_thinks MR).bind fun M4 => f_X12_lots_b70 FU (nI d) c b 0 0 0 (wI M4 0 6 12)) := by
    by_cases c0 : bn B = 0
    · rw [if_pos (show nI (bn B) = 0 by rw [c0]; rfl)]
      refine Sim.q h 0 (ok2_mk ?_) ⟨_, _, rfl, rfl, agR.rf⟩
      unfold f_X4_weeks
      refine ok_bind (open_ok hw.1 hC.1) (fun M1 ⟨h1', f1⟩ => ?_)
      obtain ⟨f, hf'⟩ : ∃ f, FU = f + 1 := ⟨FU - 1, by have := FU_big (k := 0) (by decide); omega⟩
      rw [hf']
      unfold f_X4_weeks_b19 f_X4_weeks_b128
      rw [h1'.1.1, c0]
      have fin : ok (if c = 0 then some ((0 : Int32), M1) else some ((0 : Int32), M1)) (fun p => p.1 = 0 ∧ frQ MC p.2) := by
        by_cases z : c = 0
        · rw [if_pos z]; exact ok_some ⟨rfl, f1.q (by decide)⟩
        · rw [if_neg z]; exact ok_some ⟨rfl, f1.q (by decide)⟩
      exact ok_ite (fun _ => fin) (fun _ => ok_pos (by decide) fin)
    · rw [if_neg (show ¬ nI (bn B) = 0 from fun q => c0 (nI_e (b := 0) (by omega) (by decide) q))]
      refine Sim.q h (ltA c (wksS B d b (0, 0))) (ok2_mk ?_) (ok2_mk ?_)
      · unfold f_X4_weeks
        refine ok_bind (open_ok hw.1 hC.1) (fun M1 ⟨h1', f1⟩ => ?_)
        exact (wksC hw.1 (by omega) hd c d 0 FU b (0, 0) M1 (by omega) (FU_big (by omega)) h1'.1 h1'.2.1).mono (fun v M2 z => ⟨z.1, (f1.q (by decide)).tr (z.2.q (by decide))⟩)
      · refine ok_bind thinks_ok (fun M4 ht => ?_)
        have hb4 := TH.brd hw.1 hR.1 ht
        have hbn : brdN B (wI M4 0 6 12) := by
          obtain ⟨h1, h2, h3, h4, h5, h6, h7, h8⟩ := hb4
          refine ⟨?_, ?_, ?_, ?_, fun j hj => ?_, fun j hj => ?_, fun j hj => ?_⟩
          · rw [wI_at, if_neg (by omega)]; exact h1
          · rw [wI_at, if_pos ⟨rfl, rfl⟩]; rfl
          · rw [wI_at, if_neg (by omega)]; exact h3
          · rw [wI_at, if_neg (by omega)]; exact h4
          · rw [wI_other (by decide)]; exact h5 j hj
          · rw [wI_other (by decide)]; exact h6 j hj
          · rw [wI_other (by decide)]; exact h7 j hj
        exact (wksR (MR := MR) hw.1 (by omega) hd ht c d 0 FU b (0, 0) (wI M4 0 6 12) (by omega) (FU_big (by omega)) hbn (mR.wI (Or.inl ⟨rfl, by decide, by decide, by decide, by decide⟩))).mono (fun v M2 z => z)
  rcases either c with ⟨e1, e2⟩ | ⟨e1, e2, -⟩ | ⟨e1, e2, -⟩
  · rw [e1, e2, if_pos p00, if_pos p00, if_neg (show ¬ (-2 : Int32) = 0 by decide)]; exact Sim.no2 h
  · rw [e1, e2, if_neg n10, if_neg n10]; exact go
  · rw [e1, e2, if_neg n10, if_neg n10]; exact go
