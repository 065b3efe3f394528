/-! turn, marks, law, back -/
theorem keepC {B B2 : Bd} {im : Option Bd} {S : List Bd} {lt rw' : List Nat} {MC M1 : Mem} (hS : S.length ≤ 8) (hC : RC B im S lt rw' MC) (hb : brdC 1 B2 M1) (hfr : ∀ r, r < 1 ∨ (5 < r ∧ r < 26) ∨ 27 < r → M1.1 r = MC.1 r)
    {e d f s : Nat} (he : e < 4) (hd : (e = 1 ∨ e = 2) → d < bn B2) (hf : e = 2 → f < 8) (hu : uB e d f s B2 = B) :
    ok (f_X10_keep (nI e) (nI d) (nI f) (nI s) M1) (fun M' => brdC 1 B2 M' ∧ M'.1 11 4 = nI (pS S B).length ∧ (∀ k, k < (pS S B).length → TBk M' (pS S B) B2 k) ∧ (∀ r, r = 0 ∨ (6 ≤ r ∧ r ≤ 10) ∨ r = 16 ∨ r = 17 ∨ r = 23 ∨ r = 24 ∨ r = 43 → M'.1 r = MC.1 r)) := by
  refine ok_mono (keep_ok (B := B) (B2 := B2) (S := S) hS (by rw [hfr 11 (by omega)]; exact hC.2.2.2.1) (fun k hk => TBk_cong (hC.2.2.2.2.1 k hk) (fun r z1 z2 => by rw [hfr r (by omega)])) he hd hf hu) (fun M5 ⟨g1, g2, g3⟩ => ⟨?_, g1, g2, fun r hr => ?_⟩)
  · exact hb.cong (fun r z1 z2 => g3 r (by omega))
  · rw [g3 r (by omega), hfr r (by omega)]
def stB (B : Bd) (d : Nat) (x : Nat × Nat × Nat) : Bd := (B.1, B.2.1.set d x, B.2.2)
theorem stB_n (B : Bd) (d : Nat) (x : Nat × Nat × Nat) : bn (stB B d x) = bn B := by unfold bn stB; simp
theorem stB_at {B : Bd} {d : Nat} {x : Nat × Nat × Nat} (hd : d < bn B) (j : Nat) : (stB B d x).2.1.getD j (0, 0, 0) = if j = d then x else B.2.1.getD j (0, 0, 0) := by
  show (B.2.1.set d x).getD j (0, 0, 0) = _
  rw [List.getD_eq_getElem?_getD, List.getD_eq_getElem?_getD, List.getElem?_set]
  by_cases c : d = j
  · subst c
    rw [if_pos rfl, if_pos rfl]
    have : d < B.2.1.length := hd
    rw [if_pos this]
    rfl
  · rw [if_neg c, if_neg (fun q => c q.symm)]
theorem stB_wf {B : Bd} (hw : wfB B) {d k f m : Nat} (hd : d < bn B) (hk : k < 6) (hf : f ≤ 9) (hm : m < 256) : wfB (stB B d (k, f, m)) := by
  refine ⟨hw.1, hw.2.1, by rw [stB_n]; exact hw.2.2.1, hw.2.2.2.1, fun j => ?_, fun j hj => by rw [stB_n]; exact hw.2.2.2.2.2 j hj⟩
  unfold kd fg mk
  rw [stB_at hd]
  by_cases c : j = d
  · rw [if_pos c]; exact ⟨hk, hf, hm⟩
  · rw [if_neg c]; exact hw.2.2.2.2.1 j
theorem stB_kd {B : Bd} {d k f m : Nat} (hd : d < bn B) (j : Nat) : kd (stB B d (k, f, m)) j = (if j = d then k else kd B j) ∧ fg (stB B d (k, f, m)) j = (if j = d then f else fg B j) ∧ mk (stB B d (k, f, m)) j = (if j = d then m else mk B j) := by
  unfold kd fg mk
  rw [stB_at hd]
  by_cases c : j = d
  · rw [if_pos c, if_pos c, if_pos c, if_pos c]; exact ⟨rfl, rfl, rfl⟩
  · rw [if_neg c, if_neg c, if_neg c, if_neg c]; exact ⟨rfl, rfl, rfl⟩
/-- set back -/
theorem stB_back {B : Bd} {d : Nat} {x : Nat × Nat × Nat} (hd : d < bn B) {y : Nat × Nat × Nat} (hy : y = (kd B d, fg B d, mk B d)) : ((stB B d x).1, (stB B d x).2.1.set d y, (stB B d x).2.2) = B := by
  show (B.1, (B.2.1.set d x).set d y, B.2.2) = B
  have hd' : d < B.2.1.length := hd
  have e : y = B.2.1[d] := by
    rw [hy]
    unfold kd fg mk
    rw [List.getD_eq_getElem?_getD, List.getElem?_eq_getElem hd']
    rfl
  rw [List.set_set, e, List.set_getElem_self]
theorem Sim.deed {B B2 : Bd} {im : Option Bd} {S : List Bd} {lt rw' : List Nat} {MC MR : Mem} {oc or : Option (Int32 × Mem)} (hw : wfS B im S lt rw') (hC : RC B im S lt rw' MC) (hR : RR B im S lt rw' MR) (hf : ∀ k, k < 7 → MC.1 43 k = MR.1 1 k) (hw2 : wfB B2) (v : Int32)
    (hc : ok oc (fun p => p.1 = v ∧ brdC 1 B2 p.2 ∧ p.2.1 11 4 = nI (pS S B).length ∧ (∀ k, k < (pS S B).length → TBk p.2 (pS S B) B2 k) ∧ (∀ r, r = 0 ∨ (6 ≤ r ∧ r ≤ 10) ∨ r = 16 ∨ r = 17 ∨ r = 23 ∨ r = 24 ∨ r = 43 → p.2.1 r = MC.1 r)))
    (hr : ok or (fun p => p.1 = v ∧ brdR B2 p.2 ∧ p.2.1 0 20 = nI (pS S B).length ∧ (∀ k, k < (pS S B).length → brdV (fun i => p.2.1 10 (120 + 40 * k + i)) ((pS S B).getD k B)) ∧ (∀ k, k = 13 ∨ k = 17 ∨ k = 24 → p.2.1 0 k = MR.1 0 k) ∧ (∀ r, r = 1 ∨ r = 6 ∨ r = 13 → p.2.1 r = MR.1 r) ∧ (∀ j, j < 120 → p.2.1 10 j = MR.1 10 j))) : Sim oc or := by
  obtain ⟨⟨v1, N1⟩, e1, q1, q2, q3, q4, q5⟩ := hc
  obtain ⟨⟨v2, N2⟩, e2, p1, p2, p3, p4, p5, p6, p7⟩ := hr
  refine ⟨v, N1, N2, ?_, ?_, Inv.deed hw hC hR hf hw2 q2 q3 q4 q5 p2 p3 p4 p5 p6 p7⟩
  · rw [← q1]; exact e1
  · rw [← p1]; exact e2
/-- the model's part of a deed that writes elsewhere than into its rows of boards -/
theorem keptR {B B2 : Bd} {im : Option Bd} {S : List Bd} {lt rw' : List Nat} {MR M2 M3 : Mem} {v w : Int32} (hw : wfS B im S lt rw') (e : v = w) (hb : brdR B2 M3)
    (g : brdR B M2 ∧ M2.1 0 20 = nI (pS S B).length ∧ (∀ k, k < (pS S B).length → brdV (fun i => M2.1 10 (120 + 40 * k + i)) ((pS S B).getD k B)) ∧ (∀ k, k ≠ 18 → k ≠ 19 → k ≠ 20 → M2.1 0 k = MR.1 0 k) ∧ (∀ r, r ≠ 0 → r ≠ 10 → M2.1 r = MR.1 r) ∧ (∀ j, j < 120 → M2.1 10 j = MR.1 10 j))
    (f0 : ∀ k, k = 13 ∨ k = 17 ∨ k = 20 ∨ k = 24 → M3.1 0 k = M2.1 0 k) (f1 : ∀ r, r = 1 ∨ r = 6 ∨ r = 10 ∨ r = 13 → M3.1 r = M2.1 r) :
    ok (some (v, M3)) (fun p => p.1 = w ∧ brdR B2 p.2 ∧ p.2.1 0 20 = nI (pS S B).length ∧ (∀ k, k < (pS S B).length → brdV (fun i => p.2.1 10 (120 + 40 * k + i)) ((pS S B).getD k B)) ∧ (∀ k, k = 13 ∨ k = 17 ∨ k = 24 → p.2.1 0 k = MR.1 0 k) ∧ (∀ r, r = 1 ∨ r = 6 ∨ r = 13 → p.2.1 r = MR.1 r) ∧ (∀ j, j < 120 → p.2.1 10 j = MR.1 10 j)) := by
  obtain ⟨g1, g2, g3, g4, g5, g6⟩ := g
  refine ok_some ⟨e, hb, ?_, fun k hk => ?_, fun k hk => ?_, fun r hr => ?_, fun j hj => ?_⟩
  · rw [f0 20 (by omega)]; exact g2
  · show brdV (fun i => M3.1 10 (120 + 40 * k + i)) _
    rw [f1 10 (by omega)]; exact g3 k hk
  · rw [f0 k (by omega)]; exact g4 k (by omega) (by omega) (by omega)
  · rw [f1 r (by omega)]; exact g5 r (by omega) (by omega)
  · rw [f1 10 (by omega)]; exact g6 j hj
theorem sim_turn {MC MR : Mem} (h : Inv MC MR) (a b c : Int32) : Sim (f_X11_turn a b c MC) (f_X12_turn a b c MR) := by
  obtain ⟨B, im, S, lt, rw', hw, hC, hR, hf⟩ := id h
  have hn := hw.1.2.2.1
  unfold f_X11_turn f_X12_turn f_X12_turn_b33
  simp only [bind_bp]
  rcases knows hC.1 hR.1 hw.1 a with ⟨e1, e2⟩ | ⟨e1, e2, d, hd, rfl⟩
  · rw [e1, e2, if_pos p00, if_pos p00, if_neg (show ¬ (-1 : Int32) = 0 by decide)]; exact Sim.no1 h
  rw [e1, e2, if_neg n10, if_neg n10]
  rcases kindR b with ⟨e1, e2⟩ | ⟨e1, e2, k, hk, rfl⟩
  · rw [e1, e2, if_pos p00, if_pos p00, if_neg (show ¬ (-2 : Int32) = 0 by decide)]; exact Sim.no2 h
  rw [e1, e2, if_neg n10, if_neg n10]
  rcases boundR c 9 (by decide) with ⟨h0, e⟩ | ⟨f, hf', hm, rfl, e⟩ | ⟨f, hf', rfl, e⟩
  · rw [show f_X12_bound c 0 9 = -4 from e, if_neg (show ¬ 0 ≤ c from i_neg_nle h0 (n := 0) (by decide)), if_neg (show ¬ (-4 : Int32) = 0 by decide)]; exact Sim.no4 h
  · rw [show f_X12_bound (nI f) 0 9 = -6 from e, if_pos (nI_pos' hf'), if_neg (show ¬ nI f ≤ 9 from nI_ge (a := 9) hm hf'), if_neg (show ¬ (-6 : Int32) = 0 by decide)]; exact Sim.no6 h
  rw [show f_X12_bound (nI f) 0 9 = 0 from e, if_pos (nI_pos' (by omega)), if_pos (show nI f ≤ 9 from nI_le (b := 9) hf' (by decide)), if_pos p00]
  obtain ⟨h1, h2, h3, h4, h5, h6, h7, h8⟩ := hC.1
  have mw := (hw.1.2.2.2.2.1 d).2.2
  refine Sim.deed (B2 := stB B d (k, f, mk B d)) hw hC hR hf (stB_wf hw.1 hd hk hf' mw) (10 * nI (kd B d) + nI (fg B d)) ?_ ?_
  · refine ok_ld (by omega) (by decide) (h5 d hd) ?_
    refine ok_ld (by omega) (by decide) (h6 d hd) ?_
    unfold f_X0_setKind
    rw [stI_n (by omega) (by decide), Option.bind_some, stI_n (by omega) (by decide), Option.bind_some, Option.bind_some]
    refine ok_bind (keepC (B2 := stB B d (k, f, mk B d)) hw.2.2.1 hC ⟨?_, ?_, ?_, ?_, fun j hj => ?_, fun j hj => ?_, fun j hj => ?_, fun j hj => ?_⟩ (fun r hr => ?_) (e := 1) (d := d) (f := kd B d) (s := fg B d) (by decide) (fun q => by rw [stB_n]; exact hd) (fun q => by omega) ?_) (fun M5 g => ok_some ⟨rfl, g⟩)
    · rw [stB_n]; simp only [wI_at]; simp; exact h1
    · simp only [wI_at]; simp; exact h2
    · simp only [wI_at]; simp; exact h3
    · simp only [wI_at]; simp; exact h4
    · rw [stB_n] at hj; rw [(stB_kd hd j).1]; simp only [wI_at]; simp
      by_cases c : j = d
      · rw [if_pos c, if_pos c]
      · rw [if_neg c, if_neg c]; exact h5 j hj
    · rw [stB_n] at hj; rw [(stB_kd hd j).2.1]; simp only [wI_at]; simp
      by_cases c : j = d
      · rw [if_pos c, if_pos c]
      · rw [if_neg c, if_neg c]; exact h6 j hj
    · rw [stB_n] at hj; rw [(stB_kd hd j).2.2]; simp only [wI_at]; simp
      by_cases c : j = d
      · rw [if_pos c, c]; exact h7 d hd
      · rw [if_neg c]; exact h7 j hj
    · simp only [wI_at]; simp; exact h8 j hj
    · rw [wI_other (by omega), wI_other (by omega)]
    · unfold uB
      rw [if_neg (by decide), if_pos rfl]
      exact stB_back hd (by rw [(stB_kd hd d).2.2, if_pos rfl])
  · refine ok_bind (keepsB_inv hw hR) (fun M2 g => ?_)
    obtain ⟨k1, k2, k3, k4, k5, k6, k7, k8⟩ := g.1
    refine ok_ld (by omega) (by decide) (k5 d hd) ?_
    refine ok_ld (by omega) (by decide) (k6 d hd) ?_
    rw [stI_n (by omega) (by decide), Option.bind_some, stI_n (by omega) (by decide), Option.bind_some]
    refine keptR hw rfl ⟨?_, ?_, ?_, ?_, fun j hj => ?_, fun j hj => ?_, fun j hj => ?_, fun j hj => ?_⟩ g (fun k hk => by rw [wI_other (by decide), wI_other (by decide)]) (fun r hr => by rw [wI_other (by omega), wI_other (by omega)])
    · rw [stB_n]; simp only [wI_at]; simp; exact k1
    · simp only [wI_at]; simp; exact k2
    · simp only [wI_at]; simp; exact k3
    · simp only [wI_at]; simp; exact k4
    · rw [stB_n] at hj; rw [(stB_kd hd j).1]; simp only [wI_at]; simp
      by_cases c : j = d
      · rw [if_pos c, if_pos c]
      · rw [if_neg c, if_neg c]; exact k5 j hj
    · rw [stB_n] at hj; rw [(stB_kd hd j).2.1]; simp only [wI_at]; simp
      by_cases c : j = d
      · rw [if_pos c, if_pos c]
      · rw [if_neg c, if_neg c]; exact k6 j hj
    · rw [stB_n] at hj; rw [(stB_kd hd j).2.2]; simp only [wI_at]; simp
      by_cases c : j = d
      · rw [if_pos c, c]; exact k7 d hd
      · rw [if_neg c]; exact k7 j hj
    · simp only [wI_at]; simp; exact k8 j hj
theorem markR (v : Int32) : (f_X11_isMark v = 0 ∧ f_X12_isMark v = 0) ∨ (f_X11_isMark v = 1 ∧ f_X12_isMark v = 1 ∧ ∃ m, m < 8 ∧ v = nI m) := by
  unfold f_X11_isMark f_X12_isMark
  rcases i_cases v with h | ⟨d, hd, rfl⟩
  · rw [if_pos h]; exact Or.inl ⟨rfl, rfl⟩
  · rw [if_neg (nI_pos hd)]
    by_cases c : d < 8
    · rw [if_neg (show ¬ 8 ≤ nI d from fun q => absurd ((nI_leI (a := 8) (by decide) hd).mp q) (by omega))]; exact Or.inr ⟨rfl, rfl, d, c, rfl⟩
    · rw [if_pos (show 8 ≤ nI d from (nI_leI (a := 8) (by decide) hd).mpr (by omega))]; exact Or.inl ⟨rfl, rfl⟩
theorem xor_back (a b : Nat) : a ^^^ b ^^^ b = a := by rw [Nat.xor_assoc, Nat.xor_self, Nat.xor_zero]
theorem xor_8 {a m : Nat} (ha : a < 256) (hm : m < 8) : a ^^^ 2 ^ m < 256 := Nat.xor_lt_two_pow (n := 8) ha (Nat.pow_lt_pow_right (by decide) hm)
theorem sim_marks {MC MR : Mem} (h : Inv MC MR) (a b : Int32) : Sim (f_X11_marks a b MC) (f_X12_marks a b MR) := by
  obtain ⟨B, im, S, lt, rw', hw, hC, hR, hf⟩ := id h
  have hn := hw.1.2.2.1
  unfold f_X11_marks f_X12_marks
  simp only [bind_bp]
  rcases knows hC.1 hR.1 hw.1 a with ⟨e1, e2⟩ | ⟨e1, e2, d, hd, rfl⟩
  · rw [e1, e2, if_pos p00, if_pos p00]; exact Sim.no1 h
  rw [e1, e2, if_neg n10, if_neg n10]
  rcases markR b with ⟨e1, e2⟩ | ⟨e1, e2, m, hm, rfl⟩
  · rw [e1, e2, if_pos p00, if_pos p00]; exact Sim.no1 h
  rw [e1, e2, if_neg n10, if_neg n10]
  obtain ⟨h1, h2, h3, h4, h5, h6, h7, h8⟩ := hC.1
  obtain ⟨kw, fw, mw⟩ := hw.1.2.2.2.2.1 d
  refine Sim.deed (B2 := stB B d (kd B d, fg B d, mk B d ^^^ 2 ^ m)) hw hC hR hf (stB_wf hw.1 hd kw fw (xor_8 mw hm)) (jshr (nI (mk B d ^^^ 2 ^ m)) (nI m) &&& 1) ?_ ?_
  · unfold f_X0_flipMark
    rw [ldMkC hC.1 hw.1 hd, Option.bind_some, jshl_1 (by omega), fa_xor, stI_n (by omega) (by decide), Option.bind_some, Option.bind_some]
    refine ok_bind (keepC (B2 := stB B d (kd B d, fg B d, mk B d ^^^ 2 ^ m)) hw.2.2.1 hC ⟨?_, ?_, ?_, ?_, fun j hj => ?_, fun j hj => ?_, fun j hj => ?_, fun j hj => ?_⟩ (fun r hr => ?_) (e := 2) (d := d) (f := m) (s := 0) (by decide) (fun q => by rw [stB_n]; exact hd) (fun q => hm) ?_) (fun M5 g => ?_)
    · rw [stB_n]; simp only [wI_at]; simp; exact h1
    · simp only [wI_at]; simp; exact h2
    · simp only [wI_at]; simp; exact h3
    · simp only [wI_at]; simp; exact h4
    · rw [stB_n] at hj; rw [(stB_kd hd j).1]; simp only [wI_at]; simp
      by_cases c : j = d
      · rw [if_pos c, c]; exact h5 d hd
      · rw [if_neg c]; exact h5 j hj
    · rw [stB_n] at hj; rw [(stB_kd hd j).2.1]; simp only [wI_at]; simp
      by_cases c : j = d
      · rw [if_pos c, c]; exact h6 d hd
      · rw [if_neg c]; exact h6 j hj
    · rw [stB_n] at hj; rw [(stB_kd hd j).2.2]; simp only [wI_at]; simp
      by_cases c : j = d
      · rw [if_pos c, if_pos c]
      · rw [if_neg c, if_neg c]; exact h7 j hj
    · simp only [wI_at]; simp; exact h8 j hj
    · rw [wI_other (by omega)]
    · unfold uB
      rw [if_neg (by decide), if_neg (by decide), if_pos rfl]
      exact stB_back hd (by rw [(stB_kd hd d).1, (stB_kd hd d).2.1, (stB_kd hd d).2.2, if_pos rfl, if_pos rfl, if_pos rfl, xor_back])
    · have hl := g.1.2.2.2.2.2.2.1 d (by rw [stB_n]; exact hd)
      rw [(stB_kd hd d).2.2, if_pos rfl] at hl
      refine ok_ld (by omega) (by decide) hl ?_
      exact ok_some ⟨rfl, g⟩
  · refine ok_bind (keepsB_inv hw hR) (fun M2 g => ?_)
    obtain ⟨k1, k2, k3, k4, k5, k6, k7, k8⟩ := g.1
    rw [ldMkR g.1 hw.1 hd, Option.bind_some, jshl_1 (by omega), fa_xor, stI_n (by omega) (by decide), Option.bind_some]
    refine ok_ld (by omega) (by decide) (v := nI (mk B d ^^^ 2 ^ m)) (by rw [wI_at, if_pos ⟨rfl, rfl⟩]) ?_
    refine keptR hw rfl ⟨?_, ?_, ?_, ?_, fun j hj => ?_, fun j hj => ?_, fun j hj => ?_, fun j hj => ?_⟩ g (fun k hk => by rw [wI_other (by decide)]) (fun r hr => by rw [wI_other (by omega)])
    · rw [stB_n]; simp only [wI_at]; simp; exact k1
    · simp only [wI_at]; simp; exact k2
    · simp only [wI_at]; simp; exact k3
    · simp only [wI_at]; simp; exact k4
    · rw [stB_n] at hj; rw [(stB_kd hd j).1]; simp only [wI_at]; simp
      by_cases c : j = d
      · rw [if_pos c, c]; exact k5 d hd
      · rw [if_neg c]; exact k5 j hj
    · rw [stB_n] at hj; rw [(stB_kd hd j).2.1]; simp only [wI_at]; simp
      by_cases c : j = d
      · rw [if_pos c, c]; exact k6 d hd
      · rw [if_neg c]; exact k6 j hj
    · rw [stB_n] at hj; rw [(stB_kd hd j).2.2]; simp only [wI_at]; simp
      by_cases c : j = d
      · rw [if_pos c, if_pos c]
      · rw [if_neg c, if_neg c]; exact k7 j hj
    · simp only [wI_at]; simp; exact k8 j hj
theorem typeR (v : Int32) : (f_X11_isType v = 0 ∧ f_X12_isIn v 0 3 = 0) ∨ (f_X11_isType v = 1 ∧ f_X12_isIn v 0 3 = 1 ∧ ∃ k, k < 4 ∧ v = nI k) := by
  rcases i_cases v with h | ⟨d, hd, rfl⟩
  · left
    refine ⟨?_, isIn_neg (a := 0) (b := 3) h (by decide)⟩
    unfold f_X11_isType
    rw [if_pos h]
  · have e : f_X12_isIn (nI d) 0 3 = bI (decide (0 ≤ d ∧ d ≤ 3)) := isIn_n (a := 0) (b := 3) (by decide) (by decide) hd
    rw [e]
    unfold f_X11_isType
    rw [if_neg (nI_pos hd)]
    by_cases c : d < 4
    · right
      rw [if_neg (show ¬ 4 ≤ nI d from fun q => absurd ((nI_leI (a := 4) (by decide) hd).mp q) (by omega)), decide_eq_true (by omega)]
      exact ⟨rfl, rfl, d, c, rfl⟩
    · left
      rw [if_pos (show 4 ≤ nI d from (nI_leI (a := 4) (by decide) hd).mpr (by omega)), decide_eq_false (by omega)]
      exact ⟨rfl, rfl⟩
theorem sim_law {MC MR : Mem} (h : Inv MC MR) (a b : Int32) : Sim (f_X11_law a b MC) (f_X12_law a b MR) := by
  obtain ⟨B, im, S, lt, rw', hw, hC, hR, hf⟩ := id h
  unfold f_X11_law f_X12_law f_X12_law_b21
  simp only [bind_bp]
  rcases typeR a with ⟨e1, e2⟩ | ⟨e1, e2, ty, hty, rfl⟩
  · rw [e1, e2, if_pos p00, if_pos p00, if_neg (show ¬ (-2 : Int32) = 0 by decide)]; exact Sim.no2 h
  rw [e1, e2, if_neg n10, if_neg n10]
  rcases boundR b 8 (by decide) with ⟨h0, e⟩ | ⟨f, hf', hm, rfl, e⟩ | ⟨te, hte, rfl, e⟩
  · rw [show f_X12_bound b 0 8 = -4 from e, if_neg (show ¬ 0 ≤ b from i_neg_nle h0 (n := 0) (by decide)), if_neg (show ¬ (-4 : Int32) = 0 by decide)]; exact Sim.no4 h
  · rw [show f_X12_bound (nI f) 0 8 = -6 from e, if_pos (nI_pos' hf'), if_neg (show ¬ nI f ≤ 8 from nI_ge (a := 8) hm hf'), if_neg (show ¬ (-6 : Int32) = 0 by decide)]; exact Sim.no6 h
  rw [show f_X12_bound (nI te) 0 8 = 0 from e, if_pos (nI_pos' (by omega)), if_pos (show nI te ≤ 8 from nI_le (b := 8) hte (by decide)), if_pos p00]
  have hb := hC.1
  obtain ⟨h1, h2, h3, h4, h5, h6, h7, h8⟩ := hC.1
  refine Sim.deed (B2 := lw B ty te) hw hC hR hf ⟨hty, hte, hw.1.2.2⟩ (10 * nI B.1.1 + nI B.1.2) ?_ ?_
  · unfold f_X0_setLaw
    rw [Option.bind_some, h3, h4]
    refine ok_bind (keepC (B2 := lw B ty te) hw.2.2.1 hC ⟨?_, ?_, ?_, ?_, fun j hj => ?_, fun j hj => ?_, fun j hj => ?_, fun j hj => ?_⟩ (fun r hr => ?_) (e := 3) (d := 0) (f := B.1.1) (s := B.1.2) (by decide) (fun q => by omega) (fun q => by omega) ?_) (fun M5 g => ok_some ⟨rfl, g⟩)
    · simp only [wI_at]; simp; exact h1
    · simp only [wI_at]; simp; exact h2
    · simp only [wI_at]; simp; rfl
    · simp only [wI_at]; simp; rfl
    · simp only [wI_at]; simp; exact h5 j hj
    · simp only [wI_at]; simp; exact h6 j hj
    · simp only [wI_at]; simp; exact h7 j hj
    · simp only [wI_at]; simp; exact h8 j hj
    · rw [wI_other (by omega), wI_other (by omega)]
    · unfold uB
      rw [if_neg (by decide), if_neg (by decide), if_neg (by decide)]
      rfl
  · refine ok_bind (keepsB_inv hw hR) (fun M2 g => ?_)
    obtain ⟨k1, k2, k3, k4, k5, k6, k7, k8⟩ := g.1
    rw [k3, k4]
    refine keptR hw rfl ⟨?_, ?_, ?_, ?_, fun j hj => ?_, fun j hj => ?_, fun j hj => ?_, fun j hj => ?_⟩ g (fun k hk => by rw [wI_at, if_neg (by omega), wI_at, if_neg (by omega)]) (fun r hr => by rw [wI_other (by omega), wI_other (by omega)])
    · simp only [wI_at]; simp; exact k1
    · simp only [wI_at]; simp; exact k2
    · simp only [wI_at]; simp; rfl
    · simp only [wI_at]; simp; rfl
    · simp only [wI_at]; simp; exact k5 j hj
    · simp only [wI_at]; simp; exact k6 j hj
    · simp only [wI_at]; simp; exact k7 j hj
    · simp only [wI_at]; simp; exact k8 j hj
/-! back -/
theorem undo_ok {B : Bd} {M : Mem} {n e d f s : Nat} (hw : wfB B) (hb : brdC 1 B M) (h4 : M.1 11 4 = nI (n + 1)) (hn : n < 8) (q1 : M.1 12 n = nI e) (q2 : M.1 13 n = nI d) (q3 : M.1 14 n = nI f) (q4 : M.1 15 n = nI s) (he : e < 4) (hd : (e = 1 ∨ e = 2) → d < bn B) (hf : e = 2 → f < 8) :
    ok (f_X10_undoLatest M) (fun p => p.1 = nI n ∧ brdC 1 (uB e d f s B) p.2 ∧ p.2.1 11 4 = nI n ∧ ∀ r, (r < 1 ∨ 5 < r) → r ≠ 11 → p.2.1 r = M.1 r) := by
  have hn8 := hw.2.2.1
  have h12 := hw.2.2.2.1
  unfold f_X10_undoLatest
  rw [h4, show nI (n + 1) - 1 = nI n from (sub_one_nI (k := 1) (by omega)).trans (by rw [Nat.add_sub_cancel])]
  have N4 : (wI M 11 4 (nI n)).1 11 4 = nI n := by rw [wI_at, if_pos ⟨rfl, rfl⟩]
  have Nr : ∀ r, r ≠ 11 → (wI M 11 4 (nI n)).1 r = M.1 r := fun r hr => wI_other hr
  have Nb : brdC 1 B (wI M 11 4 (nI n)) := hb.cong fun r z1 z2 => Nr r (by omega)
  revert N4 Nr Nb
  generalize wI M 11 4 (nI n) = N
  intro N4 Nr Nb
  obtain ⟨h1, h2, h3, h4', h5, h6, h7, h8⟩ := id Nb
  refine ok_pos (show 0 < nI (n + 1) from nI_lt (a := 0) (by omega) (by omega)) ?_
  rw [N4, h2]
  refine ok_ld hn (by decide) ((congrFun (Nr 12 (by decide)) n).trans q1) ?_
  have ht : e = 0 ∨ e = 1 ∨ e = 2 ∨ e = 3 := by omega
  rcases ht with rfl | rfl | rfl | rfl
  · refine ok_pos rfl ?_
    have em : mxI 0 (nI (bpl B) - 1) = nI (bpl B - 1) := by
      by_cases c : bpl B = 0
      · rw [c]; decide
      · rw [show nI (bpl B) - 1 = nI (bpl B - 1) from sub_one_nI (k := 1) (by omega)]
        exact (mxI_n (a := 0) (by decide) (by omega)).trans (by rw [Nat.max_eq_right (Nat.zero_le _)])
    rw [em]
    have en : bpl (uB 0 d f s B) = bpl B - 1 := by unfold uB bpl; rw [if_pos rfl]; simp
    refine ok_some ⟨?_, ⟨?_, ?_, ?_, ?_, fun j hj => ?_, fun j hj => ?_, fun j hj => ?_, fun j hj => ?_⟩, ?_, fun r z1 z2 => ?_⟩
    · rw [wI_other (by decide)]; exact N4
    · simp only [wI_at]; simp; exact h1
    · rw [en]; simp only [wI_at]; simp
    · simp only [wI_at]; simp; exact h3
    · simp only [wI_at]; simp; exact h4'
    · rw [wI_other (by decide)]; exact h5 j hj
    · rw [wI_other (by decide)]; exact h6 j hj
    · rw [wI_other (by decide)]; exact h7 j hj
    · rw [en] at hj
      rw [wI_other (by decide), h8 j (by omega)]
      congr 1
      show B.2.2.getD j 0 = (B.2.2.dropLast).getD j 0
      rw [List.getD_eq_getElem?_getD, List.getD_eq_getElem?_getD, List.getElem?_dropLast, if_pos (by unfold bpl at hj; omega)]
    · rw [wI_other (by decide)]; exact N4
    · rw [wI_other (by omega)]; exact Nr r z2
  · refine ok_neg (show ¬ nI 1 = 0 by decide) ?_
    refine ok_pos rfl ?_
    have hd' := hd (by omega)
    refine ok_ld hn (by decide) ((congrFun (Nr 13 (by decide)) n).trans q2) ?_
    refine ok_ld hn (by decide) ((congrFun (Nr 14 (by decide)) n).trans q3) ?_
    refine ok_ld hn (by decide) ((congrFun (Nr 15 (by decide)) n).trans q4) ?_
    unfold f_X0_setKind
    rw [stI_n (by omega) (by decide), Option.bind_some, stI_n (by omega) (by decide), Option.bind_some, Option.bind_some]
    have eu : uB 1 d f s B = stB B d (f, s, mk B d) := rfl
    rw [eu]
    refine ok_some ⟨?_, ⟨?_, ?_, ?_, ?_, fun j hj => ?_, fun j hj => ?_, fun j hj => ?_, fun j hj => ?_⟩, ?_, fun r z1 z2 => ?_⟩
    · rw [wI_other (by decide), wI_other (by decide)]; exact N4
    · rw [stB_n]; simp only [wI_at]; simp; exact h1
    · simp only [wI_at]; simp; exact h2
    · simp only [wI_at]; simp; exact h3
    · simp only [wI_at]; simp; exact h4'
    · rw [stB_n] at hj; rw [(stB_kd hd' j).1]; simp only [wI_at]; simp
      by_cases c : j = d
      · rw [if_pos c, if_pos c]
      · rw [if_neg c, if_neg c]; exact h5 j hj
    · rw [stB_n] at hj; rw [(stB_kd hd' j).2.1]; simp only [wI_at]; simp
      by_cases c : j = d
      · rw [if_pos c, if_pos c]
      · rw [if_neg c, if_neg c]; exact h6 j hj
    · rw [stB_n] at hj; rw [(stB_kd hd' j).2.2]; simp only [wI_at]; simp
      by_cases c : j = d
      · rw [if_pos c, c]; exact h7 d hd'
      · rw [if_neg c]; exact h7 j hj
    · simp only [wI_at]; simp; exact h8 j hj
    · rw [wI_other (by decide), wI_other (by decide)]; exact N4
    · rw [wI_other (by omega), wI_other (by omega)]; exact Nr r z2
  · refine ok_neg (show ¬ nI 2 = 0 by decide) ?_
    refine ok_neg (show ¬ nI 2 = 1 by decide) ?_
    refine ok_pos rfl ?_
    have hd' := hd (by omega)
    have hf' := hf rfl
    refine ok_ld hn (by decide) ((congrFun (Nr 13 (by decide)) n).trans q2) ?_
    refine ok_ld hn (by decide) ((congrFun (Nr 14 (by decide)) n).trans q3) ?_
    unfold f_X0_flipMark
    rw [ldMkC Nb hw hd', Option.bind_some, jshl_1 (by omega), fa_xor, stI_n (by omega) (by decide), Option.bind_some, Option.bind_some]
    have eu : uB 2 d f s B = stB B d (kd B d, fg B d, mk B d ^^^ 2 ^ f) := rfl
    rw [eu]
    refine ok_some ⟨?_, ⟨?_, ?_, ?_, ?_, fun j hj => ?_, fun j hj => ?_, fun j hj => ?_, fun j hj => ?_⟩, ?_, fun r z1 z2 => ?_⟩
    · rw [wI_other (by decide)]; exact N4
    · rw [stB_n]; simp only [wI_at]; simp; exact h1
    · simp only [wI_at]; simp; exact h2
    · simp only [wI_at]; simp; exact h3
    · simp only [wI_at]; simp; exact h4'
    · rw [stB_n] at hj; rw [(stB_kd hd' j).1]; simp only [wI_at]; simp
      by_cases c : j = d
      · rw [if_pos c, c]; exact h5 d hd'
      · rw [if_neg c]; exact h5 j hj
    · rw [stB_n] at hj; rw [(stB_kd hd' j).2.1]; simp only [wI_at]; simp
      by_cases c : j = d
      · rw [if_pos c, c]; exact h6 d hd'
      · rw [if_neg c]; exact h6 j hj
    · rw [stB_n] at hj; rw [(stB_kd hd' j).2.2]; simp only [wI_at]; simp
      by_cases c : j = d
      · rw [if_pos c, if_pos c]
      · rw [if_neg c, if_neg c]; exact h7 j hj
    · simp only [wI_at]; simp; exact h8 j hj
    · rw [wI_other (by decide)]; exact N4
    · rw [wI_other (by omega)]; exact Nr r z2
  · refine ok_neg (show ¬ nI 3 = 0 by decide) ?_
    refine ok_neg (show ¬ nI 3 = 1 by decide) ?_
    refine ok_neg (show ¬ nI 3 = 2 by decide) ?_
    refine ok_ld hn (by decide) ((congrFun (Nr 14 (by decide)) n).trans q3) ?_
    refine ok_ld hn (by decide) ((congrFun (Nr 15 (by decide)) n).trans q4) ?_
    unfold f_X0_setLaw
    rw [Option.bind_some]
    have eu : uB 3 d f s B = lw B f s := rfl
    rw [eu]
    refine ok_some ⟨?_, ⟨?_, ?_, ?_, ?_, fun j hj => ?_, fun j hj => ?_, fun j hj => ?_, fun j hj => ?_⟩, ?_, fun r z1 z2 => ?_⟩
    · rw [wI_other (by decide), wI_other (by decide)]; exact N4
    · simp only [wI_at]; simp; exact h1
    · simp only [wI_at]; simp; exact h2
    · simp only [wI_at]; simp; rfl
    · simp only [wI_at]; simp; rfl
    · rw [wI_other (by decide), wI_other (by decide)]; exact h5 j hj
    · rw [wI_other (by decide), wI_other (by decide)]; exact h6 j hj
    · rw [wI_other (by decide), wI_other (by decide)]; exact h7 j hj
    · rw [wI_other (by decide), wI_other (by decide)]; exact h8 j hj
    · rw [wI_other (by decide), wI_other (by decide)]; exact N4
    · rw [wI_other (by omega), wI_other (by omega)]; exact Nr r z2
theorem sim_back {MC MR : Mem} (h : Inv MC MR) : Sim (f_X11_back MC) (f_X12_back MR) := by
  obtain ⟨B, im, S, lt, rw', hw, hC, hR, hf⟩ := id h
  have hS := hw.2.2.1
  unfold f_X11_back f_X12_back
  simp only [bind_bp]
  rw [hC.2.2.2.1, hR.2.2.2.1]
  rcases List.eq_nil_or_concat S with rfl | ⟨S', B2, e⟩
  · rw [if_neg (show ¬ 0 < nI ([] : List Bd).length by decide), if_pos (show nI ([] : List Bd).length = 0 from rfl)]; exact Sim.no3 h
  · rw [List.concat_eq_append] at e
    subst e
    have hl : (S' ++ [B2]).length = S'.length + 1 := by simp
    rw [hl] at hS
    rw [hl, if_pos (show 0 < nI (S'.length + 1) from nI_lt (a := 0) (by omega) (by omega)), if_neg (show ¬ nI (S'.length + 1) = 0 from fun q => absurd (nI_e (b := 0) (by omega) (by decide) q) (by omega)), show nI (S'.length + 1) - 1 = nI S'.length from (sub_one_nI (k := 1) (by omega)).trans (by rw [Nat.add_sub_cancel])]
    have hB2 : wfB B2 := hw.2.2.2.1 B2 (by simp)
    have hT := hC.2.2.2.2.1
    obtain ⟨e, d, f, s, q1, q2, q3, q4, q5, q6, q7, q8⟩ := hT S'.length (by omega)
    rw [nxB_last] at q6 q8
    rw [getD_snoc, if_neg (by omega), if_pos rfl] at q8
    obtain ⟨⟨v, N⟩, e1, p1, p2, p3, p4⟩ := undo_ok hw.1 hC.1 (by rw [hC.2.2.2.1, hl]) (by omega) q1 q2 q3 q4 q5 q6 q7
    have p1 : v = nI S'.length := p1
    rw [q8] at p2
    rw [e1, wI_at, if_pos ⟨rfl, rfl⟩, l_3, nI_add]
    obtain ⟨M2, e2, g1, g2, g3, g4⟩ := allB (w := 3 + S'.length) (M := wI MR 0 20 (nI S'.length)) (by omega)
    rw [e2, Option.bind_some]
    have w20 : M2.1 0 20 = nI S'.length := by rw [g3 20 (by omega) (by decide) (by decide), wI_at, if_pos ⟨rfl, rfl⟩]
    rw [w20]
    have bR : brdR B2 M2 := (brdV_R hB2).mp (by
      have hh := hR.2.2.2.2.1 S'.length (by omega)
      rw [getD_snoc, if_neg (by omega), if_pos rfl] at hh
      refine brdV_cong hB2 hh (fun i hi => ?_)
      rw [g1 i hi, wI_other (by decide), show 40 * (3 + S'.length) + i = 120 + 40 * S'.length + i by omega])
    refine ⟨nI S'.length, N, M2, by rw [← p1], rfl, B2, im, S', lt, rw', ⟨hB2, hw.2.1, by omega, fun I hI => hw.2.2.2.1 I (by simp [hI]), hw.2.2.2.2⟩, hC.bd2 ?_ (fun r hr => p4 r (by omega) (by omega)) p2 p3 (fun k hk => ?_), RR.bd2 hw hR bR (fun k hk => ?_) (fun r hr => ?_) (fun j hj => ?_) w20 (fun k hk => ?_), fun k hk => ?_⟩
    · rw [p4 0 (by omega) (by decide)]
    · exact TBk_cong ((TBk_snoc hk).mp (hT k (by omega))) (fun r z1 z2 => by rw [p4 r (by omega) (by omega)])
    · rw [g3 k (by omega) (by omega) (by omega), wI_at, if_neg (by omega)]
    · rw [g4 r (by omega) (by omega), wI_other (by omega)]
    · rw [g2, wI_other (by decide)]
    · have hh := hR.2.2.2.2.1 k (by omega)
      rw [getD_snocL (b := B2) hk] at hh
      rw [g2, wI_other (by decide)]
      exact hh
    · rw [p4 43 (by omega) (by decide), g4 1 (by decide) (by decide), wI_other (by decide)]; exact hf k hk
