/-! does, turn, marks, law, back: deeds that can be taken back -/
theorem getD_in {α : Type} {l : List α} {k : Nat} {a b : α} (h : k < l.length) : l.getD k a = l.getD k b := by
  rw [List.getD_eq_getElem?_getD, List.getD_eq_getElem?_getD, List.getElem?_eq_getElem h]
  rfl
theorem getD_snocL {α : Type} {l : List α} {k : Nat} {x a b : α} (h : k < l.length) : (l ++ [x]).getD k a = l.getD k b := by
  rw [getD_snoc, if_pos h]
  exact getD_in h
theorem nxB_snoc {S : List Bd} {X Y : Bd} {k : Nat} (h : k < S.length) : nxB (S ++ [X]) Y k = nxB S X k := by
  unfold nxB
  exact getD_snocL (by simp; omega)
theorem nxB_last {S : List Bd} {X Y : Bd} : nxB (S ++ [X]) Y S.length = Y := by
  unfold nxB
  rw [getD_snoc, if_neg (by simp), if_pos (by simp)]
theorem TBk_snoc {M : Mem} {S : List Bd} {X Y : Bd} {k : Nat} (h : k < S.length) : TBk M (S ++ [X]) Y k ↔ TBk M S X k := by
  unfold TBk
  rw [nxB_snoc h, getD_snocL (b := X) h]
theorem TBk_cong {M M' : Mem} {S : List Bd} {B : Bd} {k : Nat} (h : TBk M S B k) (e : ∀ r, 12 ≤ r → r ≤ 15 → M'.1 r k = M.1 r k) : TBk M' S B k := by
  unfold TBk at *
  rw [e 12 (by omega) (by omega), e 13 (by omega) (by omega), e 14 (by omega) (by omega), e 15 (by omega) (by omega)]
  exact h
theorem RC.bd2 {B B2 : Bd} {im : Option Bd} {S S2 : List Bd} {lt rw : List Nat} {M M' : Mem} (h : RC B im S lt rw M) (e0 : M'.1 0 2 = M.1 0 2) (e : ∀ r, (6 ≤ r ∧ r ≤ 10) ∨ r = 16 ∨ r = 17 ∨ r = 23 ∨ r = 24 → M'.1 r = M.1 r) (hb : brdC 1 B2 M') (h4' : M'.1 11 4 = nI S2.length) (hT : ∀ k, k < S2.length → TBk M' S2 B2 k) : RC B2 im S2 lt rw M' := by
  obtain ⟨h1, h2, h3, h4, h5, h6, h7, h8, h9⟩ := h
  refine ⟨hb, e0.trans h2, fun I hI => (h3 I hI).cong fun r a b => e r (by omega), h4', hT, ?_, fun j hj => ?_, ?_, fun j hj => ?_⟩
  · rw [e 16 (by omega)]; exact h6
  · rw [e 17 (by omega)]; exact h7 j hj
  · rw [e 23 (by omega)]; exact h8
  · rw [e 24 (by omega)]; exact h9 j hj
theorem RR.bd2 {B B2 : Bd} {im : Option Bd} {S S2 : List Bd} {lt rw : List Nat} {M M' : Mem} (hw : wfS B im S lt rw) (h : RR B im S lt rw M) (hb : brdR B2 M') (e0 : ∀ k, k = 13 ∨ k = 17 ∨ k = 24 → M'.1 0 k = M.1 0 k) (e : ∀ r, r = 6 ∨ r = 13 → M'.1 r = M.1 r) (e10 : ∀ j, j < 40 → M'.1 10 j = M.1 10 j) (h4' : M'.1 0 20 = nI S2.length) (hT : ∀ k, k < S2.length → brdV (fun i => M'.1 10 (120 + 40 * k + i)) (S2.getD k B2)) : RR B2 im S2 lt rw M' := by
  obtain ⟨h1, h2, h3, h4, h5, h6, h7, h8, h9⟩ := h
  refine ⟨hb, ?_, fun I hI => brdV_cong (hw.2.1 I hI) (h3 I hI) (fun i hi => e10 i hi), h4', hT, ?_, ?_, ?_, ?_⟩
  · rw [e0 17 (by omega)]; exact h2
  · rw [e0 13 (by omega)]; exact h6
  · rw [e 6 (by omega)]; exact h7
  · rw [e0 24 (by omega)]; exact h8
  · rw [e 13 (by omega)]; exact h9
def pS (S : List Bd) (B : Bd) : List Bd := (if S.length = 8 then S.tail else S) ++ [B]
theorem pS_wf {S : List Bd} {B : Bd} (hS : S.length ≤ 8) (h : ∀ I ∈ S, wfB I) (hB : wfB B) : (pS S B).length ≤ 8 ∧ ∀ I ∈ pS S B, wfB I := by
  unfold pS
  constructor
  · by_cases c : S.length = 8
    · rw [if_pos c]; simp; omega
    · rw [if_neg c]; simp; omega
  · intro I hI
    rcases List.mem_append.mp hI with q | q
    · by_cases c : S.length = 8
      · rw [if_pos c] at q; exact h I (List.mem_of_mem_tail q)
      · rw [if_neg c] at q; exact h I q
    · rw [List.mem_singleton] at q; rw [q]; exact hB
theorem keep13_ok {B B2 : Bd} {S : List Bd} {M : Mem} (hS : S.length < 8) (h4 : M.1 11 4 = nI S.length) (hT : ∀ k, k < S.length → TBk M S B k) {e d f s : Nat} (he : e < 4) (hd : (e = 1 ∨ e = 2) → d < bn B2) (hf : e = 2 → f < 8) (hu : uB e d f s B2 = B) :
    ok (f_X10_keep_b13 (nI e) (nI d) (nI f) (nI s) M) (fun M' => M'.1 11 4 = nI (S ++ [B]).length ∧ (∀ k, k < (S ++ [B]).length → TBk M' (S ++ [B]) B2 k) ∧ ∀ r, r < 11 ∨ 15 < r → M'.1 r = M.1 r) := by
  unfold f_X10_keep_b13
  rw [h4, stI_n hS (by decide), Option.bind_some, wI_other (by decide), h4, stI_n hS (by decide), Option.bind_some, wI_other (by decide), wI_other (by decide), h4, stI_n hS (by decide), Option.bind_some, wI_other (by decide), wI_other (by decide), wI_other (by decide), h4, stI_n hS (by decide), Option.bind_some, wI_other (by decide), wI_other (by decide), wI_other (by decide), wI_other (by decide), h4, nI_1]
  refine ok_some ⟨?_, fun k hk => ?_, fun r hr => ?_⟩
  · rw [wI_at, if_pos ⟨rfl, rfl⟩]; simp
  · by_cases c : k = S.length
    · subst c
      unfold TBk
      rw [nxB_last]
      refine ⟨e, d, f, s, by simp [wI_at], by simp [wI_at], by simp [wI_at], by simp [wI_at], he, hd, hf, ?_⟩
      rw [hu, getD_snoc, if_neg (by omega), if_pos rfl]
    · have hk' : k < S.length := by simp at hk; omega
      refine TBk_cong ((TBk_snoc hk').mpr (hT k hk')) (fun r h1 h2 => ?_)
      rw [wI_other (by omega), wI_at, if_neg (by omega), wI_at, if_neg (by omega), wI_at, if_neg (by omega), wI_at, if_neg (by omega)]
  · rw [wI_other (by omega), wI_other (by omega), wI_other (by omega), wI_other (by omega), wI_other (by omega)]
theorem cp7 {M : Mem} {q : Nat} : cpI M q 8 q 8 1 0 (nI 7) = some (wA M q (fun k => if k < 7 then M.1 q (1 + k) else M.1 q k)) := by
  unfold cpI
  rw [if_neg (by decide)]
  congr 2
  funext k
  unfold va_cpy
  have e1 : (1 : Int32).toNatClampNeg = 1 := rfl
  have e0 : (0 : Int32).toNatClampNeg = 0 := rfl
  have e7 : (nI 7).toNatClampNeg = 7 := rfl
  rw [e1, e0, e7]
  by_cases c : k < 7
  · rw [if_pos ⟨Nat.zero_le _, by omega⟩, if_pos c, Nat.sub_zero]
  · rw [if_neg (by omega), if_neg c]
theorem drop_ok {B : Bd} {S : List Bd} {M : Mem} (hS : S.length = 8) (hT : ∀ k, k < S.length → TBk M S B k) :
    ok (f_X10_dropOldest M) (fun M' => M'.1 11 4 = nI S.tail.length ∧ (∀ k, k < S.tail.length → TBk M' S.tail B k) ∧ ∀ r, r < 11 ∨ 15 < r → M'.1 r = M.1 r) := by
  unfold f_X10_dropOldest
  have e4 : (wI M 11 4 7).1 11 4 = nI 7 := by rw [wI_at, if_pos ⟨rfl, rfl⟩]; rfl
  have st : ∀ (N : Mem) (q : Nat), 11 ≠ q → N.1 11 4 = nI 7 → ∀ f, (wA N q f).1 11 4 = nI 7 := fun N q hq hN f => by rw [wA_at, if_neg hq]; exact hN
  have e5 := st _ 12 (by decide) e4
  have e6 := fun f => st _ 13 (by decide) (e5 f)
  have e7 := fun f g => st _ 14 (by decide) (e6 f g)
  rw [e4, cp7, Option.bind_some, e5, cp7, Option.bind_some, e6, cp7, Option.bind_some, e7, cp7, Option.bind_some]
  refine ok_some ⟨?_, fun k hk => ?_, fun r hr => ?_⟩
  · rw [wA_at, if_neg (by decide), wA_at, if_neg (by decide), wA_at, if_neg (by decide), wA_at, if_neg (by decide), e4]
    simp [hS]
  · obtain ⟨s0, S', rfl⟩ : ∃ s0 S', S = s0 :: S' := by
      cases S with
      | nil => cases hS
      | cons a b => exact ⟨a, b, rfl⟩
    have hk7 : k < 7 := by simp at hS hk; omega
    have := hT (k + 1) (by simp at hk ⊢; omega)
    unfold TBk at this ⊢
    obtain ⟨e, d, f, s, q1, q2, q3, q4, q5, q6, q7, q8⟩ := this
    refine ⟨e, d, f, s, ?_, ?_, ?_, ?_, q5, q6, q7, q8⟩
    · simp only [wA_at]; simp [hk7]; rw [wI_other (by decide), Nat.add_comm]; exact q1
    · simp only [wA_at]; simp [hk7]; rw [wI_other (by decide), Nat.add_comm]; exact q2
    · simp only [wA_at]; simp [hk7]; rw [wI_other (by decide), Nat.add_comm]; exact q3
    · simp only [wA_at]; simp [hk7]; rw [wI_other (by decide), Nat.add_comm]; exact q4
  · rw [wA_at, if_neg (by omega), wA_at, if_neg (by omega), wA_at, if_neg (by omega), wA_at, if_neg (by omega), wI_other (by omega)]
theorem keep_ok {B B2 : Bd} {S : List Bd} {M : Mem} (hS : S.length ≤ 8) (h4 : M.1 11 4 = nI S.length) (hT : ∀ k, k < S.length → TBk M S B k) {e d f s : Nat} (he : e < 4) (hd : (e = 1 ∨ e = 2) → d < bn B2) (hf : e = 2 → f < 8) (hu : uB e d f s B2 = B) :
    ok (f_X10_keep (nI e) (nI d) (nI f) (nI s) M) (fun M' => M'.1 11 4 = nI (pS S B).length ∧ (∀ k, k < (pS S B).length → TBk M' (pS S B) B2 k) ∧ ∀ r, r < 11 ∨ 15 < r → M'.1 r = M.1 r) := by
  unfold f_X10_keep pS
  rw [h4]
  by_cases c : S.length = 8
  · rw [if_pos c]
    refine ok_neg (fun q => absurd ((nI_ltI (b := 8) (by omega) (by decide)).mp q) (by omega)) ?_
    refine ok_bind (drop_ok c hT) (fun M1 ⟨g1, g2, g3⟩ => ?_)
    refine ok_mono (keep13_ok (by simp; omega) g1 g2 he hd hf hu) (fun M2 ⟨k1, k2, k3⟩ => ⟨k1, k2, fun r hr => (k3 r hr).trans (g3 r hr)⟩)
  · rw [if_neg c]
    refine ok_pos (nI_lt (b := 8) (by omega) (by decide)) ?_
    exact keep13_ok (by omega) h4 hT he hd hf hu
/-! the model keeps whole boards -/
theorem shRows {M0 : Mem} : ∀ (k i fuel : Nat) (M : Mem) (Q : Mem → Prop), i + k = 280 → k < fuel → M.1 0 20 = nI 8 → (∀ j, M.1 10 j = if 120 ≤ j ∧ j < 120 + i then M0.1 10 (j + 40) else M0.1 10 j) → (∀ r, r ≠ 10 → M.1 r = M0.1 r) →
    (∀ M', M'.1 0 20 = nI 8 → (∀ j, M'.1 10 j = if 120 ≤ j ∧ j < 400 then M0.1 10 (j + 40) else M0.1 10 j) → (∀ r, r ≠ 10 → M'.1 r = M0.1 r) → ok ((f_X12_passesAll (3 + (wI M' 0 20 (M'.1 0 20 - 1)).1 0 20) 1 (wI M' 0 20 (M'.1 0 20 - 1))).bind fun M4 => some (wI M4 0 20 (M4.1 0 20 + 1))) Q) →
    ok (f_X12_keepsBack_b12 fuel (nI (120 + i)) M) Q := by
  intro k
  induction k with
  | zero =>
    intro i fuel M Q hi hf h20 h10 hr hk
    obtain ⟨f, rfl⟩ : ∃ f, fuel = f + 1 := ⟨fuel - 1, by omega⟩
    obtain rfl : i = 280 := by omega
    unfold f_X12_keepsBack_b12
    exact ok_pos (show (400 : Int32) ≤ nI (120 + 280) by decide) (hk M h20 h10 hr)
  | succ k ih =>
    intro i fuel M Q hi hf h20 h10 hr hk
    obtain ⟨f, rfl⟩ : ∃ f, fuel = f + 1 := ⟨fuel - 1, by omega⟩
    unfold f_X12_keepsBack_b12
    rw [l_400, l_40, nI_add, nI_1]
    refine ok_neg (nI_ge (by omega) (by omega)) ?_
    refine ok_ld (by omega) (by decide) rfl ?_
    refine ok_st (by omega) (by decide) ?_
    refine ih (i + 1) f _ Q (by omega) (by omega) (by rw [wI_other (by decide)]; exact h20) (fun j => ?_) (fun r q => by rw [wI_other q]; exact hr r q) hk
    rw [wI_at, h10, h10]
    by_cases c : j = 120 + i
    · rw [if_pos ⟨rfl, c⟩, if_neg (by omega), if_pos (by omega), c]
    · rw [if_neg (by omega)]
      by_cases c2 : 120 ≤ j ∧ j < 120 + i
      · rw [if_pos c2, if_pos (by omega)]
      · rw [if_neg c2, if_neg (by omega)]
theorem keepsB_ok {B : Bd} {S : List Bd} {M : Mem} (hwB : wfB B) (hwS : ∀ I ∈ S, wfB I) (hS : S.length ≤ 8) (hb : brdR B M) (h20 : M.1 0 20 = nI S.length) (hT : ∀ k, k < S.length → brdV (fun i => M.1 10 (120 + 40 * k + i)) (S.getD k B)) :
    ok (f_X12_keepsBack M) (fun M' => brdR B M' ∧ M'.1 0 20 = nI (pS S B).length ∧ (∀ k, k < (pS S B).length → brdV (fun i => M'.1 10 (120 + 40 * k + i)) ((pS S B).getD k B)) ∧ (∀ k, k ≠ 18 → k ≠ 19 → k ≠ 20 → M'.1 0 k = M.1 0 k) ∧ (∀ r, r ≠ 0 → r ≠ 10 → M'.1 r = M.1 r) ∧ (∀ j, j < 120 → M'.1 10 j = M.1 10 j)) := by
  have core : ∀ (L : List Bd) (M1 : Mem), L.length < 8 → (∀ I ∈ L, wfB I) → brdR B M1 → M1.1 0 20 = nI L.length → (∀ k, k < L.length → brdV (fun i => M1.1 10 (120 + 40 * k + i)) (L.getD k B)) →
      ok ((f_X12_passesAll (3 + M1.1 0 20) 1 M1).bind fun M4 => some (wI M4 0 20 (M4.1 0 20 + 1))) (fun M' => brdR B M' ∧ M'.1 0 20 = nI (L ++ [B]).length ∧ (∀ k, k < (L ++ [B]).length → brdV (fun i => M'.1 10 (120 + 40 * k + i)) ((L ++ [B]).getD k B)) ∧ (∀ k, k ≠ 18 → k ≠ 19 → k ≠ 20 → M'.1 0 k = M1.1 0 k) ∧ (∀ r, r ≠ 0 → r ≠ 10 → M'.1 r = M1.1 r) ∧ (∀ j, j < 120 → M'.1 10 j = M1.1 10 j)) := by
    intro L M1 hL hwL hb1 h20' hT'
    rw [h20', l_3, nI_add]
    refine ok_bind (allK (w := 3 + L.length) (by omega)) (fun M2 ⟨g1, g2, g3, g4⟩ => ?_)
    rw [g3 20 (by decide) (by decide), h20', nI_1]
    have gr : ∀ r, r ≠ 0 → r ≠ 10 → (wI M2 0 20 (nI (L.length + 1))).1 r = M1.1 r := fun r q1 q2 => by rw [wI_other q1, g4 r q1 q2]
    have gk : ∀ k, k ≠ 18 → k ≠ 19 → k ≠ 20 → (wI M2 0 20 (nI (L.length + 1))).1 0 k = M1.1 0 k := fun k q1 q2 q3 => by rw [wI_at, if_neg (by omega), g3 k q1 q2]
    refine ok_some ⟨?_, ?_, fun k hk => ?_, gk, gr, fun j hj => ?_⟩
    · obtain ⟨h1, h2, h3, h4, h5, h6, h7, h8⟩ := hb1
      unfold brdR
      rw [gk 5 (by decide) (by decide) (by decide), gk 6 (by decide) (by decide) (by decide), gk 7 (by decide) (by decide) (by decide), gk 8 (by decide) (by decide) (by decide), gr 2 (by decide) (by decide), gr 3 (by decide) (by decide), gr 4 (by decide) (by decide), gr 5 (by decide) (by decide)]
      exact ⟨h1, h2, h3, h4, h5, h6, h7, h8⟩
    · rw [wI_at, if_pos ⟨rfl, rfl⟩]; simp
    · by_cases c : k = L.length
      · subst c
        rw [getD_snoc, if_neg (by omega), if_pos rfl]
        refine brdV_cong hwB ((brdV_R hwB).mpr hb1) (fun i hi => ?_)
        show (wI M2 0 20 _).1 10 _ = _
        rw [wI_other (by decide), show 120 + 40 * L.length + i = 40 * (3 + L.length) + i by omega]
        exact g1 i hi
      · have hk' : k < L.length := by simp at hk; omega
        rw [getD_snocL (b := B) hk']
        refine brdV_cong (hwL _ ?_) (hT' k hk') (fun i hi => ?_)
        · rw [List.getD_eq_getElem?_getD, List.getElem?_eq_getElem hk']
          exact List.getElem_mem hk'
        · show (wI M2 0 20 _).1 10 _ = _
          rw [wI_other (by decide), g2 _ (by omega)]
    · rw [wI_other (by decide), g2 _ (by omega)]
  unfold f_X12_keepsBack
  by_cases c : S.length = 8
  · rw [h20]
    refine ok_pos (by rw [c]; rfl) ?_
    rw [c] at h20
    refine shRows (M0 := M) 280 0 FU M _ (by omega) (FU_big (by omega)) h20 (fun j => by rw [if_neg (by omega)]) (fun r q => rfl) (fun M' q1 q2 q3 => ?_)
    obtain ⟨s0, S', rfl⟩ : ∃ s0 S', S = s0 :: S' := by
      cases S with
      | nil => cases c
      | cons a b => exact ⟨a, b, rfl⟩
    have c' : S'.length = 7 := by simp at c; exact c
    have e7 : M'.1 0 20 - 1 = nI 7 := by rw [q1]; exact sub_one_nI (j := 8) (k := 1) (by omega)
    rw [e7]
    have p : pS (s0 :: S') B = S' ++ [B] := by unfold pS; rw [if_pos c]; rfl
    rw [p]
    have hb' : brdR B (wI M' 0 20 (nI 7)) := by
      obtain ⟨h1, h2, h3, h4, h5, h6, h7, h8⟩ := hb
      unfold brdR
      rw [wI_at, if_neg (by omega), wI_at, if_neg (by omega), wI_at, if_neg (by omega), wI_at, if_neg (by omega), wI_other (by decide), wI_other (by decide), wI_other (by decide), wI_other (by decide), q3 0 (by decide), q3 2 (by decide), q3 3 (by decide), q3 4 (by decide), q3 5 (by decide)]
      exact ⟨h1, h2, h3, h4, h5, h6, h7, h8⟩
    refine ok_mono (core S' (wI M' 0 20 (nI 7)) (by omega) (fun I hI => hwS I (List.mem_cons_of_mem _ hI)) hb' (by rw [wI_at, if_pos ⟨rfl, rfl⟩, c']) (fun k hk => ?_)) (fun M4 ⟨g1, g2, g3, g4, g5, g6⟩ => ⟨g1, g2, g3, fun k z1 z2 z3 => ?_, fun r z1 z2 => ?_, fun j hj => ?_⟩)
    · have := hT (k + 1) (by simp; omega)
      refine brdV_cong (hwS _ ?_) this (fun i hi => ?_)
      · show S'.getD k B ∈ s0 :: S'
        rw [List.getD_eq_getElem?_getD, List.getElem?_eq_getElem hk]
        exact List.mem_cons_of_mem _ (List.getElem_mem hk)
      · show (wI M' 0 20 _).1 10 _ = _
        rw [wI_other (by decide), q2, if_pos (by omega)]
        show M.1 10 (120 + 40 * k + i + 40) = M.1 10 (120 + 40 * (k + 1) + i)
        rw [show 120 + 40 * k + i + 40 = 120 + 40 * (k + 1) + i by omega]
    · rw [g4 k z1 z2 z3, wI_at, if_neg (by omega), q3 0 (by decide)]
    · rw [g5 r z1 z2, wI_other z1, q3 r z2]
    · rw [g6 j hj, wI_other (by decide), q2, if_neg (by omega)]
  · refine ok_neg (by rw [h20]; exact fun q => c (nI_e (b := 8) (by omega) (by decide) q)) ?_
    have p : pS S B = S ++ [B] := by unfold pS; rw [if_neg c]
    rw [p]
    exact core S M (by omega) hwS hb h20 hT
/-- the state after a deed -/
theorem Inv.deed {B B2 : Bd} {im : Option Bd} {S : List Bd} {lt rw' : List Nat} {MC MR MC' MR' : Mem} (hw : wfS B im S lt rw') (hC : RC B im S lt rw' MC) (hR : RR B im S lt rw' MR) (hf : ∀ k, k < 7 → MC.1 43 k = MR.1 1 k) (hw2 : wfB B2)
    (c1 : brdC 1 B2 MC') (c2 : MC'.1 11 4 = nI (pS S B).length) (c3 : ∀ k, k < (pS S B).length → TBk MC' (pS S B) B2 k) (c4 : ∀ r, r = 0 ∨ (6 ≤ r ∧ r ≤ 10) ∨ r = 16 ∨ r = 17 ∨ r = 23 ∨ r = 24 ∨ r = 43 → MC'.1 r = MC.1 r)
    (r1 : brdR B2 MR') (r2 : MR'.1 0 20 = nI (pS S B).length) (r3 : ∀ k, k < (pS S B).length → brdV (fun i => MR'.1 10 (120 + 40 * k + i)) ((pS S B).getD k B)) (r4 : ∀ k, k = 13 ∨ k = 17 ∨ k = 24 → MR'.1 0 k = MR.1 0 k) (r5 : ∀ r, r = 1 ∨ r = 6 ∨ r = 13 → MR'.1 r = MR.1 r) (r6 : ∀ j, j < 120 → MR'.1 10 j = MR.1 10 j) : Inv MC' MR' := by
  have hp := pS_wf (S := S) (B := B) hw.2.2.1 hw.2.2.2.1 hw.1
  refine ⟨B2, im, pS S B, lt, rw', ⟨hw2, hw.2.1, hp.1, hp.2, hw.2.2.2.2⟩, hC.bd2 ?_ (fun r hr => c4 r (by omega)) c1 c2 c3, RR.bd2 hw hR r1 r4 (fun r hr => r5 r (by omega)) (fun j hj => r6 j (by omega)) r2 (fun k hk => ?_), fun k hk => ?_⟩
  · rw [c4 0 (by omega)]
  · rw [getD_in (b := B) hk]; exact r3 k hk
  · rw [c4 43 (by omega), r5 1 (by omega)]; exact hf k hk
theorem keepsB_inv {B : Bd} {im : Option Bd} {S : List Bd} {lt rw' : List Nat} {MR : Mem} (hw : wfS B im S lt rw') (hR : RR B im S lt rw' MR) :
    ok (f_X12_keepsBack MR) (fun M' => brdR B M' ∧ M'.1 0 20 = nI (pS S B).length ∧ (∀ k, k < (pS S B).length → brdV (fun i => M'.1 10 (120 + 40 * k + i)) ((pS S B).getD k B)) ∧ (∀ k, k ≠ 18 → k ≠ 19 → k ≠ 20 → M'.1 0 k = MR.1 0 k) ∧ (∀ r, r ≠ 0 → r ≠ 10 → M'.1 r = MR.1 r) ∧ (∀ j, j < 120 → M'.1 10 j = MR.1 10 j)) :=
  keepsB_ok hw.1 hw.2.2.2.1 hw.2.2.1 hR.1 hR.2.2.2.1 hR.2.2.2.2.1
theorem wfB_lg {B : Bd} (hw : wfB B) {d : Nat} (hd : d < bn B) (h : bpl B < 12) : wfB (B.1, B.2.1, B.2.2 ++ [d]) := by
  refine ⟨hw.1, hw.2.1, hw.2.2.1, ?_, hw.2.2.2.2.1, fun e he => ?_⟩
  · show (B.2.2 ++ [d]).length ≤ 12
    have : B.2.2.length = bpl B := rfl
    simp; omega
  · rcases List.mem_append.mp he with q | q
    · exact hw.2.2.2.2.2 e q
    · rw [List.mem_singleton] at q; rw [q]; exact hd
/-! does -/
theorem sim_does {MC MR : Mem} (h : Inv MC MR) (a : Int32) : Sim (f_X11_does a MC) (f_X12_does a MR) := by
  obtain ⟨B, im, S, lt, rw', hw, hC, hR, hf⟩ := id h
  have h12 := hw.1.2.2.2.1
  unfold f_X11_does f_X12_does f_X12_does_b27 f_X0_hasRoomForPlace
  simp only [bind_bp]
  rw [hC.1.2.1, hR.1.2.1]
  rcases knows hC.1 hR.1 hw.1 a with ⟨e1, e2⟩ | ⟨e1, e2, d, hd, rfl⟩
  · rw [e1, e2, if_pos p00, if_pos p00, if_neg (show ¬ (-1 : Int32) = 0 by decide)]; exact Sim.no1 h
  rw [e1, e2, if_neg n10, if_neg n10]
  by_cases q3 : bpl B = 12
  · rw [q3, if_pos (show (12 : Int32) ≤ nI 12 by decide), if_pos p00, if_pos (show nI 12 = 12 from rfl), if_neg (show ¬ (-6 : Int32) = 0 by decide)]; exact Sim.no6 h
  have z3 : ¬ (12 : Int32) ≤ nI (bpl B) := fun q => absurd ((nI_leI (a := 12) (by decide) (by omega)).mp q) (by omega)
  rw [if_neg z3, if_neg n10, if_neg (show ¬ nI (bpl B) = 12 from fun q => q3 (nI_e (b := 12) (by omega) (by decide) q)), if_pos p00]
  have hw2 := wfB_lg hw.1 hd (by omega)
  have n2 : bpl (B.1, B.2.1, B.2.2 ++ [d]) = bpl B + 1 := by unfold bpl; simp
  have l2 : ∀ j, j < bpl B + 1 → lgA (B.1, B.2.1, B.2.2 ++ [d]) j = if j = bpl B then d else lgA B j := by
    intro j hj
    show (B.2.2 ++ [d]).getD j 0 = _
    rw [getD_snoc]
    by_cases c : j < B.2.2.length
    · have : j < bpl B := c
      rw [if_pos c, if_neg (by omega)]; rfl
    · have : ¬ j < bpl B := c
      have c2 : j = B.2.2.length := by unfold bpl at hj; omega
      rw [if_neg c, if_pos c2, if_pos (by omega)]
  -- the class
  have hcl : ok ((f_X8_nextDue (nI d) MC).bind fun pt3 => bp pt3 fun t3 M3 => (f_X0_addPlace 1 (nI d) M3).bind fun M4 => (f_X10_keep 0 (nI d) 0 0 M4).bind fun M5 => some (t3, M5))
      (fun p => p.1 = nI (due B d (cnt B B.2.2 d)) ∧ brdC 1 (B.1, B.2.1, B.2.2 ++ [d]) p.2 ∧ p.2.1 11 4 = nI (pS S B).length ∧ (∀ k, k < (pS S B).length → TBk p.2 (pS S B) (B.1, B.2.1, B.2.2 ++ [d]) k) ∧ (∀ r, r = 0 ∨ (6 ≤ r ∧ r ≤ 10) ∨ r = 16 ∨ r = 17 ∨ r = 23 ∨ r = 24 ∨ r = 43 → p.2.1 r = MC.1 r)) := by
    refine ok_bp (next_C hw.1 hC.1 hd) (fun v M1 ⟨q1, q2, q3'⟩ => ?_)
    unfold f_X0_addPlace f_X0_hasRoomForPlace
    rw [q2.2.1, if_neg z3, if_neg n10, nI_1, stI_n (by omega) (by decide), Option.bind_some, Option.bind_some]
    have fr1 : ∀ r, r ≠ 26 → r ≠ 27 → r ≠ 1 → r ≠ 5 → (wI (wI M1 1 5 (nI (bpl B + 1))) (1 + 4) (bpl B) (nI d)).1 r = MC.1 r := fun r z1 z2 z3 z4 => by
      rw [wI_other (by omega), wI_other (by omega)]
      exact q3' r (by simp; omega)
    refine ok_bind (keep_ok (B := B) (B2 := (B.1, B.2.1, B.2.2 ++ [d])) (S := S) hw.2.2.1 (by rw [fr1 11 (by decide) (by decide) (by decide) (by decide)]; exact hC.2.2.2.1) (fun k hk => TBk_cong (hC.2.2.2.2.1 k hk) (fun r z1 z2 => by rw [fr1 r (by omega) (by omega) (by omega) (by omega)])) (e := 0) (d := d) (f := 0) (s := 0) (by decide) (fun q => by omega) (fun q => by omega) ?_) (fun M5 ⟨g1, g2, g3⟩ => ok_some ⟨q1, ?_, g1, g2, fun r hr => ?_⟩)
    · unfold uB
      rw [if_pos rfl, List.dropLast_concat]
    · obtain ⟨h1, h2, h3, h4, h5, h6, h7, h8⟩ := q2
      refine ⟨?_, ?_, ?_, ?_, fun j hj => ?_, fun j hj => ?_, fun j hj => ?_, fun j hj => ?_⟩
      · rw [g3 1 (by omega)]; simp only [wI_at]; simp; exact h1
      · rw [g3 1 (by omega), n2]; simp only [wI_at]; simp
      · rw [g3 1 (by omega)]; simp only [wI_at]; simp; exact h3
      · rw [g3 1 (by omega)]; simp only [wI_at]; simp; exact h4
      · rw [g3 (1 + 1) (by omega)]; simp only [wI_at]; simp; exact h5 j hj
      · rw [g3 (1 + 2) (by omega)]; simp only [wI_at]; simp; exact h6 j hj
      · rw [g3 (1 + 3) (by omega)]; simp only [wI_at]; simp; exact h7 j hj
      · rw [n2] at hj
        rw [g3 (1 + 4) (by omega), l2 j hj]; simp only [wI_at]; simp
        by_cases c : j = bpl B
        · rw [if_pos c, if_pos c]
        · rw [if_neg c, if_neg c]; exact h8 j (by omega)
    · rw [g3 r (by omega), fr1 r (by omega) (by omega) (by omega) (by omega)]
  -- the model
  have hre : ok ((f_X12_keepsBack MR).bind fun M2 => (stI M2 5 12 (M2.1 0 6) (nI d)).bind fun M3 => (f_X12_dueAt (((wI M3 0 6 ((M3.1 0 6) + 1)).1 0 6) - 1) (wI M3 0 6 ((M3.1 0 6) + 1))).bind fun t4 => some (t4, (wI M3 0 6 ((M3.1 0 6) + 1))))
      (fun p => p.1 = nI (due B d (cnt B B.2.2 d)) ∧ brdR (B.1, B.2.1, B.2.2 ++ [d]) p.2 ∧ p.2.1 0 20 = nI (pS S B).length ∧ (∀ k, k < (pS S B).length → brdV (fun i => p.2.1 10 (120 + 40 * k + i)) ((pS S B).getD k B)) ∧ (∀ k, k = 13 ∨ k = 17 ∨ k = 24 → p.2.1 0 k = MR.1 0 k) ∧ (∀ r, r = 1 ∨ r = 6 ∨ r = 13 → p.2.1 r = MR.1 r) ∧ (∀ j, j < 120 → p.2.1 10 j = MR.1 10 j)) := by
    refine ok_bind (keepsB_inv hw hR) (fun M2 ⟨g1, g2, g3, g4, g5, g6⟩ => ?_)
    have e0 : (wI M2 5 (bpl B) (nI d)).1 0 6 = nI (bpl B) := by rw [wI_other (by decide)]; exact g1.2.1
    rw [g1.2.1, stI_n (by omega) (by decide), Option.bind_some, e0, nI_1]
    have e6 : (wI (wI M2 5 (bpl B) (nI d)) 0 6 (nI (bpl B + 1))).1 0 6 - 1 = nI (bpl B) := by
      rw [wI_at, if_pos ⟨rfl, rfl⟩]
      exact (sub_one_nI (k := 1) (by omega)).trans (by rw [Nat.add_sub_cancel])
    rw [e6]
    have hb2 : brdR (B.1, B.2.1, B.2.2 ++ [d]) (wI (wI M2 5 (bpl B) (nI d)) 0 6 (nI (bpl B + 1))) := by
      obtain ⟨h1, h2, h3, h4, h5, h6, h7, h8⟩ := g1
      refine ⟨?_, ?_, ?_, ?_, fun j hj => ?_, fun j hj => ?_, fun j hj => ?_, fun j hj => ?_⟩
      · simp only [wI_at]; simp; exact h1
      · rw [n2]; simp only [wI_at]; simp
      · simp only [wI_at]; simp; exact h3
      · simp only [wI_at]; simp; exact h4
      · simp only [wI_at]; simp; exact h5 j hj
      · simp only [wI_at]; simp; exact h6 j hj
      · simp only [wI_at]; simp; exact h7 j hj
      · rw [n2] at hj
        rw [l2 j hj]; simp only [wI_at]; simp
        by_cases c : j = bpl B
        · rw [if_pos c, if_pos c]
        · rw [if_neg c, if_neg c]; exact h8 j (by omega)
    rw [dueAtR hb2 hw2 (by omega), Option.bind_some]
    refine ok_some ⟨?_, hb2, ?_, fun k hk => ?_, fun k hk => ?_, fun r hr => ?_, fun j hj => ?_⟩
    · have el : lgA (B.1, B.2.1, B.2.2 ++ [d]) (bpl B) = d := by rw [l2 _ (by omega), if_pos rfl]
      have et : (B.2.2 ++ [d]).take (bpl B) = B.2.2 := List.take_left
      show nI (due _ (lgA (B.1, B.2.1, B.2.2 ++ [d]) (bpl B)) (cnt _ ((B.2.2 ++ [d]).take (bpl B)) (lgA (B.1, B.2.1, B.2.2 ++ [d]) (bpl B)))) = _
      rw [el, et]
      rfl
    · rw [wI_at, if_neg (by omega), wI_other (by decide)]; exact g2
    · refine brdV_cong ((pS_wf hw.2.2.1 hw.2.2.2.1 hw.1).2 _ ?_) (g3 k hk) (fun i hi => ?_)
      · rw [List.getD_eq_getElem?_getD, List.getElem?_eq_getElem hk]
        exact List.getElem_mem hk
      · show (wI _ 0 6 _).1 10 _ = _
        rw [wI_other (by decide), wI_other (by decide)]
    · rw [wI_at, if_neg (by omega), wI_other (by decide)]; exact g4 k (by omega) (by omega) (by omega)
    · rw [wI_other (by omega), wI_other (by omega)]; exact g5 r (by omega) (by omega)
    · rw [wI_other (by omega), wI_other (by omega)]; exact g6 j hj
  obtain ⟨⟨v1, N1⟩, e1, q1, q2, q3, q4, q5⟩ := hcl
  obtain ⟨⟨v2, N2⟩, e2, p1, p2, p3, p4, p5, p6, p7⟩ := hre
  refine ⟨nI (due B d (cnt B B.2.2 d)), N1, N2, ?_, ?_, Inv.deed hw hC hR hf hw2 q2 q3 q4 q5 p2 p3 p4 p5 p6 p7⟩
  · rw [← q1]; exact e1
  · rw [← p1]; exact e2
