/-! state -/
/-- all statements, one behind the other: the place of the first that can't come, or the board -/
def apl (lt : List Nat) : List Nat → Bd → Nat ⊕ Bd
  | [], B => Sum.inr B
  | p :: ps, B => match ap lt p B with
    | none => Sum.inl p
    | some B' => apl lt ps B'
theorem apl_n {lt ps : List Nat} {p : Nat} {B : Bd} (h : ap lt p B = none) : apl lt (p :: ps) B = Sum.inl p := by show (match ap lt p B with | none => Sum.inl p | some B' => apl lt ps B') = _; rw [h]
theorem apl_s {lt ps : List Nat} {p : Nat} {B B' : Bd} (h : ap lt p B = some B') : apl lt (p :: ps) B = apl lt ps B' := by show (match ap lt p B with | none => Sum.inl p | some B' => apl lt ps B') = _; rw [h]
theorem apl_wf {lt : List Nat} : ∀ (ps : List Nat) (B B' : Bd), wfB B → apl lt ps B = Sum.inr B' → wfB B' := by
  intro ps
  induction ps with
  | nil => intro B B' hw h; cases h; exact hw
  | cons p ps ih =>
    intro B B' hw h
    cases e : ap lt p B with
    | none => rw [apl_n e] at h; cases h
    | some B1 => rw [apl_s e] at h; exact ih B1 B' (ap_wf hw e) h
theorem apl_in {lt : List Nat} : ∀ (ps : List Nat) (B : Bd) (q : Nat), apl lt ps B = Sum.inl q → q ∈ ps := by
  intro ps
  induction ps with
  | nil => intro B q h; cases h
  | cons p ps ih =>
    intro B q h
    cases e : ap lt p B with
    | none => rw [apl_n e] at h; cases h; exact List.mem_cons_self
    | some B1 => rw [apl_s e] at h; exact List.mem_cons_of_mem _ (ih B1 q h)
/-! the class -/
def heP (lt ps : List Nat) (k : Nat) (B : Bd) (M : Mem) (x : Int32) (M' : Mem) : Prop := match apl lt ps B with
  | Sum.inl q => x = -2000 - nI q ∧ ∀ r, r < 18 ∨ 22 < r → M'.1 r = M.1 r
  | Sum.inr B' => x = nI (k + ps.length) ∧ brdC 1 B' M' ∧ ∀ r, r < 1 ∨ (5 < r ∧ r < 18) ∨ 22 < r → M'.1 r = M.1 r
theorem heP.l {lt ps : List Nat} {k q : Nat} {B : Bd} {M M' : Mem} {x : Int32} (e : apl lt ps B = Sum.inl q) : heP lt ps k B M x M' ↔ (x = -2000 - nI q ∧ ∀ r, r < 18 ∨ 22 < r → M'.1 r = M.1 r) := by unfold heP; rw [e]
theorem heP.r {lt ps : List Nat} {k : Nat} {B B' : Bd} {M M' : Mem} {x : Int32} (e : apl lt ps B = Sum.inr B') : heP lt ps k B M x M' ↔ (x = nI (k + ps.length) ∧ brdC 1 B' M' ∧ ∀ r, r < 1 ∨ (5 < r ∧ r < 18) ∨ 22 < r → M'.1 r = M.1 r) := by unfold heP; rw [e]
theorem ltC.fr {lt : List Nat} {M M' : Mem} (h : ltC lt M) (e : ∀ r, r < 18 ∨ 22 < r → M'.1 r = M.1 r) : ltC lt M' := ⟨by rw [e 16 (by omega)]; exact h.1, fun j hj => by rw [e 17 (by omega)]; exact h.2 j hj⟩
theorem begC {lt : List Nat} {M : Mem} {p : Nat} (hl : lt.length ≤ 96) (hL : ltC lt M) (hp : p < 200) : (p = 0 ∨ LA lt (p - 1) = 59 → f_X1_beginsStatement (nI p) M = some 1) ∧ (p ≠ 0 → LA lt (p - 1) ≠ 59 → f_X1_beginsStatement (nI p) M = some 0) := by
  have e0 : p ≠ 0 → f_X1_beginsStatement (nI p) M = if LA lt (p - 1) = 59 then some (1 : Int32) else some (0 : Int32) := fun c => by
    unfold f_X1_beginsStatement
    rw [if_neg (show ¬ nI p = 0 from fun q => c (nI_e (b := 0) (by omega) (by decide) q)), show nI p - (1 : Int32) = nI (p - 1) from sub_one_nI (k := 1) (by omega), letC hl hL (by omega), Option.bind_some]
  refine ⟨fun h => ?_, fun c h => ?_⟩
  · by_cases c : p = 0
    · subst c
      unfold f_X1_beginsStatement
      exact if_pos (show nI 0 = 0 from rfl)
    · rw [e0 c]
      rcases h with h | h
      · exact absurd h c
      · exact if_pos h
  · rw [e0 c]
    exact if_neg h
theorem skipC {lt : List Nat} {M : Mem} (hl : lt.length ≤ 96) (hL : ltC lt M) : ∀ (m q k fuel : Nat), q + m ≤ lt.length → m < fuel → 0 < q → (∀ j, j < m → LA lt (q + j - 1) ≠ 59) →
    f_X1_hear_b28 fuel (nI k) (nI q) M = f_X1_hear_b28 (fuel - m) (nI k) (nI (q + m)) M := by
  intro m
  induction m with
  | zero => intro q k fuel _ _ _ _; rfl
  | succ m ih =>
    intro q k fuel h1 h2 h3 h4
    obtain ⟨g, rfl⟩ : ∃ g, fuel = g + 1 := ⟨fuel - 1, by omega⟩
    have step : f_X1_hear_b28 (g + 1) (nI k) (nI q) M = f_X1_hear_b28 g (nI k) (nI (q + 1)) M := by
      show (if M.1 16 2 ≤ nI q then _ else _) = _
      rw [hL.1, if_neg (nI_ge (by omega) (by omega)), (begC (p := q) hl hL (by omega)).2 (by omega) (h4 0 (Nat.succ_pos m)), Option.bind_some, if_pos rfl, nI_1]
    rw [step, ih (q + 1) k g (by omega) (by omega) (by omega) (fun j hj => by
      have := h4 (j + 1) (by omega)
      rw [show q + (j + 1) - 1 = q + 1 + j - 1 by omega] at this
      exact this), show g + 1 - (m + 1) = g - m by omega, show q + (m + 1) = q + 1 + m by omega]
theorem sok_59 {lt : List Nat} {p : Nat} (c : sok lt p) : ∀ j, j < nd (kl lt p) + 1 → LA lt (p + 1 + j - 1) ≠ 59 := by
  intro j hj
  cases j with
  | zero =>
    rw [show p + 1 + 0 - 1 = p by omega]
    rcases LA_k lt p with ⟨e, -⟩ | ⟨e, h⟩ | ⟨e, h⟩ | ⟨e, h⟩ | ⟨e, h⟩ | ⟨e, h⟩
    · exact absurd e c.1
    all_goals (rw [h]; decide)
  | succ i =>
    rw [show p + 1 + (i + 1) - 1 = p + 1 + i by omega]
    have hd : isD lt (p + 1 + i) = true := rn_dig (nd (kl lt p)) (p + 1) i (by rw [c.2.1]; omega)
    have h9 := dv_le lt (p + 1 + i)
    rw [dvA hd]
    exact fun q => absurd (nI_e (b := 59) (by omega) (by decide) q) (by omega)
theorem hearC {lt : List Nat} (hl : lt.length ≤ 96) (hx : ∀ x ∈ lt, x < 256) : ∀ (f p k fuel : Nat) (M : Mem) (B : Bd), lt.length < p + f → lt.length < p + fuel → p ≤ lt.length → (p = 0 ∨ LA lt (p - 1) = 59) → (stt lt f p).2 = none → wfB B → brdC 18 B M → ltC lt M →
    ok2 (f_X1_hear_b28 fuel (nI k) (nI p) M) (heP lt (stt lt f p).1 k B M) := by
  intro f
  induction f with
  | zero => intro p k fuel M B h1 h2 hp; omega
  | succ f ih =>
    intro p k fuel M B h1 h2 hp hs0 hs hw hb hL
    obtain ⟨g, rfl⟩ : ∃ g, fuel = g + 1 := ⟨fuel - 1, by omega⟩
    by_cases c : sok lt p
    · have hsat := sat_ok c
      have hn5 := nd_le (kl lt p)
      have hin := LA_in c.1
      have hin2 : sat lt p < lt.length := by
        refine Classical.byContradiction (fun z => ?_)
        have h59 := c.2.2
        unfold LA at h59
        rw [if_neg (by omega)] at h59
        exact absurd h59 (by decide)
      have e59 : LA lt (sat lt p + 1 - 1) = 59 := by rw [show sat lt p + 1 - 1 = p + 1 + nd (kl lt p) by omega]; exact c.2.2
      obtain ⟨x, M1, e1, q1, q2⟩ := comesC hl hx hw hb hL (show p < 200 by omega) c.1
      have hL1 := hL.fr q2
      obtain ⟨g', hg'⟩ : ∃ g', g' = g - (nd (kl lt p) + 1) := ⟨_, rfl⟩
      have step : f_X1_hear_b28 (g + 1) (nI k) (nI p) M = if x = 0 then some (-2000 - nI p, M1) else f_X1_hear_b28 g' (nI (k + 1)) (nI (sat lt p + 1)) M1 := by
        show (if M.1 16 2 ≤ nI p then _ else _) = _
        rw [hL.1, if_neg (nI_ge (by omega) (by omega)), (begC hl hL (show p < 200 by omega)).1 hs0, Option.bind_some, if_neg n10, e1, Option.bind_some]
        show (if x = 0 then _ else _) = _
        by_cases cx : x = 0
        · rw [if_pos cx, if_pos cx]
        · rw [if_neg cx, if_neg cx, nI_1, nI_1, skipC hl hL1 (nd (kl lt p) + 1) (p + 1) (k + 1) g (by omega) (by omega) (by omega) (sok_59 c), ← hg', hsat, show p + 1 + (nd (kl lt p) + 1) = p + 1 + nd (kl lt p) + 1 by omega]
      rw [step]
      rcases q1 with ⟨a1, rfl⟩ | ⟨B', a1, rfl, a3⟩
      · rw [if_pos rfl]
        refine ⟨_, M1, rfl, ?_⟩
        have hd : ∃ ps, (stt lt (f + 1) p).1 = p :: ps := by
          by_cases c2 : sat lt p + 1 < lt.length
          · exact ⟨_, by rw [stt_s1 c c2]⟩
          · exact ⟨_, by rw [stt_s2 c c2]⟩
        obtain ⟨ps, e⟩ := hd
        rw [e]
        exact (heP.l (apl_n a1)).mpr ⟨rfl, q2⟩
      · rw [if_neg n10]
        have hw' := ap_wf hw a1
        by_cases c2 : sat lt p + 1 < lt.length
        · rw [stt_s1 c c2] at hs ⊢
          obtain ⟨x2, M2, e2, r2⟩ := ih (sat lt p + 1) (k + 1) g' M1 B' (by omega) (by omega) (by omega) (Or.inr e59) hs hw' a3 hL1
          refine ⟨x2, M2, e2, ?_⟩
          cases e3 : apl lt (stt lt f (sat lt p + 1)).1 B' with
          | inl q =>
            obtain ⟨z1, z2⟩ := (heP.l e3).mp r2
            exact (heP.l (by show apl lt (p :: (stt lt f (sat lt p + 1)).1) B = _; rw [apl_s a1, e3])).mpr ⟨z1, fun r hr => (z2 r hr).trans (q2 r hr)⟩
          | inr B2 =>
            obtain ⟨z1, z2, z3⟩ := (heP.r e3).mp r2
            refine (heP.r (by show apl lt (p :: (stt lt f (sat lt p + 1)).1) B = _; rw [apl_s a1, e3])).mpr ⟨?_, z2, fun r hr => (z3 r hr).trans (q2 r (by omega))⟩
            rw [z1]
            congr 1
            show _ = k + ((stt lt f (sat lt p + 1)).1.length + 1)
            omega
        · rw [stt_s2 c c2]
          obtain ⟨g2, rfl⟩ : ∃ g2, g' = g2 + 1 := ⟨g' - 1, by omega⟩
          obtain ⟨M2, e2, b1, b2⟩ := become_ok (b := 1) (b2 := 18) hw' a3 (by omega)
          refine ⟨nI (k + 1), M2, ?_, (heP.r (by show apl lt (p :: []) B = _; rw [apl_s a1]; rfl)).mpr ⟨rfl, b1, fun r hr => (b2 r (by omega)).trans (q2 r (by omega))⟩⟩
          show (if M1.1 16 2 ≤ nI (sat lt p + 1) then _ else _) = _
          rw [hL1.1, if_pos (nI_le (by omega) (by omega)), e2]
          rfl
    · rw [stt_s3 c] at hs; cases hs
/-! the model -/
def saP (lt ps : List Nat) (k : Nat) (B : Bd) (V : Nat → Int32) (M : Mem) (x : Int32) (M' : Mem) : Prop := match apl lt ps B with
  | Sum.inl q => x = -2000 - nI q ∧ (∀ i, i < 40 → bv M' i = V i) ∧ M'.1 10 = M.1 10 ∧ (∀ k, k ≠ 18 → k ≠ 19 → (k < 5 ∨ 8 < k) → M'.1 0 k = M.1 0 k) ∧ (∀ r, r ≠ 0 → (r < 2 ∨ 5 < r) → M'.1 r = M.1 r)
  | Sum.inr B' => x = nI (k + ps.length) ∧ brdR B' M' ∧ M'.1 0 20 = 0 ∧ (∀ k, k ≠ 20 → (k < 5 ∨ 8 < k) → M'.1 0 k = M.1 0 k) ∧ (∀ r, r ≠ 0 → (r < 2 ∨ 5 < r) → M'.1 r = M.1 r)
theorem saP.l {lt ps : List Nat} {k q : Nat} {B : Bd} {V : Nat → Int32} {M M' : Mem} {x : Int32} (e : apl lt ps B = Sum.inl q) : saP lt ps k B V M x M' ↔ (x = -2000 - nI q ∧ (∀ i, i < 40 → bv M' i = V i) ∧ M'.1 10 = M.1 10 ∧ (∀ k, k ≠ 18 → k ≠ 19 → (k < 5 ∨ 8 < k) → M'.1 0 k = M.1 0 k) ∧ (∀ r, r ≠ 0 → (r < 2 ∨ 5 < r) → M'.1 r = M.1 r)) := by unfold saP; rw [e]
theorem saP.r {lt ps : List Nat} {k : Nat} {B B' : Bd} {V : Nat → Int32} {M M' : Mem} {x : Int32} (e : apl lt ps B = Sum.inr B') : saP lt ps k B V M x M' ↔ (x = nI (k + ps.length) ∧ brdR B' M' ∧ M'.1 0 20 = 0 ∧ (∀ k, k ≠ 20 → (k < 5 ∨ 8 < k) → M'.1 0 k = M.1 0 k) ∧ (∀ r, r ≠ 0 → (r < 2 ∨ 5 < r) → M'.1 r = M.1 r)) := by unfold saP; rw [e]
theorem brdR.w20 {B : Bd} {M : Mem} {v : Int32} (h : brdR B M) : brdR B (wI M 0 20 v) := by
  unfold brdR at *
  rw [wI_at, if_neg (by omega), wI_at, if_neg (by omega), wI_at, if_neg (by omega), wI_at, if_neg (by omega), wI_other (by decide), wI_other (by decide), wI_other (by decide), wI_other (by decide)]
  exact h
theorem sayR {lt : List Nat} {V : Nat → Int32} {T : Nat} (hT48 : T ≤ 48) : ∀ (ps : List Nat) (k fuel : Nat) (M : Mem) (B : Bd), k + ps.length = T → ps.length < fuel → (∀ p ∈ ps, kl lt p ≠ 0) → M.1 0 15 = nI T → (∀ i, i < ps.length → TD lt (ps.getD i 0) (k + i) M) → (∀ i, i < 40 → M.1 10 (40 + i) = V i) → wfB B → brdR B M →
    ok2 (f_X12_state_b86 fuel (nI k) M) (saP lt ps k B V M) := by
  intro ps
  induction ps with
  | nil =>
    intro k fuel M B hT hf hk h15 hTD hV hw hb
    obtain ⟨f, rfl⟩ : ∃ f, fuel = f + 1 := ⟨fuel - 1, by omega⟩
    obtain rfl : k = T := by simpa using hT
    refine ⟨nI k, wI M 0 20 0, ?_, (saP.r rfl).mpr ⟨rfl, hb.w20, by rw [wI_at, if_pos ⟨rfl, rfl⟩], fun j h20 _ => by rw [wI_at, if_neg (by omega)], fun r h0 _ => wI_other h0⟩⟩
    unfold f_X12_state_b86
    rw [h15, if_pos (nI_le (by omega) (by omega)), show (wI M 0 20 0).1 0 15 = nI k by rw [wI_at, if_neg (by omega)]; exact h15]
  | cons p ps ih =>
    intro k fuel M B hT hf hk h15 hTD hV hw hb
    have hT' : k + (ps.length + 1) = T := hT
    have hf' : ps.length + 1 < fuel := hf
    obtain ⟨g, rfl⟩ : ∃ g, fuel = g + 1 := ⟨fuel - 1, by omega⟩
    have hne := hk p List.mem_cons_self
    have hTp : TD lt p k M := hTD 0 (Nat.succ_pos _)
    obtain ⟨x, M1, e1, q1, q2⟩ := comesR (k := k) hw hb (by omega) hTp hne
    have step : f_X12_state_b86 (g + 1) (nI k) M = if x = 0 then (f_X12_passesAll 1 0 M1).bind fun M8 => (ldI M8 8 48 (nI k)).bind fun t9 => some (-2000 - t9, M8) else f_X12_state_b86 g (nI (k + 1)) M1 := by
      show (if M.1 0 15 ≤ nI k then _ else _) = _
      rw [h15, if_neg (nI_ge (by omega) (by omega)), e1, Option.bind_some, nI_1]
      rfl
    rw [step]
    rcases q1 with ⟨a1, rfl⟩ | ⟨B', a1, rfl, a3⟩
    · rw [if_pos rfl]
      refine ok2_mk ?_
      refine ok_bind (allB (w := 1) (by decide)) (fun M8 ⟨g1, g2, g3, g4⟩ => ?_)
      refine ok_ld (v := nI p) (by omega) (by decide) (by rw [g4 8 (by decide) (by decide), q2.2 8 (by decide) (by decide)]; exact hTp.2.1) ?_
      refine ok_some ((saP.l (apl_n a1)).mpr ⟨rfl, fun i hi => ?_, ?_, fun j h8 h9 hj => ?_, fun r h0 hr => ?_⟩)
      · rw [g1 i hi, show 40 * 1 + i = 40 + i by omega, q2.2 10 (by decide) (by decide)]; exact hV i hi
      · show M8.1 10 = _
        rw [g2, q2.2 10 (by decide) (by decide)]
      · show M8.1 0 j = _
        rw [g3 j hj h8 h9, q2.1 j hj]
      · show M8.1 r = _
        rw [g4 r h0 hr, q2.2 r h0 hr]
    · rw [if_neg n10]
      have hw' := ap_wf hw a1
      have hTD' : ∀ i, i < ps.length → TD lt (ps.getD i 0) (k + 1 + i) M1 := fun i hi => by
        have := hTD (i + 1) (Nat.succ_lt_succ hi)
        have e : k + (i + 1) = k + 1 + i := by omega
        rw [e] at this
        exact this.cong (by rw [q2.2 7 (by decide) (by decide)]) (by rw [q2.2 8 (by decide) (by decide)]) (fun j _ => by rw [q2.2 9 (by decide) (by decide)])
      obtain ⟨x2, M2, e2, r2⟩ := ih (k + 1) g M1 B' (by omega) (by omega) (fun q hq => hk q (List.mem_cons_of_mem _ hq)) (by rw [q2.1 15 (by omega)]; exact h15) hTD' (fun i hi => by rw [q2.2 10 (by decide) (by decide)]; exact hV i hi) hw' a3
      refine ⟨x2, M2, e2, ?_⟩
      cases e3 : apl lt ps B' with
      | inl q =>
        obtain ⟨z1, z2, z3, z4, z5⟩ := (saP.l e3).mp r2
        exact (saP.l (by rw [apl_s a1, e3])).mpr ⟨z1, z2, z3.trans (q2.2 10 (by decide) (by decide)), fun j h8 h9 hj => (z4 j h8 h9 hj).trans (q2.1 j hj), fun r h0 hr => (z5 r h0 hr).trans (q2.2 r h0 hr)⟩
      | inr B2 =>
        obtain ⟨z1, z2, z3, z4, z5⟩ := (saP.r e3).mp r2
        refine (saP.r (by rw [apl_s a1, e3])).mpr ⟨?_, z2, z3, fun j h20 hj => (z4 j h20 hj).trans (q2.1 j hj), fun r h0 hr => (z5 r h0 hr).trans (q2.2 r h0 hr)⟩
        rw [z1]
        congr 1
        show _ = k + (ps.length + 1)
        omega
theorem stt_kl {lt : List Nat} : ∀ f p, ∀ q ∈ (stt lt f p).1, kl lt q ≠ 0 := by
  intro f
  induction f with
  | zero => intro p q h; cases h
  | succ f ih =>
    intro p q h
    by_cases c : sok lt p
    · by_cases c2 : sat lt p + 1 < lt.length
      · rw [stt_s1 c c2] at h
        rcases List.mem_cons.mp h with z | z
        · rw [z]; exact c.1
        · exact ih _ q z
      · rw [stt_s2 c c2] at h
        rw [List.mem_singleton.mp h]; exact c.1
    · rw [stt_s3 c] at h; cases h
theorem neg1 : ∀ q, q < 256 → (-1000 - nI q : Int32) < 0 := by decide +kernel
theorem neg2 : ∀ q, q < 256 → (-2000 - nI q : Int32) < 0 := by decide +kernel
theorem state_neg {z : Int32} {M M' : Mem} (h : z < 0) (e : f_X1_hear M = some (z, M')) : f_X11_state M = some (z, wI M' 16 2 0) := by
  unfold f_X11_state f_X1_tell
  rw [e, Option.bind_some]
  unfold bp
  rw [Option.bind_some]
  exact if_pos h
theorem state_pos {z : Int32} {M M' : Mem} (h : ¬ z < 0) (e : f_X1_hear M = some (z, M')) : f_X11_state M = some (z, wI (wI M' 16 2 0) 11 4 0) := by
  unfold f_X11_state f_X1_tell
  rw [e, Option.bind_some]
  unfold bp
  rw [Option.bind_some]
  exact if_neg h
theorem hear_bad {q : Nat} {M : Mem} (hq : q < 2 ^ 31) (e : f_X1_firstWithoutForm M = some (nI q)) : f_X1_hear M = some (-1000 - nI q, M) := by
  unfold f_X1_hear
  rw [e, Option.bind_some, if_neg (nI_pos hq)]
theorem hear_good {M Mt M2 : Mem} {x : Int32} (e : f_X1_firstWithoutForm M = some (-1)) (e4 : f_X0_become 18 1 M = some Mt) (e5 : f_X1_hear_b28 FU 0 0 Mt = some (x, M2)) : f_X1_hear M = some (x, M2) := by
  unfold f_X1_hear
  rw [e, Option.bind_some, if_pos (show (-1 : Int32) < 0 by decide), e4, Option.bind_some, e5]
theorem sim_state {MC MR : Mem} (h : Inv MC MR) : Sim (f_X11_state MC) (f_X12_state MR) := by
  obtain ⟨n97, h97⟩ : ∃ n, n = 97 := ⟨97, rfl⟩
  obtain ⟨B, im, S, lt, rw', hw, hC, hR, hf⟩ := id h
  have hl := hw.2.2.2.2.1
  have hx := hw.2.2.2.2.2.1
  have hLC : ltC lt MC := ⟨hC.2.2.2.2.2.1, hC.2.2.2.2.2.2.1⟩
  have hLR : ltR lt MR := ⟨hR.2.2.2.2.2.1, hR.2.2.2.2.2.2.1⟩
  have e1 : f_X1_firstWithoutForm MC = some (fwA (stt lt n97 0).2) := fwC hl hx hLC n97 0 FU (by omega) (FU_big (by omega)) (Or.inr rfl)
  have f0 : frS MR (wI (wI MR 0 14 0) 0 15 0) := (frL.w14.s).tr frS.w15
  obtain ⟨g, M1, e2, fr1, s1, s2⟩ := stR hl hx n97 0 0 FU (wI (wI MR 0 14 0) 0 15 0) [] (by omega) (FU_big (by omega)) (Or.inr ⟨rfl, rfl⟩) (by omega) rfl (hLR.frs f0) (by rw [wI_at, if_neg (by omega), wI_at, if_pos ⟨rfl, rfl⟩]; rfl) (by rw [wI_at, if_pos ⟨rfl, rfl⟩]; rfl) (fun i hi => absurd hi (Nat.not_lt_zero i))
  have frm := f0.tr fr1
  -- the letters are no more
  have hR0 : RR B im S [] rw' (wI MR 0 13 0) := hR.lt (fun k hk => by rw [wI_at, if_neg (by omega)]) (fun r h0 _ => wI_other h0) (by rw [wI_at, if_pos ⟨rfl, rfl⟩]; rfl) (fun j hj => absurd hj (Nat.not_lt_zero j))
  have hw0 : wfS B im S [] rw' := ⟨hw.1, hw.2.1, hw.2.2.1, hw.2.2.2.1, Nat.zero_le _, (fun x hx => by cases hx), hw.2.2.2.2.2.2⟩
  unfold f_X12_state
  rw [e2]
  have m13 : ∀ k, k ≠ 13 → k ≠ 14 → k ≠ 15 → (wI M1 0 13 0).1 0 k = MR.1 0 k := fun k h1 h2 h3 => by rw [wI_at, if_neg (by omega)]; exact frm.1 k h2 h3
  have m13' : (wI M1 0 13 0).1 0 13 = (wI MR 0 13 0).1 0 13 := by rw [wI_at, if_pos ⟨rfl, rfl⟩, wI_at, if_pos ⟨rfl, rfl⟩]
  have mr : ∀ r, r ≠ 0 → r ≠ 7 → r ≠ 8 → r ≠ 9 → (wI M1 0 13 0).1 r = MR.1 r := fun r h0 h7 h8 h9 => by rw [wI_other h0]; exact frm.2 r h0 h7 h8 h9
  have ag1 : agR (wI MR 0 13 0) (wI M1 0 13 0) := by
    refine ⟨fun i hi => ?_, fun k hk => ?_, fun r hr => ?_, fun j hj => ?_⟩
    · have o2 : (wI MR 0 13 0).1 2 = MR.1 2 := wI_other (by decide)
      have o3 : (wI MR 0 13 0).1 3 = MR.1 3 := wI_other (by decide)
      have o4 : (wI MR 0 13 0).1 4 = MR.1 4 := wI_other (by decide)
      have o5 : (wI MR 0 13 0).1 5 = MR.1 5 := wI_other (by decide)
      have o0 : 36 ≤ i → (wI M1 0 13 0).1 0 (i - 31) = (wI MR 0 13 0).1 0 (i - 31) := fun z => by rw [m13 (i - 31) (by omega) (by omega) (by omega), wI_at, if_neg (by omega)]
      unfold bv
      rw [mr 2 (by decide) (by decide) (by decide) (by decide), mr 3 (by decide) (by decide) (by decide) (by decide), mr 4 (by decide) (by decide) (by decide) (by decide), mr 5 (by decide) (by decide) (by decide) (by decide), o2, o3, o4, o5]
      by_cases c : i < 36
      · rw [if_pos c, if_pos c]
      · rw [if_neg c, if_neg c, o0 (by omega)]
    · by_cases c : k = 13
      · rw [c]; exact m13'
      · rw [m13 k c (by omega) (by omega), wI_at, if_neg (by omega)]
    · rw [mr r (by omega) (by omega) (by omega) (by omega), wI_other (by omega)]
    · rw [mr 10 (by decide) (by decide) (by decide) (by decide), wI_other (by decide)]
  cases e3 : (stt lt n97 0).2 with
  | some q =>
    obtain ⟨rfl, h14⟩ := s1 q e3
    have hq := stt_q hl n97 0 q (Or.inr rfl) e3
    have hn1 := neg1 q (by omega)
    have eC : f_X12_state_b60 0 M1 = some (-1000 - nI q, wI M1 0 13 0) := by
      unfold f_X12_state_b60
      rw [if_pos rfl, show (wI M1 0 13 0).1 0 14 = nI q by rw [wI_at, if_neg (by omega)]; exact h14]
    have eD : f_X11_state MC = some (-1000 - nI q, wI MC 16 2 0) := state_neg hn1 (hear_bad (by omega) (e1.trans (by rw [e3]; rfl)))
    rw [eC, eD]
    clear eC eD s1 s2 e1 e2
    generalize (-1000 - nI q : Int32) = z
    refine ⟨z, wI MC 16 2 0, wI M1 0 13 0, rfl, rfl, B, im, S, [], rw', hw0, hC.lt (fun r h1 _ => wI_other h1) (by rw [wI_at, if_pos ⟨rfl, rfl⟩]; rfl) (fun j hj => absurd hj (Nat.not_lt_zero j)), RR.keep hw0 hR0 ag1, fun k hk => ?_⟩
    rw [wI_other (by decide), mr 1 (by decide) (by decide) (by decide) (by decide)]; exact hf k hk
  | none =>
    obtain ⟨rfl, t48, t15, tT⟩ := s2 e3
    rw [Nat.zero_add] at t48 t15 tT
    obtain ⟨Mt, e4, b1, b2⟩ := become_ok (b := 18) (b2 := 1) hw.1 hC.1 (by omega)
    obtain ⟨x, M2, e5, hp⟩ := hearC hl hx n97 0 0 FU Mt B (by omega) (by have := FU_big (k := 96) (by decide); omega) (by omega) (Or.inl rfl) e3 hw.1 b1 (hLC.fr (fun r hr => b2 r (by omega)))
    obtain ⟨Mk, e6, k1, k2, k3, k4⟩ := allK (w := 1) (M := wI M1 0 13 0) (by decide)
    have kV : ∀ i, i < 40 → Mk.1 10 (40 + i) = bv (wI MR 0 13 0) i := fun i hi => by
      have := k1 i hi
      rw [show 40 * 1 + i = 40 + i by omega] at this
      rw [this]
      exact ag1.1 i hi
    have hbk : brdR B Mk := by
      have hb0 : brdR B (wI M1 0 13 0) := brdR_bv hw.1 hR0.1 ag1.1
      obtain ⟨h1, h2, h3, h4, h5, h6, h7, h8⟩ := hb0
      unfold brdR
      rw [k3 5 (by decide) (by decide), k3 6 (by decide) (by decide), k3 7 (by decide) (by decide), k3 8 (by decide) (by decide), k4 2 (by decide) (by decide), k4 3 (by decide) (by decide), k4 4 (by decide) (by decide), k4 5 (by decide) (by decide)]
      exact ⟨h1, h2, h3, h4, h5, h6, h7, h8⟩
    obtain ⟨x2, M3, e7, hp2⟩ := sayR (lt := lt) (V := bv (wI MR 0 13 0)) t48 (stt lt n97 0).1 0 FU Mk B (by omega) (FU_big (by omega)) (stt_kl n97 0) (by rw [k3 15 (by decide) (by decide), wI_at, if_neg (by omega)]; exact t15) (fun i hi => by
      have := tT i hi
      rw [List.nil_append] at this
      rw [Nat.zero_add]
      exact this.cong (by rw [k4 7 (by decide) (by decide), wI_other (by decide)]) (by rw [k4 8 (by decide) (by decide), wI_other (by decide)]) (fun j _ => by rw [k4 9 (by decide) (by decide), wI_other (by decide)])) kV hw.1 hbk
    have eR : f_X12_state_b60 1 M1 = some (x2, M3) := by
      unfold f_X12_state_b60
      rw [if_neg n10, show f_X12_passesAll 1 1 (wI M1 0 13 0) = some Mk from e6, Option.bind_some]
      exact e7
    rw [eR]
    have eH : f_X1_hear MC = some (x, M2) := hear_good (e1.trans (by rw [e3]; rfl)) e4 e5
    clear e1 e2 e5 e7 s1 s2
    cases e8 : apl lt (stt lt n97 0).1 B with
    | inl q =>
      obtain ⟨rfl, z2⟩ := (heP.l e8).mp hp
      obtain ⟨rfl, y2, y3, y4, y5⟩ := (saP.l e8).mp hp2
      have hq : q < 256 := by
        have := LA_in (stt_kl n97 0 q (apl_in _ _ _ e8))
        omega
      rw [state_neg (neg2 q hq) eH]
      clear eH
      have zr : ∀ r, r < 18 ∨ 22 < r → M2.1 r = MC.1 r := fun r hr => (z2 r hr).trans (b2 r (by omega))
      generalize (-2000 - nI q : Int32) = z
      refine ⟨z, wI M2 16 2 0, M3, rfl, rfl, B, im, S, [], rw', hw0, ?_, RR.keep hw0 hR0 ⟨y2, fun k hk => ?_, fun r hr => ?_, fun j hj => ?_⟩, fun k hk => ?_⟩
      · have hC0 : RC B im S [] rw' (wI MC 16 2 0) := hC.lt (fun r h1 _ => wI_other h1) (by rw [wI_at, if_pos ⟨rfl, rfl⟩]; rfl) (fun j hj => absurd hj (Nat.not_lt_zero j))
        refine hC0.keep (fun r hr => ?_)
        by_cases c : r = 16
        · subst c
          show upd (M2.1 16) 2 0 = upd (MC.1 16) 2 0
          rw [zr 16 (by omega)]
        · rw [wI_other c, wI_other c]; exact zr r (by omega)
      · rw [y4 k (by omega) (by omega) (by omega), k3 k (by omega) (by omega)]; exact ag1.2.1 k hk
      · rw [y5 r (by omega) (by omega), k4 r (by omega) (by omega)]; exact ag1.2.2.1 r hr
      · rw [y3, k2 j (by omega)]; exact ag1.2.2.2 j hj
      · rw [wI_other (by decide), zr 43 (by omega), y5 1 (by decide) (by decide), k4 1 (by decide) (by decide), mr 1 (by decide) (by decide) (by decide) (by decide)]; exact hf k hk
    | inr B2 =>
      obtain ⟨rfl, z2, z3⟩ := (heP.r e8).mp hp
      obtain ⟨rfl, y2, y3, y4, y5⟩ := (saP.r e8).mp hp2
      have hw2 := apl_wf _ _ _ hw.1 e8
      have zr : ∀ r, r < 1 ∨ (5 < r ∧ r < 18) ∨ 22 < r → M2.1 r = MC.1 r := fun r hr => (z3 r hr).trans (b2 r (by omega))
      rw [Nat.zero_add] at eH ⊢
      rw [state_pos (nI_pos (by omega)) eH]
      have hC0 : RC B im S [] rw' (wI MC 16 2 0) := hC.lt (fun r h1 _ => wI_other h1) (by rw [wI_at, if_pos ⟨rfl, rfl⟩]; rfl) (fun j hj => absurd hj (Nat.not_lt_zero j))
      refine ⟨nI (stt lt n97 0).1.length, wI (wI M2 16 2 0) 11 4 0, M3, rfl, rfl, B2, im, [], [], rw', ⟨hw2, hw.2.1, Nat.zero_le _, (fun I hI => by cases hI), hw0.2.2.2.2⟩, hC0.bd ?_ (fun r hr => ?_) (z2.cong fun r q1 q2 => ?_) ?_, RR.bd2 (S2 := []) hw0 hR0 y2 (fun k hk => ?_) (fun r hr => ?_) (fun j hj => ?_) y3 (fun k hk => absurd hk (Nat.not_lt_zero k)), fun k hk => ?_⟩
      · rw [wI_other (by decide), wI_other (by decide), wI_other (by decide), zr 0 (by omega)]
      · rw [wI_other (by omega)]
        by_cases c : r = 16
        · subst c
          show upd (M2.1 16) 2 0 = upd (MC.1 16) 2 0
          rw [zr 16 (by omega)]
        · rw [wI_other c, wI_other c]; exact zr r (by omega)
      · rw [wI_other (by omega), wI_other (by omega)]
      · rw [wI_at, if_pos ⟨rfl, rfl⟩]; rfl
      · rw [y4 k (by omega) (by omega), k3 k (by omega) (by omega)]; exact ag1.2.1 k (by omega)
      · rw [y5 r (by omega) (by omega), k4 r (by omega) (by omega)]; exact ag1.2.2.1 r (by omega)
      · rw [y5 10 (by decide) (by decide), k2 j (by omega)]; exact ag1.2.2.2 j (by omega)
      · rw [wI_other (by decide), wI_other (by decide), zr 43 (by omega), y5 1 (by decide) (by decide), k4 1 (by decide) (by decide), mr 1 (by decide) (by decide) (by decide) (by decide)]; exact hf k hk
