/-! greedily, quota, pair -/
def sumN (f : Nat → Nat) : Nat → Nat
  | 0 => 0
  | k + 1 => sumN f k + f k
theorem sumN_cong {f g : Nat → Nat} : ∀ n, (∀ k, k < n → f k = g k) → sumN f n = sumN g n := by
  intro n
  induction n with
  | zero => intro _; rfl
  | succ n ih => intro h; show sumN f n + f n = sumN g n + g n; rw [ih (fun k hk => h k (by omega)), h n (by omega)]
theorem sumN_one {f g : Nat → Nat} {x t : Nat} (hx : g x = f x + t) (hne : ∀ k, k ≠ x → g k = f k) : ∀ n, x < n → sumN g n = sumN f n + t := by
  intro n
  induction n with
  | zero => intro h; omega
  | succ n ih =>
    intro h
    show sumN g n + g n = sumN f n + f n + t
    by_cases c : x = n
    · subst c
      rw [hx, sumN_cong x (fun k hk => hne k (by omega))]
      omega
    · rw [ih (by omega), hne n (fun z => c z.symm)]
      omega
def mSum (B : Bd) (m : Nat → Nat) (d : Nat) : Nat := sumN (fun e => if sm B e d = true then m e else 0) (bn B)
/-- what has been done more, in the model's store -/
def MO (B : Bd) (pre : List Nat) (m : Nat → Nat) (M : Mem) : Prop := (∀ e, e < bn B → M.1 17 e = nI (m e)) ∧ ∀ d, d < bn B → cnt B pre d = cnt B B.2.2 d + mSum B m d
def gPre (B : Bd) (pre : List Nat) (d : Nat) : Nat := due B d (cnt B pre d)
theorem gPre_lt {B : Bd} (hw : wfB B) {pre : List Nat} (hp : pre.length ≤ 900) (d : Nat) : gPre B pre d < 20000 := by
  have := due_le hw d (r := cnt B pre d)
  have h2 := cnt_le B pre d
  unfold gPre
  omega
theorem moreR_lp {B : Bd} {M : Mem} {pre : List Nat} {m : Nat → Nat} {d : Nat} (hw : wfB B) (hb : brdR B M) (h : MO B pre m M) (hp : pre.length ≤ 900) (hd : d < bn B) : ∀ (k i fuel : Nat), i + k = bn B → k < fuel →
    f_X12_dueWithMore_b12 M fuel (nI d) (nI (cnt B B.2.2 d + sumN (fun e => if sm B e d = true then m e else 0) i)) (nI i) = some (nI (gPre B pre d)) := by
  have hn := hw.2.2.1
  have hc := cnt_le B pre d
  intro k
  induction k with
  | zero =>
    intro i fuel hi hf
    obtain ⟨f, rfl⟩ : ∃ f, fuel = f + 1 := ⟨fuel - 1, by omega⟩
    obtain rfl : i = bn B := by omega
    have e := h.2 d hd
    unfold mSum at e
    unfold f_X12_dueWithMore_b12
    rw [hb.1, if_pos (nI_le (by omega) (by omega)), ← e, dueOfR hb hw hd (by omega)]
    rfl
  | succ k ih =>
    intro i fuel hi hf
    obtain ⟨f, rfl⟩ : ∃ f, fuel = f + 1 := ⟨fuel - 1, by omega⟩
    have := ih (i + 1) f (by omega) (by omega)
    have st : sumN (fun e => if sm B e d = true then m e else 0) (i + 1) = sumN (fun e => if sm B e d = true then m e else 0) i + (if sm B i d = true then m i else 0) := rfl
    rw [st] at this
    unfold f_X12_dueWithMore_b12
    rw [hb.1, if_neg (nI_ge (by omega) (by omega)), areSameR hb hw (by omega) hd, Option.bind_some, nI_1, ldI_n (by omega) (by decide), h.1 i (by omega), Option.bind_some, nI_add, l_0, nI_add]
    cases q : sm B i d with
    | false => rw [q, if_neg (show ¬ false = true by decide)] at this; rw [if_pos (show bI false = nI 0 from rfl)]; exact this
    | true => rw [q, if_pos rfl] at this; rw [if_neg (show ¬ bI true = nI 0 from n10), Nat.add_assoc]; exact this
theorem moreR {B : Bd} {M : Mem} {pre : List Nat} {m : Nat → Nat} {d : Nat} (hw : wfB B) (hb : brdR B M) (h : MO B pre m M) (hp : pre.length ≤ 900) (hd : d < bn B) : f_X12_dueWithMore (nI d) M = some (nI (gPre B pre d)) := by
  have hn := hw.2.2.1
  unfold f_X12_dueWithMore
  rw [hb.2.1, repeatsR hb hw hd (Nat.le_refl _), Option.bind_some, show B.2.2.take (bpl B) = B.2.2 from List.take_length]
  exact moreR_lp hw hb h hp hd (bn B) 0 FU (by omega) (FU_big (by omega))
theorem leastR_lp {B : Bd} {M : Mem} {pre : List Nat} {m : Nat → Nat} (hw : wfB B) (hb : brdR B M) (h : MO B pre m M) (hp : pre.length ≤ 900) : ∀ (k i fuel : Nat), i + k = bn B → k < fuel →
    f_X12_leastWithMore_b5 M fuel (oI (amin (gPre B pre) 2147483647 i)) (nI i) = some (oI (amin (gPre B pre) 2147483647 (bn B))) := by
  have hn := hw.2.2.1
  intro k
  induction k with
  | zero =>
    intro i fuel hi hf
    obtain ⟨f, rfl⟩ : ∃ f, fuel = f + 1 := ⟨fuel - 1, by omega⟩
    obtain rfl : i = bn B := by omega
    unfold f_X12_leastWithMore_b5
    rw [hb.1, if_pos (nI_le (by omega) (by omega))]
  | succ k ih =>
    intro i fuel hi hf
    obtain ⟨f, rfl⟩ : ∃ f, fuel = f + 1 := ⟨fuel - 1, by omega⟩
    have st := amin_step (gPre B pre) 2147483647 i
    have := ih (i + 1) f (by omega) (by omega)
    rw [st] at this
    have g1 := gPre_lt hw hp i
    unfold f_X12_leastWithMore_b5
    rw [hb.1, if_neg (nI_ge (by omega) (by omega)), nI_1]
    cases e : amin (gPre B pre) 2147483647 i with
    | none =>
      rw [e, if_pos (show gPre B pre i < oV (gPre B pre) 2147483647 none from (show gPre B pre i < 2147483647 by omega))] at this
      rw [if_pos (show oI none < 0 by decide)]
      exact this
    | some b =>
      have hlt := amin_lt e
      have g2 := gPre_lt hw hp b
      rw [e] at this
      rw [if_neg (show ¬ oI (some b) < 0 from nI_pos (by omega)), moreR hw hb h hp (by omega), Option.bind_some, show oI (some b) = nI b from rfl, moreR hw hb h hp (by omega), Option.bind_some]
      by_cases c : gPre B pre i < gPre B pre b
      · rw [if_pos (show gPre B pre i < oV (gPre B pre) 2147483647 (some b) from c)] at this
        rw [if_neg (nI_ge c (by omega))]; exact this
      · rw [if_neg (show ¬ gPre B pre i < oV (gPre B pre) 2147483647 (some b) from c)] at this
        rw [if_pos (nI_le (by omega) (by omega))]; exact this
theorem leastR {B : Bd} {M : Mem} {pre : List Nat} {m : Nat → Nat} (hw : wfB B) (hb : brdR B M) (h : MO B pre m M) (hp : pre.length ≤ 900) : f_X12_leastWithMore M = some (oI (amin (gPre B pre) 2147483647 (bn B))) :=
  leastR_lp hw hb h hp (bn B) 0 FU (by omega) (FU_big (by have := hw.2.2.1; omega))
def up1 (m : Nat → Nat) (x : Nat) : Nat → Nat := fun e => if e = x then m e + 1 else m e
theorem MO.add {B : Bd} {M : Mem} {pre : List Nat} {m : Nat → Nat} {x : Nat} (h : MO B pre m M) (hx : x < bn B) : MO B (pre ++ [x]) (up1 m x) (wI M 17 x (nI (m x + 1))) := by
  refine ⟨fun e he => ?_, fun d hd => ?_⟩
  · rw [wI_at]
    unfold up1
    by_cases c : e = x
    · rw [if_pos ⟨rfl, c⟩, if_pos c, c]
    · rw [if_neg (by omega), if_neg c]; exact h.1 e he
  · rw [cnt_snoc, h.2 d hd]
    have : mSum B (up1 m x) d = mSum B m d + (sm B x d).toNat := by
      unfold mSum
      refine sumN_one (x := x) ?_ (fun k hk => ?_) (bn B) hx
      · unfold up1
        cases sm B x d
        · simp
        · simp
      · unfold up1
        rw [if_neg hk]
    rw [this, Nat.add_assoc]
theorem noMore_ok {B : Bd} {M : Mem} (hw : wfB B) : ok (f_X12_noMore M) (fun M' => MO B B.2.2 (fun _ => 0) M' ∧ (∀ r, r ≠ 17 → M'.1 r = M.1 r)) := by
  have hn := hw.2.2.1
  have z : ∀ (n : Nat) (d : Nat), sumN (fun e => if sm B e d = true then 0 else 0) n = 0 := by
    intro n d
    induction n with
    | zero => rfl
    | succ n ih => show sumN _ n + _ = 0; rw [ih]; simp
  have lp : ∀ (k i fuel : Nat) (M1 : Mem), i + k = 8 → k < fuel → (∀ j, j < i → M1.1 17 j = nI 0) → (∀ r, r ≠ 17 → M1.1 r = M.1 r) → ok (f_X12_noMore_b2 fuel (nI i) M1) (fun M' => (∀ j, j < 8 → M'.1 17 j = nI 0) ∧ (∀ r, r ≠ 17 → M'.1 r = M.1 r)) := by
    intro k
    induction k with
    | zero =>
      intro i fuel M1 hi hf h1 h2
      obtain ⟨f, rfl⟩ : ∃ f, fuel = f + 1 := ⟨fuel - 1, by omega⟩
      obtain rfl : i = 8 := by omega
      unfold f_X12_noMore_b2
      exact ok_pos (by decide) (ok_some ⟨h1, h2⟩)
    | succ k ih =>
      intro i fuel M1 hi hf h1 h2
      obtain ⟨f, rfl⟩ : ∃ f, fuel = f + 1 := ⟨fuel - 1, by omega⟩
      unfold f_X12_noMore_b2
      refine ok_neg (show ¬ 8 ≤ nI i from fun q => absurd ((nI_leI (a := 8) (by decide) (by omega)).mp q) (by omega)) ?_
      refine ok_st (by omega) (by decide) ?_
      rw [nI_1]
      refine ih (i + 1) f _ (by omega) (by omega) (fun j hj => ?_) (fun r hr => by rw [wI_other hr]; exact h2 r hr)
      rw [wI_at]
      by_cases c : j = i
      · rw [if_pos ⟨rfl, c⟩]; rfl
      · rw [if_neg (by omega)]; exact h1 j (by omega)
  unfold f_X12_noMore
  exact ok_mono (lp 8 0 FU M (by omega) (FU_big (by omega)) (fun j hj => by omega) (fun _ _ => rfl)) (fun M' g => ⟨⟨fun e he => g.1 e (by omega), fun d hd => by unfold mSum; rw [z]; rfl⟩, g.2⟩)
theorem ag17 {M M' : Mem} (h : ∀ r, r ≠ 17 → M'.1 r = M.1 r) : agR M M' := by
  refine ⟨fun i hi => ?_, fun k hk => by rw [h 0 (by decide)], fun r hr => h r (by omega), fun j hj => by rw [h 10 (by decide)]⟩
  unfold bv
  rw [h 0 (by decide), h 2 (by decide), h 3 (by decide), h 4 (by decide), h 5 (by decide)]
theorem cheapC {B : Bd} {M : Mem} {pre : List Nat} (hw : wfB B) (h : RK B B.1.1 B.1.2 pre M) (hp : pre.length ≤ 900) : f_X8_cheapestNext M = some (oI (amin (gPre B pre) 2147483647 (bn B))) :=
  cheap_ok h.1.1 hw.2.2.1 (fun d hd => dueNow_ok hw h hd hp) (fun d hd => by have := gPre_lt hw hp d; omega)
theorem gmin_some {B : Bd} {pre : List Nat} (hw : wfB B) (hp : pre.length ≤ 900) (h0 : 0 < bn B) : ∃ x, amin (gPre B pre) 2147483647 (bn B) = some x ∧ x < bn B := by
  cases e : amin (gPre B pre) 2147483647 (bn B) with
  | none =>
    obtain ⟨n', hn'⟩ : ∃ n', bn B = n' + 1 := ⟨bn B - 1, by omega⟩
    rw [hn'] at e
    exact absurd e (amin_ne (fun x hx => by have := gPre_lt hw hp x; omega))
  | some b => exact ⟨b, rfl, amin_lt e⟩
/-- the cheapest next -/
def nxM (B : Bd) (pre : List Nat) : Nat := o0 id (amin (gPre B pre) 2147483647 (bn B))
theorem nxM_lt {B : Bd} {pre : List Nat} (hw : wfB B) (hp : pre.length ≤ 900) (h0 : 0 < bn B) : nxM B pre < bn B ∧ oI (amin (gPre B pre) 2147483647 (bn B)) = nI (nxM B pre) := by
  obtain ⟨x, e, hx⟩ := gmin_some hw hp h0
  unfold nxM
  rw [e]
  exact ⟨hx, rfl⟩
def grF (B : Bd) : Nat → List Nat → Nat → Int32 → Nat × Int32
  | 0, _, s, l => (s, l)
  | k + 1, pre, s, _ => grF B k (pre ++ [nxM B pre]) (s + gPre B pre (nxM B pre)) (nI (nxM B pre))
def grA (v2 : Int32) (p : Nat × Int32) : Int32 := if v2 = 0 then nI p.1 else p.2
theorem grC {B : Bd} {v : Nat} (hw : wfB B) (hv : v ≤ 12) (h0 : 0 < bn B) (v2 : Int32) : ∀ (k i s fuel : Nat) (pre : List Nat) (l : Int32) (M : Mem), i + k = v → k < fuel → pre.length ≤ 12 + i → RK B B.1.1 B.1.2 pre M →
    ok2 (f_X6_cheapestSteps_b16 fuel (nI v) v2 (nI s) l (nI i) M) (fun x M' => x = grA v2 (grF B k pre s l) ∧ fr [27] M M') := by
  have hn := hw.2.2.1
  intro k
  induction k with
  | zero =>
    intro i s fuel pre l M hi hf hp h
    obtain ⟨f, rfl⟩ : ∃ f, fuel = f + 1 := ⟨fuel - 1, by omega⟩
    refine ok2_mk ?_
    unfold f_X6_cheapestSteps_b16 f_X6_cheapestSteps_b59 grA
    refine ok_pos (nI_le (by omega) (by omega)) ?_
    by_cases c : v2 = 0
    · rw [if_pos c, if_pos c]; exact ok_some ⟨rfl, fr.rf⟩
    · rw [if_neg c, if_neg c]; exact ok_some ⟨rfl, fr.rf⟩
  | succ k ih =>
    intro i s fuel pre l M hi hf hp h
    obtain ⟨f, rfl⟩ : ∃ f, fuel = f + 1 := ⟨fuel - 1, by omega⟩
    obtain ⟨x1, x2⟩ := nxM_lt hw (pre := pre) (by omega) h0
    refine ok2_mk ?_
    unfold f_X6_cheapestSteps_b16
    refine ok_neg (nI_ge (by omega) (by omega)) ?_
    rw [h.1.1, cheapC hw h (by omega), Option.bind_some, x2]
    refine ok_neg (show ¬ nI (bn B) ≤ 0 from fun q => absurd ((nI_leI (b := 0) (by omega) (by decide)).mp q) (by omega)) ?_
    refine ok_bp (step_ok hw h x1 (by omega)) (fun w M' ⟨q1, q2, q3⟩ => ?_)
    have q1 : w = nI (gPre B pre (nxM B pre)) := q1
    rw [q1, nI_add, nI_1]
    exact (ih (i + 1) _ f (pre ++ [nxM B pre]) _ M' (by omega) (by omega) (by simp; omega) q2).mono (fun x M2 z => ⟨z.1, q3.tr z.2⟩)
theorem grR {B : Bd} {v : Nat} {M0 : Mem} (hw : wfB B) (hb0 : brdR B M0) (hv : v ≤ 12) (h0 : 0 < bn B) (v2 : Int32) : ∀ (k i s fuel : Nat) (pre : List Nat) (m : Nat → Nat) (l : Int32) (M : Mem), i + k = v → k < fuel → pre.length ≤ 12 + i → MO B pre m M → (∀ r, r ≠ 17 → M.1 r = M0.1 r) →
    ok2 (f_X12_greedily_b48 fuel (nI v) v2 (nI s) l (nI i) M) (fun x M' => x = grA v2 (grF B k pre s l) ∧ agR M0 M') := by
  have hn := hw.2.2.1
  intro k
  induction k with
  | zero =>
    intro i s fuel pre m l M hi hf hp h hr
    obtain ⟨f, rfl⟩ : ∃ f, fuel = f + 1 := ⟨fuel - 1, by omega⟩
    refine ok2_mk ?_
    unfold f_X12_greedily_b48 f_X12_greedily_b95 grA
    refine ok_pos (nI_le (by omega) (by omega)) ?_
    by_cases c : v2 = 0
    · rw [if_pos c, if_pos c]; exact ok_some ⟨rfl, ag17 hr⟩
    · rw [if_neg c, if_neg c]; exact ok_some ⟨rfl, ag17 hr⟩
  | succ k ih =>
    intro i s fuel pre m l M hi hf hp h hr
    obtain ⟨f, rfl⟩ : ∃ f, fuel = f + 1 := ⟨fuel - 1, by omega⟩
    have hb := brdR_bv hw hb0 (ag17 hr).1
    obtain ⟨x1, x2⟩ := nxM_lt hw (pre := pre) (by omega) h0
    refine ok2_mk ?_
    unfold f_X12_greedily_b48
    refine ok_neg (nI_ge (by omega) (by omega)) ?_
    rw [hb.1, leastR hw hb h (by omega), Option.bind_some, x2, moreR hw hb h (by omega) x1, Option.bind_some]
    refine ok_neg (show ¬ nI (bn B) ≤ 0 from fun q => absurd ((nI_leI (b := 0) (by omega) (by decide)).mp q) (by omega)) ?_
    refine ok_ld (by omega) (by decide) (h.1 _ x1) ?_
    rw [nI_1]
    refine ok_st (by omega) (by decide) ?_
    rw [nI_add, nI_1]
    exact (ih (i + 1) _ f (pre ++ [nxM B pre]) _ _ _ (by omega) (by omega) (by simp; omega) (h.add x1) (fun r z => by rw [wI_other z]; exact hr r z)).mono (fun x M2 z => z)
theorem sim_greedily {MC MR : Mem} (h : Inv MC MR) (a b : Int32) : Sim (f_X11_greedily a b MC) (f_X12_greedily a b MR) := by
  obtain ⟨B, im, S, lt, rw', hw, hC, hR, hf⟩ := id h
  have hn := hw.1.2.2.1
  have h12 : B.2.2.length ≤ 12 := hw.1.2.2.2.1
  unfold f_X11_greedily f_X12_greedily f_X12_greedily_b24
  simp only [bind_bp]
  rcases boundR a 12 (by decide) with ⟨h0, e⟩ | ⟨m, hm', hm, rfl, e⟩ | ⟨m, hm, rfl, e⟩
  · rw [show f_X12_bound a 0 12 = -4 from e, if_neg (show ¬ 0 ≤ a from i_neg_nle h0 (n := 0) (by decide)), if_neg (show ¬ (-4 : Int32) = 0 by decide), if_neg (show ¬ (-4 : Int32) = 0 by decide)]; exact Sim.no4 h
  · rw [show f_X12_bound (nI m) 0 12 = -6 from e, if_pos (nI_pos' hm'), if_neg (show ¬ nI m ≤ 12 from nI_ge (a := 12) hm hm'), if_neg (show ¬ (-6 : Int32) = 0 by decide), if_neg (show ¬ (-6 : Int32) = 0 by decide)]; exact Sim.no6 h
  rw [show f_X12_bound (nI m) 0 12 = 0 from e, if_pos (nI_pos' (by omega)), if_pos (show nI m ≤ 12 from nI_le (b := 12) hm (by decide)), if_pos p00, if_pos p00]
  have go : Sim (f_X6_cheapestSteps (nI m) b MC) ((f_X12_noMore MR).bind fun M3 => f_X12_greedily_b48 FU (nI m) b 0 (-9) 0 M3) := by
    by_cases c0 : bn B = 0
    · refine Sim.q h (if b = 0 then nI 0 else -9) (ok2_mk ?_) (ok2_mk ?_)
      · unfold f_X6_cheapestSteps
        refine ok_bind (behind_ok hw.1 hC.1) (fun M1 ⟨h1, f1⟩ => ?_)
        obtain ⟨f, hf'⟩ : ∃ f, FU = f + 1 := ⟨FU - 1, by have := FU_big (k := 0) (by decide); omega⟩
        rw [hf']
        unfold f_X6_cheapestSteps_b16 f_X6_cheapestSteps_b59
        rw [h1.1.1, c0]
        have fin : ok (if b = 0 then some ((0 : Int32), M1) else some ((-9 : Int32), M1)) (fun p => p.1 = (if b = 0 then nI 0 else -9) ∧ frQ MC p.2) := by
          by_cases z : b = 0
          · rw [if_pos z, if_pos z]; exact ok_some ⟨rfl, f1.q (by decide)⟩
          · rw [if_neg z, if_neg z]; exact ok_some ⟨rfl, f1.q (by decide)⟩
        exact ok_ite (fun _ => fin) (fun _ => ok_pos (by decide) fin)
      · refine ok_bind (noMore_ok (B := B) hw.1) (fun M3 ⟨g1, g2⟩ => ?_)
        obtain ⟨f, hf'⟩ : ∃ f, FU = f + 1 := ⟨FU - 1, by have := FU_big (k := 0) (by decide); omega⟩
        rw [hf']
        unfold f_X12_greedily_b48 f_X12_greedily_b95
        rw [g2 0 (by decide), hR.1.1, c0]
        have fin : ok (if b = 0 then some ((0 : Int32), M3) else some ((-9 : Int32), M3)) (fun p => p.1 = (if b = 0 then nI 0 else -9) ∧ agR MR p.2) := by
          by_cases z : b = 0
          · rw [if_pos z, if_pos z]; exact ok_some ⟨rfl, ag17 g2⟩
          · rw [if_neg z, if_neg z]; exact ok_some ⟨rfl, ag17 g2⟩
        exact ok_ite (fun _ => fin) (fun _ => ok_pos (by decide) fin)
    · refine Sim.q h (grA b (grF B m B.2.2 0 (-9))) (ok2_mk ?_) (ok2_mk ?_)
      · unfold f_X6_cheapestSteps
        refine ok_bind (behind_ok hw.1 hC.1) (fun M1 ⟨h1, f1⟩ => ?_)
        exact (grC hw.1 hm (by omega) b m 0 0 FU B.2.2 (-9) M1 (by omega) (FU_big (by omega)) h12 h1).mono (fun x M' z => ⟨z.1, (f1.q (by decide)).tr (z.2.q (by decide))⟩)
      · refine ok_bind (noMore_ok (B := B) hw.1) (fun M3 ⟨g1, g2⟩ => ?_)
        exact (grR hw.1 hR.1 hm (by omega) b m 0 0 FU B.2.2 _ (-9) M3 (by omega) (FU_big (by omega)) h12 g1 g2).mono (fun x M' z => z)
  rcases either b with ⟨e1, e2⟩ | ⟨e1, e2, -⟩ | ⟨e1, e2, -⟩
  · rw [e1, e2, if_pos p00, if_pos p00, if_neg (show ¬ (-2 : Int32) = 0 by decide)]; exact Sim.no2 h
  · rw [e1, e2, if_neg n10, if_neg n10]; exact go
  · rw [e1, e2, if_neg n10, if_neg n10]; exact go
def qtF (B : Bd) (m : Nat) : Nat → Nat → List Nat → Nat → Nat
  | 0, i, _, _ => i
  | k + 1, i, pre, s => if s + gPre B pre (nxM B pre) ≤ m then qtF B m k (i + 1) (pre ++ [nxM B pre]) (s + gPre B pre (nxM B pre)) else i
theorem qtC {B : Bd} {m : Nat} (hw : wfB B) (hm : m ≤ 999) (h0 : 0 < bn B) : ∀ (k i s fuel : Nat) (pre : List Nat) (M : Mem), i + k = 60 → k < fuel → s ≤ m → pre.length ≤ 12 + i → RK B B.1.1 B.1.2 pre M →
    ok2 (f_X6_stepsWithin_b11 fuel (nI m) (nI s) (nI i) M) (fun x M' => x = nI (qtF B m k i pre s) ∧ fr [27] M M') := by
  have hn := hw.2.2.1
  intro k
  induction k with
  | zero =>
    intro i s fuel pre M hi hf hs hp h
    obtain ⟨f, rfl⟩ : ∃ f, fuel = f + 1 := ⟨fuel - 1, by omega⟩
    obtain rfl : i = 60 := by omega
    refine ok2_mk ?_
    unfold f_X6_stepsWithin_b11
    exact ok_pos (by decide) (ok_some ⟨rfl, fr.rf⟩)
  | succ k ih =>
    intro i s fuel pre M hi hf hs hp h
    obtain ⟨f, rfl⟩ : ∃ f, fuel = f + 1 := ⟨fuel - 1, by omega⟩
    obtain ⟨x1, x2⟩ := nxM_lt hw (pre := pre) (by omega) h0
    have g1 := gPre_lt hw (pre := pre) (by omega) (nxM B pre)
    have st : qtF B m (k + 1) i pre s = if s + gPre B pre (nxM B pre) ≤ m then qtF B m k (i + 1) (pre ++ [nxM B pre]) (s + gPre B pre (nxM B pre)) else i := rfl
    refine ok2_mk ?_
    unfold f_X6_stepsWithin_b11
    refine ok_neg (show ¬ 60 ≤ nI i from fun q => absurd ((nI_leI (a := 60) (by decide) (by omega)).mp q) (by omega)) ?_
    rw [h.1.1, cheapC hw h (by omega), Option.bind_some, x2, st]
    refine ok_neg (show ¬ nI (bn B) ≤ 0 from fun q => absurd ((nI_leI (b := 0) (by omega) (by decide)).mp q) (by omega)) ?_
    refine ok_bp (step_ok hw h x1 (by omega)) (fun w M' ⟨q1, q2, q3⟩ => ?_)
    have q1 : w = nI (gPre B pre (nxM B pre)) := q1
    rw [q1, nI_add, nI_1]
    by_cases c : s + gPre B pre (nxM B pre) ≤ m
    · rw [if_pos c]
      exact ok_pos (nI_le c (by omega)) ((ih (i + 1) _ f (pre ++ [nxM B pre]) M' (by omega) (by omega) c (by simp; omega) q2).mono (fun x M2 z => ⟨z.1, q3.tr z.2⟩))
    · rw [if_neg c]
      exact ok_neg (nI_ge (by omega) (by omega)) (ok_some ⟨rfl, q3⟩)
theorem qtR {B : Bd} {m : Nat} {M0 : Mem} (hw : wfB B) (hb0 : brdR B M0) (hm : m ≤ 999) (h0 : 0 < bn B) : ∀ (k i s fuel : Nat) (pre : List Nat) (mm : Nat → Nat) (M : Mem), i + k = 60 → k < fuel → s ≤ m → pre.length ≤ 12 + i → MO B pre mm M → (∀ r, r ≠ 17 → M.1 r = M0.1 r) →
    ok2 (f_X12_quota_b28 fuel (nI m) (nI s) (nI i) M) (fun x M' => x = nI (qtF B m k i pre s) ∧ agR M0 M') := by
  have hn := hw.2.2.1
  intro k
  induction k with
  | zero =>
    intro i s fuel pre mm M hi hf hs hp h hr
    obtain ⟨f, rfl⟩ : ∃ f, fuel = f + 1 := ⟨fuel - 1, by omega⟩
    obtain rfl : i = 60 := by omega
    refine ok2_mk ?_
    unfold f_X12_quota_b28
    exact ok_pos (by decide) (ok_some ⟨rfl, ag17 hr⟩)
  | succ k ih =>
    intro i s fuel pre mm M hi hf hs hp h hr
    obtain ⟨f, rfl⟩ : ∃ f, fuel = f + 1 := ⟨fuel - 1, by omega⟩
    have hb := brdR_bv hw hb0 (ag17 hr).1
    obtain ⟨x1, x2⟩ := nxM_lt hw (pre := pre) (by omega) h0
    have g1 := gPre_lt hw (pre := pre) (by omega) (nxM B pre)
    have st : qtF B m (k + 1) i pre s = if s + gPre B pre (nxM B pre) ≤ m then qtF B m k (i + 1) (pre ++ [nxM B pre]) (s + gPre B pre (nxM B pre)) else i := rfl
    refine ok2_mk ?_
    unfold f_X12_quota_b28
    refine ok_neg (show ¬ 60 ≤ nI i from fun q => absurd ((nI_leI (a := 60) (by decide) (by omega)).mp q) (by omega)) ?_
    rw [hb.1, leastR hw hb h (by omega), Option.bind_some, x2, moreR hw hb h (by omega) x1, Option.bind_some, st]
    refine ok_neg (show ¬ nI (bn B) ≤ 0 from fun q => absurd ((nI_leI (b := 0) (by omega) (by decide)).mp q) (by omega)) ?_
    refine ok_ld (by omega) (by decide) (h.1 _ x1) ?_
    rw [nI_1]
    refine ok_st (by omega) (by decide) ?_
    rw [nI_add, nI_1]
    have hr' : ∀ r, r ≠ 17 → (wI M 17 (nxM B pre) (nI (mm (nxM B pre) + 1))).1 r = M0.1 r := fun r z => by rw [wI_other z]; exact hr r z
    by_cases c : s + gPre B pre (nxM B pre) ≤ m
    · rw [if_pos c]
      exact ok_pos (nI_le c (by omega)) ((ih (i + 1) _ f (pre ++ [nxM B pre]) _ _ (by omega) (by omega) c (by simp; omega) (h.add x1) hr').mono (fun x M2 z => z))
    · rw [if_neg c]
      exact ok_neg (nI_ge (by omega) (by omega)) (ok_some ⟨rfl, ag17 hr'⟩)
theorem sim_quota {MC MR : Mem} (h : Inv MC MR) (a : Int32) : Sim (f_X11_quota a MC) (f_X12_quota a MR) := by
  obtain ⟨B, im, S, lt, rw', hw, hC, hR, hf⟩ := id h
  have hn := hw.1.2.2.1
  have h12 : B.2.2.length ≤ 12 := hw.1.2.2.2.1
  unfold f_X11_quota f_X12_quota
  simp only [bind_bp]
  rcases boundR a 999 (by decide) with ⟨h0, e⟩ | ⟨m, hm', hm, rfl, e⟩ | ⟨m, hm, rfl, e⟩
  · rw [show f_X12_bound a 0 999 = -4 from e, if_neg (show ¬ 0 ≤ a from i_neg_nle h0 (n := 0) (by decide)), if_neg (show ¬ (-4 : Int32) = 0 by decide)]; exact Sim.no4 h
  · rw [show f_X12_bound (nI m) 0 999 = -6 from e, if_pos (nI_pos' hm'), if_neg (show ¬ nI m ≤ 999 from nI_ge (a := 999) hm hm'), if_neg (show ¬ (-6 : Int32) = 0 by decide)]; exact Sim.no6 h
  rw [show f_X12_bound (nI m) 0 999 = 0 from e, if_pos (nI_pos' (by omega)), if_pos (show nI m ≤ 999 from nI_le (b := 999) hm (by decide)), if_pos p00]
  unfold f_X6_stepsWithin
  by_cases c0 : bn B = 0
  · refine Sim.q h (nI 60) (ok2_mk ?_) (ok2_mk ?_)
    · refine ok_bind (behind_ok hw.1 hC.1) (fun M1 ⟨h1, f1⟩ => ?_)
      obtain ⟨f, hf'⟩ : ∃ f, FU = f + 1 := ⟨FU - 1, by have := FU_big (k := 0) (by decide); omega⟩
      rw [hf']
      unfold f_X6_stepsWithin_b11
      rw [h1.1.1, c0]
      exact ok_neg (by decide) (ok_pos (by decide) (ok_some ⟨rfl, f1.q (by decide)⟩))
    · refine ok_bind (noMore_ok (B := B) hw.1) (fun M3 ⟨g1, g2⟩ => ?_)
      obtain ⟨f, hf'⟩ : ∃ f, FU = f + 1 := ⟨FU - 1, by have := FU_big (k := 0) (by decide); omega⟩
      rw [hf']
      unfold f_X12_quota_b28
      rw [g2 0 (by decide), hR.1.1, c0]
      exact ok_neg (by decide) (ok_pos (by decide) (ok_some ⟨rfl, ag17 g2⟩))
  · refine Sim.q h (nI (qtF B m 60 0 B.2.2 0)) (ok2_mk ?_) (ok2_mk ?_)
    · refine ok_bind (behind_ok hw.1 hC.1) (fun M1 ⟨h1, f1⟩ => ?_)
      exact (qtC hw.1 hm (by omega) 60 0 0 FU B.2.2 M1 (by omega) (FU_big (by omega)) (Nat.zero_le _) h12 h1).mono (fun x M' z => ⟨z.1, (f1.q (by decide)).tr (z.2.q (by decide))⟩)
    · refine ok_bind (noMore_ok (B := B) hw.1) (fun M3 ⟨g1, g2⟩ => ?_)
      exact (qtR hw.1 hR.1 hm (by omega) 60 0 0 FU B.2.2 _ M3 (by omega) (FU_big (by omega)) (Nat.zero_le _) h12 g1 g2).mono (fun x M' z => z)
