/-! numbers: ints that are small naturals; bits -/
theorem fa_lit (n : Nat) : (OfNat.ofNat n : Int32) = nI n := rfl
theorem l_0 : (0 : Int32) = nI 0 := rfl
theorem l_1 : (1 : Int32) = nI 1 := rfl
theorem l_2 : (2 : Int32) = nI 2 := rfl
theorem l_3 : (3 : Int32) = nI 3 := rfl
theorem l_4 : (4 : Int32) = nI 4 := rfl
theorem l_5 : (5 : Int32) = nI 5 := rfl
theorem l_6 : (6 : Int32) = nI 6 := rfl
theorem l_7 : (7 : Int32) = nI 7 := rfl
theorem l_8 : (8 : Int32) = nI 8 := rfl
theorem l_9 : (9 : Int32) = nI 9 := rfl
theorem l_10 : (10 : Int32) = nI 10 := rfl
theorem l_11 : (11 : Int32) = nI 11 := rfl
theorem l_12 : (12 : Int32) = nI 12 := rfl
theorem l_16 : (16 : Int32) = nI 16 := rfl
theorem l_20 : (20 : Int32) = nI 20 := rfl
theorem l_31 : (31 : Int32) = nI 31 := rfl
theorem l_35 : (35 : Int32) = nI 35 := rfl
theorem l_36 : (36 : Int32) = nI 36 := rfl
theorem l_40 : (40 : Int32) = nI 40 := rfl
theorem l_48 : (48 : Int32) = nI 48 := rfl
theorem l_57 : (57 : Int32) = nI 57 := rfl
theorem l_59 : (59 : Int32) = nI 59 := rfl
theorem l_60 : (60 : Int32) = nI 60 := rfl
theorem l_63 : (63 : Int32) = nI 63 := rfl
theorem l_64 : (64 : Int32) = nI 64 := rfl
theorem l_80 : (80 : Int32) = nI 80 := rfl
theorem l_81 : (81 : Int32) = nI 81 := rfl
theorem l_96 : (96 : Int32) = nI 96 := rfl
theorem l_99 : (99 : Int32) = nI 99 := rfl
theorem l_100 : (100 : Int32) = nI 100 := rfl
theorem l_108 : (108 : Int32) = nI 108 := rfl
theorem l_109 : (109 : Int32) = nI 109 := rfl
theorem l_111 : (111 : Int32) = nI 111 := rfl
theorem l_120 : (120 : Int32) = nI 120 := rfl
theorem l_255 : (255 : Int32) = nI 255 := rfl
theorem l_256 : (256 : Int32) = nI 256 := rfl
theorem l_400 : (400 : Int32) = nI 400 := rfl
theorem l_999 : (999 : Int32) = nI 999 := rfl
theorem l_12345 : (12345 : Int32) = nI 12345 := rfl
theorem l_65536 : (65536 : Int32) = nI 65536 := rfl
theorem l_1000000 : (1000000 : Int32) = nI 1000000 := rfl
theorem l_252645135 : (252645135 : Int32) = nI 252645135 := rfl
theorem l_858993459 : (858993459 : Int32) = nI 858993459 := rfl
theorem l_1103515245 : (1103515245 : Int32) = nI 1103515245 := rfl
theorem l_1431655765 : (1431655765 : Int32) = nI 1431655765 := rfl
theorem l_2147483647 : (2147483647 : Int32) = nI 2147483647 := rfl
theorem fa_and (a b : Nat) : nI a &&& nI b = nI (a &&& b) := by
  apply Int32.toBitVec_inj.1
  show BitVec.ofNat 32 a &&& BitVec.ofNat 32 b = BitVec.ofNat 32 (a &&& b)
  apply BitVec.eq_of_getLsbD_eq
  intro i hi
  simp [hi]
theorem fa_or (a b : Nat) : nI a ||| nI b = nI (a ||| b) := by
  apply Int32.toBitVec_inj.1
  show BitVec.ofNat 32 a ||| BitVec.ofNat 32 b = BitVec.ofNat 32 (a ||| b)
  apply BitVec.eq_of_getLsbD_eq
  intro i hi
  simp [hi]
theorem fa_xor (a b : Nat) : nI a ^^^ nI b = nI (a ^^^ b) := by
  apply Int32.toBitVec_inj.1
  show BitVec.ofNat 32 a ^^^ BitVec.ofNat 32 b = BitVec.ofNat 32 (a ^^^ b)
  apply BitVec.eq_of_getLsbD_eq
  intro i hi
  simp [hi]
theorem jshl_1 {k : Nat} (hk : k < 31) : jshl 1 (nI k) = nI (2 ^ k) := by
  have h : ∀ k, k < 31 → jshl 1 (nI k) = nI (2 ^ k) := by decide +kernel
  exact h k hk
theorem sm31 : ∀ k, k < 31 → ((nI k &&& 31).toBitVec.smod 32).toNat = k := by decide +kernel
theorem jshr_n {n k : Nat} (h : n < 2 ^ 31) (hk : k < 31) : jshr (nI n) (nI k) = nI (n / 2 ^ k) := by
  unfold jshr
  exact pk_shrN h _ k (sm31 k hk)
theorem bit_n {n k : Nat} (h : n < 2 ^ 31) (hk : k < 31) : jshr (nI n) (nI k) &&& 1 = nI ((n.testBit k).toNat) := by
  rw [jshr_n h hk, show (1 : Int32) = nI 1 from rfl, fa_and]
  congr 1
  rw [Nat.and_one_is_mod, Nat.testBit_eq_decide_div_mod_eq]
  rcases Nat.mod_two_eq_zero_or_one (n / 2 ^ k) with q | q <;> simp [q]
theorem bit_0 {n k : Nat} (h : n < 2 ^ 31) (hk : k < 31) : (jshr (nI n) (nI k) &&& 1 = 0) ↔ n.testBit k = false := by
  rw [bit_n h hk]
  cases n.testBit k <;> decide
theorem bit_1 {n k : Nat} (h : n < 2 ^ 31) (hk : k < 31) : (jshr (nI n) (nI k) &&& 1 = 1) ↔ n.testBit k = true := by
  rw [bit_n h hk]
  cases n.testBit k <;> decide
/-- how many bits below m a number has -/
def pcn : Nat → Nat → Nat
  | 0, _ => 0
  | m + 1, a => pcn m a + (a.testBit m).toNat
def pc (a : Nat) : Nat := pcn 12 a
theorem pcn_le (m a : Nat) : pcn m a ≤ m := by
  induction m with
  | zero => exact Nat.le_refl _
  | succ m ih =>
    show pcn m a + _ ≤ _
    have : (a.testBit m).toNat ≤ 1 := by cases a.testBit m <;> decide
    omega
theorem pc_le (a : Nat) : pc a ≤ 12 := pcn_le 12 a
theorem pcn_hi {m k a : Nat} (h : a < 2 ^ m) : pcn (m + k) a = pcn m a := by
  induction k with
  | zero => rfl
  | succ k ih =>
    show pcn (m + k) a + (a.testBit (m + k)).toNat = _
    rw [ih, Nat.testBit_lt_two_pow (Nat.lt_of_lt_of_le h (Nat.pow_le_pow_right (by decide) (Nat.le_add_right m k)))]
    rfl
theorem bitCount_all : ∀ x, x < 64 → ∀ y, y < 64 → f_J6_bitCount_0f7a4 (nI (64 * x + y)) = nI (pc (64 * x + y)) := by decide +kernel
theorem bitCount_n {a : Nat} (h : a < 4096) : f_J6_bitCount_0f7a4 (nI a) = nI (pc a) := by
  have := bitCount_all (a / 64) (by omega) (a % 64) (by omega)
  rwa [Nat.div_add_mod] at this
theorem nI_div {a d : Nat} (ha : a < 2 ^ 31) (h0 : 0 < d) (hd : d < 2 ^ 31) : nI a / nI d = nI (a / d) := pk_div ha h0 hd
theorem nI_rm {a d : Nat} (ha : a < 2 ^ 31) (h0 : 0 < d) (hd : d < 2 ^ 31) : jrm (nI a) (nI d) = nI (a % d) := pk_rem ha h0 hd
theorem nI_neg {n : Nat} (h : n < 2 ^ 31) : (nI n < 0) = False := eq_false (nI_pos h)
theorem nI_nn {n : Nat} (h : n < 2 ^ 31) : (0 ≤ nI n) = True := eq_true (nI_pos' h)
/-- an int is below 0, or a natural -/
theorem i_cases (x : Int32) : x < 0 ∨ ∃ j : Nat, j < 2 ^ 31 ∧ x = nI j := by
  by_cases h : x < 0
  · exact Or.inl h
  · exact Or.inr (nI_of h)
theorem i_neg_lt {x : Int32} (h : x < 0) {n : Nat} (hn : n < 2 ^ 31) : x < nI n := by
  rw [Int32.lt_iff_toInt_lt] at *
  rw [nI_toInt hn]
  have h0 : (0 : Int32).toInt = 0 := rfl
  omega
theorem i_neg_ne {x : Int32} (h : x < 0) {n : Nat} (hn : n < 2 ^ 31) : x ≠ nI n := by
  intro e
  rw [e] at h
  exact nI_pos hn h
theorem i_neg_nle {x : Int32} (h : x < 0) {n : Nat} (hn : n < 2 ^ 31) : ¬ nI n ≤ x := by
  have := i_neg_lt h hn
  rw [Int32.lt_iff_toInt_lt] at this
  rw [Int32.le_iff_toInt_le]
  omega
theorem i_neg_le {x : Int32} (h : x < 0) {n : Nat} (hn : n < 2 ^ 31) : x ≤ nI n := by
  have := i_neg_lt h hn
  rw [Int32.lt_iff_toInt_lt] at this
  rw [Int32.le_iff_toInt_le]
  omega
/-! what holds of an answer -/
def ok {α : Type} (o : Option α) (P : α → Prop) : Prop := ∃ a, o = some a ∧ P a
theorem ok_some {α : Type} {a : α} {P : α → Prop} (h : P a) : ok (some a) P := ⟨a, rfl, h⟩
theorem ok_bind {α β : Type} {o : Option α} {k : α → Option β} {P : α → Prop} {Q : β → Prop} (h : ok o P) (hk : ∀ a, P a → ok (k a) Q) : ok (o.bind k) Q := by
  obtain ⟨a, rfl, ha⟩ := h
  exact hk a ha
def ok2 {α β : Type} (o : Option (α × β)) (P : α → β → Prop) : Prop := ∃ a b, o = some (a, b) ∧ P a b
theorem ok2_mk {α β : Type} {o : Option (α × β)} {P : α → β → Prop} (h : ok o (fun p => P p.1 p.2)) : ok2 o P := by
  obtain ⟨⟨a, b⟩, e, h⟩ := h
  exact ⟨a, b, e, h⟩
theorem ok2.mono {α β : Type} {o : Option (α × β)} {P : α → β → Prop} {Q : α × β → Prop} (h : ok2 o P) (hq : ∀ a b, P a b → Q (a, b)) : ok o Q := by
  obtain ⟨a, b, e, h⟩ := h
  exact ⟨(a, b), e, hq a b h⟩
theorem ok2.mono2 {α β : Type} {o : Option (α × β)} {P Q : α → β → Prop} (h : ok2 o P) (hq : ∀ a b, P a b → Q a b) : ok2 o Q := by
  obtain ⟨a, b, e, h⟩ := h
  exact ⟨a, b, e, hq a b h⟩
theorem ok_bp {α β γ : Type} {o : Option (α × β)} {f : α → β → Option γ} {P : α → β → Prop} {Q : γ → Prop} (h : ok2 o P) (hk : ∀ a b, P a b → ok (f a b) Q) : ok (o.bind fun p => bp p f) Q := by
  obtain ⟨a, b, rfl, ha⟩ := h
  exact hk a b ha
theorem ok_ite {α : Type} {c : Prop} [Decidable c] {a b : Option α} {Q : α → Prop} (ha : c → ok a Q) (hb : ¬ c → ok b Q) : ok (if c then a else b) Q := by
  by_cases h : c
  · rw [if_pos h]; exact ha h
  · rw [if_neg h]; exact hb h
theorem ok_mono {α : Type} {o : Option α} {P Q : α → Prop} (h : ok o P) (hq : ∀ a, P a → Q a) : ok o Q := by
  obtain ⟨a, e, ha⟩ := h
  exact ⟨a, e, hq a ha⟩
theorem ok_pos {α : Type} {c : Prop} [Decidable c] {a b : Option α} {Q : α → Prop} (h : c) (ha : ok a Q) : ok (if c then a else b) Q := by rw [if_pos h]; exact ha
theorem ok_neg {α : Type} {c : Prop} [Decidable c] {a b : Option α} {Q : α → Prop} (h : ¬ c) (ha : ok b Q) : ok (if c then a else b) Q := by rw [if_neg h]; exact ha
theorem ok_eq {α : Type} {o : Option α} {a : α} {Q : α → Prop} (e : o = some a) (h : Q a) : ok o Q := ⟨a, e, h⟩
theorem ldI_n {M : Mem} {q n i : Nat} (h : i < n) (hn : n < 2 ^ 31) : ldI M q n (nI i) = some (M.1 q i) := by
  have hc := nI_clamp (n := i) (by omega)
  unfold ldI
  rw [hc, if_neg]
  intro q
  rcases q with q | q
  · exact nI_pos (by omega) q
  · omega
theorem stI_n {M : Mem} {q n i : Nat} {x : Int32} (h : i < n) (hn : n < 2 ^ 31) : stI M q n (nI i) x = some (wI M q i x) := by
  have hc := nI_clamp (n := i) (by omega)
  unfold stI
  rw [hc, if_neg]
  intro q
  rcases q with q | q
  · exact nI_pos (by omega) q
  · omega
theorem ldL_n {M : Mem} {q n i : Nat} (h : i < n) (hn : n < 2 ^ 31) : ldL M q n (nI i) = some (M.2 q i) := by
  have hc := nI_clamp (n := i) (by omega)
  unfold ldL
  rw [hc, if_neg]
  intro q
  rcases q with q | q
  · exact nI_pos (by omega) q
  · omega
theorem stL_n {M : Mem} {q n i : Nat} {x : Int64} (h : i < n) (hn : n < 2 ^ 31) : stL M q n (nI i) x = some (wL M q i x) := by
  have hc := nI_clamp (n := i) (by omega)
  unfold stL
  rw [hc, if_neg]
  intro q
  rcases q with q | q
  · exact nI_pos (by omega) q
  · omega
theorem ok_ld {β : Type} {M : Mem} {q n i : Nat} {k : Int32 → Option β} {Q : β → Prop} {v : Int32} (h : i < n) (hn : n < 2 ^ 31) (hv : M.1 q i = v) (hk : ok (k v) Q) : ok ((ldI M q n (nI i)).bind k) Q := by
  rw [ldI_n h hn, hv]; exact hk
theorem ok_st {β : Type} {M : Mem} {q n i : Nat} {x : Int32} {k : Mem → Option β} {Q : β → Prop} (h : i < n) (hn : n < 2 ^ 31) (hk : ok (k (wI M q i x)) Q) : ok ((stI M q n (nI i) x).bind k) Q := by
  rw [stI_n h hn]; exact hk
theorem wI_same {M : Mem} {r i : Nat} {v : Int32} : (wI M r i v).1 r = upd (M.1 r) i v := by simp [wI]
theorem wI_other {M : Mem} {r i r' : Nat} {v : Int32} (h : r' ≠ r) : (wI M r i v).1 r' = M.1 r' := by simp [wI, h]
theorem wI_at {M : Mem} {r i r' j : Nat} {v : Int32} : (wI M r i v).1 r' j = if r' = r ∧ j = i then v else M.1 r' j := by
  unfold wI
  by_cases h : r' = r
  · subst h
    by_cases h2 : j = i
    · subst h2; simp [upd]
    · simp [upd, h2]
  · simp [h]
theorem wI_2 {M : Mem} {r i : Nat} {v : Int32} : (wI M r i v).2 = M.2 := rfl
theorem upd_at {f : Nat → Int32} {k j : Nat} {x : Int32} : upd f k x j = if j = k then x else f j := rfl
def bI (b : Bool) : Int32 := if b = true then 1 else 0
theorem bI_0 (b : Bool) : (bI b = nI 0) = (b = false) := by cases b <;> decide
theorem bI_1 (b : Bool) : (bI b = nI 1) = (b = true) := by cases b <;> decide
theorem nI_e {a b : Nat} (ha : a < 2 ^ 31) (hb : b < 2 ^ 31) (h : nI a = nI b) : a = b := (nI_eq ha hb).mp h
theorem and_small {a b : Nat} (ha : a < 256) : a &&& b < 4096 := Nat.lt_of_le_of_lt Nat.and_le_left (by omega)
theorem xor_small {a b : Nat} (ha : a < 256) (hb : b < 256) : a ^^^ b < 4096 := Nat.lt_of_lt_of_le (Nat.xor_lt_two_pow (n := 8) ha hb) (by decide)
