theorem ite_g {P : Prop} [Decidable P] {α : Type} {a b r : α} (h : (if P then a else b) = r) : (P ∧ a = r) ∨ (¬ P ∧ b = r) := by
  by_cases hP : P
  · rw [if_pos hP] at h; exact Or.inl ⟨hP, h⟩
  · rw [if_neg hP] at h; exact Or.inr ⟨hP, h⟩
theorem prf {α β : Type} {a : α} {b : β} {r : α × β} (h : some (a, b) = some r) : a = r.1 := by cases h; rfl
theorem prs {α β : Type} {a : α} {b : β} {r : α × β} (h : some (a, b) = some r) : b = r.2 := by cases h; rfl
