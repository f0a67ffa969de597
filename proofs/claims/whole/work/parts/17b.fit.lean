theorem bd_01 {v : Int32} (h : v &&& 1 = v) : v = 0 ∨ v = 1 := by
  obtain ⟨j, hj, e⟩ := pk_andE v (m := 1) 1 (by decide)
  rw [h] at e
  match j, hj with
  | 0, _ => exact Or.inl e
  | 1, _ => exact Or.inr e
theorem bd_ft {v : Int32} (h : v &&& 1 = v) : fits .boolean (.int v) = true := by
  rcases bd_01 h with h | h <;> rw [h] <;> rfl
