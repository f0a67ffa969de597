theorem det3 {f : Nat → Int64} {M : Nat → Nat → Int} (h : rm9 f M) : F_X5_determinant_al31 3 f = some (Int64.ofInt (DT (M 0) (M 1) (M 2))) := by
  have e : F_X5_determinant_al31 3 f = some ((0 : Int64) + f 0 * (f 4 * f 8 - f 5 * f 7) + f 1 * (f 5 * f 6 - f 3 * f 8) + f 2 * (f 3 * f 7 - f 4 * f 6)) := rfl
  rw [e, show f 0 = _ from h 0 0 (by omega) (by omega), show f 1 = _ from h 0 1 (by omega) (by omega), show f 2 = _ from h 0 2 (by omega) (by omega), show f 3 = _ from h 1 0 (by omega) (by omega), show f 4 = _ from h 1 1 (by omega) (by omega), show f 5 = _ from h 1 2 (by omega) (by omega), show f 6 = _ from h 2 0 (by omega) (by omega), show f 7 = _ from h 2 1 (by omega) (by omega), show f 8 = _ from h 2 2 (by omega) (by omega)]
  simp only [DT, Int64.ofInt_add, Int64.ofInt_mul, Int64.ofInt_sub, Int64.zero_add]
theorem det0 {f g : Nat → Int64} {M : Nat → Nat → Int} {v : Nat → Int} (h : rm9 f M) (hg : rp g v) : F_X5_determinant 0 f g = some (Int64.ofInt (DT v (M 1) (M 2))) := by
  have e : F_X5_determinant 0 f g = some ((0 : Int64) + g 0 * (f 4 * f 8 - f 5 * f 7) + g 1 * (f 5 * f 6 - f 3 * f 8) + g 2 * (f 3 * f 7 - f 4 * f 6)) := rfl
  rw [e, hg.1, hg.2.1, hg.2.2, show f 3 = _ from h 1 0 (by omega) (by omega), show f 4 = _ from h 1 1 (by omega) (by omega), show f 5 = _ from h 1 2 (by omega) (by omega), show f 6 = _ from h 2 0 (by omega) (by omega), show f 7 = _ from h 2 1 (by omega) (by omega), show f 8 = _ from h 2 2 (by omega) (by omega)]
  simp only [DT, Int64.ofInt_add, Int64.ofInt_mul, Int64.ofInt_sub, Int64.zero_add]
theorem det1 {f g : Nat → Int64} {M : Nat → Nat → Int} {v : Nat → Int} (h : rm9 f M) (hg : rp g v) : F_X5_determinant 1 f g = some (Int64.ofInt (DT (M 0) v (M 2))) := by
  have e : F_X5_determinant 1 f g = some ((0 : Int64) + f 0 * (g 1 * f 8 - g 2 * f 7) + f 1 * (g 2 * f 6 - g 0 * f 8) + f 2 * (g 0 * f 7 - g 1 * f 6)) := rfl
  rw [e, hg.1, hg.2.1, hg.2.2, show f 0 = _ from h 0 0 (by omega) (by omega), show f 1 = _ from h 0 1 (by omega) (by omega), show f 2 = _ from h 0 2 (by omega) (by omega), show f 6 = _ from h 2 0 (by omega) (by omega), show f 7 = _ from h 2 1 (by omega) (by omega), show f 8 = _ from h 2 2 (by omega) (by omega)]
  simp only [DT, Int64.ofInt_add, Int64.ofInt_mul, Int64.ofInt_sub, Int64.zero_add]
theorem det2 {f g : Nat → Int64} {M : Nat → Nat → Int} {v : Nat → Int} (h : rm9 f M) (hg : rp g v) : F_X5_determinant 2 f g = some (Int64.ofInt (DT (M 0) (M 1) v)) := by
  have e : F_X5_determinant 2 f g = some ((0 : Int64) + f 0 * (f 4 * g 2 - f 5 * g 1) + f 1 * (f 5 * g 0 - f 3 * g 2) + f 2 * (f 3 * g 1 - f 4 * g 0)) := rfl
  rw [e, hg.1, hg.2.1, hg.2.2, show f 0 = _ from h 0 0 (by omega) (by omega), show f 1 = _ from h 0 1 (by omega) (by omega), show f 2 = _ from h 0 2 (by omega) (by omega), show f 3 = _ from h 1 0 (by omega) (by omega), show f 4 = _ from h 1 1 (by omega) (by omega), show f 5 = _ from h 1 2 (by omega) (by omega)]
  simp only [DT, Int64.ofInt_add, Int64.ofInt_mul, Int64.ofInt_sub, Int64.zero_add]
theorem any_go {o : Nat} (ho : o ≤ 3) {f : Nat → Int64} {w : Nat → Int} (hw : ∀ k, k < 9 → f k = Int64.ofInt (w k)) (hb : ∀ k, k < 9 → -9000000000000000000 ≤ w k ∧ w k ≤ 9000000000000000000) : ∀ (m k n : Nat) (l : Int32), k + m = 9 → m < n → (l = 0 ∨ l = 1) →
    (F_X5_isAny_4 n l (nI k) (nI o) f = some 1 ∧ (l = 1 ∨ ∃ j, k ≤ j ∧ j < 9 ∧ j / 3 < o ∧ j % 3 < o ∧ w j ≠ 0)) ∨ (F_X5_isAny_4 n l (nI k) (nI o) f = some 0 ∧ l = 0 ∧ ∀ j, k ≤ j → j < 9 → j / 3 < o → j % 3 < o → w j = 0) := by
  intro m
  induction m with
  | zero =>
    intro k n l hk hn hl
    match n, hn with
    | n + 1, _ =>
      rw [F_X5_isAny_4, if_pos (show (9 : Int32) ≤ nI k from nI_le (a := 9) (by omega) (by omega))]
      rcases hl with rfl | rfl
      · exact Or.inr ⟨rfl, rfl, fun j h1 h2 => by omega⟩
      · exact Or.inl ⟨rfl, Or.inl rfl⟩
  | succ m ih =>
    intro k n l hk hn hl
    match n, hn with
    | n + 1, hn =>
      have ed : nI k / 3 = nI (k / 3) := pk_div (d := 3) (by omega) (by omega) (by omega)
      have er : nI k - nI k / 3 * 3 = nI (k % 3) := pk_rem (d := 3) (by omega) (by omega) (by omega)
      have e9 : ¬ (9 : Int32) ≤ nI k := nI_ge (b := 9) (by omega) (by omega)
      have g : ¬ (nI k < 0 ∨ 9 ≤ (nI k).toNatClampNeg) := nI_in (by omega) (by omega)
      have hbk := hb k (by omega)
      have hcm := cmp0 hbk.1 hbk.2
      have next : ∀ {l2 : Int32} {X : Option Int32}, F_X5_isAny_4 n l2 (nI (k + 1)) (nI o) f = X → F_X5_isAny_4 n l2 (nI k + 1) (nI o) f = X := fun h => by rw [nI_1]; exact h
      rcases hl with rfl | rfl
      · by_cases hp : k / 3 < o ∧ k % 3 < o ∧ w k ≠ 0
        · rcases ih (k + 1) n 1 (by omega) (by omega) (Or.inr rfl) with ⟨e, -⟩ | ⟨-, e, -⟩
          · left
            refine ⟨?_, Or.inr ⟨k, by omega, by omega, hp⟩⟩
            rw [F_X5_isAny_4, if_neg e9, ie0, er, ed]
            refine b1 (isP ho (by omega)) ?_
            rw [if_pos hp.1, ie1]
            refine b1 (isP ho (by omega)) ?_
            rw [if_pos hp.2.1, ie1, if_neg g, nI_clamp (by omega), hw k (by omega), if_neg (fun q => hp.2.2 (hcm.mp q))]
            exact next e
          · exact absurd e (by decide)
        · have h0 : F_X5_isAny_4 (n + 1) 0 (nI k) (nI o) f = F_X5_isAny_4 n 0 (nI (k + 1)) (nI o) f := by
            rw [F_X5_isAny_4, if_neg e9, ie0, er, ed]
            refine b1 (isP ho (by omega)) ?_
            by_cases h1 : k / 3 < o
            · rw [if_pos h1, ie1]
              refine b1 (isP ho (by omega)) ?_
              by_cases h2 : k % 3 < o
              · rw [if_pos h2, ie1, if_neg g, nI_clamp (by omega), hw k (by omega), if_pos (hcm.mpr (Classical.byContradiction fun q => hp ⟨h1, h2, q⟩))]
                exact next rfl
              · rw [if_neg h2, ie0]; exact next rfl
            · rw [if_neg h1, ie0]; exact next rfl
          rw [h0]
          rcases ih (k + 1) n 0 (by omega) (by omega) (Or.inl rfl) with ⟨e, h | ⟨j, j1, j2⟩⟩ | ⟨e, -, hall⟩
          · exact absurd h (by decide)
          · exact Or.inl ⟨e, Or.inr ⟨j, by omega, j2⟩⟩
          · refine Or.inr ⟨e, rfl, fun j j1 j2 j3 j4 => ?_⟩
            by_cases ej : j = k
            · subst ej; exact Classical.byContradiction fun q => hp ⟨j3, j4, q⟩
            · exact hall j (by omega) j2 j3 j4
      · rcases ih (k + 1) n 1 (by omega) (by omega) (Or.inr rfl) with ⟨e, -⟩ | ⟨-, e, -⟩
        · left
          refine ⟨?_, Or.inl rfl⟩
          rw [F_X5_isAny_4, if_neg e9, ie1]
          exact next e
        · exact absurd e (by decide)
