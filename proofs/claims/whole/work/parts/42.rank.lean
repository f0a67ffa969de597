def Tw (w : Nat → Int) (k : Nat) : Prop := w (3 * (k / 9 % 3) + k % 3) * w (3 * (k / 27) + k / 3 % 3) ≠ w (3 * (k / 9 % 3) + k / 3 % 3) * w (3 * (k / 27) + k % 3)
def TwC (o : Nat) (w : Nat → Int) (k : Nat) : Prop := k / 9 % 3 < k / 27 ∧ k / 27 < o ∧ k % 3 < o ∧ k / 3 % 3 < o ∧ Tw w k
theorem two_step {o : Nat} (ho : o ≤ 3) {f : Nat → Int64} {w : Nat → Int} (hw : ∀ k, k < 9 → f k = Int64.ofInt (w k)) (hb : ∀ k, k < 9 → -1000000000 ≤ w k ∧ w k ≤ 1000000000) (n k : Nat) (hk : k < 81) (l : Int32) (hl : l = 0 ∨ l = 1) : (F_X5_areTwo_4 (n + 1) l (nI k) (nI o) f = F_X5_areTwo_4 n 1 (nI (k + 1)) (nI o) f ∧ (l = 1 ∨ TwC o w k)) ∨ (F_X5_areTwo_4 (n + 1) l (nI k) (nI o) f = F_X5_areTwo_4 n 0 (nI (k + 1)) (nI o) f ∧ l = 0 ∧ ¬ TwC o w k) := by
  have e27 : nI k / 27 = nI (k / 27) := pk_div (d := 27) (by omega) (by omega) (by omega)
  have e9 : nI k / 9 = nI (k / 9) := pk_div (d := 9) (by omega) (by omega) (by omega)
  have e3 : nI k / 3 = nI (k / 3) := pk_div (d := 3) (by omega) (by omega) (by omega)
  have ea : nI k - nI (k / 3) * 3 = nI (k % 3) := by rw [← e3]; exact pk_rem (d := 3) (by omega) (by omega) (by omega)
  have ei : nI (k / 9) - nI (k / 9) / 3 * 3 = nI (k / 9 % 3) := pk_rem (d := 3) (by omega) (by omega) (by omega)
  have eb : nI (k / 3) - nI (k / 3) / 3 * 3 = nI (k / 3 % 3) := pk_rem (d := 3) (by omega) (by omega) (by omega)
  have h136 : F_X5_areTwo_136 (fun l1 l2 v_order v_rows => F_X5_areTwo_4 n l1 l2 v_order v_rows) (nI k) (nI o) f = F_X5_areTwo_4 n 1 (nI (k + 1)) (nI o) f := by
    unfold F_X5_areTwo_136 F_X5_areTwo_141; rw [nI_1]
  have h140 : F_X5_areTwo_140 (fun l1 l2 v_order v_rows => F_X5_areTwo_4 n l1 l2 v_order v_rows) (nI k) (nI o) f = F_X5_areTwo_4 n 0 (nI (k + 1)) (nI o) f := by
    unfold F_X5_areTwo_140 F_X5_areTwo_141; rw [nI_1]
  have h72a : ∀ a b c d, F_X5_areTwo_72 (fun l1 l2 v_order v_rows => F_X5_areTwo_4 n l1 l2 v_order v_rows) 0 (nI k) a b c d (nI o) f = F_X5_areTwo_4 n 0 (nI (k + 1)) (nI o) f := by
    intro a b c d
    unfold F_X5_areTwo_72 F_X5_areTwo_73
    rw [ie0, ie0]; exact h140
  have h72b : ∀ a b c d, F_X5_areTwo_72 (fun l1 l2 v_order v_rows => F_X5_areTwo_4 n l1 l2 v_order v_rows) 1 (nI k) a b c d (nI o) f = F_X5_areTwo_4 n 1 (nI (k + 1)) (nI o) f := by
    intro a b c d
    unfold F_X5_areTwo_72 F_X5_areTwo_73
    rw [ie1]; exact h136
  have h73b : ∀ a b c d, F_X5_areTwo_73 (fun l1 l2 v_order v_rows => F_X5_areTwo_4 n l1 l2 v_order v_rows) 1 1 (nI k) a b c d (nI o) f = F_X5_areTwo_4 n 1 (nI (k + 1)) (nI o) f := by
    intro a b c d
    unfold F_X5_areTwo_73
    rw [ie1]; exact h136
  have hle : ∀ {α : Type} (a b : α), (if nI (k / 27) ≤ nI (k / 9 % 3) then a else b) = (if k / 27 ≤ k / 9 % 3 then a else b) := by
    intro α a b
    by_cases h : k / 27 ≤ k / 9 % 3
    · rw [if_pos h, if_pos (nI_le h (by omega))]
    · rw [if_neg h, if_neg (nI_ge (by omega) (by omega))]
  rw [F_X5_areTwo_4, if_neg (show ¬ (81 : Int32) ≤ nI k from nI_ge (b := 81) hk (by omega)), e27, e9, e3, ei, ea, eb, hle]
  rcases hl with rfl | rfl
  · -- none yet
    by_cases c1 : k / 27 ≤ k / 9 % 3
    · rw [if_pos c1]; exact Or.inr ⟨h72a _ _ _ _, rfl, fun q => by have := q.1; omega⟩
    rw [if_neg c1]
    by_cases c2n : ¬ k / 27 < o
    · have c2 := c2n
      refine Or.inr ⟨b1 (isP ho (by omega)) ?_, rfl, fun q => c2 q.2.1⟩
      rw [if_neg c2, ie0]; exact h72a _ _ _ _
    have c2 := Decidable.of_not_not c2n
    by_cases c3n : ¬ k % 3 < o
    · have c3 := c3n
      refine Or.inr ⟨b1 (isP ho (by omega)) ?_, rfl, fun q => c3 q.2.2.1⟩
      rw [if_pos c2, ie1]
      refine b1 (isP ho (by omega)) ?_
      rw [if_neg c3, ie0]; exact h72a _ _ _ _
    have c3 := Decidable.of_not_not c3n
    by_cases c4n : ¬ k / 3 % 3 < o
    · have c4 := c4n
      refine Or.inr ⟨b1 (isP ho (by omega)) ?_, rfl, fun q => c4 q.2.2.2.1⟩
      rw [if_pos c2, ie1]
      refine b1 (isP ho (by omega)) ?_
      rw [if_pos c3, ie1]
      refine b1 (isP ho (by omega)) ?_
      rw [if_neg c4, ie0]; exact h72a _ _ _ _
    have c4 := Decidable.of_not_not c4n
    have q1 := hb (3 * (k / 9 % 3) + k % 3) (by omega)
    have q2 := hb (3 * (k / 27) + k / 3 % 3) (by omega)
    have q3 := hb (3 * (k / 9 % 3) + k / 3 % 3) (by omega)
    have q4 := hb (3 * (k / 27) + k % 3) (by omega)
    have m1 := mb (show -1000000000 ≤ w (3 * (k / 9 % 3) + k % 3) from q1.1) q1.2 (show -1000000000 ≤ w (3 * (k / 27) + k / 3 % 3) from q2.1) q2.2
    have m2 := mb (show -1000000000 ≤ w (3 * (k / 9 % 3) + k / 3 % 3) from q3.1) q3.2 (show -1000000000 ≤ w (3 * (k / 27) + k % 3) from q4.1) q4.2
    have hcm : lg_cmp (f (3 * (k / 9 % 3) + k % 3) * f (3 * (k / 27) + k / 3 % 3)) (f (3 * (k / 9 % 3) + k / 3 % 3) * f (3 * (k / 27) + k % 3)) = 0 ↔ ¬ Tw w k := by
      rw [lg_cmp_eq, hw _ (by omega), hw _ (by omega), hw _ (by omega), hw _ (by omega), ← Int64.ofInt_mul, ← Int64.ofInt_mul, l_eq, o_toInt (by omega) (by omega), o_toInt (by omega) (by omega)]
      unfold Tw
      constructor
      · exact fun a b => b a
      · exact fun a => Classical.byContradiction a
    have hgo : ∀ X, (if lg_cmp (f (3 * (k / 9 % 3) + k % 3) * f (3 * (k / 27) + k / 3 % 3)) (f (3 * (k / 9 % 3) + k / 3 % 3) * f (3 * (k / 27) + k % 3)) = 0 then F_X5_areTwo_4 n 0 (nI (k + 1)) (nI o) f else F_X5_areTwo_4 n 1 (nI (k + 1)) (nI o) f) = X → bd1 (F_X5_isPlace (nI (k / 27)) (nI o)) (fun r2 => if r2 = 0 then (F_X5_areTwo_72 (fun l1 l2 v_order v_rows => F_X5_areTwo_4 n l1 l2 v_order v_rows) 0 (nI k) (nI (k / 9 % 3)) (nI (k / 27)) (nI (k % 3)) (nI (k / 3 % 3)) (nI o) f) else (bd1 (F_X5_isPlace (nI (k % 3)) (nI o)) (fun r3 => if r3 = 0 then (F_X5_areTwo_72 (fun l1 l2 v_order v_rows => F_X5_areTwo_4 n l1 l2 v_order v_rows) 0 (nI k) (nI (k / 9 % 3)) (nI (k / 27)) (nI (k % 3)) (nI (k / 3 % 3)) (nI o) f) else (bd1 (F_X5_isPlace (nI (k / 3 % 3)) (nI o)) (fun r4 => if r4 = 0 then (F_X5_areTwo_72 (fun l1 l2 v_order v_rows => F_X5_areTwo_4 n l1 l2 v_order v_rows) 0 (nI k) (nI (k / 9 % 3)) (nI (k / 27)) (nI (k % 3)) (nI (k / 3 % 3)) (nI o) f) else (F_X5_areTwo_73 (fun l1 l2 v_order v_rows => F_X5_areTwo_4 n l1 l2 v_order v_rows) (1 : Int32) 0 (nI k) (nI (k / 9 % 3)) (nI (k / 27)) (nI (k % 3)) (nI (k / 3 % 3)) (nI o) f)))))) = X := by
      intro X hX
      refine b1 (isP ho (by omega)) ?_
      rw [if_pos c2, ie1]
      refine b1 (isP ho (by omega)) ?_
      rw [if_pos c3, ie1]
      refine b1 (isP ho (by omega)) ?_
      rw [if_pos c4, ie1]
      unfold F_X5_areTwo_73
      rw [ie0, ie1, ix3, ix3, ix3, ix3, if_neg (in9 (by omega)), if_neg (in9 (by omega)), if_neg (in9 (by omega)), if_neg (in9 (by omega)), clk (show 3 * (k / 9 % 3) + k % 3 < 1000 by omega), clk (show 3 * (k / 27) + k / 3 % 3 < 1000 by omega), clk (show 3 * (k / 9 % 3) + k / 3 % 3 < 1000 by omega), clk (show 3 * (k / 27) + k % 3 < 1000 by omega), h140, h136]
      exact hX
    by_cases c5 : Tw w k
    · exact Or.inl ⟨hgo _ (if_neg (fun q => hcm.mp q c5)), Or.inr ⟨by omega, c2, c3, c4, c5⟩⟩
    · exact Or.inr ⟨hgo _ (if_pos (hcm.mpr c5)), rfl, fun q => c5 q.2.2.2.2⟩
  · left
    refine ⟨?_, Or.inl rfl⟩
    by_cases c1 : k / 27 ≤ k / 9 % 3
    · rw [if_pos c1]; exact h72b _ _ _ _
    rw [if_neg c1]
    refine b1 (isP ho (by omega)) ?_
    by_cases c2 : k / 27 < o
    · rw [if_pos c2, ie1]
      refine b1 (isP ho (by omega)) ?_
      by_cases c3 : k % 3 < o
      · rw [if_pos c3, ie1]
        refine b1 (isP ho (by omega)) ?_
        by_cases c4 : k / 3 % 3 < o
        · rw [if_pos c4, ie1]; exact h73b _ _ _ _
        · rw [if_neg c4, ie0]; exact h72b _ _ _ _
      · rw [if_neg c3, ie0]; exact h72b _ _ _ _
    · rw [if_neg c2, ie0]; exact h72b _ _ _ _
theorem two_go {o : Nat} (ho : o ≤ 3) {f : Nat → Int64} {w : Nat → Int} (hw : ∀ k, k < 9 → f k = Int64.ofInt (w k)) (hb : ∀ k, k < 9 → -1000000000 ≤ w k ∧ w k ≤ 1000000000) : ∀ (m k n : Nat) (l : Int32), k + m = 81 → m < n → (l = 0 ∨ l = 1) →
    (F_X5_areTwo_4 n l (nI k) (nI o) f = some 1 ∧ (l = 1 ∨ ∃ j, k ≤ j ∧ j < 81 ∧ TwC o w j)) ∨ (F_X5_areTwo_4 n l (nI k) (nI o) f = some 0 ∧ l = 0 ∧ ∀ j, k ≤ j → j < 81 → ¬ TwC o w j) := by
  intro m
  induction m with
  | zero =>
    intro k n l hk hn hl
    match n, hn with
    | n + 1, _ =>
      rw [F_X5_areTwo_4, if_pos (show (81 : Int32) ≤ nI k from nI_le (a := 81) (by omega) (by omega))]
      rcases hl with rfl | rfl
      · exact Or.inr ⟨rfl, rfl, fun j h1 h2 => by omega⟩
      · exact Or.inl ⟨rfl, Or.inl rfl⟩
  | succ m ih =>
    intro k n l hk hn hl
    match n, hn with
    | n + 1, hn =>
      rcases two_step ho hw hb n k (by omega) l hl with ⟨e, h⟩ | ⟨e, rfl, h⟩
      · rcases ih (k + 1) n 1 (by omega) (by omega) (Or.inr rfl) with ⟨e2, -⟩ | ⟨-, e2, -⟩
        · refine Or.inl ⟨e.trans e2, ?_⟩
          rcases h with h | h
          · exact Or.inl h
          · exact Or.inr ⟨k, by omega, by omega, h⟩
        · exact absurd e2 (by decide)
      · rcases ih (k + 1) n 0 (by omega) (by omega) (Or.inl rfl) with ⟨e2, h2 | ⟨j, j1, j2⟩⟩ | ⟨e2, -, hall⟩
        · exact absurd h2 (by decide)
        · exact Or.inl ⟨e.trans e2, Or.inr ⟨j, by omega, j2⟩⟩
        · refine Or.inr ⟨e.trans e2, rfl, fun j j1 j2 => ?_⟩
          by_cases ej : j = k
          · subst ej; exact h
          · exact hall j (by omega) j2
/-- 'some two rows are no multiples of one another' of three rows of three -/
def AreTwo (M : Nat → Nat → Int) : Prop := ∃ i j a b, i < j ∧ j < 3 ∧ a < 3 ∧ b < 3 ∧ M i a * M j b ≠ M i b * M j a
theorem two_ev {f : Nat → Int64} {M : Nat → Nat → Int} (h : rm9 f M) (hb : ∀ r i, r < 3 → i < 3 → -1000000000 ≤ M r i ∧ M r i ≤ 1000000000) : (F_X5_areTwo (nI 3) f = some 1 ∧ AreTwo M) ∨ (F_X5_areTwo (nI 3) f = some 0 ∧ ¬ AreTwo M) := by
  have hw : ∀ k, k < 9 → f k = Int64.ofInt (M (k / 3) (k % 3)) := fun k hk => by
    have := h (k / 3) (k % 3) (by omega) (by omega)
    rw [show 3 * (k / 3) + k % 3 = k by omega] at this
    exact this
  have hT : ∀ k, k < 81 → (Tw (fun k => M (k / 3) (k % 3)) k ↔ M (k / 9 % 3) (k % 3) * M (k / 27) (k / 3 % 3) ≠ M (k / 9 % 3) (k / 3 % 3) * M (k / 27) (k % 3)) := by
    intro k hk
    unfold Tw
    have e : ∀ a b, b < 3 → (3 * a + b) / 3 = a ∧ (3 * a + b) % 3 = b := fun a b hb => by omega
    simp only [(e (k / 9 % 3) (k % 3) (by omega)).1, (e (k / 9 % 3) (k % 3) (by omega)).2, (e (k / 27) (k / 3 % 3) (by omega)).1, (e (k / 27) (k / 3 % 3) (by omega)).2, (e (k / 9 % 3) (k / 3 % 3) (by omega)).1, (e (k / 9 % 3) (k / 3 % 3) (by omega)).2, (e (k / 27) (k % 3) (by omega)).1, (e (k / 27) (k % 3) (by omega)).2]
  rcases two_go (Nat.le_refl 3) hw (fun k hk => hb (k / 3) (k % 3) (by omega) (by omega)) 81 0 3000 0 (by omega) (by omega) (Or.inl rfl) with ⟨e, h1 | ⟨k, -, hk, t1, t2, t3, t4, t5⟩⟩ | ⟨e, -, hall⟩
  · exact absurd h1 (by decide)
  · exact Or.inl ⟨e, k / 9 % 3, k / 27, k % 3, k / 3 % 3, t1, t2, by omega, by omega, (hT k hk).mp t5⟩
  · refine Or.inr ⟨e, fun ⟨i, j, a, b, h1, h2, h3, h4, h5⟩ => ?_⟩
    have hk : 27 * j + 9 * i + 3 * b + a < 81 := by omega
    have e1 : (27 * j + 9 * i + 3 * b + a) / 9 % 3 = i := by omega
    have e2 : (27 * j + 9 * i + 3 * b + a) / 27 = j := by omega
    have e3 : (27 * j + 9 * i + 3 * b + a) % 3 = a := by omega
    have e4 : (27 * j + 9 * i + 3 * b + a) / 3 % 3 = b := by omega
    refine hall (27 * j + 9 * i + 3 * b + a) (by omega) hk ⟨by omega, by omega, by omega, by omega, (hT _ hk).mpr ?_⟩
    rw [e1, e2, e3, e4]; exact h5
theorem any_ev {o : Nat} (ho : o ≤ 3) {f : Nat → Int64} {M : Nat → Nat → Int} (h : rm9 f M) (hb : ∀ r i, r < 3 → i < 3 → -1000000000 ≤ M r i ∧ M r i ≤ 1000000000) : (F_X5_isAny (nI o) f = some 1 ∧ ∃ r i, r < o ∧ i < o ∧ M r i ≠ 0) ∨ (F_X5_isAny (nI o) f = some 0 ∧ ∀ r i, r < o → i < o → M r i = 0) := by
  have hw : ∀ k, k < 9 → f k = Int64.ofInt (M (k / 3) (k % 3)) := fun k hk => by
    have := h (k / 3) (k % 3) (by omega) (by omega)
    rw [show 3 * (k / 3) + k % 3 = k by omega] at this
    exact this
  rcases any_go ho hw (fun k hk => by have := hb (k / 3) (k % 3) (by omega) (by omega); omega) 9 0 3000 0 (by omega) (by omega) (Or.inl rfl) with ⟨e, h1 | ⟨k, -, hk, t1, t2, t3⟩⟩ | ⟨e, -, hall⟩
  · exact absurd h1 (by decide)
  · exact Or.inl ⟨e, k / 3, k % 3, t1, t2, t3⟩
  · refine Or.inr ⟨e, fun r i hr hi => ?_⟩
    have := hall (3 * r + i) (by omega) (by omega) (by omega) (by omega)
    rw [show (3 * r + i) / 3 = r by omega, show (3 * r + i) % 3 = i by omega] at this
    exact this
