/-! THE PAGE as a plant: the two readers go side by side -/
def pt (o d : Nat) : Nat := if d = 0 then 0 else if d ≤ o * o then 1 else if d ≤ o * o + o then 2 else 3
def nmb (o d : Nat) : Nat := if d = 0 then 0 else if d ≤ o * o then d else if d ≤ o * o + o then d - o * o else d - o * o - o
def pn (o d : Nat) : Nat := if d < o * o then 1 else if d < o * o + o then 2 else 3
def nn (o d : Nat) : Nat := if d < o * o then d else if d < o * o + o then d - o * o else d - o * o - o
def ps (o d : Nat) : Nat := if d < o * o then 3 * (d / o) + d % o else if d < o * o + o then 9 + (d - o * o) else 12 + (d - o * o - o)
def sg (o d : Nat) : Int32 := if d = 0 ∨ d = o * o ∨ d = o * o + o then 59 else 44
theorem ar_pr : ∀ o, o < 4 → ∀ d, d < 15 → d < o * o + 2 * o → (pt o (d + 1) = pn o d ∧ nmb o (d + 1) = nn o d + 1 ∧ ps o d < 15 ∧ ∀ j, j < d → ps o j ≠ ps o d) := by decide
def NT (o d : Nat) (nu nt : Nat → Int32) : Prop := ∀ j, j < d → nt (ps o j) = nu j ∧ -2 ≤ (nu j).toInt ∧ (nu j).toInt ≤ 2
def PR (o d due : Nat) (nu : Nat → Int32) (no pa nm iw ib : Int32) (nt : Nat → Int32) : Prop :=
  ((due = 0 ∧ o = 0 ∧ d = 0 ∧ no = 0 ∧ pa = 0 ∧ nm = 0 ∧ iw = 0 ∧ ib = 0) ∨ (1 ≤ o ∧ o ≤ 3 ∧ no = nI o ∧ ((due = 1 ∧ d ≤ o * o + 2 * o ∧ pa = nI (pt o d) ∧ nm = nI (nmb o d) ∧ iw = 1 ∧ ib = 0) ∨ (due = 2 ∧ d < o * o + 2 * o ∧ pa = nI (pn o d) ∧ nm = nI (nn o d) ∧ iw = 0 ∧ ib = 0) ∨ (due = 3 ∧ d < o * o + 2 * o ∧ pa = nI (pn o d) ∧ nm = nI (nn o d) ∧ iw = 0 ∧ ib = 1)))) ∧ NT o d nu nt
def SOK (x4 : Option (Int32 × Int32 × Int32 × Int32 × (Nat → Int32))) (x5 : Option (Int32 × Int32 × Int32 × Int32 × Int32 × Int32 × (Nat → Int32))) : Prop :=
  (∃ a b c d e f g h i j, x4 = some (0, a, b, c, d) ∧ x5 = some (0, e, f, g, h, i, j)) ∨ ∃ o d due nu no pa nm iw ib nt, x4 = some (1, nI o, nI d, nI due, nu) ∧ x5 = some (1, no, pa, nm, iw, ib, nt) ∧ PR o d due nu no pa nm iw ib nt
theorem tsg (c : Int32) (o d : Nat) (h1 : 1 ≤ o) (h2 : o ≤ 3) (h3 : d < o * o + 2 * o) : F_X1_takesSign c (nI o) (nI d) 1 = if c = sg o d then some (1, 2) else some (0, 1) := by
  rcases (show o = 1 ∨ o = 2 ∨ o = 3 by omega) with rfl | rfl | rfl
  · rcases (show d = 0 ∨ d = 1 ∨ d = 2 by omega) with rfl | rfl | rfl <;> rfl
  · rcases (show d = 0 ∨ d = 1 ∨ d = 2 ∨ d = 3 ∨ d = 4 ∨ d = 5 ∨ d = 6 ∨ d = 7 by omega) with rfl | rfl | rfl | rfl | rfl | rfl | rfl | rfl <;> rfl
  · rcases (show d = 0 ∨ d = 1 ∨ d = 2 ∨ d = 3 ∨ d = 4 ∨ d = 5 ∨ d = 6 ∨ d = 7 ∨ d = 8 ∨ d = 9 ∨ d = 10 ∨ d = 11 ∨ d = 12 ∨ d = 13 ∨ d = 14 by omega) with rfl | rfl | rfl | rfl | rfl | rfl | rfl | rfl | rfl | rfl | rfl | rfl | rfl | rfl | rfl <;> rfl
theorem tsg_full (c : Int32) (o : Nat) (h1 : 1 ≤ o) (h2 : o ≤ 3) : F_X1_takesSign c (nI o) (nI (o * o + 2 * o)) 1 = some (0, 1) := by
  rcases (show o = 1 ∨ o = 2 ∨ o = 3 by omega) with rfl | rfl | rfl <;> rfl
theorem spl (c : Int32) (o d : Nat) (h1 : 1 ≤ o) (h2 : o ≤ 3) (h3 : d < o * o + 2 * o) : F_X5_takesSplit c (nI o) (nI (pt o d)) (nI (nmb o d)) 1 = if c = sg o d then some (1, nI (pn o d), nI (nn o d), 0) else some (0, nI (pt o d), nI (nmb o d), 1) := by
  rcases (show o = 1 ∨ o = 2 ∨ o = 3 by omega) with rfl | rfl | rfl
  · rcases (show d = 0 ∨ d = 1 ∨ d = 2 by omega) with rfl | rfl | rfl <;> rfl
  · rcases (show d = 0 ∨ d = 1 ∨ d = 2 ∨ d = 3 ∨ d = 4 ∨ d = 5 ∨ d = 6 ∨ d = 7 by omega) with rfl | rfl | rfl | rfl | rfl | rfl | rfl | rfl <;> rfl
  · rcases (show d = 0 ∨ d = 1 ∨ d = 2 ∨ d = 3 ∨ d = 4 ∨ d = 5 ∨ d = 6 ∨ d = 7 ∨ d = 8 ∨ d = 9 ∨ d = 10 ∨ d = 11 ∨ d = 12 ∨ d = 13 ∨ d = 14 by omega) with rfl | rfl | rfl | rfl | rfl | rfl | rfl | rfl | rfl | rfl | rfl | rfl | rfl | rfl | rfl <;> rfl
theorem spl_full (c : Int32) (o : Nat) (h1 : 1 ≤ o) (h2 : o ≤ 3) : F_X5_takesSplit c (nI o) (nI (pt o (o * o + 2 * o))) (nI (nmb o (o * o + 2 * o))) 1 = some (0, nI (pt o (o * o + 2 * o)), nI (nmb o (o * o + 2 * o)), 1) := by
  by_cases hc : c = 59
  · subst hc
    rcases (show o = 1 ∨ o = 2 ∨ o = 3 by omega) with rfl | rfl | rfl <;> rfl
  · have e : ∀ p n : Int32, F_X5_takesSplit_16 1 c (nI o) p n 1 = some (0, p, n, 1) := by
      intro p n
      unfold F_X5_takesSplit_16
      rw [ie1, if_neg hc]; rfl
    rcases (show o = 1 ∨ o = 2 ∨ o = 3 by omega) with rfl | rfl | rfl
    · exact e 3 1
    · exact e 3 2
    · exact e 3 3
theorem put0 (v : Int32) (nt : Nat → Int32) (o d : Nat) (h1 : 1 ≤ o) (h2 : o ≤ 3) (h3 : d < o * o + 2 * o) : F_X5_putNumber v (nI o) (nI (pn o d)) (nI (nn o d)) 0 0 nt = some (nI (nn o d + 1), 1, 0, upd nt (ps o d) v) := by
  rcases (show o = 1 ∨ o = 2 ∨ o = 3 by omega) with rfl | rfl | rfl
  · rcases (show d = 0 ∨ d = 1 ∨ d = 2 by omega) with rfl | rfl | rfl <;> rfl
  · rcases (show d = 0 ∨ d = 1 ∨ d = 2 ∨ d = 3 ∨ d = 4 ∨ d = 5 ∨ d = 6 ∨ d = 7 by omega) with rfl | rfl | rfl | rfl | rfl | rfl | rfl | rfl <;> rfl
  · rcases (show d = 0 ∨ d = 1 ∨ d = 2 ∨ d = 3 ∨ d = 4 ∨ d = 5 ∨ d = 6 ∨ d = 7 ∨ d = 8 ∨ d = 9 ∨ d = 10 ∨ d = 11 ∨ d = 12 ∨ d = 13 ∨ d = 14 by omega) with rfl | rfl | rfl | rfl | rfl | rfl | rfl | rfl | rfl | rfl | rfl | rfl | rfl | rfl | rfl <;> rfl
theorem put1 (v : Int32) (nt : Nat → Int32) (o d : Nat) (h1 : 1 ≤ o) (h2 : o ≤ 3) (h3 : d < o * o + 2 * o) : F_X5_putNumber v (nI o) (nI (pn o d)) (nI (nn o d)) 0 1 nt = some (nI (nn o d + 1), 1, 0, upd nt (ps o d) (-v)) := by
  rcases (show o = 1 ∨ o = 2 ∨ o = 3 by omega) with rfl | rfl | rfl
  · rcases (show d = 0 ∨ d = 1 ∨ d = 2 by omega) with rfl | rfl | rfl <;> rfl
  · rcases (show d = 0 ∨ d = 1 ∨ d = 2 ∨ d = 3 ∨ d = 4 ∨ d = 5 ∨ d = 6 ∨ d = 7 by omega) with rfl | rfl | rfl | rfl | rfl | rfl | rfl | rfl <;> rfl
  · rcases (show d = 0 ∨ d = 1 ∨ d = 2 ∨ d = 3 ∨ d = 4 ∨ d = 5 ∨ d = 6 ∨ d = 7 ∨ d = 8 ∨ d = 9 ∨ d = 10 ∨ d = 11 ∨ d = 12 ∨ d = 13 ∨ d = 14 by omega) with rfl | rfl | rfl | rfl | rfl | rfl | rfl | rfl | rfl | rfl | rfl | rfl | rfl | rfl | rfl <;> rfl
theorem keep {d : Nat} (hd : d < 15) (v du : Int32) (nu : Nat → Int32) : F_X1_keeps v (nI d) du nu = some (1, nI (d + 1), 1, upd nu d v) := by
  unfold F_X1_keeps
  rw [if_pos (show nI d < 15 from nI_lt (b := 15) hd (by omega)), if_neg (nI_in hd (by omega)), nI_1, nI_clamp (by omega)]
theorem nd15 {o d : Nat} (h2 : o ≤ 3) (h3 : d < o * o + 2 * o) : d < 15 := by
  rcases (show o = 0 ∨ o = 1 ∨ o = 2 ∨ o = 3 by omega) with rfl | rfl | rfl | rfl <;> omega
theorem NT.put {o d : Nat} (h2 : o ≤ 3) (h3 : d < o * o + 2 * o) {nu nt : Nat → Int32} (h : NT o d nu nt) {v : Int32} (v1 : -2 ≤ v.toInt) (v2 : v.toInt ≤ 2) : NT o (d + 1) (upd nu d v) (upd nt (ps o d) v) := by
  obtain ⟨-, -, -, hne⟩ := ar_pr o (by omega) d (nd15 h2 h3) h3
  intro j hj
  by_cases e : j = d
  · subst e; rw [pk_us, pk_us]; exact ⟨rfl, v1, v2⟩
  · rw [pk_un e, pk_un (hne j (by omega))]; exact h j (by omega)
theorem PR.next {o d : Nat} (h1 : 1 ≤ o) (h2 : o ≤ 3) (h3 : d < o * o + 2 * o) {nu nt : Nat → Int32} (h : NT o (d + 1) nu nt) : PR o (d + 1) 1 nu (nI o) (nI (pn o d)) (nI (nn o d + 1)) 1 0 nt := by
  obtain ⟨e1, e2, -, -⟩ := ar_pr o (by omega) d (nd15 h2 h3) h3
  exact ⟨Or.inr ⟨h1, h2, rfl, Or.inl ⟨rfl, by omega, by rw [e1], by rw [e2], rfl, rfl⟩⟩, h⟩
theorem rng3 {c : Int32} (lo : Nat) (n : Nat) (hlo : lo < 1000) (hn : n < 1000) (h1 : ¬ c < nI lo) (h2 : ¬ nI (lo + n) < c) : ∃ k, k ≤ n ∧ c = nI (lo + k) := by
  have e1 : (nI lo).toInt = (lo : Int) := nI_toInt (by omega)
  have e2 : (nI (lo + n)).toInt = ((lo + n : Nat) : Int) := nI_toInt (by omega)
  rw [i_lt] at h1 h2
  refine ⟨(c.toInt - lo).toNat, by omega, ?_⟩
  rw [i_eq, nI_toInt (by omega)]
  omega
theorem step_pr {o d due : Nat} {nu : Nat → Int32} {no pa nm iw ib : Int32} {nt : Nat → Int32} (h : PR o d due nu no pa nm iw ib nt) (c : Int32) : SOK (F_X1_takes c (nI o) (nI d) (nI due) nu) (F_X5_takes c no pa nm iw ib nt) := by
  obtain ⟨h, hn⟩ := h
  rcases h with ⟨rfl, rfl, rfl, rfl, rfl, rfl, rfl, rfl⟩ | ⟨h1, h2, rfl, h⟩
  · -- the order is due
    by_cases c1 : c < nI 49
    · left
      refine ⟨0, 0, 0, nu, 0, 0, 0, 0, 0, nt, ?_, ?_⟩
      · unfold F_X1_takes
        rw [if_pos (by decide)]
        exact b3 (show F_X1_takesOrder c 0 0 = some (0, 0, 0) from if_pos c1) rfl
      · show bd1 (F_X5_within c 49 51) _ = _
        exact b1 (within_0 (Or.inl c1)) rfl
    · by_cases c2 : nI 51 < c
      · left
        refine ⟨0, 0, 0, nu, 0, 0, 0, 0, 0, nt, ?_, ?_⟩
        · unfold F_X1_takes
          rw [if_pos (by decide)]
          refine b3 (show F_X1_takesOrder c 0 0 = some (0, 0, 0) from ?_) rfl
          unfold F_X1_takesOrder
          rw [if_neg (show ¬ c < 49 from c1), if_neg (show ¬ c ≤ 51 from fun q => by rw [i_le] at q; rw [i_lt] at c2; have e : (nI 51).toInt = 51 := rfl; have e2 : (51 : Int32).toInt = 51 := rfl; omega)]
        · show bd1 (F_X5_within c 49 51) _ = _
          exact b1 (within_0 (Or.inr c2)) rfl
      · obtain ⟨k, hk, rfl⟩ := rng3 49 2 (by omega) (by omega) c1 c2
        right
        rcases (show k = 0 ∨ k = 1 ∨ k = 2 by omega) with rfl | rfl | rfl
        · exact ⟨1, 0, 1, nu, 1, 0, 0, 1, 0, nt, rfl, rfl, Or.inr ⟨by omega, by omega, rfl, Or.inl ⟨rfl, by omega, rfl, rfl, rfl, rfl⟩⟩, fun j hj => absurd hj (Nat.not_lt_zero j)⟩
        · exact ⟨2, 0, 1, nu, 2, 0, 0, 1, 0, nt, rfl, rfl, Or.inr ⟨by omega, by omega, rfl, Or.inl ⟨rfl, by omega, rfl, rfl, rfl, rfl⟩⟩, fun j hj => absurd hj (Nat.not_lt_zero j)⟩
        · exact ⟨3, 0, 1, nu, 3, 0, 0, 1, 0, nt, rfl, rfl, Or.inr ⟨by omega, by omega, rfl, Or.inl ⟨rfl, by omega, rfl, rfl, rfl, rfl⟩⟩, fun j hj => absurd hj (Nat.not_lt_zero j)⟩
  · have hno : ¬ nI o = 0 := nI_ne0 (by omega) (by omega)
    rcases h with ⟨rfl, h3, rfl, rfl, rfl, rfl⟩ | ⟨rfl, h3, rfl, rfl, rfl, rfl⟩ | ⟨rfl, h3, rfl, rfl, rfl, rfl⟩
    · -- a sign is due
      have e4 : ∀ {r q : Int32}, F_X1_takesSign c (nI o) (nI d) 1 = some (r, q) → r &&& 1 = r → F_X1_takes c (nI o) (nI d) (nI 1) nu = some (r, nI o, nI d, q, nu) := by
        intro r q e1 e2
        unfold F_X1_takes
        rw [if_neg (by decide), if_pos (by decide)]
        refine b2 e1 ?_
        rw [if_neg (fun z => z e2)]
      have e5 : ∀ {r p n w : Int32}, F_X5_takesSplit c (nI o) (nI (pt o d)) (nI (nmb o d)) 1 = some (r, p, n, w) → r &&& 1 = r → F_X5_takes c (nI o) (nI (pt o d)) (nI (nmb o d)) 1 0 nt = some (r, nI o, p, n, w, 0, nt) := by
        intro r p n w e1 e2
        unfold F_X5_takes
        rw [if_neg hno, ie1]
        refine b4 e1 ?_
        rw [if_neg (fun z => z e2)]
      by_cases hd : d < o * o + 2 * o
      · have t1 := tsg c o d h1 h2 hd
        have t2 := spl c o d h1 h2 hd
        by_cases hc : c = sg o d
        · rw [if_pos hc] at t1 t2
          exact Or.inr ⟨o, d, 2, nu, _, _, _, _, _, _, e4 t1 (by decide), e5 t2 (by decide), Or.inr ⟨h1, h2, rfl, Or.inr (Or.inl ⟨rfl, hd, rfl, rfl, rfl, rfl⟩)⟩, hn⟩
        · rw [if_neg hc] at t1 t2
          exact Or.inl ⟨_, _, _, _, _, _, _, _, _, _, e4 t1 (by decide), e5 t2 (by decide)⟩
      · have e : d = o * o + 2 * o := by omega
        subst e
        exact Or.inl ⟨_, _, _, _, _, _, _, _, _, _, e4 (tsg_full c o h1 h2) (by decide), e5 (spl_full c o h1 h2) (by decide)⟩
    · -- a number is due
      have hd15 := nd15 h2 h3
      by_cases c0 : c = 45
      · subst c0
        refine Or.inr ⟨o, d, 3, nu, _, _, _, _, _, nt, ?_, ?_, Or.inr ⟨h1, h2, rfl, Or.inr (Or.inr ⟨rfl, h3, rfl, rfl, rfl, rfl⟩)⟩, hn⟩
        · unfold F_X1_takes
          rw [if_neg (by decide), if_neg (by decide), if_pos (by decide)]
          exact b4 (show F_X1_takesNumber 45 (nI d) (nI 2) nu = some (1, nI d, 3, nu) from rfl) rfl
        unfold F_X5_takes
        rw [if_neg hno]; rfl
      · have e5 : F_X5_takes c (nI o) (nI (pn o d)) (nI (nn o d)) 0 0 nt = F_X5_takes_99 c 48 c (nI o) (nI (pn o d)) (nI (nn o d)) 0 0 nt := by
          unfold F_X5_takes
          rw [if_neg hno, ie0, if_neg c0]; rfl
        have e4 : F_X1_takes c (nI o) (nI d) (nI 2) nu = bd4 (F_X1_takesNumber c (nI d) 2 nu) (fun r5 x5_done x5_due x5_numbers => if ¬ r5 &&& 1 = r5 then none else some (r5, nI o, x5_done, x5_due, x5_numbers)) := rfl
        rw [e4, e5]
        unfold F_X5_takes_99
        have no4 : (c < nI 48 ∨ nI 50 < c) → F_X1_takesNumber c (nI d) 2 nu = some (0, nI d, 2, nu) := by
          intro q
          unfold F_X1_takesNumber
          rw [if_neg c0]
          by_cases c1 : c < nI 48
          · exact if_pos c1
          · exact (if_neg c1).trans (if_pos (q.resolve_left c1))
        by_cases c1 : c < nI 48 ∨ nI 50 < c
        · exact Or.inl ⟨_, _, _, _, _, _, _, _, _, _, b4 (no4 c1) rfl, b1 (within_0 c1) rfl⟩
        · have c2 : ¬ c < nI 48 := fun q => c1 (Or.inl q)
          have c3 : ¬ nI 50 < c := fun q => c1 (Or.inr q)
          obtain ⟨k, hk, rfl⟩ := rng3 48 2 (by omega) (by omega) c2 c3
          have hv : nI (48 + k) - 48 = nI k := by
            rw [show (48 : Int32) = nI 48 from rfl, pk_sub (by omega)]; congr 1; omega
          have w1 : (48 : Int32) ≤ nI (48 + k) := nI_le (a := 48) (by omega) (by omega)
          have w2 : nI (48 + k) ≤ 50 := nI_le (b := 50) (by omega) (by omega)
          have hki : (nI k).toInt = (k : Int) := nI_toInt (by omega)
          refine Or.inr ⟨o, d + 1, 1, upd nu d (nI k), _, _, _, _, _, upd nt (ps o d) (nI k), b4 (show F_X1_takesNumber (nI (48 + k)) (nI d) 2 nu = some (1, nI (d + 1), 1, upd nu d (nI k)) from ?_) rfl, b1 (within_1 w1 w2) ?_, PR.next h1 h2 h3 (hn.put h2 h3 (by omega) (by omega))⟩
          · unfold F_X1_takesNumber
            rw [if_neg c0, if_neg (show ¬ nI (48 + k) < 48 from c2), if_neg (show ¬ (50 : Int32) < nI (48 + k) from c3), hv]
            exact b4 (keep hd15 _ _ _) rfl
          · rw [ie1, hv]
            exact b4 (put0 (nI k) nt o d h1 h2 h3) rfl
    · -- a figure is due
      have hd15 := nd15 h2 h3
      have e5 : F_X5_takes c (nI o) (nI (pn o d)) (nI (nn o d)) 0 1 nt = F_X5_takes_99 c 49 c (nI o) (nI (pn o d)) (nI (nn o d)) 0 1 nt := by
        unfold F_X5_takes
        rw [if_neg hno, ie0]
        by_cases c0 : c = 45
        · rw [if_pos c0]; rfl
        · rw [if_neg c0]; rfl
      have e4 : F_X1_takes c (nI o) (nI d) (nI 3) nu = bd4 (F_X1_takesFigure c (nI d) 3 nu) (fun r5 x5_done x5_due x5_numbers => if ¬ r5 &&& 1 = r5 then none else some (r5, nI o, x5_done, x5_due, x5_numbers)) := rfl
      rw [e4, e5]
      unfold F_X5_takes_99
      by_cases c1 : c < nI 49 ∨ nI 50 < c
      · refine Or.inl ⟨_, _, _, _, _, _, _, _, _, _, b4 (show F_X1_takesFigure c (nI d) 3 nu = some (0, nI d, 3, nu) from ?_) rfl, b1 (within_0 c1) rfl⟩
        unfold F_X1_takesFigure
        by_cases c2 : c < nI 49
        · exact if_pos c2
        · exact (if_neg c2).trans (if_pos (c1.resolve_left c2))
      · have c2 : ¬ c < nI 49 := fun q => c1 (Or.inl q)
        have c3 : ¬ nI 50 < c := fun q => c1 (Or.inr q)
        obtain ⟨k, hk, rfl⟩ := rng3 49 1 (by omega) (by omega) c2 c3
        have hv : nI (49 + k) - 48 = nI (k + 1) := by
          rw [show (48 : Int32) = nI 48 from rfl, pk_sub (by omega)]; congr 1; omega
        have hv2 : (48 : Int32) - nI (49 + k) = -nI (k + 1) := by
          rcases (show k = 0 ∨ k = 1 by omega) with rfl | rfl <;> rfl
        have w1 : (49 : Int32) ≤ nI (49 + k) := nI_le (a := 49) (by omega) (by omega)
        have w2 : nI (49 + k) ≤ 50 := nI_le (b := 50) (by omega) (by omega)
        have hki : (-nI (k + 1)).toInt = -((k + 1 : Nat) : Int) := by
          rcases (show k = 0 ∨ k = 1 by omega) with rfl | rfl <;> rfl
        refine Or.inr ⟨o, d + 1, 1, upd nu d (-nI (k + 1)), _, _, _, _, _, upd nt (ps o d) (-nI (k + 1)), b4 (show F_X1_takesFigure (nI (49 + k)) (nI d) 3 nu = some (1, nI (d + 1), 1, upd nu d (-nI (k + 1))) from ?_) rfl, b1 (within_1 w1 w2) ?_, PR.next h1 h2 h3 (hn.put h2 h3 (by omega) (by omega))⟩
        · unfold F_X1_takesFigure
          rw [if_neg (show ¬ nI (49 + k) < 49 from c2), if_neg (show ¬ (50 : Int32) < nI (49 + k) from c3), hv2]
          exact b4 (keep hd15 _ _ _) rfl
        · rw [ie1, hv]
          exact b4 (put1 (nI (k + 1)) nt o d h1 h2 h3) rfl
