/-! fractions in their lowest terms, on both sides -/
theorem o_div {a b : Int} (a1 : -9000000000000000000 ≤ a) (a2 : a ≤ 9000000000000000000) (c1 : -9000000000000000000 ≤ b) (c2 : b ≤ 9000000000000000000) : Int64.ofInt a / Int64.ofInt b = Int64.ofInt (a.tdiv b) := by
  have m1 : Int64.minValue.toInt = -9223372036854775808 := by decide
  have m2 : Int64.maxValue.toInt = 9223372036854775807 := by decide
  exact (Int64.ofInt_tdiv (by omega) (by omega) (by omega) (by omega)).symm
theorem o_rest {x y : Int} (x1 : 0 ≤ x) (x2 : x ≤ 9000000000000000000) (y1 : 0 ≤ y) (y2 : y ≤ 9000000000000000000) : Int64.ofInt x - Int64.ofInt x / Int64.ofInt y * Int64.ofInt y = Int64.ofInt (x % y) := by
  rw [o_div (by omega) x2 (by omega) y2, ← Int64.ofInt_mul, ← Int64.ofInt_sub, Int.tdiv_eq_ediv_of_nonneg x1]
  congr 1
  rw [Int.emod_def, Int.mul_comm]
theorem half_mod {y r : Int} (hr : 0 < r) (hry : r < y) : y % r < (y + 1) / 2 := by
  have h1 := Int.emod_lt_of_pos y hr
  have h2 : y % r = y - r * (y / r) := Int.emod_def y r
  have h3 : 1 ≤ y / r := by
    apply (Int.le_ediv_iff_mul_le hr).mpr; omega
  have h4 : r * 1 ≤ r * (y / r) := Int.mul_le_mul_of_nonneg_left h3 (by omega)
  omega
theorem gcd_stop (n c : Nat) (hc : c < 100) (x : Int64) : F_X4_commonDivisor_9 (n + 1) x (Int64.ofInt 0) (nI c) = some x := by
  rw [F_X4_commonDivisor_9, if_neg (show ¬ (100 : Int32) ≤ nI c from nI_ge (b := 100) hc (by omega))]
  rfl
theorem gcd_stop5 (n : Nat) (x : Int64) : F_X5_divisor_28 (n + 1) x (Int64.ofInt 0) = some x := rfl
theorem gcd_step (n c : Nat) (hc : c < 100) {x y : Int} (x1 : 0 ≤ x) (x2 : x ≤ 9000000000000000000) (y1 : 0 < y) (y2 : y ≤ 9000000000000000000) : F_X4_commonDivisor_9 (n + 1) (Int64.ofInt x) (Int64.ofInt y) (nI c) = F_X4_commonDivisor_9 n (Int64.ofInt y) (Int64.ofInt (x % y)) (nI (c + 1)) := by
  have hy : ¬ Int64.ofInt y = 0 := fun q => by have := (o_zero (by omega) y2).mp q; omega
  rw [F_X4_commonDivisor_9, if_neg (show ¬ (100 : Int32) ≤ nI c from nI_ge (b := 100) hc (by omega)), if_neg (fun q => by have := (cmp0 (by omega) y2).mp q; omega), if_neg hy, o_rest x1 x2 (by omega) y2, nI_1]
theorem gcd_step5 (n : Nat) {x y : Int} (x1 : 0 ≤ x) (x2 : x ≤ 9000000000000000000) (y1 : 0 < y) (y2 : y ≤ 9000000000000000000) : F_X5_divisor_28 (n + 1) (Int64.ofInt x) (Int64.ofInt y) = F_X5_divisor_28 n (Int64.ofInt y) (Int64.ofInt (x % y)) := by
  have hy : ¬ Int64.ofInt y = 0 := fun q => by have := (o_zero (by omega) y2).mp q; omega
  rw [F_X5_divisor_28, if_neg (fun q => by have := (cmp0 (by omega) y2).mp q; omega), if_neg hy, o_rest x1 x2 (by omega) y2]
theorem gcd_go : ∀ (k : Nat) (x y : Int) (n m c : Nat), 0 ≤ x → x ≤ 9000000000000000000 → 0 ≤ y → y < 2 ^ k → y ≤ 9000000000000000000 → (x ≠ 0 ∨ y ≠ 0) → 2 * k + 1 ≤ n → 2 * k + 1 ≤ m → c + 2 * k < 100 → ∃ g : Int, 0 < g ∧ g ≤ 9000000000000000000 ∧ F_X4_commonDivisor_9 n (Int64.ofInt x) (Int64.ofInt y) (nI c) = some (Int64.ofInt g) ∧ F_X5_divisor_28 m (Int64.ofInt x) (Int64.ofInt y) = some (Int64.ofInt g) := by
  intro k
  induction k with
  | zero =>
    intro x y n m c x1 x2 y1 y2 y3 hne hn hm hc
    have e : y = 0 := by have : (2 : Int) ^ 0 = 1 := by decide
                         omega
    subst e
    obtain ⟨n, rfl⟩ : ∃ q, n = q + 1 := ⟨n - 1, by omega⟩
    obtain ⟨m, rfl⟩ : ∃ q, m = q + 1 := ⟨m - 1, by omega⟩
    exact ⟨x, by omega, x2, gcd_stop n c (by omega) _, gcd_stop5 m _⟩
  | succ k ih =>
    intro x y n m c x1 x2 y1 y2 y3 hne hn hm hc
    obtain ⟨n, rfl⟩ : ∃ q, n = q + 1 + 1 := ⟨n - 2, by omega⟩
    obtain ⟨m, rfl⟩ : ∃ q, m = q + 1 + 1 := ⟨m - 2, by omega⟩
    by_cases hy : y = 0
    · subst hy
      exact ⟨x, by omega, x2, gcd_stop _ c (by omega) _, gcd_stop5 _ _⟩
    · have hyp : 0 < y := by omega
      rw [gcd_step (n + 1) c (by omega) x1 x2 hyp y3, gcd_step5 (m + 1) x1 x2 hyp y3]
      have r1 := Int.emod_nonneg x hy
      have r2 := Int.emod_lt_of_pos x hyp
      by_cases hr : x % y = 0
      · rw [hr]
        exact ⟨y, hyp, y3, gcd_stop _ (c + 1) (by omega) _, gcd_stop5 _ _⟩
      · have hrp : 0 < x % y := by omega
        rw [gcd_step n (c + 1) (by omega) y1 y3 hrp (by omega), gcd_step5 m y1 y3 hrp (by omega)]
        have s1 := Int.emod_nonneg y hr
        have s2 := half_mod hrp r2
        have e2 : (2 : Int) ^ (k + 1) = 2 ^ k * 2 := Int.pow_succ _ _
        exact ih (x % y) (y % (x % y)) n m (c + 2) (by omega) (by omega) s1 (by omega) (by omega) (Or.inl hr) (by omega) (by omega) (by omega)
theorem o_neg (z : Int) : -Int64.ofInt z = Int64.ofInt (-z) := (Int64.ofInt_neg z).symm
theorem o_pos {z : Int} (h1 : -9000000000000000000 ≤ z) (h2 : z ≤ 9000000000000000000) : (0 : Int64) < Int64.ofInt z ↔ 0 < z := by
  rw [l_lt, o_toInt h1 h2]; exact Iff.rfl
theorem cmpge {z : Int} (h1 : -9000000000000000000 ≤ z) (h2 : z ≤ 9000000000000000000) : 0 ≤ lg_cmp (Int64.ofInt z) 0 ↔ 0 ≤ z := by
  have h := cmpl (c := 0) h1 h2 (by omega) (by omega)
  rw [show Int64.ofInt 0 = (0 : Int64) from rfl] at h
  rw [i_lt] at h
  rw [i_le]
  have e : (0 : Int32).toInt = 0 := rfl
  omega
theorem abs4 {z : Int} (h1 : -9000000000000000000 ≤ z) (h2 : z ≤ 9000000000000000000) : (if 0 < Int64.ofInt z then Int64.ofInt z else -Int64.ofInt z) = Int64.ofInt (z.natAbs : Int) := by
  have h := o_pos h1 h2
  by_cases c : 0 < z
  · rw [if_pos (h.mpr c)]; congr 1; omega
  · rw [if_neg (fun q => c (h.mp q)), o_neg]; congr 1; omega
theorem div5 {a b : Int} (a1 : -9000000000000000000 ≤ a) (a2 : a ≤ 9000000000000000000) (c1 : -9000000000000000000 ≤ b) (c2 : b ≤ 9000000000000000000) : F_X5_divisor (Int64.ofInt a) (Int64.ofInt b) = F_X5_divisor_28 3000 (Int64.ofInt (a.natAbs : Int)) (Int64.ofInt (b.natAbs : Int)) := by
  have ha := cmpge a1 a2
  have hb := cmpge c1 c2
  have inner : ∀ s : Int64, F_X5_divisor_12 s (Int64.ofInt b) = F_X5_divisor_28 3000 s (Int64.ofInt (b.natAbs : Int)) := by
    intro s
    unfold F_X5_divisor_12 F_X5_divisor_26
    by_cases c : 0 ≤ b
    · rw [if_pos (hb.mpr c)]; congr 2; omega
    · rw [if_neg (fun q => c (hb.mp q)), o_neg]; congr 2; omega
  unfold F_X5_divisor
  by_cases c : 0 ≤ a
  · rw [if_pos (ha.mpr c), inner]; congr 2; omega
  · rw [if_neg (fun q => c (ha.mp q)), inner, o_neg]; congr 2; omega
theorem quot_ev (a : Int64) {b : Int64} (hb : ¬ b = 0) : F_X4_quotient a b = some (a / b) := by
  unfold F_X4_quotient
  have hc : ¬ lg_cmp b 0 = 0 := by
    intro q
    unfold lg_cmp at q
    revert q
    split
    · intro q; exact absurd q (by decide)
    · intro q; exact absurd q (by decide)
  rw [if_neg hc, if_neg hb]
theorem frac_eq {a b : Int} (a1 : -9000000000000000000 ≤ a) (a2 : a ≤ 9000000000000000000) (hb : b ≠ 0) (c1 : -1000000 ≤ b) (c2 : b ≤ 1000000) (w : Int32) : ∃ q, F_X4_fraction (Int64.ofInt a) (Int64.ofInt b) w = some q ∧ F_X5_lowest (Int64.ofInt a) (Int64.ofInt b) w = some q := by
  have p20 : (2 : Int) ^ 20 = 1048576 := by decide
  obtain ⟨g, g1, g2, e4, e5⟩ := gcd_go 20 (a.natAbs : Int) (b.natAbs : Int) 3000 3000 0 (by omega) (by omega) (by omega) (by omega) (by omega) (Or.inr (by omega)) (by omega) (by omega) (by omega)
  have hg : ¬ Int64.ofInt g = 0 := fun q => by have := (o_zero (by omega) g2).mp q; omega
  have hg' : ¬ -Int64.ofInt g = 0 := fun q => by rw [o_neg] at q; have := (o_zero (by omega) (by omega)).mp q; omega
  have key : ∀ s : Int64, ¬ s = 0 → ∃ q, F_X4_fraction_27 s (Int64.ofInt a) (Int64.ofInt b) w = some q ∧ F_X5_lowest_21 s (Int64.ofInt a) (Int64.ofInt b) w = some q := by
    intro s hs
    unfold F_X4_fraction_27 F_X5_lowest_21 F_X4_fraction_39
    by_cases c : w = 0
    · rw [if_pos c, if_pos c, if_neg hs]
      exact ⟨_, b1 (quot_ev _ hs) rfl, rfl⟩
    · rw [if_neg c, if_neg c, if_neg hs]
      exact ⟨_, b1 (quot_ev _ hs) rfl, rfl⟩
  unfold F_X4_fraction F_X5_lowest
  rw [abs4 a1 a2, abs4 (by omega) (by omega), div5 a1 a2 (by omega) (by omega)]
  have e4' : F_X4_commonDivisor (Int64.ofInt (a.natAbs : Int)) (Int64.ofInt (b.natAbs : Int)) = some (Int64.ofInt g) := e4
  rw [e4', e5]
  by_cases c : 0 ≤ lg_cmp (Int64.ofInt b) 0
  · obtain ⟨q, k1, k2⟩ := key _ hg
    exact ⟨q, b1 rfl (by rw [if_pos c]; exact k1), b1 rfl (by rw [if_pos c]; exact k2)⟩
  · obtain ⟨q, k1, k2⟩ := key _ hg'
    exact ⟨q, b1 rfl (by rw [if_neg c]; exact k1), b1 rfl (by rw [if_neg c]; exact k2)⟩
