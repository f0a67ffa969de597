/-! plans: the class -/
theorem nI_O (n : Nat) : nI n = Int32.ofInt (n : Int) := (Int32.ofInt_eq_ofNat).symm
theorem iO_toInt {z : Int} (h1 : -100000 ≤ z) (h2 : z ≤ 100000) : (Int32.ofInt z).toInt = z := by
  rw [Int32.toInt_ofInt]
  rw [Int.bmod_eq_of_le] <;> simp <;> omega
theorem iO_64 {z : Int} (h1 : -100000 ≤ z) (h2 : z ≤ 100000) : (Int32.ofInt z).toInt64 = Int64.ofInt z := by
  rw [t64, iO_toInt h1 h2]
theorem lO_32 (z : Int) : (Int64.ofInt z).toInt32 = Int32.ofInt z := by simp
theorem nIs {a b : Nat} (h : b ≤ a) : nI a - nI b = nI (a - b) := by
  have e := nI_add (a - b) b
  rw [Nat.sub_add_cancel h] at e
  rw [← e]
  exact Int32.add_sub_cancel _ _
theorem nI_div {a b : Nat} (ha : a < 2 ^ 31) (hb : b < 2 ^ 31) : nI a / nI b = nI (a / b) := by
  have m1 : Int32.minValue.toInt = -2147483648 := by decide
  have m2 : Int32.maxValue.toInt = 2147483647 := by decide
  rw [nI_O, nI_O, nI_O, ← Int32.ofInt_tdiv (by omega) (by omega) (by omega) (by omega)]
  rfl
theorem nI_mulN (a b : Nat) : nI a * nI b = nI (a * b) := by
  simp only [nI, ← Int32.ofNat_mul]
theorem nI_rest {a b : Nat} (ha : a < 2 ^ 31) (hb : b < 2 ^ 31) : nI a - nI a / nI b * nI b = nI (a % b) := by
  have h := Nat.div_add_mod a b
  have h2 : a / b * b ≤ a := Nat.div_mul_le_self a b
  rw [nI_div ha hb, nI_mulN, nIs h2]
  congr 1
  have h3 : b * (a / b) = a / b * b := Nat.mul_comm _ _
  omega
theorem nI_subO (a b : Nat) : nI a - nI b = Int32.ofInt ((a : Int) - b) := by
  rw [nI_O, nI_O, ← Int32.ofInt_sub]
theorem in6 {k : Nat} (hk : k < 6) : ¬ (nI k < 0 ∨ 6 ≤ (nI k).toNatClampNeg) := nI_in hk (by omega)
theorem nI_n0 (k : Nat) (hk : k < 1000) : ¬ nI k < 0 := fun q => by
  rw [i_lt, nI_O, iO_toInt (by omega) (by omega)] at q
  have e : (0 : Int32).toInt = 0 := rfl
  omega
theorem nI_pos0 {k : Nat} (h0 : 1 ≤ k) (hk : k < 1000) : ¬ nI k ≤ 0 := fun q => by
  rw [i_le, nI_O, iO_toInt (by omega) (by omega)] at q
  have e : (0 : Int32).toInt = 0 := rfl
  omega
theorem nI_nz {k : Nat} (h0 : 1 ≤ k) (hk : k < 1000) : ¬ nI k = 0 := fun q => nI_pos0 h0 hk (by rw [q]; decide)
theorem st_go {F L : Nat} (hF : F = 2 * L + 1) (hL : L ≤ 5) (tr : Int32) : ∀ (f N n : Nat) (inp : Nat → Int32), f ≤ 6 → f < n → N < 100000 → ∃ inp2, F_X2_setTried_10 n (nI F) (nI N) (nI f - 1) (nI L) tr inp = some inp2 ∧ ∀ i, inp2 i = if i < f then Int32.ofInt (dg F L f N i) else inp i := by
  intro f
  induction f with
  | zero =>
    intro N n inp _ hn _
    obtain ⟨n, rfl⟩ : ∃ q, n = q + 1 := ⟨n - 1, by omega⟩
    exact ⟨inp, by rw [F_X2_setTried_10, if_pos (show nI 0 - 1 < 0 by decide)], fun i => by rw [if_neg (by omega)]⟩
  | succ f ih =>
    intro N n inp hf hn hN
    obtain ⟨n, rfl⟩ : ∃ q, n = q + 1 := ⟨n - 1, by omega⟩
    have e1 : nI (f + 1) - 1 = nI f := nIs (b := 1) (by omega)
    have e2 : nI f + (-1 : Int32) = nI f - 1 := by rw [Int32.sub_eq_add_neg]
    have hFp : 1 ≤ F ∧ F < 1000 := by omega
    obtain ⟨inp2, e, h⟩ := ih (N / F) n (upd inp f (Int32.ofInt (((N % F : Nat) : Int) - (L : Int)))) (by omega) (by omega) (Nat.lt_of_le_of_lt (Nat.div_le_self N F) hN)
    refine ⟨inp2, ?_, fun i => ?_⟩
    · rw [F_X2_setTried_10, e1, if_neg (nI_n0 f (by omega)), if_neg (nI_pos0 hFp.1 hFp.2), if_neg (nI_nz hFp.1 hFp.2), if_neg (in6 (by omega)), if_neg (nI_nz hFp.1 hFp.2), nI_rest (by omega) (by omega), nI_div (by omega) (by omega), clk (by omega), nI_subO, e2]
      exact e
    · rw [h i]
      show (if i < f then _ else (if i = f then _ else inp i)) = _
      by_cases c : i < f
      · rw [if_pos c, if_pos (show i < f + 1 by omega)]
        show _ = Int32.ofInt (if i = f then _ else dg F L f (N / F) i)
        rw [if_neg (show ¬ i = f by omega)]
      · rw [if_neg c]
        by_cases d : i = f
        · rw [if_pos d, if_pos (show i < f + 1 by omega)]
          show _ = Int32.ofInt (if i = f then _ else dg F L f (N / F) i)
          rw [if_pos d]
        · rw [if_neg d, if_neg (show ¬ i < f + 1 by omega)]
def selS (s0 s1 s2 : Nat → Int64) (a : Nat) : Nat → Int64 := if a = 0 then s0 else if a = 1 then s1 else s2
theorem yv_bd {to : Nat → Int32} (hc : CB to) {S : Nat → Int} (hS : Bd 1000000 S) {n : Nat} (hn : n ≤ 6) {u : Nat → Int} : ∀ f, f ≤ 6 → (∀ i, i < f → -5 ≤ u i ∧ u i ≤ 5) → Bd (46656000000 + (f : Int) * 77760) (yv to S n u f)
  | 0, _, _ => by
    refine (gn_bd hc false hS n).mono ?_
    rcases (show n = 0 ∨ n = 1 ∨ n = 2 ∨ n = 3 ∨ n = 4 ∨ n = 5 ∨ n = 6 by omega) with rfl | rfl | rfl | rfl | rfl | rfl | rfl <;> decide
  | f + 1, hf, hu => by
    intro k hk
    have a := yv_bd hc hS hn f (by omega) (fun i hi => hu i (by omega)) k hk
    have hr : Bd 15552 (Rw false to (n - 1 - f)) := by
      refine (gn_bd hc false (pu_bd hc false) (n - 1 - f)).mono ?_
      rcases (show n - 1 - f = 0 ∨ n - 1 - f = 1 ∨ n - 1 - f = 2 ∨ n - 1 - f = 3 ∨ n - 1 - f = 4 ∨ n - 1 - f = 5 by omega) with e | e | e | e | e | e <;> rw [e] <;> decide
    have b := mb (hu f (by omega)).1 (hu f (by omega)).2 (hr k hk).1 (hr k hk).2
    show _ ≤ yv to S n u f k + u f * Rw false to (n - 1 - f) k ∧ yv to S n u f k + u f * Rw false to (n - 1 - f) k ≤ _
    have e : ((f + 1 : Nat) : Int) = (f : Int) + 1 := by omega
    rw [e]
    omega
/-- all that a try of n ticks needs -/
def PX (to : Nat → Int32) (B : Nat → Nat → Int) (rk n t b : Nat) (S : Nat → Int) : Prop := Bs to rk B ∧ n = t + b ∧ b = min n rk ∧ n ≤ 6 ∧ t ≤ 3 ∧ Bd 1000000 S ∧ CB to ∧ (∀ r, Bd 1728 (sq B r)) ∧ -10368 ≤ DT (B 0) (B 1) (B 2) ∧ DT (B 0) (B 1) (B 2) ≤ 10368
theorem PX.cy {to : Nat → Int32} {B : Nat → Nat → Int} {rk n t b : Nat} {S : Nat → Int} (h : PX to B rk n t b S) {u : Nat → Int} {f : Nat} (hf : f ≤ 6) (hu : ∀ i, i < f → -5 ≤ u i ∧ u i ≤ 5) (r : Nat) : -300000000000000 ≤ cB B r (yv to S n u f) ∧ cB B r (yv to S n u f) ≤ 300000000000000 := by
  obtain ⟨-, -, -, h6, -, hS, hc, hq, -, -⟩ := h
  have a := yv_bd hc hS h6 f hf hu
  have a2 : Bd 50000000000 (yv to S n u f) := a.mono (by omega)
  have := dot_bd (hq r) a2
  unfold cB
  omega
theorem PX.opn {to : Nat → Int32} {B : Nat → Nat → Int} {rk n t b : Nat} {S : Nat → Int} (h : PX to B rk n t b S) (u : Nat → Int) {r : Nat} (h1 : b ≤ r) (hr : r < 3) : cB B r (yv to S n u t) = cB B r (gn false to n S) := by
  obtain ⟨hB, e1, e2, -⟩ := h
  by_cases c : t = 0
  · subst c; rfl
  · exact cB_free hB S n u (by omega) hr t
theorem rf_21 {to : Nat → Int32} {B : Nat → Nat → Int} {rk n t b : Nat} {S : Nat → Int} (hX : PX to B rk n t b S) (k2 : Int64 → Int32 → Int32 → Int32 → Int32 → (Nat → Int64) → (Nat → Int32) → (Nat → Int64) → (Nat → Int64) → (Nat → Int64) → Option (Int32 × (Nat → Int32))) (D : Int64) {row : Nat} (hrow : row < 3) (li : Int32) (due s0 s1 s2 : Nat → Int64) {inp : Nat → Int32} {u : Nat → Int} (hu : ∀ i, i < t → inp i = Int32.ofInt (u i) ∧ -5 ≤ u i ∧ u i ≤ 5) (hs : ∀ a, a < t → selS s0 s1 s2 a row = Int64.ofInt (cB B row (Rw false to (n - 1 - a)))) : ∀ (m a f : Nat), a + m = t → m < f → F_X2_restFits_21 k2 f D (nI row) (Int64.ofInt (-(cB B row (yv to S n u a)))) (nI a) li (nI t) (nI b) due inp s0 s1 s2 = F_X2_restFits_21 k2 1 D (nI row) (Int64.ofInt (-(cB B row (yv to S n u t)))) (nI t) li (nI t) (nI b) due inp s0 s1 s2 := by
  intro m
  induction m with
  | zero =>
    intro a f ha hf
    obtain ⟨f, rfl⟩ : ∃ q, f = q + 1 := ⟨f - 1, by omega⟩
    have e : a = t := by omega
    subst e
    rw [F_X2_restFits_21, if_pos (nI_le (Nat.le_refl _) (by have := hX.2.2.2.2.1; omega)), show (1 : Nat) = 0 + 1 from rfl, F_X2_restFits_21, if_pos (nI_le (Nat.le_refl _) (by have := hX.2.2.2.2.1; omega))]
  | succ m ih =>
    intro a f ha hf
    obtain ⟨f, rfl⟩ : ∃ q, f = q + 1 := ⟨f - 1, by omega⟩
    have ht3 := hX.2.2.2.2.1
    obtain ⟨hi, u1, u2⟩ := hu a (by omega)
    have hs' := hs a (by omega)
    have e := ih (a + 1) f (by omega) (by omega)
    have acc : Int64.ofInt (-(cB B row (yv to S n u a))) - (inp a).toInt64 * selS s0 s1 s2 a row = Int64.ofInt (-(cB B row (yv to S n u (a + 1)))) := by
      rw [hi, hs', iO_64 (by omega) (by omega), ← Int64.ofInt_mul, ← Int64.ofInt_sub, cB_y]
      congr 1; omega
    rw [← e, F_X2_restFits_21, if_neg (nI_ge (by omega) (by omega)), if_neg (in6 (by omega)), if_neg (in3 hrow), if_neg (in3 hrow), if_neg (in3 hrow), clk (show a < 1000 by omega), clk (show row < 1000 by omega), nI_1]
    rcases (show a = 0 ∨ a = 1 ∨ a = 2 by omega) with rfl | rfl | rfl
    · rw [if_pos (show nI 0 = 0 from rfl), ← acc]; rfl
    · rw [if_neg (show ¬ nI 1 = 0 by decide), if_pos (show nI 1 = 1 from rfl), ← acc]; rfl
    · rw [if_neg (show ¬ nI 2 = 0 by decide), if_neg (show ¬ nI 2 = 1 by decide), if_pos (show nI 2 = 2 from rfl), ← acc]; rfl
theorem cmpe {z c : Int} (h1 : -9000000000000000000 ≤ z) (h2 : z ≤ 9000000000000000000) (c1 : -9000000000000000000 ≤ c) (c2 : c ≤ 9000000000000000000) : lg_cmp (Int64.ofInt z) (Int64.ofInt c) = 0 ↔ z = c := by
  have a := cmple h1 h2 c1 c2
  have b := cmpl h1 h2 c1 c2
  rw [i_le] at a
  rw [i_lt] at b
  rw [i_eq]
  have e : (0 : Int32).toInt = 0 := rfl
  omega
theorem lim_m {L : Nat} (hL : L ≤ 5) : (-(nI L)).toInt64 = Int64.ofInt (-(L : Int)) := by
  rw [nI_O, ← Int32.ofInt_neg, iO_64 (by omega) (by omega)]
theorem lim_p {L : Nat} (hL : L ≤ 5) : (nI L).toInt64 = Int64.ofInt (L : Int) := by
  rw [nI_O, iO_64 (by omega) (by omega)]
theorem tdiv_ex {W D : Int} (hD : D ≠ 0) : (∃ q, W = D * q) ↔ W.tdiv D * D = W := by
  constructor
  · rintro ⟨q, rfl⟩
    rw [Int.mul_tdiv_cancel_left q hD, Int.mul_comm]
  · intro h
    exact ⟨W.tdiv D, by rw [Int.mul_comm]; exact h.symm⟩
theorem tdiv_bd {W D N : Int} (h1 : -N ≤ W) (h2 : W ≤ N) : -N ≤ W.tdiv D ∧ W.tdiv D ≤ N := by
  have h : (W.tdiv D).natAbs ≤ W.natAbs := by
    rw [Int.natAbs_tdiv]
    exact Nat.div_le_self _ _
  omega
/-- one quotient that must be whole and within the limit, on either side -/
theorem q_case {W D : Int} {L : Nat} (hL : L ≤ 5) (hD : D ≠ 0) (d1 : -20000 ≤ D) (d2 : D ≤ 20000) (w1 : -300000000000000 ≤ W) (w2 : W ≤ 300000000000000) : (∃ q, W = D * q ∧ -(L : Int) ≤ q ∧ q ≤ L ∧ Int64.ofInt W / Int64.ofInt D = Int64.ofInt q ∧ lg_cmp (Int64.ofInt q * Int64.ofInt D) (Int64.ofInt W) = 0 ∧ ¬ lg_cmp (Int64.ofInt q) (-(nI L)).toInt64 < 0 ∧ lg_cmp (Int64.ofInt q) (nI L).toInt64 ≤ 0) ∨ ((¬ ∃ q, W = D * q ∧ -(L : Int) ≤ q ∧ q ≤ L) ∧ (¬ lg_cmp (Int64.ofInt W / Int64.ofInt D * Int64.ofInt D) (Int64.ofInt W) = 0 ∨ lg_cmp (Int64.ofInt W / Int64.ofInt D) (-(nI L)).toInt64 < 0 ∨ ¬ lg_cmp (Int64.ofInt W / Int64.ofInt D) (nI L).toInt64 ≤ 0)) := by
  have ed := o_div (a := W) (b := D) (by omega) (by omega) (by omega) (by omega)
  have tb := tdiv_bd (D := D) w1 w2
  by_cases hdv : W.tdiv D * D = W
  · by_cases hlo : W.tdiv D < -(L : Int)
    · right
      refine ⟨?_, Or.inr (Or.inl ?_)⟩
      · rintro ⟨q, hq, q1, q2⟩
        rw [hq, Int.mul_tdiv_cancel_left q hD] at hlo
        omega
      · rw [ed, lim_m hL, cmpl (by omega) (by omega) (by omega) (by omega)]; exact hlo
    · by_cases hhi : (L : Int) < W.tdiv D
      · right
        refine ⟨?_, Or.inr (Or.inr ?_)⟩
        · rintro ⟨q, hq, q1, q2⟩
          rw [hq, Int.mul_tdiv_cancel_left q hD] at hhi
          omega
        · rw [ed, lim_p hL, cmple (by omega) (by omega) (by omega) (by omega)]; omega
      · left
        refine ⟨W.tdiv D, by rw [Int.mul_comm]; exact hdv.symm, by omega, by omega, ed, ?_, ?_, ?_⟩
        · rw [← Int64.ofInt_mul, hdv]
          exact (cmpe (by omega) (by omega) (by omega) (by omega)).mpr rfl
        · rw [lim_m hL, cmpl (by omega) (by omega) (by omega) (by omega)]; exact hlo
        · rw [lim_p hL, cmple (by omega) (by omega) (by omega) (by omega)]; omega
  · right
    refine ⟨fun ⟨q, hq, _⟩ => hdv ((tdiv_ex hD).mp ⟨q, hq⟩), Or.inl ?_⟩
    rw [ed, ← Int64.ofInt_mul]
    intro q
    have hb : -(300000000000000 * 20000) ≤ W.tdiv D * D ∧ W.tdiv D * D ≤ 300000000000000 * 20000 := mb tb.1 tb.2 d1 d2
    exact hdv ((cmpe (by omega) (by omega) (by omega) (by omega)).mp q)
theorem rf_ex {D : Int} (hD : D ≠ 0) (d1 : -20000 ≤ D) (d2 : D ≤ 20000) (k2 : Int64 → Int32 → Int32 → Int32 → Int32 → (Nat → Int64) → (Nat → Int32) → (Nat → Int64) → (Nat → Int64) → (Nat → Int64) → Option (Int32 × (Nat → Int32))) {row t b L : Nat} (hL : L ≤ 5) (hrow : row < b) (hn : t + b ≤ 6) (due s0 s1 s2 : Nat → Int64) (inp : Nat → Int32) {W : Int} (w1 : -300000000000000 ≤ W) (w2 : W ≤ 300000000000000) : (∃ q, W = D * q ∧ -(L : Int) ≤ q ∧ q ≤ L ∧ F_X2_restFits_21 k2 1 (Int64.ofInt D) (nI row) (Int64.ofInt W) (nI t) (nI L) (nI t) (nI b) due inp s0 s1 s2 = k2 (Int64.ofInt D) (nI (row + 1)) (nI L) (nI t) (nI b) due (upd inp (t + b - 1 - row) (Int32.ofInt q)) s0 s1 s2) ∨ ((¬ ∃ q, W = D * q ∧ -(L : Int) ≤ q ∧ q ≤ L) ∧ F_X2_restFits_21 k2 1 (Int64.ofInt D) (nI row) (Int64.ofInt W) (nI t) (nI L) (nI t) (nI b) due inp s0 s1 s2 = some (0, inp)) := by
  have hDn : ¬ Int64.ofInt D = 0 := fun e => hD ((o_zero (by omega) (by omega)).mp e)
  have e1 : nI t + nI b - 1 - nI row = nI (t + b - 1 - row) := by
    rw [nI_add, show (1 : Int32) = nI 1 from rfl, nIs (by omega), nIs (by omega)]
  rw [show (1 : Nat) = 0 + 1 from rfl, F_X2_restFits_21, if_pos (nI_le (Nat.le_refl _) (by omega)), quot_ev _ hDn, e1]
  rcases q_case hL hD d1 d2 w1 w2 with ⟨q, hq, q1, q2, ed, c1, c2, c3⟩ | ⟨hno, hc⟩
  · left
    refine ⟨q, hq, q1, q2, ?_⟩
    refine b1 rfl ?_
    rw [ed, if_pos c1, if_neg c2, if_pos c3, if_neg (in6 (by omega)), clk (by omega), lO_32, nI_1]
  · right
    refine ⟨hno, ?_⟩
    refine b1 rfl ?_
    rcases hc with h | h | h
    · rw [if_neg h]
    · by_cases h0 : lg_cmp (Int64.ofInt W / Int64.ofInt D * Int64.ofInt D) (Int64.ofInt W) = 0
      · rw [if_pos h0, if_pos h]
      · rw [if_neg h0]
    · by_cases h0 : lg_cmp (Int64.ofInt W / Int64.ofInt D * Int64.ofInt D) (Int64.ofInt W) = 0
      · rw [if_pos h0]
        by_cases h1 : lg_cmp (Int64.ofInt W / Int64.ofInt D) (-(nI L)).toInt64 < 0
        · rw [if_pos h1]
        · rw [if_neg h1, if_neg h]
      · rw [if_neg h0]
