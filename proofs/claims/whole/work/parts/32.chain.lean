/-! REACH or SIGHT, as Chain.build lays it -/
theorem b2 {A B R : Type} {x : Option (A × B)} {f : A → B → Option R} {a : A} {b : B} {r : Option R} (hx : x = some (a, b)) (h : f a b = r) : bd2 x f = r := by rw [hx]; exact h
theorem b3 {A B C R : Type} {x : Option (A × B × C)} {f : A → B → C → Option R} {a : A} {b : B} {c : C} {r : Option R} (hx : x = some (a, b, c)) (h : f a b c = r) : bd3 x f = r := by rw [hx]; exact h
theorem b5 {A B C D E R : Type} {x : Option (A × B × C × D × E)} {f : A → B → C → D → E → Option R} {a : A} {b : B} {c : C} {d : D} {e : E} {r : Option R} (hx : x = some (a, b, c, d, e)) (h : f a b c d e = r) : bd5 x f = r := by rw [hx]; exact h
theorem mb {a b A B : Int} (h1 : -A ≤ a) (h2 : a ≤ A) (h3 : -B ≤ b) (h4 : b ≤ B) : -(A * B) ≤ a * b ∧ a * b ≤ A * B := by
  have hA : 0 ≤ A := by omega
  have hB : 0 ≤ B := by omega
  have e1 : a.natAbs ≤ A.toNat := by omega
  have e2 : b.natAbs ≤ B.toNat := by omega
  have e3 := Nat.mul_le_mul e1 e2
  rw [← Int.natAbs_mul] at e3
  have e4 : ((A.toNat * B.toNat : Nat) : Int) = A * B := by
    rw [Int.natCast_mul, Int.toNat_of_nonneg hA, Int.toNat_of_nonneg hB]
  have e5 : ((a * b).natAbs : Int) ≤ A * B := by rw [← e4]; exact Int.ofNat_le.mpr e3
  omega
def Bd (M : Int) (v : Nat → Int) : Prop := ∀ k, k < 3 → -M ≤ v k ∧ v k ≤ M
def CB (ce : Nat → Int32) : Prop := ∀ k, k < 15 → -2 ≤ (ce k).toInt ∧ (ce k).toInt ≤ 2
theorem en_bd {ce : Nat → Int32} (h : CB ce) (x : Bool) {i j : Nat} (hi : i < 3) (hj : j < 3) : -2 ≤ en x ce i j ∧ en x ce i j ≤ 2 := by
  unfold en
  cases x
  · exact h (3 * i + j) (by omega)
  · exact h (3 * j + i) (by omega)
theorem pu_bd {ce : Nat → Int32} (h : CB ce) (x : Bool) : Bd 2 (pu x ce) := by
  intro k hk
  unfold pu
  cases x
  · exact h (9 + k) (by omega)
  · exact h (12 + k) (by omega)
theorem go1_bd {ce : Nat → Int32} (h : CB ce) (x : Bool) {M : Int} {v : Nat → Int} (hv : Bd M v) : Bd (6 * M) (go1 x ce v) := by
  intro k hk
  have e0 := en_bd h x hk (show 0 < 3 by omega)
  have e1 := en_bd h x hk (show 1 < 3 by omega)
  have e2 := en_bd h x hk (show 2 < 3 by omega)
  have v0 := hv 0 (by omega)
  have v1 := hv 1 (by omega)
  have v2 := hv 2 (by omega)
  have m0 := mb e0.1 e0.2 v0.1 v0.2
  have m1 := mb e1.1 e1.2 v1.1 v1.2
  have m2 := mb e2.1 e2.2 v2.1 v2.2
  unfold go1
  omega
theorem gn_bd {ce : Nat → Int32} (h : CB ce) (x : Bool) {M : Int} {v : Nat → Int} (hv : Bd M v) : ∀ t : Nat, Bd (6 ^ t * M) (gn x ce t v)
  | 0 => by rw [show (6 : Int) ^ 0 * M = M by simp]; exact hv
  | t + 1 => by
    have := go1_bd h x (gn_bd h x hv t)
    rw [show (6 : Int) ^ (t + 1) * M = 6 * (6 ^ t * M) by rw [Int.pow_succ, Int.mul_comm (6 ^ t) 6, Int.mul_assoc]]
    exact this
theorem R0_bd {ce : Nat → Int32} (h : CB ce) (x : Bool) : Bd 2 (Rw x ce 0) := pu_bd h x
theorem R1_bd {ce : Nat → Int32} (h : CB ce) (x : Bool) : Bd 12 (Rw x ce 1) := go1_bd h x (pu_bd h x)
theorem R2_bd {ce : Nat → Int32} (h : CB ce) (x : Bool) : Bd 72 (Rw x ce 2) := go1_bd h x (go1_bd h x (pu_bd h x))
theorem dot_bd {M N : Int} {u v : Nat → Int} (hu : Bd M u) (hv : Bd N v) : -(3 * (M * N)) ≤ dotI u v ∧ dotI u v ≤ 3 * (M * N) := by
  have m0 := mb (hu 0 (by omega)).1 (hu 0 (by omega)).2 (hv 0 (by omega)).1 (hv 0 (by omega)).2
  have m1 := mb (hu 1 (by omega)).1 (hu 1 (by omega)).2 (hv 1 (by omega)).1 (hv 1 (by omega)).2
  have m2 := mb (hu 2 (by omega)).1 (hu 2 (by omega)).2 (hv 2 (by omega)).1 (hv 2 (by omega)).2
  unfold dotI
  omega
theorem cr_bd {M N : Int} {u v : Nat → Int} (hu : Bd M u) (hv : Bd N v) : Bd (2 * (M * N)) (cr u v) := by
  have m01 := mb (hu 0 (by omega)).1 (hu 0 (by omega)).2 (hv 1 (by omega)).1 (hv 1 (by omega)).2
  have m02 := mb (hu 0 (by omega)).1 (hu 0 (by omega)).2 (hv 2 (by omega)).1 (hv 2 (by omega)).2
  have m10 := mb (hu 1 (by omega)).1 (hu 1 (by omega)).2 (hv 0 (by omega)).1 (hv 0 (by omega)).2
  have m12 := mb (hu 1 (by omega)).1 (hu 1 (by omega)).2 (hv 2 (by omega)).1 (hv 2 (by omega)).2
  have m20 := mb (hu 2 (by omega)).1 (hu 2 (by omega)).2 (hv 0 (by omega)).1 (hv 0 (by omega)).2
  have m21 := mb (hu 2 (by omega)).1 (hu 2 (by omega)).2 (hv 1 (by omega)).1 (hv 1 (by omega)).2
  intro k hk
  match k, hk with
  | 0, _ => show _ ≤ u 1 * v 2 - u 2 * v 1 ∧ u 1 * v 2 - u 2 * v 1 ≤ _; omega
  | 1, _ => show _ ≤ u 2 * v 0 - u 0 * v 2 ∧ u 2 * v 0 - u 0 * v 2 ≤ _; omega
  | 2, _ => show _ ≤ u 0 * v 1 - u 1 * v 0 ∧ u 0 * v 1 - u 1 * v 0 ≤ _; omega
theorem Bd.mono {M N : Int} {v : Nat → Int} (h : Bd M v) (hMN : M ≤ N) : Bd N v := fun k hk => by
  have := h k hk
  omega
theorem un_bd (a : Nat) : Bd 1 (un a) := by
  intro k _
  unfold un
  by_cases h : k = a
  · rw [if_pos h]; omega
  · rw [if_neg h]; omega
theorem fnz0 (n : Nat) (f : Nat → Int64) : F_X4_firstNotZero_2 (n + 1) 0 f = if lg_cmp (f 0) 0 = 0 then F_X4_firstNotZero_2 n 1 f else some 0 := rfl
theorem fnz1 (n : Nat) (f : Nat → Int64) : F_X4_firstNotZero_2 (n + 1) 1 f = if lg_cmp (f 1) 0 = 0 then F_X4_firstNotZero_2 n 2 f else some 1 := rfl
theorem fnz2 (n : Nat) (f : Nat → Int64) : F_X4_firstNotZero_2 (n + 1) 2 f = if lg_cmp (f 2) 0 = 0 then F_X4_firstNotZero_2 n 3 f else some 2 := rfl
theorem fnz3 (n : Nat) (f : Nat → Int64) : F_X4_firstNotZero_2 (n + 1) 3 f = some (nI 3) := rfl
/-- the first place that isn't 0 -/
theorem fnz {f : Nat → Int64} {v : Nat → Int} (hf : rp f v) {M : Int} (hM : M ≤ 9000000000000000000) (hb : Bd M v) : (∃ a : Nat, a < 3 ∧ v a ≠ 0 ∧ (∀ b, b < a → v b = 0) ∧ F_X4_firstNotZero f = some (nI a)) ∨ ((∀ b, b < 3 → v b = 0) ∧ F_X4_firstNotZero f = some (nI 3)) := by
  have z0 := hb 0 (by omega)
  have z1 := hb 1 (by omega)
  have z2 := hb 2 (by omega)
  have c0 := cmp0 (z := v 0) (by omega) (by omega)
  have c1 := cmp0 (z := v 1) (by omega) (by omega)
  have c2 := cmp0 (z := v 2) (by omega) (by omega)
  rw [← hf.1] at c0
  rw [← hf.2.1] at c1
  rw [← hf.2.2] at c2
  have s0 : F_X4_firstNotZero f = if lg_cmp (f 0) 0 = 0 then F_X4_firstNotZero_2 2999 1 f else some 0 := fnz0 2999 f
  have s1 : F_X4_firstNotZero_2 2999 1 f = if lg_cmp (f 1) 0 = 0 then F_X4_firstNotZero_2 2998 2 f else some 1 := fnz1 2998 f
  have s2 : F_X4_firstNotZero_2 2998 2 f = if lg_cmp (f 2) 0 = 0 then F_X4_firstNotZero_2 2997 3 f else some 2 := fnz2 2997 f
  have s3 : F_X4_firstNotZero_2 2997 3 f = some (nI 3) := fnz3 2996 f
  by_cases h0 : v 0 = 0
  · by_cases h1 : v 1 = 0
    · by_cases h2 : v 2 = 0
      · right
        refine ⟨fun b hb2 => ?_, ?_⟩
        · match b, hb2 with
          | 0, _ => exact h0
          | 1, _ => exact h1
          | 2, _ => exact h2
        · rw [s0, if_pos (c0.mpr h0), s1, if_pos (c1.mpr h1), s2, if_pos (c2.mpr h2), s3]
      · left
        refine ⟨2, by omega, h2, fun b hb2 => ?_, ?_⟩
        · match b, hb2 with
          | 0, _ => exact h0
          | 1, _ => exact h1
        · rw [s0, if_pos (c0.mpr h0), s1, if_pos (c1.mpr h1), s2, if_neg (fun q => h2 (c2.mp q))]; rfl
    · left
      refine ⟨1, by omega, h1, fun b hb2 => ?_, ?_⟩
      · match b, hb2 with
        | 0, _ => exact h0
      · rw [s0, if_pos (c0.mpr h0), s1, if_neg (fun q => h1 (c1.mp q))]; rfl
  · left
    refine ⟨0, by omega, h0, fun b hb2 => absurd hb2 (Nat.not_lt_zero b), ?_⟩
    rw [s0, if_neg (fun q => h0 (c0.mp q))]; rfl
def BaseIs (R : Nat → Nat → Int) (rk : Nat) (B : Nat → Nat → Int) : Prop :=
  (rk = 3 ∧ DT (R 0) (R 1) (R 2) ≠ 0 ∧ B 0 = R 0 ∧ B 1 = R 1 ∧ B 2 = R 2) ∨
  (rk = 2 ∧ DT (R 0) (R 1) (R 2) = 0 ∧ ∃ a : Nat, a < 3 ∧ cr (R 0) (R 1) a ≠ 0 ∧ (∀ b, b < a → cr (R 0) (R 1) b = 0) ∧ B 0 = R 0 ∧ B 1 = R 1 ∧ B 2 = un a) ∨
  (rk = 1 ∧ (∀ b, b < 3 → cr (R 0) (R 1) b = 0) ∧ ∃ a : Nat, a < 3 ∧ R 0 a ≠ 0 ∧ (∀ b, b < a → R 0 b = 0) ∧ B 0 = R 0 ∧ B 1 = un ((a + 1) % 3) ∧ B 2 = un ((a + 2) % 3)) ∨
  (rk = 0 ∧ (∀ b, b < 3 → cr (R 0) (R 1) b = 0) ∧ (∀ b, b < 3 → R 0 b = 0) ∧ B 0 = un 0 ∧ B 1 = un 1 ∧ B 2 = un 2)
theorem DT_dot (u v w : Nat → Int) : dotI (cr u v) w = DT u v w := by
  show (u 1 * v 2 - u 2 * v 1) * w 0 + (u 2 * v 0 - u 0 * v 2) * w 1 + (u 0 * v 1 - u 1 * v 0) * w 2 = _
  unfold DT; grind
def mk3 (a b c : Nat → Int) : Nat → Nat → Int := fun j => if j = 0 then a else if j = 1 then b else c
theorem fill_rp (R : Nat → Nat → Int) (rank : Int32) {r0 r1 r2 : Nat → Int64} (h0 : rp r0 (R 0)) (h1 : rp r1 (R 1)) (h2 : rp r2 (R 2)) (d0 : Bd 2 (R 0)) (d1 : Bd 12 (R 1)) (d2 : Bd 72 (R 2)) (sp b0 b1' b2' : Nat → Int64) :
    ∃ (rk : Nat) (B : Nat → Nat → Int) (sp2 c0 c1 c2 : Nat → Int64), F_X0_fillBase rank r0 r1 r2 sp b0 b1' b2' = some (nI rk, sp2, c0, c1, c2) ∧ BaseIs R rk B ∧ rk ≤ 3 ∧ rp c0 (B 0) ∧ rp c1 (B 1) ∧ rp c2 (B 2) := by
  obtain ⟨s, hs, hsr⟩ := cross_rp sp h0 h1
  obtain ⟨c0, hc0, hr0⟩ := copy_rp b0 h0
  obtain ⟨c1, hc1, hr1⟩ := copy_rp b1' h1
  obtain ⟨c2, hc2, hr2⟩ := copy_rp b2' h2
  have hcb : Bd 48 (cr (R 0) (R 1)) := cr_bd d0 d1
  have hdb : -10368 ≤ dotI (cr (R 0) (R 1)) (R 2) ∧ dotI (cr (R 0) (R 1)) (R 2) ≤ 10368 := dot_bd hcb d2
  have hdot := dot_rp hsr h2
  have hcm := cmp0 (z := dotI (cr (R 0) (R 1)) (R 2)) (by omega) (by omega)
  have e : ∀ X, F_X0_fillBase_21 (2996 + 1) (0 + 1 + 1 + 1) rank r0 r1 r2 s c0 c1 c2 = X → F_X0_fillBase rank r0 r1 r2 sp b0 b1' b2' = X := by
    intro X hX
    unfold F_X0_fillBase
    refine b1 hs ?_
    rw [F_X0_fillBase_21, if_neg (by decide), if_pos (by decide), if_pos (by decide)]
    refine b1 hc0 ?_
    rw [F_X0_fillBase_21, if_neg (by decide), if_neg (by decide), if_pos (by decide), if_neg (by decide), if_pos (by decide)]
    refine b1 hc1 ?_
    rw [F_X0_fillBase_21, if_neg (by decide), if_neg (by decide), if_neg (by decide), if_pos (by decide), if_neg (by decide), if_neg (by decide), if_pos (by decide)]
    exact b1 hc2 hX
  by_cases hd : dotI (cr (R 0) (R 1)) (R 2) = 0
  · rcases fnz hsr (by omega) hcb with ⟨a, ha, hne, hz, hfa⟩ | ⟨hz, hfa⟩
    · obtain ⟨u, hu, hur⟩ := unit_rp a ha c2
      refine ⟨2, mk3 (R 0) (R 1) (un a), s, c0, c1, u, e _ ?_, Or.inr (Or.inl ⟨rfl, by rw [← DT_dot]; exact hd, a, ha, hne, hz, rfl, rfl, rfl⟩), by omega, hr0, hr1, hur⟩
      rw [F_X0_fillBase_21, if_pos (by decide)]
      refine b1 hdot ?_
      rw [if_pos (hcm.mpr hd)]
      refine b1 hfa ?_
      rw [if_neg (show ¬ (3 : Int32) ≤ nI a from nI_ge (b := 3) ha (by omega))]
      exact b1 hu rfl
    · rcases fnz h0 (by omega) d0 with ⟨a, ha, hne, hz2, hfb⟩ | ⟨hz2, hfb⟩
      · obtain ⟨u1, hu1, hur1⟩ := unit_rp ((a + 1) % 3) (by omega) c1
        obtain ⟨u2, hu2, hur2⟩ := unit_rp ((a + 2) % 3) (by omega) c2
        refine ⟨1, mk3 (R 0) (un ((a + 1) % 3)) (un ((a + 2) % 3)), s, c0, u1, u2, e _ ?_, Or.inr (Or.inr (Or.inl ⟨rfl, hz, a, ha, hne, hz2, rfl, rfl, rfl⟩)), by omega, hr0, hur1, hur2⟩
        rw [F_X0_fillBase_21, if_pos (by decide)]
        refine b1 hdot ?_
        rw [if_pos (hcm.mpr hd)]
        refine b1 hfa ?_
        rw [if_pos (show (3 : Int32) ≤ nI 3 from by decide)]
        refine b1 hfb ?_
        rw [if_neg (show ¬ (3 : Int32) ≤ nI a from nI_ge (b := 3) ha (by omega))]
        unfold F_X0_fillBase_121
        rw [ie1]
        unfold F_X0_fillBase_143
        have m1 : nI a + 1 - (nI a + 1) / 3 * 3 = nI ((a + 1) % 3) := by rw [nI_1]; exact pk_rem (d := 3) (by omega) (by omega) (by omega)
        have m2 : nI a + 2 - (nI a + 2) / 3 * 3 = nI ((a + 2) % 3) := by
          have e2 : nI a + 2 = nI (a + 2) := nI_add a 2
          rw [e2]; exact pk_rem (d := 3) (by omega) (by omega) (by omega)
        rw [m1, m2]
        exact b1 hu1 (b1 hu2 rfl)
      · obtain ⟨u0, hu0, hur0⟩ := unit_rp 0 (by omega) c0
        obtain ⟨u1, hu1, hur1⟩ := unit_rp 1 (by omega) c1
        obtain ⟨u2, hu2, hur2⟩ := unit_rp 2 (by omega) c2
        refine ⟨0, mk3 (un 0) (un 1) (un 2), s, u0, u1, u2, e _ ?_, Or.inr (Or.inr (Or.inr ⟨rfl, hz, hz2, rfl, rfl, rfl⟩)), by omega, hur0, hur1, hur2⟩
        rw [F_X0_fillBase_21, if_pos (by decide)]
        refine b1 hdot ?_
        rw [if_pos (hcm.mpr hd)]
        refine b1 hfa ?_
        rw [if_pos (show (3 : Int32) ≤ nI 3 from by decide)]
        refine b1 hfb ?_
        rw [if_pos (show (3 : Int32) ≤ nI 3 from by decide)]
        unfold F_X0_fillBase_121
        rw [ie0]
        refine b1 hu0 ?_
        unfold F_X0_fillBase_143
        exact b1 hu1 (b1 hu2 rfl)
  · refine ⟨3, mk3 (R 0) (R 1) (R 2), s, c0, c1, c2, e _ ?_, Or.inl ⟨rfl, by rw [← DT_dot]; exact hd, rfl, rfl, rfl⟩, by omega, hr0, hr1, hr2⟩
    rw [F_X0_fillBase_21, if_pos (by decide)]
    refine b1 hdot ?_
    rw [if_neg (fun q => hd (hcm.mp q))]
    rfl
