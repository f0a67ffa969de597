/-! vectors of three whole numbers; longs as what they are modulo 2 to the 64th (Int64.ofInt is a homomorphism) -/
def en (x : Bool) (ce : Nat → Int32) (i j : Nat) : Int := if x then (ce (3 * j + i)).toInt else (ce (3 * i + j)).toInt
def pu (x : Bool) (ce : Nat → Int32) (i : Nat) : Int := if x then (ce (12 + i)).toInt else (ce (9 + i)).toInt
def go1 (x : Bool) (ce : Nat → Int32) (v : Nat → Int) (i : Nat) : Int := en x ce i 0 * v 0 + en x ce i 1 * v 1 + en x ce i 2 * v 2
def gn (x : Bool) (ce : Nat → Int32) : Nat → (Nat → Int) → Nat → Int
  | 0, v => v
  | t + 1, v => go1 x ce (gn x ce t v)
def Rw (x : Bool) (ce : Nat → Int32) (r : Nat) : Nat → Int := gn x ce r (pu x ce)
def DT (u v w : Nat → Int) : Int := u 0 * (v 1 * w 2 - v 2 * w 1) + u 1 * (v 2 * w 0 - v 0 * w 2) + u 2 * (v 0 * w 1 - v 1 * w 0)
def dotI (u v : Nat → Int) : Int := u 0 * v 0 + u 1 * v 1 + u 2 * v 2
def cr (u v : Nat → Int) (i : Nat) : Int := if i = 0 then u 1 * v 2 - u 2 * v 1 else if i = 1 then u 2 * v 0 - u 0 * v 2 else u 0 * v 1 - u 1 * v 0
def un (a : Nat) (i : Nat) : Int := if i = a then 1 else 0
/-- a row of three longs holds a vector -/
def rp (f : Nat → Int64) (v : Nat → Int) : Prop := f 0 = Int64.ofInt (v 0) ∧ f 1 = Int64.ofInt (v 1) ∧ f 2 = Int64.ofInt (v 2)
theorem fb_rng32 (x : Int32) : -2147483648 ≤ x.toInt ∧ x.toInt ≤ 2147483647 := by
  have h1 := x.minValue_le_toInt
  have h2 := x.toInt_le
  have e1 : Int32.minValue.toInt = -2147483648 := rfl
  have e2 : Int32.maxValue.toInt = 2147483647 := rfl
  omega
theorem gn_succ (x : Bool) (ce : Nat → Int32) : ∀ (t : Nat) (v : Nat → Int), gn x ce (t + 1) v = gn x ce t (go1 x ce v)
  | 0, v => rfl
  | t + 1, v => by
    show go1 x ce (gn x ce (t + 1) v) = go1 x ce (gn x ce t (go1 x ce v))
    rw [gn_succ x ce t v]
theorem t64 (x : Int32) : x.toInt64 = Int64.ofInt x.toInt := by
  apply Int64.toInt_inj.mp
  rw [toI64, Int64.toInt_ofInt]
  have h := fb_rng32 x
  rw [Int.bmod_eq_of_le] <;> simp <;> omega
theorem lin3 (a b c : Int32) (x y z : Int) : (0 : Int64) + a.toInt64 * Int64.ofInt x + b.toInt64 * Int64.ofInt y + c.toInt64 * Int64.ofInt z = Int64.ofInt (a.toInt * x + b.toInt * y + c.toInt * z) := by
  rw [t64, t64, t64]
  simp only [Int64.ofInt_add, Int64.ofInt_mul]
  rw [Int64.zero_add]
theorem o0 : (0 : Int64) = Int64.ofInt 0 := rfl
theorem o1 : (1 : Int64) = Int64.ofInt 1 := rfl
theorem dot_ev (f g : Nat → Int64) : F_X4_dot f g = some (f 0 * g 0 + f 1 * g 1 + f 2 * g 2) := rfl
theorem dot_rp {f g : Nat → Int64} {u v : Nat → Int} (hf : rp f u) (hg : rp g v) : F_X4_dot f g = some (Int64.ofInt (dotI u v)) := by
  rw [dot_ev, hf.1, hf.2.1, hf.2.2, hg.1, hg.2.1, hg.2.2]
  simp only [dotI, Int64.ofInt_add, Int64.ofInt_mul]
theorem copy_ev (f g : Nat → Int64) : ∃ r, F_X4_copy f g = some r ∧ r 0 = f 0 ∧ r 1 = f 1 ∧ r 2 = f 2 := ⟨_, rfl, rfl, rfl, rfl⟩
theorem copy_rp {f : Nat → Int64} {v : Nat → Int} (g : Nat → Int64) (hf : rp f v) : ∃ r, F_X4_copy f g = some r ∧ rp r v := by
  obtain ⟨r, h, h0, h1, h2⟩ := copy_ev f g
  exact ⟨r, h, h0.trans hf.1, h1.trans hf.2.1, h2.trans hf.2.2⟩
theorem cross_rp {f g : Nat → Int64} {u v : Nat → Int} (t : Nat → Int64) (hf : rp f u) (hg : rp g v) : ∃ r, F_X4_cross f g t = some r ∧ rp r (cr u v) := by
  refine ⟨_, rfl, ?_, ?_, ?_⟩
  · show f 1 * g 2 - f 2 * g 1 = _
    rw [hf.2.1, hf.2.2, hg.2.1, hg.2.2]; show _ = Int64.ofInt (u 1 * v 2 - u 2 * v 1); simp only [Int64.ofInt_sub, Int64.ofInt_mul]
  · show f 2 * g 0 - f 0 * g 2 = _
    rw [hf.1, hf.2.2, hg.1, hg.2.2]; show _ = Int64.ofInt (u 2 * v 0 - u 0 * v 2); simp only [Int64.ofInt_sub, Int64.ofInt_mul]
  · show f 0 * g 1 - f 1 * g 0 = _
    rw [hf.1, hf.2.1, hg.1, hg.2.1]; show _ = Int64.ofInt (u 0 * v 1 - u 1 * v 0); simp only [Int64.ofInt_sub, Int64.ofInt_mul]
theorem unit_rp (k : Nat) (hk : k < 3) (g : Nat → Int64) : ∃ r, F_X4_setUnit (nI k) g = some r ∧ rp r (un k) := by
  match k, hk with
  | 0, _ => exact ⟨_, rfl, rfl, rfl, rfl⟩
  | 1, _ => exact ⟨_, rfl, rfl, rfl, rfl⟩
  | 2, _ => exact ⟨_, rfl, rfl, rfl, rfl⟩
def xI (x : Bool) : Int32 := if x then 1 else 0
theorem goOn_rp (x : Bool) (ce : Nat → Int32) {g : Nat → Int64} {v : Nat → Int} (t : Nat → Int64) (hg : rp g v) : ∃ r, F_X3_goOn (xI x) t ce g = some r ∧ rp r (go1 x ce v) := by
  cases x
  · refine ⟨_, rfl, ?_, ?_, ?_⟩
    · show (0 : Int64) + (ce 0).toInt64 * g 0 + (ce 1).toInt64 * g 1 + (ce 2).toInt64 * g 2 = _
      rw [hg.1, hg.2.1, hg.2.2]; exact lin3 _ _ _ _ _ _
    · show (0 : Int64) + (ce 3).toInt64 * g 0 + (ce 4).toInt64 * g 1 + (ce 5).toInt64 * g 2 = _
      rw [hg.1, hg.2.1, hg.2.2]; exact lin3 _ _ _ _ _ _
    · show (0 : Int64) + (ce 6).toInt64 * g 0 + (ce 7).toInt64 * g 1 + (ce 8).toInt64 * g 2 = _
      rw [hg.1, hg.2.1, hg.2.2]; exact lin3 _ _ _ _ _ _
  · refine ⟨_, rfl, ?_, ?_, ?_⟩
    · show (0 : Int64) + (ce 0).toInt64 * g 0 + (ce 3).toInt64 * g 1 + (ce 6).toInt64 * g 2 = _
      rw [hg.1, hg.2.1, hg.2.2]; exact lin3 _ _ _ _ _ _
    · show (0 : Int64) + (ce 1).toInt64 * g 0 + (ce 4).toInt64 * g 1 + (ce 7).toInt64 * g 2 = _
      rw [hg.1, hg.2.1, hg.2.2]; exact lin3 _ _ _ _ _ _
    · show (0 : Int64) + (ce 2).toInt64 * g 0 + (ce 5).toInt64 * g 1 + (ce 8).toInt64 * g 2 = _
      rw [hg.1, hg.2.1, hg.2.2]; exact lin3 _ _ _ _ _ _
theorem carry_go (x : Bool) (ce : Nat → Int32) (t : Nat) (ht : t < 100) : ∀ (d i n : Nat) (sp g : Nat → Int64) (v : Nat → Int), i + d = t → d < n → rp g v → ∃ q r, F_X3_carry_3 n (xI x) (nI t) (nI i) sp ce g = some (q, r) ∧ rp r (gn x ce d v) := by
  intro d
  induction d with
  | zero =>
    intro i n sp g v hi hn hg
    match n, hn with
    | n + 1, _ =>
      refine ⟨sp, g, ?_, hg⟩
      rw [F_X3_carry_3, if_pos (nI_le (by omega) (by omega))]
  | succ d ih =>
    intro i n sp g v hi hn hg
    match n, hn with
    | n + 1, hn =>
      obtain ⟨r1, h1, hr1⟩ := goOn_rp x ce sp hg
      obtain ⟨r2, h2, hr2⟩ := copy_rp g hr1
      obtain ⟨q, r, h3, hr⟩ := ih (i + 1) n r1 r2 (go1 x ce v) (by omega) (by omega) hr2
      refine ⟨q, r, ?_, ?_⟩
      · rw [F_X3_carry_3, if_neg (nI_ge (by omega) (by omega)), h1]
        show bd1 (F_X4_copy r1 g) _ = _
        rw [h2]
        show F_X3_carry_3 n (xI x) (nI t) (nI i + 1) r1 ce r2 = _
        rw [nI_1]; exact h3
      · rw [gn_succ]; exact hr
theorem carry_rp (x : Bool) (ce : Nat → Int32) (t : Nat) (ht : t < 100) (sp : Nat → Int64) {g : Nat → Int64} {v : Nat → Int} (hg : rp g v) : ∃ q r, F_X3_carry (xI x) (nI t) sp ce g = some (q, r) ∧ rp r (gn x ce t v) :=
  carry_go x ce t ht t 0 3000 sp g v (by omega) (by omega) hg
theorem share_rp (k : Nat) (hk : k < 3) {s0 s1 s2 g : Nat → Int64} {S : Nat → Nat → Int} {v : Nat → Int} (h0 : rp s0 (S 0)) (h1 : rp s1 (S 1)) (h2 : rp s2 (S 2)) (hg : rp g v) : F_X0_share (nI k) s0 s1 s2 g = some (Int64.ofInt (dotI (S k) v)) := by
  match k, hk with
  | 0, _ => show bd1 (F_X4_dot s0 g) _ = _; rw [dot_rp h0 hg]; rfl
  | 1, _ => show bd1 (F_X4_dot s1 g) _ = _; rw [dot_rp h1 hg]; rfl
  | 2, _ => show bd1 (F_X4_dot s2 g) _ = _; rw [dot_rp h2 hg]; rfl
/-- the bound that keeps a long's number what it is -/
theorem o_toInt {z : Int} (h1 : -9000000000000000000 ≤ z) (h2 : z ≤ 9000000000000000000) : (Int64.ofInt z).toInt = z := by
  rw [Int64.toInt_ofInt]
  rw [Int.bmod_eq_of_le] <;> simp <;> omega
theorem o_zero {z : Int} (h1 : -9000000000000000000 ≤ z) (h2 : z ≤ 9000000000000000000) : Int64.ofInt z = 0 ↔ z = 0 := by
  rw [l_eq, o_toInt h1 h2]; rfl
theorem cmp0 {z : Int} (h1 : -9000000000000000000 ≤ z) (h2 : z ≤ 9000000000000000000) : lg_cmp (Int64.ofInt z) 0 = 0 ↔ z = 0 := by
  rw [← o_zero h1 h2]
  unfold lg_cmp
  constructor
  · intro h
    by_cases a : Int64.ofInt z > 0
    · rw [if_pos a] at h; exact absurd h (by decide)
    · rw [if_neg a] at h
      by_cases b : Int64.ofInt z = 0
      · exact b
      · rw [if_neg b] at h; exact absurd h (by decide)
  · intro h
    rw [h]; rfl
