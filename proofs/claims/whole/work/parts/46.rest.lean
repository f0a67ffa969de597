/-! can START be brought to rest? -/
def RMr (R : Nat → Nat → Int) (o row : Nat) (v : Nat → Int) (r i : Nat) : Int := if r = row ∧ i < o then v i else RM R o r i
theorem RMr_at {R : Nat → Nat → Int} {o row : Nat} {v : Nat → Int} {i : Nat} (hi : i < o) : RMr R o row v row i = v i := if_pos ⟨rfl, hi⟩
theorem RMr_ne {R : Nat → Nat → Int} {o row r : Nat} {v : Nat → Int} {i : Nat} (h : r ≠ row) (hr : r < o) (hi : i < o) : RMr R o row v r i = R r i := by
  unfold RMr RM
  rw [if_neg (fun q => h q.1), if_pos ⟨hr, hi⟩]
theorem RMr_out {R : Nat → Nat → Int} {o row r : Nat} {v : Nat → Int} {i : Nat} (h : ¬ (r < o ∧ i < o)) (hr : row < o) : RMr R o row v r i = if r = i then 1 else 0 := by
  unfold RMr RM
  rw [if_neg (fun q => h ⟨by omega, q.2⟩), if_neg h]
theorem RkM_pos {M : Nat → Nat → Int} {o now p q : Nat} (h1 : 1 ≤ o) (hp : p < o) (hq : q < o) (hne : M p q ≠ 0) (hk : RkM M o now) : 1 ≤ now := by
  rcases hk with ⟨-, e⟩ | ⟨-, ⟨-, -, e⟩ | ⟨-, ⟨-, e⟩ | ⟨hall, -⟩⟩⟩
  · omega
  · omega
  · omega
  · exact absurd (hall p q hp hq) hne
theorem DT2 {M : Nat → Nat → Int} (h02 : M 0 2 = 0) (h12 : M 1 2 = 0) (h20 : M 2 0 = 0) (h21 : M 2 1 = 0) (h22 : M 2 2 = 1) : DT (M 0) (M 1) (M 2) = M 0 0 * M 1 1 - M 0 1 * M 1 0 := by
  unfold DT
  rw [h02, h12, h20, h21, h22]; grind
theorem DT1 {M : Nat → Nat → Int} (h01 : M 0 1 = 0) (h02 : M 0 2 = 0) (h10 : M 1 0 = 0) (h11 : M 1 1 = 1) (h12 : M 1 2 = 0) (h20 : M 2 0 = 0) (h21 : M 2 1 = 0) (h22 : M 2 2 = 1) : DT (M 0) (M 1) (M 2) = M 0 0 := by
  unfold DT
  rw [h01, h02, h10, h11, h12, h20, h21, h22]; grind
/-- the block of o rows and places, all of one line: no more than one -/
theorem RkM_line {M : Nat → Nat → Int} {o now : Nat} (ho : o ≤ 3) (h2 : 2 ≤ o) (hout : ∀ r i, r < 3 → i < 3 → ¬ (r < o ∧ i < o) → M r i = if r = i then 1 else 0) (hp : ∀ r s i j, r < o → s < o → i < o → j < o → M r i * M s j = M r j * M s i) (hk : RkM M o now) : now ≤ 1 := by
  have hd : DT (M 0) (M 1) (M 2) = 0 := by
    rcases (show o = 2 ∨ o = 3 by omega) with rfl | rfl
    · rw [DT2 (hout 0 2 (by omega) (by omega) (by omega)) (hout 1 2 (by omega) (by omega) (by omega)) (hout 2 0 (by omega) (by omega) (by omega)) (hout 2 1 (by omega) (by omega) (by omega)) (hout 2 2 (by omega) (by omega) (by omega))]
      have := hp 0 1 0 1 (by omega) (by omega) (by omega) (by omega)
      omega
    · unfold DT
      have a1 := hp 1 2 1 2 (by omega) (by omega) (by omega) (by omega)
      have a2 := hp 1 2 2 0 (by omega) (by omega) (by omega) (by omega)
      have a3 := hp 1 2 0 1 (by omega) (by omega) (by omega) (by omega)
      rw [a1, a2, a3]; simp
  rcases hk with ⟨h, -⟩ | ⟨-, ⟨h3, ⟨i, j, a, b, q1, q2, q3, q4, q5⟩, -⟩ | ⟨-, ⟨-, e⟩ | ⟨-, e⟩⟩⟩
  · exact absurd hd h
  · exact absurd (hp i j a b (by omega) (by omega) (by omega) (by omega)) q5
  · omega
  · omega
theorem pl_two {P : Int} (hP : P ≠ 0) {ua ui uj wa wi wj ri rj : Int} (h1 : P * ui = ua * ri) (h2 : P * uj = ua * rj) (h3 : P * wi = wa * ri) (h4 : P * wj = wa * rj) : ui * wj = uj * wi := by
  have h : P * (P * (ui * wj)) = P * (P * (uj * wi)) := by grind
  exact Int.eq_of_mul_eq_mul_left hP (Int.eq_of_mul_eq_mul_left hP h)
theorem mz {c d : Int} (h : c ≠ 0) (e : c * d = 0) : d = 0 := (Int.mul_eq_zero.mp e).resolve_left h
theorem plane1 {a0 a1 a2 b0 b1 b2 c0 c1 c2 v0 v1 v2 : Int} (hd : a0 * (b1 * c2 - b2 * c1) + a1 * (b2 * c0 - b0 * c2) + a2 * (b0 * c1 - b1 * c0) = 0) (hv : a0 * (b1 * v2 - b2 * v1) + a1 * (b2 * v0 - b0 * v2) + a2 * (b0 * v1 - b1 * v0) = 0) (hn : a1 * b2 - a2 * b1 ≠ 0 ∨ a2 * b0 - a0 * b2 ≠ 0 ∨ a0 * b1 - a1 * b0 ≠ 0) : a0 * (v1 * c2 - v2 * c1) + a1 * (v2 * c0 - v0 * c2) + a2 * (v0 * c1 - v1 * c0) = 0 := by
  rcases hn with h | h | h
  · exact mz h (by grind)
  · exact mz h (by grind)
  · exact mz h (by grind)
theorem sq_ev (B : Nat → Nat → Int) (v : Nat → Int) : dotI (sq B 0) v = DT v (B 1) (B 2) ∧ dotI (sq B 1) v = DT (B 0) v (B 2) ∧ dotI (sq B 2) v = DT (B 0) (B 1) v := by
  refine ⟨?_, ?_, ?_⟩
  · show dotI (cr (B 1) (B 2)) v = _; rw [DT_dot]; unfold DT; grind
  · show dotI (cr (B 2) (B 0)) v = _; rw [DT_dot]; unfold DT; grind
  · show dotI (cr (B 0) (B 1)) v = _; exact DT_dot _ _ _
theorem RMr_block {R : Nat → Nat → Int} {o row : Nat} {v : Nat → Int} (hr : row < o) : ∀ r i, r < 3 → i < 3 → ¬ (r < o ∧ i < o) → RMr R o row v r i = if r = i then 1 else 0 := fun r i _ _ h => RMr_out h hr
theorem canrest (x : Bool) {ce : Nat → Int32} {o : Nat} (h1 : 1 ≤ o) (ho : o ≤ 3) (hz : ZT o ce) {rk : Nat} {B : Nat → Nat → Int} (hB : BaseIs (Rw x ce) rk B) (hlt : rk < o) {v : Nat → Int} (hv : ∀ k, k < 3 → o ≤ k → v k = 0) {now : Nat → Nat} (hnow : ∀ row, row < o → RkM (RMr (Rw x ce) o row v) o (now row)) : (∀ j, rk ≤ j → j < 3 → dotI (sq B j) v = 0) ↔ ∀ row, row < o → now row ≤ rk := by
  have z := fun r i (hi : i < 3) (h : o ≤ i) => Rw_z hz x r hi h
  obtain ⟨s0, s1, s2⟩ := sq_ev B v
  have three : ∀ {p : Nat → Prop}, p 0 → p 1 → p 2 → ∀ k, k < 3 → p k := fun a b c k hk => match k, hk with | 0, _ => a | 1, _ => b | 2, _ => c
  rcases hB with ⟨rfl, -⟩ | ⟨rfl, hd, a, ha, hne, -, b0, b1', b2'⟩ | ⟨rfl, hcr, a, ha, hne, hz0, b0, b1', b2'⟩ | ⟨rfl, hcr, h0, b0, b1', b2'⟩
  · omega
  · -- two of three
    have ho3 : o = 3 := by omega
    subst ho3
    rw [b0, b1'] at s2
    have hcn : Rw x ce 0 1 * Rw x ce 1 2 - Rw x ce 0 2 * Rw x ce 1 1 ≠ 0 ∨ Rw x ce 0 2 * Rw x ce 1 0 - Rw x ce 0 0 * Rw x ce 1 2 ≠ 0 ∨ Rw x ce 0 0 * Rw x ce 1 1 - Rw x ce 0 1 * Rw x ce 1 0 ≠ 0 := by
      match a, ha with
      | 0, _ => exact Or.inl hne
      | 1, _ => exact Or.inr (Or.inl hne)
      | 2, _ => exact Or.inr (Or.inr hne)
    constructor
    · intro hl row hrow
      have hv0 : DT (Rw x ce 0) (Rw x ce 1) v = 0 := by rw [← s2]; exact hl 2 (by omega) (by omega)
      have hdm : DT (RMr (Rw x ce) 3 row v 0) (RMr (Rw x ce) 3 row v 1) (RMr (Rw x ce) 3 row v 2) = 0 := by
        match row, hrow with
        | 0, _ =>
          show v 0 * (Rw x ce 1 1 * Rw x ce 2 2 - Rw x ce 1 2 * Rw x ce 2 1) + v 1 * (Rw x ce 1 2 * Rw x ce 2 0 - Rw x ce 1 0 * Rw x ce 2 2) + v 2 * (Rw x ce 1 0 * Rw x ce 2 1 - Rw x ce 1 1 * Rw x ce 2 0) = 0
          have hcn' : Rw x ce 1 1 * Rw x ce 0 2 - Rw x ce 1 2 * Rw x ce 0 1 ≠ 0 ∨ Rw x ce 1 2 * Rw x ce 0 0 - Rw x ce 1 0 * Rw x ce 0 2 ≠ 0 ∨ Rw x ce 1 0 * Rw x ce 0 1 - Rw x ce 1 1 * Rw x ce 0 0 ≠ 0 := by
            rcases hcn with h | h | h
            · exact Or.inl (fun q => h (by grind))
            · exact Or.inr (Or.inl (fun q => h (by grind)))
            · exact Or.inr (Or.inr (fun q => h (by grind)))
          have q := plane1 (a0 := Rw x ce 1 0) (a1 := Rw x ce 1 1) (a2 := Rw x ce 1 2) (b0 := Rw x ce 0 0) (b1 := Rw x ce 0 1) (b2 := Rw x ce 0 2) (c0 := Rw x ce 2 0) (c1 := Rw x ce 2 1) (c2 := Rw x ce 2 2) (v0 := v 0) (v1 := v 1) (v2 := v 2) (by unfold DT at hd; grind) (by unfold DT at hv0; grind) hcn'
          grind
        | 1, _ =>
          show Rw x ce 0 0 * (v 1 * Rw x ce 2 2 - v 2 * Rw x ce 2 1) + Rw x ce 0 1 * (v 2 * Rw x ce 2 0 - v 0 * Rw x ce 2 2) + Rw x ce 0 2 * (v 0 * Rw x ce 2 1 - v 1 * Rw x ce 2 0) = 0
          exact plane1 hd hv0 hcn
        | 2, _ => exact hv0
      rcases hnow row hrow with ⟨h, -⟩ | ⟨-, ⟨-, -, e⟩ | ⟨-, ⟨-, e⟩ | ⟨-, e⟩⟩⟩
      · exact absurd hdm h
      · omega
      · omega
      · omega
    · intro hr j hj1 hj2
      have e : j = 2 := by omega
      subst e
      rw [s2]
      apply Classical.byContradiction
      intro q
      have := hr 2 (by omega)
      rcases hnow 2 (by omega) with ⟨-, e⟩ | ⟨h, -⟩
      · omega
      · exact q h
  · -- one line
    have h2 : 2 ≤ o := by omega
    have plR : ∀ r, r < 3 → ∀ i, i < 3 → Rw x ce 0 a * Rw x ce r i = Rw x ce r a * Rw x ce 0 i := by
      intro r hr i hi
      match r, hr with
      | 0, _ => rfl
      | 1, _ => exact cr_all hcr ha hi
      | 2, _ =>
        have k1 := cr_all hcr ha hi
        have k2 := R_par x ce hcr ha hi
        have k3 := R_par x ce hcr ha ha
        apply Int.eq_of_mul_eq_mul_left hne
        grind
    have par : (∀ j, 1 ≤ j → j < 3 → dotI (sq B j) v = 0) ↔ ∀ i, i < 3 → Rw x ce 0 a * v i = v a * Rw x ce 0 i := by
      rw [b0, b2'] at s1; rw [b0, b1'] at s2
      have e12 : (∀ j, 1 ≤ j → j < 3 → dotI (sq B j) v = 0) ↔ (DT (Rw x ce 0) v (un ((a + 2) % 3)) = 0 ∧ DT (Rw x ce 0) (un ((a + 1) % 3)) v = 0) := by
        rw [← s1, ← s2]
        constructor
        · intro h; exact ⟨h 1 (by omega) (by omega), h 2 (by omega) (by omega)⟩
        · rintro ⟨p, q⟩ j hj1 hj2
          rcases (show j = 1 ∨ j = 2 by omega) with rfl | rfl
          · exact p
          · exact q
      rw [e12]
      match a, ha with
      | 0, _ =>
        show (Rw x ce 0 0 * (v 1 * 1 - v 2 * 0) + Rw x ce 0 1 * (v 2 * 0 - v 0 * 1) + Rw x ce 0 2 * (v 0 * 0 - v 1 * 0) = 0 ∧ Rw x ce 0 0 * (1 * v 2 - 0 * v 1) + Rw x ce 0 1 * (0 * v 0 - 0 * v 2) + Rw x ce 0 2 * (0 * v 1 - 1 * v 0) = 0) ↔ _
        constructor
        · rintro ⟨p, q⟩
          exact three (Int.mul_comm _ _) (by grind) (by grind)
        · intro h
          have := h 1 (by omega)
          have := h 2 (by omega)
          constructor <;> grind
      | 1, _ =>
        show (Rw x ce 0 0 * (v 1 * 0 - v 2 * 0) + Rw x ce 0 1 * (v 2 * 1 - v 0 * 0) + Rw x ce 0 2 * (v 0 * 0 - v 1 * 1) = 0 ∧ Rw x ce 0 0 * (0 * v 2 - 1 * v 1) + Rw x ce 0 1 * (1 * v 0 - 0 * v 2) + Rw x ce 0 2 * (0 * v 1 - 0 * v 0) = 0) ↔ _
        constructor
        · rintro ⟨p, q⟩
          exact three (by grind) (Int.mul_comm _ _) (by grind)
        · intro h
          have := h 0 (by omega)
          have := h 2 (by omega)
          constructor <;> grind
      | 2, _ =>
        show (Rw x ce 0 0 * (v 1 * 0 - v 2 * 1) + Rw x ce 0 1 * (v 2 * 0 - v 0 * 0) + Rw x ce 0 2 * (v 0 * 1 - v 1 * 0) = 0 ∧ Rw x ce 0 0 * (0 * v 2 - 0 * v 1) + Rw x ce 0 1 * (0 * v 0 - 1 * v 2) + Rw x ce 0 2 * (1 * v 1 - 0 * v 0) = 0) ↔ _
        constructor
        · rintro ⟨p, q⟩
          exact three (by grind) (by grind) (Int.mul_comm _ _)
        · intro h
          have := h 0 (by omega)
          have := h 1 (by omega)
          constructor <;> grind
    rw [par]
    constructor
    · intro hp row hrow
      refine RkM_line ho h2 (RMr_block hrow) (fun r s i j hr hs hi hj => ?_) (hnow row hrow)
      have pm : ∀ r, r < o → ∀ i, i < o → Rw x ce 0 a * RMr (Rw x ce) o row v r i = (if r = row then v a else Rw x ce r a) * Rw x ce 0 i := by
        intro r hr i hi
        by_cases e : r = row
        · subst e; rw [if_pos rfl, RMr_at hi]; exact hp i (by omega)
        · rw [if_neg e, RMr_ne e hr hi]; exact plR r (by omega) i (by omega)
      exact pl_two hne (pm r hr i hi) (pm r hr j hj) (pm s hs i hi) (pm s hs j hj)
    · intro hr
      have key : ∀ i j, i < o → j < o → Rw x ce 0 i * v j = Rw x ce 0 j * v i := by
        intro i j hi hj
        apply Classical.byContradiction
        intro q
        have hle := hr 1 (by omega)
        have m0 : ∀ i, i < o → RMr (Rw x ce) o 1 v 0 i = Rw x ce 0 i := fun i hi => RMr_ne (by omega) (by omega) hi
        have m1 : ∀ i, i < o → RMr (Rw x ce) o 1 v 1 i = v i := fun i hi => RMr_at hi
        rcases (show o = 2 ∨ o = 3 by omega) with rfl | rfl
        · have hb := RMr_block (R := Rw x ce) (v := v) (show 1 < 2 by omega)
          have hd : DT (RMr (Rw x ce) 2 1 v 0) (RMr (Rw x ce) 2 1 v 1) (RMr (Rw x ce) 2 1 v 2) = Rw x ce 0 0 * v 1 - Rw x ce 0 1 * v 0 := by
            rw [DT2 (hb 0 2 (by omega) (by omega) (by omega)) (hb 1 2 (by omega) (by omega) (by omega)) (hb 2 0 (by omega) (by omega) (by omega)) (hb 2 1 (by omega) (by omega) (by omega)) (hb 2 2 (by omega) (by omega) (by omega)), m0 0 (by omega), m0 1 (by omega), m1 0 (by omega), m1 1 (by omega)]
          rcases hnow 1 (by omega) with ⟨-, e⟩ | ⟨h, -⟩
          · omega
          · rw [hd] at h
            rcases (show i = 0 ∨ i = 1 by omega) with rfl | rfl <;> rcases (show j = 0 ∨ j = 1 by omega) with rfl | rfl
            · exact q rfl
            · exact q (by omega)
            · exact q (by omega)
            · exact q rfl
        · have ht : AreTwo (RMr (Rw x ce) 3 1 v) := ⟨0, 1, i, j, by omega, by omega, hi, hj, by rw [m0 i hi, m1 j hj, m0 j hj, m1 i hi]; exact q⟩
          rcases hnow 1 (by omega) with ⟨-, e⟩ | ⟨-, ⟨-, -, e⟩ | ⟨hn, -⟩⟩
          · omega
          · omega
          · exact hn ⟨rfl, ht⟩
      intro i hi
      by_cases hio : i < o
      · by_cases hao : a < o
        · have := key a i hao hio
          rw [this]; exact Int.mul_comm _ _
        · exact absurd (z 0 a ha (by omega)) hne
      · rw [hv i hi (by omega), z 0 i hi (by omega)]; simp
  · -- nothing is reached
    have hR := R_zero x ce h0
    have e0 : dotI (sq B 0) v = v 0 := by rw [s0, b1', b2']; show v 0 * (1 * 1 - 0 * 0) + v 1 * (0 * 0 - 0 * 1) + v 2 * (0 * 0 - 1 * 0) = _; grind
    have e1 : dotI (sq B 1) v = v 1 := by rw [s1, b0, b2']; show 1 * (v 1 * 1 - v 2 * 0) + 0 * (v 2 * 0 - v 0 * 1) + 0 * (v 0 * 0 - v 1 * 0) = _; grind
    have e2 : dotI (sq B 2) v = v 2 := by rw [s2, b0, b1']; show 1 * (1 * v 2 - 0 * v 1) + 0 * (0 * v 0 - 0 * v 2) + 0 * (0 * v 1 - 1 * v 0) = _; grind
    constructor
    · intro h row hrow
      have hv0 : ∀ i, i < 3 → v i = 0 := three (by rw [← e0]; exact h 0 (by omega) (by omega)) (by rw [← e1]; exact h 1 (by omega) (by omega)) (by rw [← e2]; exact h 2 (by omega) (by omega))
      have hm : ∀ r i, r < o → i < o → RMr (Rw x ce) o row v r i = 0 := by
        intro r i hr hi
        by_cases e : r = row
        · subst e; rw [RMr_at hi]; exact hv0 i (by omega)
        · rw [RMr_ne e hr hi]; exact hR r i (by omega)
      have hb := RMr_block (R := Rw x ce) (v := v) hrow
      rcases hnow row hrow with ⟨hd, -⟩ | ⟨-, ⟨h3, ⟨i, j, a, b, q1, q2, q3, q4, q5⟩, -⟩ | ⟨-, ⟨⟨r, i, hr, hi, hne⟩, -⟩ | ⟨-, e⟩⟩⟩
      · exfalso
        apply hd
        rcases (show o = 1 ∨ o = 2 ∨ o = 3 by omega) with rfl | rfl | rfl
        · rw [DT1 (hb 0 1 (by omega) (by omega) (by omega)) (hb 0 2 (by omega) (by omega) (by omega)) (hb 1 0 (by omega) (by omega) (by omega)) (hb 1 1 (by omega) (by omega) (by omega)) (hb 1 2 (by omega) (by omega) (by omega)) (hb 2 0 (by omega) (by omega) (by omega)) (hb 2 1 (by omega) (by omega) (by omega)) (hb 2 2 (by omega) (by omega) (by omega)), hm 0 0 (by omega) (by omega)]
        · rw [DT2 (hb 0 2 (by omega) (by omega) (by omega)) (hb 1 2 (by omega) (by omega) (by omega)) (hb 2 0 (by omega) (by omega) (by omega)) (hb 2 1 (by omega) (by omega) (by omega)) (hb 2 2 (by omega) (by omega) (by omega)), hm 0 0 (by omega) (by omega), hm 0 1 (by omega) (by omega)]; simp
        · unfold DT
          rw [hm 0 0 (by omega) (by omega), hm 0 1 (by omega) (by omega), hm 0 2 (by omega) (by omega)]; simp
      · exact absurd (by rw [hm i a (by omega) (by omega), hm i b (by omega) (by omega)]; simp) q5
      · exact absurd (hm r i hr hi) hne
      · omega
    · intro hr
      have hv0 : ∀ i, i < o → v i = 0 := by
        intro i hi
        apply Classical.byContradiction
        intro q
        have a1 := RkM_pos h1 (p := 0) (q := i) (by omega) hi (by rw [RMr_at hi]; exact q) (hnow 0 (by omega))
        have a2 := hr 0 (by omega)
        omega
      have hv3 : ∀ i, i < 3 → v i = 0 := fun i hi => by
        by_cases c : i < o
        · exact hv0 i c
        · exact hv i hi (by omega)
      intro j _ hj
      match j, hj with
      | 0, _ => rw [e0]; exact hv3 0 (by omega)
      | 1, _ => rw [e1]; exact hv3 1 (by omega)
      | 2, _ => rw [e2]; exact hv3 2 (by omega)
