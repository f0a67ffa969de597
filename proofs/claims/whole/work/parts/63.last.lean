/-! plans: the model finds the last inputs -/
theorem pk_1 : ∀ o, o < 4 → ∀ p, p < o → (Pk o 1 (2 ^ p)).1 = 1 ∧ (Pk o 1 (2 ^ p)).2 0 = p := by decide
theorem pk_2 : ∀ o, o < 4 → ∀ p, p < o → ∀ q, q < o → p < q → (Pk o 2 (2 ^ p + 2 ^ q)).1 = 2 ∧ (Pk o 2 (2 ^ p + 2 ^ q)).2 0 = p ∧ (Pk o 2 (2 ^ p + 2 ^ q)).2 1 = q := by decide
theorem pk_3 : (Pk 3 3 7).1 = 3 ∧ (Pk 3 3 7).2 0 = 0 ∧ (Pk 3 3 7).2 1 = 1 ∧ (Pk 3 3 7).2 2 = 2 := by decide
theorem pw8 : ∀ o, o < 4 → ∀ p, p < o → 2 ^ p < 8 ∧ ∀ q, q < o → p < q → 2 ^ p + 2 ^ q < 8 := by decide
theorem EM1 (R : Nat → Nat → Int) (P : Nat → Nat) : DT (EM R 1 P 1 0) (EM R 1 P 1 1) (EM R 1 P 1 2) = R 0 (P 0) := DT1 rfl rfl rfl rfl rfl rfl rfl rfl
theorem EM2 (R : Nat → Nat → Int) (P : Nat → Nat) : DT (EM R 2 P 2 0) (EM R 2 P 2 1) (EM R 2 P 2 2) = R 1 (P 0) * R 0 (P 1) - R 1 (P 1) * R 0 (P 0) := DT2 rfl rfl rfl rfl rfl
theorem nz_R0 {to : Nat → Int32} {rk : Nat} {B : Nat → Nat → Int} (hB : Bs to rk B) (h : 1 ≤ rk) : ∃ p, p < 3 ∧ Rw false to 0 p ≠ 0 := by
  apply Classical.byContradiction
  intro q
  have h0 : ∀ k, k < 3 → Rw false to 0 k = 0 := fun k hk => Classical.byContradiction (fun e => q ⟨k, hk, e⟩)
  have e := hB.2.2.1 0 0 (by omega) (by omega)
  rw [cB_zero B 0 h0, if_pos rfl] at e
  exact hB.2.1 e.symm
theorem nz_R1 {to : Nat → Int32} {rk : Nat} {B : Nat → Nat → Int} (hB : Bs to rk B) (h : 2 ≤ rk) : ∃ p q, p < 3 ∧ q < 3 ∧ Rw false to 1 p * Rw false to 0 q - Rw false to 1 q * Rw false to 0 p ≠ 0 := by
  apply Classical.byContradiction
  intro hno
  have hall : ∀ p q, p < 3 → q < 3 → Rw false to 1 p * Rw false to 0 q = Rw false to 1 q * Rw false to 0 p := fun p q hp hq => by
    have := Classical.byContradiction (fun e => hno ⟨p, q, hp, hq, e⟩)
    omega
  obtain ⟨p, hp, hne⟩ := nz_R0 hB (by omega)
  have e00 := hB.2.2.1 0 0 (by omega) (by omega)
  have e01 := hB.2.2.1 0 1 (by omega) (by omega)
  have e11 := hB.2.2.1 1 1 (by omega) (by omega)
  rw [if_pos rfl] at e00 e11
  rw [if_neg (by omega)] at e01
  have hv : ∀ k, k < 3 → Rw false to 0 p * Rw false to 1 k = Rw false to 1 p * Rw false to 0 k := fun k hk => by have := hall p k hp hk; grind
  have c0 : Rw false to 0 p * cB B 0 (Rw false to 1) = Rw false to 1 p * cB B 0 (Rw false to 0) := by
    have a := cB_3 B 0 (u := fun k => Rw false to 0 p * Rw false to 1 k) (a := Rw false to 0 p) (b := 0) (c := 0) (v := Rw false to 1) (w := Rw false to 0) (z := Rw false to 0) (fun k _ => by grind)
    have b := cB_3 B 0 (u := fun k => Rw false to 0 p * Rw false to 1 k) (a := Rw false to 1 p) (b := 0) (c := 0) (v := Rw false to 0) (w := Rw false to 0) (z := Rw false to 0) (fun k hk => by have := hv k hk; grind)
    rw [a] at b; grind
  rw [e01, e00] at c0
  have hz1 : Rw false to 1 p = 0 := by
    rcases Int.mul_eq_zero.mp (show Rw false to 1 p * DT (B 0) (B 1) (B 2) = 0 by rw [← c0]; simp) with z | z
    · exact z
    · exact absurd z hB.2.1
  have h1z : ∀ k, k < 3 → Rw false to 1 k = 0 := fun k hk => by
    have := hv k hk
    rw [hz1] at this
    exact mz hne (by rw [this]; simp)
  rw [cB_zero B 1 h1z] at e11
  exact hB.2.1 e11.symm
theorem suc_ex {to : Nat → Int32} {o rk : Nat} (ho : o ≤ 3) (hz : ZT o to) {B : Nat → Nat → Int} (hB : Bs to rk B) (hro : rk ≤ o) (h3 : rk = 3 → DT (Rw false to 0) (Rw false to 1) (Rw false to 2) ≠ 0) {b : Nat} (h1 : 1 ≤ b) (hb : b ≤ rk) : ∃ set, set < 8 ∧ Suc (Rw false to) o b set := by
  have zo : ∀ r p, p < 3 → Rw false to r p ≠ 0 → p < o := fun r p hp hne => Classical.byContradiction (fun q => hne (Rw_z hz false r hp (by omega)))
  rcases (show b = 1 ∨ b = 2 ∨ b = 3 by omega) with rfl | rfl | rfl
  · obtain ⟨p, hp, hne⟩ := nz_R0 hB hb
    have hpo := zo 0 p hp hne
    obtain ⟨a1, a2⟩ := pk_1 o (by omega) p hpo
    refine ⟨2 ^ p, (pw8 o (by omega) p hpo).1, a1, ?_⟩
    rw [EM1, a2]; exact hne
  · obtain ⟨p, q, hp, hq, hne⟩ := nz_R1 hB hb
    have key : ∀ p q, p < 3 → q < 3 → p < q → Rw false to 1 p * Rw false to 0 q - Rw false to 1 q * Rw false to 0 p ≠ 0 → ∃ set, set < 8 ∧ Suc (Rw false to) o 2 set := by
      intro p q hp hq hpq hne
      have hqo : q < o := Classical.byContradiction (fun c => hne (by rw [Rw_z hz false 0 hq (by omega), Rw_z hz false 1 hq (by omega)]; simp))
      obtain ⟨a1, a2, a3⟩ := pk_2 o (by omega) p (by omega) q hqo hpq
      refine ⟨2 ^ p + 2 ^ q, (pw8 o (by omega) p (by omega)).2 q hqo hpq, a1, ?_⟩
      rw [EM2, a2, a3]; exact hne
    rcases Nat.lt_trichotomy p q with h | h | h
    · exact key p q hp hq h hne
    · subst h; exact absurd (by omega) hne
    · exact key q p hq hp h (fun e => hne (by omega))
  · have e3 : o = 3 := by omega
    subst e3
    obtain ⟨a1, a2, a3, a4⟩ := pk_3
    refine ⟨7, by omega, a1, ?_⟩
    have e : DT (EM (Rw false to) 3 (Pk 3 3 7).2 3 0) (EM (Rw false to) 3 (Pk 3 3 7).2 3 1) (EM (Rw false to) 3 (Pk 3 3 7).2 3 2) = DT (Rw false to 2) (Rw false to 1) (Rw false to 0) := by
      show Rw false to 2 ((Pk 3 3 7).2 0) * (Rw false to 1 ((Pk 3 3 7).2 1) * Rw false to 0 ((Pk 3 3 7).2 2) - Rw false to 1 ((Pk 3 3 7).2 2) * Rw false to 0 ((Pk 3 3 7).2 1)) + Rw false to 2 ((Pk 3 3 7).2 1) * (Rw false to 1 ((Pk 3 3 7).2 2) * Rw false to 0 ((Pk 3 3 7).2 0) - Rw false to 1 ((Pk 3 3 7).2 0) * Rw false to 0 ((Pk 3 3 7).2 2)) + Rw false to 2 ((Pk 3 3 7).2 2) * (Rw false to 1 ((Pk 3 3 7).2 0) * Rw false to 0 ((Pk 3 3 7).2 1) - Rw false to 1 ((Pk 3 3 7).2 1) * Rw false to 0 ((Pk 3 3 7).2 0)) = _
      rw [a2, a3, a4]; rfl
    rw [e]
    intro q
    apply h3 (by omega)
    have e2 : DT (Rw false to 0) (Rw false to 1) (Rw false to 2) = -(DT (Rw false to 2) (Rw false to 1) (Rw false to 0)) := by unfold DT; grind
    rw [e2, q]; rfl
theorem EM_sq {R : Nat → Nat → Int} (d0 : Bd 2 (R 0)) (d1 : Bd 12 (R 1)) (d2 : Bd 72 (R 2)) {many o : Nat} (hm1 : 1 ≤ many) (hm : many ≤ 3) (ho : o ≤ 3) {P : Nat → Nat} (hP : ∀ j, j < many → P j < o) : (∀ j, Bd 1728 (sq (EM R many P many) j)) ∧ -10368 ≤ DT (EM R many P many 0) (EM R many P many 1) (EM R many P many 2) ∧ DT (EM R many P many 0) (EM R many P many 1) (EM R many P many 2) ≤ 10368 := by
  have hb := EM_bd d0 d1 d2 hm ho hP
  have c0 : Bd 72 (EM R many P many 0) := (hb 0 (by omega)).mono (by split <;> (try split) <;> omega)
  have c1 : Bd 12 (EM R many P many 1) := (hb 1 (by omega)).mono (by split <;> (try split) <;> omega)
  have c2 : Bd 2 (EM R many P many 2) := (hb 2 (by omega)).mono (by split <;> (try split) <;> omega)
  refine ⟨fun j => ?_, ?_⟩
  · unfold sq
    by_cases a : j = 0
    · rw [if_pos a]; exact (cr_bd c1 c2).mono (by omega)
    · rw [if_neg a]
      by_cases b : j = 1
      · rw [if_pos b]; exact (cr_bd c2 c0).mono (by omega)
      · rw [if_neg b]; exact (cr_bd c0 c1).mono (by omega)
  · have := DT_bd c0 c1 c2
    omega
/-- inputs that bring all to rest solve the equations of the places -/
theorem asked_sol {to : Nat → Int32} {o : Nat} (ho : o ≤ 3) {S : Nat → Int} {n t b : Nat} (hn : n = t + b) (h1 : 1 ≤ b) (hb : b ≤ 3) {u q : Nat → Int} (hrest : Rest to S n (mx u q t)) {P : Nat → Nat} (hP : ∀ j, j < b → P j < o) {k : Nat} (hk : k < b) : cB (EM (Rw false to) b P b) k (WV (yv to S n u t) P b) = DT (EM (Rw false to) b P b 0) (EM (Rw false to) b P b 1) (EM (Rw false to) b P b 2) * q (t + k) := by
  have hy : ∀ p, p < 3 → yv to S n (mx u q t) t p = yv to S n u t p := fun p _ => yv_cg to S n t (fun j hj => mx_lt hj) p
  have hstep : ∀ m p, yv to S n (mx u q t) (t + (m + 1)) p = yv to S n (mx u q t) (t + m) p + q (t + m) * Rw false to (b - 1 - m) p := by
    intro m p
    show yv to S n (mx u q t) (t + m) p + mx u q t (t + m) * Rw false to (n - 1 - (t + m)) p = _
    rw [mx_ge (by omega), show n - 1 - (t + m) = b - 1 - m by omega]
  have hw : ∀ g, g < 3 → WV (yv to S n u t) P b g = (if 0 < b then q (t + 0) else 0) * EM (Rw false to) b P b 0 g + (if 1 < b then q (t + 1) else 0) * EM (Rw false to) b P b 1 g + (if 2 < b then q (t + 2) else 0) * EM (Rw false to) b P b 2 g := by
    intro g hg
    by_cases c : g < b
    · have hp := hP g c
      have hr : yv to S n (mx u q t) (t + b) (P g) = 0 := by
        have := hrest (P g) (by omega)
        rw [← hn]; exact this
      have hw : WV (yv to S n u t) P b g = -(yv to S n u t (P g)) := if_pos c
      have em : ∀ r, r < b → EM (Rw false to) b P b r g = Rw false to (b - 1 - r) (P g) := fun r hr' => if_pos ⟨hr', c⟩
      rw [hw, ← hy (P g) (by omega)]
      rcases (show b = 1 ∨ b = 2 ∨ b = 3 by omega) with rfl | rfl | rfl
      · rw [show t + 1 = t + (0 + 1) from rfl, hstep 0] at hr
        rw [if_pos (by omega), if_neg (by omega), if_neg (by omega), em 0 (by omega)]
        rw [show t + 0 = t from rfl] at *
        grind
      · rw [show t + 2 = t + (1 + 1) from rfl, hstep 1, show t + 1 = t + (0 + 1) from rfl, hstep 0] at hr
        rw [if_pos (by omega), if_pos (by omega), if_neg (by omega), em 0 (by omega), em 1 (by omega)]
        rw [show t + 0 = t from rfl] at *
        grind
      · rw [show t + 3 = t + (2 + 1) from rfl, hstep 2, show t + 2 = t + (1 + 1) from rfl, hstep 1, show t + 1 = t + (0 + 1) from rfl, hstep 0] at hr
        rw [if_pos (by omega), if_pos (by omega), if_pos (by omega), em 0 (by omega), em 1 (by omega), em 2 (by omega)]
        rw [show t + 0 = t from rfl] at *
        grind
    · have hw : WV (yv to S n u t) P b g = 0 := if_neg c
      have em : ∀ r, EM (Rw false to) b P b r g = if r = g then 1 else 0 := fun r => if_neg (fun q => c q.2)
      have one : ∀ r (z : Int), (if r < b then z else 0) * EM (Rw false to) b P b r g = 0 := by
        intro r z
        rw [em r]
        by_cases d : r < b
        · rw [if_neg (show ¬ r = g by omega)]; simp
        · rw [if_neg d]; simp
      rw [hw, one, one, one]; simp
  rw [cB_3 _ k hw, cB_B _ (by omega) (by omega), cB_B _ (by omega) (by omega), cB_B _ (by omega) (by omega)]
  rcases (show k = 0 ∨ k = 1 ∨ k = 2 by omega) with rfl | rfl | rfl
  · rw [if_pos (show 0 < b from hk), if_pos (show (0 : Nat) = 0 from rfl), if_neg (show ¬ (0 : Nat) = 1 by omega), if_neg (show ¬ (0 : Nat) = 2 by omega)]
    grind
  · rw [if_pos (show 1 < b from hk), if_pos (show (1 : Nat) = 1 from rfl), if_neg (show ¬ (1 : Nat) = 0 by omega), if_neg (show ¬ (1 : Nat) = 2 by omega)]
    grind
  · rw [if_pos (show 2 < b from hk), if_pos (show (2 : Nat) = 2 from rfl), if_neg (show ¬ (2 : Nat) = 0 by omega), if_neg (show ¬ (2 : Nat) = 1 by omega)]
    grind
theorem fl_2 {o many : Nat} (ho : o ≤ 3) (h1 : 1 ≤ many) (hm : many ≤ o) {R : Nat → Nat → Int} (d0 : Bd 2 (R 0)) (d1 : Bd 12 (R 1)) (d2 : Bd 72 (R 2)) {rows : Nat → Int64} (hr : rm9 rows (RM R o)) {go : Nat → Int64} {y : Nat → Int} (hgo : rpo o go y) (l1 li : Int32) (tr sa nx : Nat → Int64) (inp to : Nat → Int32) : ∀ (m s f : Nat) (en' wa : Nat → Int64), s + m = 8 → m < f → (∃ s', s ≤ s' ∧ s' < 8 ∧ Suc R o many s') → ∃ set e2 w2 k2, DT (EM R many (Pk o many set).2 many 0) (EM R many (Pk o many set).2 many 1) (EM R many (Pk o many set).2 many 2) ≠ 0 ∧ (∀ j, j < many → (Pk o many set).2 j < o) ∧ rm9 e2 (EM R many (Pk o many set).2 many) ∧ rp w2 (WV y (Pk o many set).2 many) ∧ F_X5_findLast_2 f l1 (nI many) (nI s) (nI o) li en' wa go rows tr sa inp nx to = F_X5_findLast_35 k2 3000 l1 (nI many) (Int64.ofInt (DT (EM R many (Pk o many set).2 many 0) (EM R many (Pk o many set).2 many 1) (EM R many (Pk o many set).2 many 2))) 0 (nI o) li e2 w2 go rows tr sa inp nx to := by
  intro m
  induction m with
  | zero =>
    intro s f en' wa hs hf hex
    obtain ⟨s', a, b, -⟩ := hex
    omega
  | succ m ih =>
    intro s f en' wa hs hf hex
    obtain ⟨f, rfl⟩ : ∃ q, f = q + 1 := ⟨f - 1, by omega⟩
    obtain ⟨e2, w2, h⟩ := la_ev ho h1 hm (show s < 8 by omega) d0 d1 d2 hr hgo en' wa
    rcases h with ⟨hsuc, hP, e, hE, hW⟩ | ⟨hno, e⟩
    · refine ⟨s, e2, w2, (fun l1 l2 l3 v_order v_limit v_ends v_wanted v_goal v_rows v_tried v_startAt v_inputs v_nextAt v_told => F_X5_findLast_2 f l1 l2 l3 v_order v_limit v_ends v_wanted v_goal v_rows v_tried v_startAt v_inputs v_nextAt v_told), hsuc.2, hP, hE, hW, ?_⟩
      rw [F_X5_findLast_2, if_neg (show ¬ (8 : Int32) ≤ nI s from nI_ge (b := 8) (by omega) (by omega))]
      refine b3 e ?_
      rw [ie1]
      exact b1 (det3 hE) rfl
    · obtain ⟨s', a, b, hs'⟩ := hex
      have hne : s' ≠ s := fun q => hno (q ▸ hs')
      obtain ⟨set, e3, w3, k2, c1, c2, c3, c4, c5⟩ := ih (s + 1) f e2 w2 (by omega) (by omega) ⟨s', by omega, b, hs'⟩
      refine ⟨set, e3, w3, k2, c1, c2, c3, c4, ?_⟩
      rw [F_X5_findLast_2, if_neg (show ¬ (8 : Int32) ≤ nI s from nI_ge (b := 8) (by omega) (by omega))]
      refine b3 e ?_
      rw [ie0, nI_1]
      exact c5
theorem fl_35 {o many t L : Nat} (hm : many ≤ 3) (hn : t + many ≤ 6) (hL : L ≤ 5) {M : Nat → Nat → Int} {w : Nat → Int} (hD : DT (M 0) (M 1) (M 2) ≠ 0) (d1 : -10368 ≤ DT (M 0) (M 1) (M 2)) (d2 : DT (M 0) (M 1) (M 2) ≤ 10368) (hwb : ∀ j, -300000000000000 ≤ cB M j w ∧ cB M j w ≤ 300000000000000) {e2 w2 : Nat → Int64} (hE : rm9 e2 M) (hW : rp w2 w) (k2 : Int32 → Int32 → Int32 → Int32 → Int32 → (Nat → Int64) → (Nat → Int64) → (Nat → Int64) → (Nat → Int64) → (Nat → Int64) → (Nat → Int64) → (Nat → Int32) → (Nat → Int64) → (Nat → Int32) → Option (Int32 × (Nat → Int64) × (Nat → Int64) × (Nat → Int64) × (Nat → Int32) × (Nat → Int64))) (go rows tr sa nx : Nat → Int64) (to : Nat → Int32) : ∀ (m k f : Nat) (inp : Nat → Int32), k + m = many → m < f → ∃ inp2, (∀ i, i < t + k → inp2 i = inp i) ∧ ((∃ q : Nat → Int, F_X5_findLast_35 k2 f (nI t) (nI many) (Int64.ofInt (DT (M 0) (M 1) (M 2))) (nI k) (nI o) (nI L) e2 w2 go rows tr sa inp nx to = bd2 (F_X5_goInputs (nI (t + many)) (nI o) tr sa inp2 nx to) (fun x1_tried x1_nextAt => bd1 (F_X5_isRest (nI o) x1_tried) (fun r2 => if ¬ r2 &&& 1 = r2 then none else some (r2, e2, w2, x1_tried, inp2, x1_nextAt))) ∧ ∀ j, k ≤ j → j < many → cB M j w = DT (M 0) (M 1) (M 2) * q j ∧ -(L : Int) ≤ q j ∧ q j ≤ L ∧ inp2 (t + j) = Int32.ofInt (q j)) ∨ (F_X5_findLast_35 k2 f (nI t) (nI many) (Int64.ofInt (DT (M 0) (M 1) (M 2))) (nI k) (nI o) (nI L) e2 w2 go rows tr sa inp nx to = some (0, e2, w2, tr, inp2, nx) ∧ ∃ j, j < many ∧ ¬ ∃ q, cB M j w = DT (M 0) (M 1) (M 2) * q ∧ -(L : Int) ≤ q ∧ q ≤ L)) := by
  intro m
  induction m with
  | zero =>
    intro k f inp hk hf
    obtain ⟨f, rfl⟩ : ∃ q, f = q + 1 := ⟨f - 1, by omega⟩
    refine ⟨inp, fun _ _ => rfl, Or.inl ⟨fun _ => 0, ?_, fun j a b => by omega⟩⟩
    rw [F_X5_findLast_35, if_pos (nI_le (by omega) (by omega)), nI_add]
  | succ m ih =>
    intro k f inp hk hf
    obtain ⟨f, rfl⟩ : ∃ q, f = q + 1 := ⟨f - 1, by omega⟩
    have hDn : ¬ Int64.ofInt (DT (M 0) (M 1) (M 2)) = 0 := fun e => hD ((o_zero (by omega) (by omega)).mp e)
    have edet : F_X5_determinant (nI k) e2 w2 = some (Int64.ofInt (cB M k w)) := det_sq hE hW (by omega)
    have hq := q_case hL hD (by omega) (by omega) (hwb k).1 (hwb k).2
    rcases hq with ⟨q, hq1, hq2, hq3, ed, c1, c2, c3⟩ | ⟨hno, hc⟩
    · obtain ⟨inp2, fr, hh⟩ := ih (k + 1) f (upd inp (t + k) (Int32.ofInt q)) (by omega) (by omega)
      have estep : F_X5_findLast_35 k2 (f + 1) (nI t) (nI many) (Int64.ofInt (DT (M 0) (M 1) (M 2))) (nI k) (nI o) (nI L) e2 w2 go rows tr sa inp nx to = F_X5_findLast_35 k2 f (nI t) (nI many) (Int64.ofInt (DT (M 0) (M 1) (M 2))) (nI (k + 1)) (nI o) (nI L) e2 w2 go rows tr sa (upd inp (t + k) (Int32.ofInt q)) nx to := by
        rw [F_X5_findLast_35, if_neg (nI_ge (by omega) (by omega)), edet]
        refine b1 rfl ?_
        rw [if_neg hDn, ed, if_pos c1, if_neg c2, if_pos c3, nI_add, if_neg (in6 (by omega)), clk (by omega), lO_32, nI_1]
      refine ⟨inp2, fun i hi => ?_, ?_⟩
      · rw [fr i (by omega)]
        show (if i = t + k then _ else inp i) = _
        rw [if_neg (by omega)]
      · rcases hh with ⟨q', e', hq'⟩ | ⟨e', hno'⟩
        · left
          refine ⟨fun r => if r = k then q else q' r, estep.trans e', fun j a c => ?_⟩
          by_cases d : j = k
          · subst d
            show _ = _ * (if j = j then q else q' j) ∧ _ ≤ (if j = j then q else q' j) ∧ (if j = j then q else q' j) ≤ _ ∧ _ = Int32.ofInt (if j = j then q else q' j)
            rw [if_pos rfl]
            refine ⟨hq1, hq2, hq3, ?_⟩
            rw [fr (t + j) (by omega)]
            exact if_pos rfl
          · show _ = _ * (if j = k then q else q' j) ∧ _ ≤ (if j = k then q else q' j) ∧ (if j = k then q else q' j) ≤ _ ∧ _ = Int32.ofInt (if j = k then q else q' j)
            rw [if_neg d]
            exact hq' j (by omega) c
        · exact Or.inr ⟨estep.trans e', hno'⟩
    · refine ⟨inp, fun _ _ => rfl, Or.inr ⟨?_, k, by omega, hno⟩⟩
      rw [F_X5_findLast_35, if_neg (nI_ge (by omega) (by omega)), edet]
      refine b1 rfl ?_
      rw [if_neg hDn]
      rcases hc with h | h | h
      · rw [if_neg h]
      · by_cases h0 : lg_cmp (Int64.ofInt (cB M k w) / Int64.ofInt (DT (M 0) (M 1) (M 2)) * Int64.ofInt (DT (M 0) (M 1) (M 2))) (Int64.ofInt (cB M k w)) = 0
        · rw [if_pos h0, if_pos h]
        · rw [if_neg h0]
      · by_cases h0 : lg_cmp (Int64.ofInt (cB M k w) / Int64.ofInt (DT (M 0) (M 1) (M 2)) * Int64.ofInt (DT (M 0) (M 1) (M 2))) (Int64.ofInt (cB M k w)) = 0
        · rw [if_pos h0]
          by_cases h1 : lg_cmp (Int64.ofInt (cB M k w) / Int64.ofInt (DT (M 0) (M 1) (M 2))) (-(nI L)).toInt64 < 0
          · rw [if_pos h1]
          · rw [if_neg h1, if_neg h]
        · rw [if_neg h0]
