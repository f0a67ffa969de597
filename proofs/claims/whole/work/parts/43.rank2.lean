def RkM (M : Nat → Nat → Int) (o rk : Nat) : Prop :=
  (DT (M 0) (M 1) (M 2) ≠ 0 ∧ rk = o) ∨ (DT (M 0) (M 1) (M 2) = 0 ∧ ((o = 3 ∧ AreTwo M ∧ rk = 2) ∨ (¬ (o = 3 ∧ AreTwo M) ∧ (((∃ r i, r < o ∧ i < o ∧ M r i ≠ 0) ∧ rk = 1) ∨ ((∀ r i, r < o → i < o → M r i = 0) ∧ rk = 0)))))
theorem DT_bd {K L N : Int} {u v w : Nat → Int} (hu : Bd K u) (hv : Bd L v) (hw : Bd N w) : -(3 * (2 * (K * L) * N)) ≤ DT u v w ∧ DT u v w ≤ 3 * (2 * (K * L) * N) := by
  rw [← DT_dot]; exact dot_bd (cr_bd hu hv) hw
theorem rank_ev {o : Nat} (h1 : 1 ≤ o) (ho : o ≤ 3) {f : Nat → Int64} {M : Nat → Nat → Int} (h : rm9 f M) (hb : ∀ r i, r < 3 → i < 3 → -1000000000 ≤ M r i ∧ M r i ≤ 1000000000) (hd : -9000000000000000000 ≤ DT (M 0) (M 1) (M 2) ∧ DT (M 0) (M 1) (M 2) ≤ 9000000000000000000) {α : Type} (K : Nat → Option α) (a35 : Option α) (h35 : ∀ X, (nI o ≤ 2 → ((F_X5_isAny (nI o) f = some 0 → X = K 0) ∧ (F_X5_isAny (nI o) f = some 1 → X = K 1))) → (¬ nI o ≤ 2 → ((F_X5_areTwo (nI o) f = some 1 → X = K 2) ∧ (F_X5_areTwo (nI o) f = some 0 → ((F_X5_isAny (nI o) f = some 0 → X = K 0) ∧ (F_X5_isAny (nI o) f = some 1 → X = K 1))))) → a35 = X) :
    ∃ rk, RkM M o rk ∧ rk ≤ 3 ∧ bd1 (F_X5_determinant_al31 3 f) (fun r2 => if lg_cmp r2 0 = 0 then a35 else K o) = K rk := by
  have hcm := cmp0 hd.1 hd.2
  by_cases hdet : DT (M 0) (M 1) (M 2) = 0
  · have hif : bd1 (F_X5_determinant_al31 3 f) (fun r2 => if lg_cmp r2 0 = 0 then a35 else K o) = a35 := b1 (det3 h) (if_pos (hcm.mpr hdet))
    rw [hif]
    have ha := any_ev ho h hb
    by_cases h3 : o = 3
    · subst h3
      have hn2 : ¬ nI 3 ≤ 2 := by decide
      rcases two_ev h hb with ⟨e2, t⟩ | ⟨e2, t⟩
      · refine ⟨2, Or.inr ⟨hdet, Or.inl ⟨rfl, t, rfl⟩⟩, by omega, h35 _ (fun q => absurd q hn2) (fun _ => ⟨fun _ => rfl, fun q => ?_⟩)⟩
        rw [e2] at q; cases q
      · rcases ha with ⟨e1, t1⟩ | ⟨e1, t1⟩
        · refine ⟨1, Or.inr ⟨hdet, Or.inr ⟨fun q => t q.2, Or.inl ⟨t1, rfl⟩⟩⟩, by omega, h35 _ (fun q => absurd q hn2) (fun _ => ⟨fun q => ?_, fun _ => ⟨fun q => ?_, fun _ => rfl⟩⟩)⟩
          · rw [e2] at q; cases q
          · rw [e1] at q; cases q
        · refine ⟨0, Or.inr ⟨hdet, Or.inr ⟨fun q => t q.2, Or.inr ⟨t1, rfl⟩⟩⟩, by omega, h35 _ (fun q => absurd q hn2) (fun _ => ⟨fun q => ?_, fun _ => ⟨fun _ => rfl, fun q => ?_⟩⟩)⟩
          · rw [e2] at q; cases q
          · rw [e1] at q; cases q
    · have hle : nI o ≤ 2 := nI_le (b := 2) (by omega) (by omega)
      rcases ha with ⟨e1, t1⟩ | ⟨e1, t1⟩
      · refine ⟨1, Or.inr ⟨hdet, Or.inr ⟨fun q => h3 q.1, Or.inl ⟨t1, rfl⟩⟩⟩, by omega, h35 _ (fun _ => ⟨fun q => ?_, fun _ => rfl⟩) (fun q => absurd hle q)⟩
        rw [e1] at q; cases q
      · refine ⟨0, Or.inr ⟨hdet, Or.inr ⟨fun q => h3 q.1, Or.inr ⟨t1, rfl⟩⟩⟩, by omega, h35 _ (fun _ => ⟨fun _ => rfl, fun q => ?_⟩) (fun q => absurd hle q)⟩
        rw [e1] at q; cases q
  · exact ⟨o, Or.inl ⟨hdet, rfl⟩, ho, b1 (det3 h) (if_neg (fun q => hdet (hcm.mp q)))⟩
theorem RM_bd {R : Nat → Nat → Int} {o : Nat} (d0 : Bd 2 (R 0)) (d1 : Bd 12 (R 1)) (d2 : Bd 72 (R 2)) : ∀ r, r < 3 → Bd 72 (RM R o r) := by
  intro r hr i hi
  unfold RM
  by_cases c : r < o ∧ i < o
  · rw [if_pos c]
    match r, hr with
    | 0, _ => have := d0 i hi; omega
    | 1, _ => have := d1 i hi; omega
    | 2, _ => exact d2 i hi
  · rw [if_neg c]
    by_cases e : r = i
    · rw [if_pos e]; omega
    · rw [if_neg e]; omega
theorem rankNow_ev (x : Bool) {o : Nat} (h1 : 1 ≤ o) (ho : o ≤ 3) {to : Nat → Int32} (hz : ZT o to) (rows : Nat → Int64) : ∃ rk f, RkM (RM (Rw x to) o) o rk ∧ rk ≤ 3 ∧ F_X5_rankNow (xI x) (nI o) rows to = some (nI rk, f) ∧ rm9 f (RM (Rw x to) o) := by
  obtain ⟨f, hf, hm⟩ := lay_ev x ho hz rows
  have hbd := RM_bd (o := o) (R0_bd hz.1 x) (R1_bd hz.1 x) (R2_bd hz.1 x)
  obtain ⟨rk, hrk, hle, e⟩ := rank_ev h1 ho hm (fun r i hr hi => by have := hbd r hr i hi; omega) (by have := DT_bd (hbd 0 (by omega)) (hbd 1 (by omega)) (hbd 2 (by omega)); omega) (fun k => some (nI k, f)) (F_X5_rankNow_35 (nI o) f to) (fun X a b => by
    unfold F_X5_rankNow_35 F_X5_rankNow_54
    by_cases c : nI o ≤ 2
    · rw [if_pos c]
      rcases any_ev ho hm (fun r i hr hi => by have := hbd r hr i hi; omega) with ⟨e1, -⟩ | ⟨e1, -⟩
      · rw [(a c).2 e1]; exact b1 e1 ie1
      · rw [(a c).1 e1]; exact b1 e1 ie0
    · rw [if_neg c]
      have h3 : o = 3 := by
        apply Classical.byContradiction
        intro q
        exact c (nI_le (b := 2) (by omega) (by omega))
      subst h3
      rcases two_ev hm (fun r i hr hi => by have := hbd r hr i hi; omega) with ⟨e2, -⟩ | ⟨e2, -⟩
      · rw [(b c).1 e2]; exact b1 e2 ie1
      · refine b1 e2 ?_
        rw [ie0]
        rcases any_ev ho hm (fun r i hr hi => by have := hbd r hr i hi; omega) with ⟨e1, -⟩ | ⟨e1, -⟩
        · rw [((b c).2 e2).2 e1]; exact b1 e1 ie1
        · rw [((b c).2 e2).1 e1]; exact b1 e1 ie0)
  refine ⟨rk, f, hrk, hle, ?_, hm⟩
  unfold F_X5_rankNow
  refine b1 hf ?_
  rw [if_neg (nI_nle (by omega) (by omega))]
  exact e
theorem lin_tr (P Q e0 e1 e2 a0 a1 a2 b0 b1 b2 : Int) (h0 : P * a0 = Q * b0) (h1 : P * a1 = Q * b1) (h2 : P * a2 = Q * b2) : P * (e0 * a0 + e1 * a1 + e2 * a2) = Q * (e0 * b0 + e1 * b1 + e2 * b2) := by grind
/-- what REACH, SIGHT are: each row the one ahead of it, gone on; nothing beyond the order -/
def IsRw (x : Bool) (ce : Nat → Int32) (o : Nat) : Prop := ZT o ce
theorem cr_all {u v : Nat → Int} (h : ∀ b, b < 3 → cr u v b = 0) {p i : Nat} (hp : p < 3) (hi : i < 3) : u p * v i = v p * u i := by
  have c0 : u 1 * v 2 - u 2 * v 1 = 0 := h 0 (by omega)
  have c1 : u 2 * v 0 - u 0 * v 2 = 0 := h 1 (by omega)
  have c2 : u 0 * v 1 - u 1 * v 0 = 0 := h 2 (by omega)
  match p, i, hp, hi with
  | 0, 0, _, _ => exact Int.mul_comm _ _
  | 1, 1, _, _ => exact Int.mul_comm _ _
  | 2, 2, _, _ => exact Int.mul_comm _ _
  | 0, 1, _, _ => grind
  | 0, 2, _, _ => grind
  | 1, 0, _, _ => grind
  | 1, 2, _, _ => grind
  | 2, 0, _, _ => grind
  | 2, 1, _, _ => grind
theorem R_next (x : Bool) (ce : Nat → Int32) (r : Nat) (i : Nat) : Rw x ce (r + 1) i = en x ce i 0 * Rw x ce r 0 + en x ce i 1 * Rw x ce r 1 + en x ce i 2 * Rw x ce r 2 := rfl
theorem R_zero (x : Bool) (ce : Nat → Int32) (h : ∀ b, b < 3 → Rw x ce 0 b = 0) : ∀ r i, i < 3 → Rw x ce r i = 0
  | 0, i, hi => h i hi
  | r + 1, i, hi => by
    rw [R_next, R_zero x ce h r 0 (by omega), R_zero x ce h r 1 (by omega), R_zero x ce h r 2 (by omega)]; simp
theorem R_par (x : Bool) (ce : Nat → Int32) (h : ∀ b, b < 3 → cr (Rw x ce 0) (Rw x ce 1) b = 0) {p i : Nat} (hp : p < 3) (hi : i < 3) : Rw x ce 0 p * Rw x ce 2 i = Rw x ce 1 p * Rw x ce 1 i := by
  rw [R_next x ce 1 i]
  rw [show Rw x ce 1 i = en x ce i 0 * Rw x ce 0 0 + en x ce i 1 * Rw x ce 0 1 + en x ce i 2 * Rw x ce 0 2 from R_next x ce 0 i]
  exact lin_tr _ _ _ _ _ _ _ _ _ _ _ (cr_all h hp (by omega)) (cr_all h hp (by omega)) (cr_all h hp (by omega))
theorem R_not2 (x : Bool) (ce : Nat → Int32) (h : ∀ b, b < 3 → cr (Rw x ce 0) (Rw x ce 1) b = 0) : ¬ AreTwo (Rw x ce) := by
  rintro ⟨i, j, a, b, h1, h2, h3, h4, h5⟩
  apply h5
  by_cases hz : ∀ b, b < 3 → Rw x ce 0 b = 0
  · rw [R_zero x ce hz i a h3, R_zero x ce hz i b h4]; simp
  · obtain ⟨p, hp, hne⟩ : ∃ p, p < 3 ∧ Rw x ce 0 p ≠ 0 := by
      apply Classical.byContradiction
      intro q
      exact hz (fun b hb => Classical.byContradiction fun z => q ⟨b, hb, z⟩)
    have k1 := fun i (hi : i < 3) => cr_all h hp hi
    have k2 := fun i (hi : i < 3) => R_par x ce h hp hi
    have m1a := k1 a h3
    have m1b := k1 b h4
    have m2a := k2 a h3
    have m2b := k2 b h4
    rcases (show (i = 0 ∧ j = 1) ∨ (i = 0 ∧ j = 2) ∨ (i = 1 ∧ j = 2) by omega) with ⟨rfl, rfl⟩ | ⟨rfl, rfl⟩ | ⟨rfl, rfl⟩
    · have := cr_all h h3 h4; grind
    · apply Int.eq_of_mul_eq_mul_left hne
      grind
    · apply Int.eq_of_mul_eq_mul_left hne
      grind
