theorem RkM_cg {M N : Nat → Nat → Int} {o rk : Nat} (ho : o ≤ 3) (h : ∀ r i, r < 3 → i < 3 → M r i = N r i) (hk : RkM M o rk) : RkM N o rk := by
  have eD : DT (M 0) (M 1) (M 2) = DT (N 0) (N 1) (N 2) := by
    unfold DT
    rw [h 0 0 (by omega) (by omega), h 0 1 (by omega) (by omega), h 0 2 (by omega) (by omega), h 1 0 (by omega) (by omega), h 1 1 (by omega) (by omega), h 1 2 (by omega) (by omega), h 2 0 (by omega) (by omega), h 2 1 (by omega) (by omega), h 2 2 (by omega) (by omega)]
  have eA : AreTwo M ↔ AreTwo N := by
    constructor
    · rintro ⟨i, j, a, b, h1, h2, h3, h4, h5⟩
      refine ⟨i, j, a, b, h1, h2, h3, h4, ?_⟩
      rw [← h i a (by omega) h3, ← h j b h2 h4, ← h i b (by omega) h4, ← h j a h2 h3]; exact h5
    · rintro ⟨i, j, a, b, h1, h2, h3, h4, h5⟩
      refine ⟨i, j, a, b, h1, h2, h3, h4, ?_⟩
      rw [h i a (by omega) h3, h j b h2 h4, h i b (by omega) h4, h j a h2 h3]; exact h5
  unfold RkM at hk ⊢
  rw [← eD, ← eA]
  rcases hk with hk | ⟨hd, hk | ⟨hn, ⟨⟨r, i, hr, hi, hne⟩, hk⟩ | ⟨hall, hk⟩⟩⟩
  · exact Or.inl hk
  · exact Or.inr ⟨hd, Or.inl hk⟩
  · exact Or.inr ⟨hd, Or.inr ⟨hn, Or.inl ⟨⟨r, i, hr, hi, by rw [← h r i (by omega) (by omega)]; exact hne⟩, hk⟩⟩⟩
  · exact Or.inr ⟨hd, Or.inr ⟨hn, Or.inr ⟨fun r i hr hi => by rw [← h r i (by omega) (by omega)]; exact hall r i hr hi, hk⟩⟩⟩
theorem cr_two {R : Nat → Nat → Int} {a : Nat} (ha : a < 3) (h : cr (R 0) (R 1) a ≠ 0) : AreTwo R := by
  match a, ha with
  | 0, _ => exact ⟨0, 1, 1, 2, by omega, by omega, by omega, by omega, fun q => h (by show R 0 1 * R 1 2 - R 0 2 * R 1 1 = 0; omega)⟩
  | 1, _ => exact ⟨0, 1, 2, 0, by omega, by omega, by omega, by omega, fun q => h (by show R 0 2 * R 1 0 - R 0 0 * R 1 2 = 0; omega)⟩
  | 2, _ => exact ⟨0, 1, 0, 1, by omega, by omega, by omega, by omega, fun q => h (by show R 0 0 * R 1 1 - R 0 1 * R 1 0 = 0; omega)⟩
theorem RM3 (R : Nat → Nat → Int) : ∀ r i, r < 3 → i < 3 → RM R 3 r i = R r i := fun r i hr hi => if_pos ⟨hr, hi⟩
theorem DT_RM2 (R : Nat → Nat → Int) : DT (RM R 2 0) (RM R 2 1) (RM R 2 2) = R 0 0 * R 1 1 - R 0 1 * R 1 0 := by
  show R 0 0 * (R 1 1 * 1 - 0 * 0) + R 0 1 * (0 * 0 - R 1 0 * 1) + 0 * (R 1 0 * 0 - R 1 1 * 0) = _
  grind
theorem DT_RM1 (R : Nat → Nat → Int) : DT (RM R 1 0) (RM R 1 1) (RM R 1 2) = R 0 0 := by
  show R 0 0 * (1 * 1 - 0 * 0) + 0 * (0 * 0 - 0 * 1) + 0 * (0 * 0 - 1 * 0) = _
  grind
theorem cr_z {u v : Nat → Int} (hu1 : u 1 = 0) (hu2 : u 2 = 0) (hv1 : v 1 = 0) (hv2 : v 2 = 0) : ∀ b, b < 3 → cr u v b = 0 := by
  intro b hb
  match b, hb with
  | 0, _ => show u 1 * v 2 - u 2 * v 1 = 0; rw [hu1, hu2]; simp
  | 1, _ => show u 2 * v 0 - u 0 * v 2 = 0; rw [hu2, hv2]; simp
  | 2, _ => show u 0 * v 1 - u 1 * v 0 = 0; rw [hv1, hu1]; simp
theorem un_RM {R : Nat → Nat → Int} {o j i : Nat} (h : ¬ (j < o ∧ i < o)) : un j i = RM R o j i := by
  unfold un RM
  rw [if_neg h]
  by_cases c : i = j
  · rw [if_pos c, if_pos c.symm]
  · rw [if_neg c, if_neg (fun q => c q.symm)]
theorem rk_eq (x : Bool) {ce to : Nat → Int32} {o : Nat} (h1 : 1 ≤ o) (ho : o ≤ 3) (hz : ZT o ce) (hq : ∀ k, k < 15 → to k = ce k) {rk rk2 : Nat} {B : Nat → Nat → Int} (hB : BaseIs (Rw x ce) rk B) (hk : RkM (RM (Rw x to) o) o rk2) : rk2 = rk ∧ rk ≤ o ∧ (rk = o → ∀ j i, j < 3 → i < 3 → B j i = RM (Rw x ce) o j i) := by
  have hk2 : RkM (RM (Rw x ce) o) o rk2 := RkM_cg ho (fun r i hr hi => by
    unfold RM
    by_cases c : r < o ∧ i < o
    · rw [if_pos c, if_pos c, Rw_cg hq x r hi]
    · rw [if_neg c, if_neg c]) hk
  clear hk
  have z := fun r i (hi : i < 3) (h : o ≤ i) => Rw_z hz x r hi h
  have hall0 : (∀ b, b < 3 → Rw x ce 0 b = 0) → ∀ r i, i < 3 → Rw x ce r i = 0 := fun h => R_zero x ce h
  have hcD : (∀ b, b < 3 → cr (Rw x ce 0) (Rw x ce 1) b = 0) → DT (Rw x ce 0) (Rw x ce 1) (Rw x ce 2) = 0 := by
    intro h
    rw [← DT_dot]
    unfold dotI
    rw [h 0 (by omega), h 1 (by omega), h 2 (by omega)]; simp
  rcases (show o = 1 ∨ o = 2 ∨ o = 3 by omega) with rfl | rfl | rfl
  · have hcr : ∀ b, b < 3 → cr (Rw x ce 0) (Rw x ce 1) b = 0 := cr_z (z 0 1 (by omega) (by omega)) (z 0 2 (by omega) (by omega)) (z 1 1 (by omega) (by omega)) (z 1 2 (by omega) (by omega))
    rcases hB with ⟨rfl, hd, -⟩ | ⟨rfl, -, a, ha, hne, -⟩ | ⟨rfl, -, a, ha, hne, -, b0, b1', b2'⟩ | ⟨rfl, -, h0, -⟩
    · exact absurd (hcD hcr) hd
    · exact absurd (hcr a ha) hne
    · have ha0 : a = 0 := by
        apply Classical.byContradiction
        intro q
        exact hne (z 0 a ha (by omega))
      subst ha0
      refine ⟨?_, by omega, fun _ j i hj hi => ?_⟩
      · rcases hk2 with ⟨-, e⟩ | ⟨hd, -⟩
        · exact e
        · rw [DT_RM1] at hd; exact absurd hd hne
      · match j, hj with
        | 0, _ =>
          rw [b0]; unfold RM
          by_cases c : i = 0
          · subst c; rw [if_pos ⟨by omega, by omega⟩]
          · rw [if_neg (by omega), if_neg (by omega), z 0 i hi (by omega)]
        | 1, _ => rw [b1']; exact un_RM (by omega)
        | 2, _ => rw [b2']; exact un_RM (by omega)
    · refine ⟨?_, by omega, fun h => by omega⟩
      rcases hk2 with ⟨hd, -⟩ | ⟨-, ⟨h3, -⟩ | ⟨-, ⟨⟨r, i, hr, hi, hne⟩, -⟩ | ⟨-, e⟩⟩⟩
      · rw [DT_RM1] at hd; exact absurd (h0 0 (by omega)) hd
      · omega
      · have e : RM (Rw x ce) 1 r i = Rw x ce r i := if_pos ⟨hr, hi⟩
        rw [e] at hne; exact absurd (hall0 h0 r i (by omega)) hne
      · exact e
  · have z2 := fun r => z r 2 (by omega) (by omega)
    have c0 : cr (Rw x ce 0) (Rw x ce 1) 0 = 0 := by show Rw x ce 0 1 * Rw x ce 1 2 - Rw x ce 0 2 * Rw x ce 1 1 = 0; rw [z2 0, z2 1]; simp
    have c1 : cr (Rw x ce 0) (Rw x ce 1) 1 = 0 := by show Rw x ce 0 2 * Rw x ce 1 0 - Rw x ce 0 0 * Rw x ce 1 2 = 0; rw [z2 0, z2 1]; simp
    have e2 : cr (Rw x ce 0) (Rw x ce 1) 2 = Rw x ce 0 0 * Rw x ce 1 1 - Rw x ce 0 1 * Rw x ce 1 0 := rfl
    have hD0 : DT (Rw x ce 0) (Rw x ce 1) (Rw x ce 2) = 0 := by
      rw [← DT_dot]; unfold dotI; rw [c0, c1, z2 2]; simp
    rcases hB with ⟨rfl, hd, -⟩ | ⟨rfl, -, a, ha, hne, -, b0, b1', b2'⟩ | ⟨rfl, hcr, a, ha, hne, -⟩ | ⟨rfl, -, h0, -⟩
    · exact absurd hD0 hd
    · have ha2 : a = 2 := by
        match a, ha with
        | 0, _ => exact absurd c0 hne
        | 1, _ => exact absurd c1 hne
        | 2, _ => rfl
      subst ha2
      refine ⟨?_, by omega, fun _ j i hj hi => ?_⟩
      · rcases hk2 with ⟨-, e⟩ | ⟨hd, -⟩
        · exact e
        · rw [DT_RM2, ← e2] at hd; exact absurd hd hne
      · match j, hj with
        | 0, _ =>
          rw [b0]; unfold RM
          by_cases c : i < 2
          · rw [if_pos ⟨by omega, c⟩]
          · rw [if_neg (by omega), if_neg (by omega), z 0 i hi (by omega)]
        | 1, _ =>
          rw [b1']; unfold RM
          by_cases c : i < 2
          · rw [if_pos ⟨by omega, c⟩]
          · rw [if_neg (by omega), if_neg (by omega), z 1 i hi (by omega)]
        | 2, _ => rw [b2']; exact un_RM (by omega)
    · refine ⟨?_, by omega, fun h => by omega⟩
      have ha2 : a < 2 := by
        apply Classical.byContradiction
        intro q
        exact hne (z 0 a ha (by omega))
      rcases hk2 with ⟨hd, -⟩ | ⟨-, ⟨h3, -⟩ | ⟨-, ⟨-, e⟩ | ⟨hall, -⟩⟩⟩
      · rw [DT_RM2, ← e2] at hd; exact absurd (hcr 2 (by omega)) hd
      · omega
      · exact e
      · have := hall 0 a (by omega) ha2
        rw [show RM (Rw x ce) 2 0 a = Rw x ce 0 a from if_pos ⟨by omega, ha2⟩] at this
        exact absurd this hne
    · refine ⟨?_, by omega, fun h => by omega⟩
      rcases hk2 with ⟨hd, -⟩ | ⟨-, ⟨h3, -⟩ | ⟨-, ⟨⟨r, i, hr, hi, hne⟩, -⟩ | ⟨-, e⟩⟩⟩
      · rw [DT_RM2, h0 0 (by omega), h0 1 (by omega)] at hd; exact absurd (by simp) hd
      · omega
      · have e : RM (Rw x ce) 2 r i = Rw x ce r i := if_pos ⟨hr, hi⟩
        rw [e] at hne; exact absurd (hall0 h0 r i (by omega)) hne
      · exact e
  · have hk3 : RkM (Rw x ce) 3 rk2 := RkM_cg ho (RM3 _) hk2
    rcases hB with ⟨rfl, hd, b0, b1', b2'⟩ | ⟨rfl, hd, a, ha, hne, -⟩ | ⟨rfl, hcr, a, ha, hne, -⟩ | ⟨rfl, hcr, h0, -⟩
    · refine ⟨?_, by omega, fun _ j i hj hi => ?_⟩
      · rcases hk3 with ⟨-, e⟩ | ⟨hd2, -⟩
        · exact e
        · exact absurd hd2 hd
      · rw [RM3 _ j i hj hi]
        match j, hj with
        | 0, _ => rw [b0]
        | 1, _ => rw [b1']
        | 2, _ => rw [b2']
    · refine ⟨?_, by omega, fun h => by omega⟩
      rcases hk3 with ⟨hd2, -⟩ | ⟨-, ⟨-, -, e⟩ | ⟨hn, -⟩⟩
      · exact absurd hd hd2
      · exact e
      · exact absurd ⟨rfl, cr_two ha hne⟩ hn
    · refine ⟨?_, by omega, fun h => by omega⟩
      rcases hk3 with ⟨hd2, -⟩ | ⟨-, ⟨-, t, -⟩ | ⟨-, ⟨-, e⟩ | ⟨hall, -⟩⟩⟩
      · exact absurd (hcD hcr) hd2
      · exact absurd t (R_not2 x ce hcr)
      · exact e
      · exact absurd (hall 0 a (by omega) ha) hne
    · refine ⟨?_, by omega, fun h => by omega⟩
      rcases hk3 with ⟨hd2, -⟩ | ⟨-, ⟨-, t, -⟩ | ⟨-, ⟨⟨r, i, hr, hi, hne⟩, -⟩ | ⟨-, e⟩⟩⟩
      · exact absurd (hcD hcr) hd2
      · exact absurd t (R_not2 x ce hcr)
      · exact absurd (hall0 h0 r i hi) hne
      · exact e
