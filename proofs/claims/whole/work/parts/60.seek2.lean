/-! plans: the class, a try and all tries -/
theorem rf_2 {to : Nat → Int32} {B : Nat → Nat → Int} {rk n t b : Nat} {S : Nat → Int} (hX : PX to B rk n t b S) {L : Nat} (hL : L ≤ 5) {u : Nat → Int} (hub : ∀ i, i < t → -5 ≤ u i ∧ u i ≤ 5) {due s0 s1 s2 : Nat → Int64} (hdue : ∀ r, r < 3 → due r = Int64.ofInt (-(cB B r (gn false to n S)))) (hs : ∀ a, a < t → ∀ r, r < 3 → selS s0 s1 s2 a r = Int64.ofInt (cB B r (Rw false to (n - 1 - a)))) : ∀ (m row f : Nat) (inp : Nat → Int32), row + m = b → m < f → (∀ i, i < t → inp i = Int32.ofInt (u i)) → ∃ inp2, (∀ i, (i < t ∨ n ≤ i + row) → inp2 i = inp i) ∧ ((∃ q : Nat → Int, F_X2_restFits_2 f (Int64.ofInt (DT (B 0) (B 1) (B 2))) (nI row) (nI L) (nI t) (nI b) due inp s0 s1 s2 = some (1, inp2) ∧ ∀ r, row ≤ r → r < b → -(cB B r (yv to S n u t)) = DT (B 0) (B 1) (B 2) * q r ∧ -(L : Int) ≤ q r ∧ q r ≤ L ∧ inp2 (n - 1 - r) = Int32.ofInt (q r)) ∨ (F_X2_restFits_2 f (Int64.ofInt (DT (B 0) (B 1) (B 2))) (nI row) (nI L) (nI t) (nI b) due inp s0 s1 s2 = some (0, inp2) ∧ ∃ r, r < b ∧ ¬ ∃ q, -(cB B r (yv to S n u t)) = DT (B 0) (B 1) (B 2) * q ∧ -(L : Int) ≤ q ∧ q ≤ L)) := by
  have hX' := hX
  obtain ⟨hB, en', eb, h6, ht3, hS, hc, hq, d1, d2⟩ := hX'
  have hb3 : b ≤ 3 := by have := hB.1; omega
  intro m
  induction m with
  | zero =>
    intro row f inp hr hf _
    obtain ⟨f, rfl⟩ : ∃ q, f = q + 1 := ⟨f - 1, by omega⟩
    refine ⟨inp, fun _ _ => rfl, Or.inl ⟨fun _ => 0, ?_, fun r a c => by omega⟩⟩
    rw [F_X2_restFits_2, if_pos (nI_le (by omega) (by omega))]
  | succ m ih =>
    intro row f inp hr hf hi
    obtain ⟨f, rfl⟩ : ∃ q, f = q + 1 := ⟨f - 1, by omega⟩
    have hcy := hX.cy (u := u) (f := t) (by omega) hub row
    have e21 := rf_21 hX (fun l1 l3 v_limit v_tried v_bound v_due v_inputs v_shares_r0 v_shares_r1 v_shares_r2 => F_X2_restFits_2 f l1 l3 v_limit v_tried v_bound v_due v_inputs v_shares_r0 v_shares_r1 v_shares_r2) (Int64.ofInt (DT (B 0) (B 1) (B 2))) (row := row) (by omega) (nI L) due s0 s1 s2 (inp := inp) (u := u) (fun i hit => ⟨hi i hit, hub i hit⟩) (fun a ha => hs a ha row (by omega)) t 0 3000 (by omega) (by omega)
    have hstep : F_X2_restFits_2 (f + 1) (Int64.ofInt (DT (B 0) (B 1) (B 2))) (nI row) (nI L) (nI t) (nI b) due inp s0 s1 s2 = F_X2_restFits_21 (fun l1 l3 v_limit v_tried v_bound v_due v_inputs v_shares_r0 v_shares_r1 v_shares_r2 => F_X2_restFits_2 f l1 l3 v_limit v_tried v_bound v_due v_inputs v_shares_r0 v_shares_r1 v_shares_r2) 1 (Int64.ofInt (DT (B 0) (B 1) (B 2))) (nI row) (Int64.ofInt (-(cB B row (yv to S n u t)))) (nI t) (nI L) (nI t) (nI b) due inp s0 s1 s2 := by
      rw [← e21, F_X2_restFits_2, if_neg (nI_ge (by omega) (by omega)), if_neg (in3 (by omega)), clk (show row < 1000 by omega), hdue row (by omega)]
      rfl
    rcases rf_ex hB.2.1 (by omega) (by omega) (fun l1 l3 v_limit v_tried v_bound v_due v_inputs v_shares_r0 v_shares_r1 v_shares_r2 => F_X2_restFits_2 f l1 l3 v_limit v_tried v_bound v_due v_inputs v_shares_r0 v_shares_r1 v_shares_r2) (row := row) (t := t) (b := b) hL (by omega) (by omega) due s0 s1 s2 inp (W := -(cB B row (yv to S n u t))) (by omega) (by omega) with ⟨q, hq1, hq2, hq3, e⟩ | ⟨hno, e⟩
    · obtain ⟨inp2, fr, hh⟩ := ih (row + 1) f (upd inp (t + b - 1 - row) (Int32.ofInt q)) (by omega) (by omega) (fun i hit => by
        show (if i = t + b - 1 - row then _ else inp i) = _
        rw [if_neg (by omega)]; exact hi i hit)
      refine ⟨inp2, fun i hii => ?_, ?_⟩
      · rw [fr i (by omega)]
        show (if i = t + b - 1 - row then _ else inp i) = _
        rw [if_neg (by omega)]
      · rcases hh with ⟨q', e', hq'⟩ | ⟨e', hno'⟩
        · left
          refine ⟨fun r => if r = row then q else q' r, ?_, fun r a c => ?_⟩
          · rw [hstep, e]; exact e'
          · by_cases d : r = row
            · subst d
              show _ = _ * (if r = r then q else q' r) ∧ _ ≤ (if r = r then q else q' r) ∧ (if r = r then q else q' r) ≤ _ ∧ _ = Int32.ofInt (if r = r then q else q' r)
              rw [if_pos rfl]
              refine ⟨hq1, hq2, hq3, ?_⟩
              rw [fr (n - 1 - r) (Or.inr (by omega))]
              show (if n - 1 - r = t + b - 1 - r then _ else _) = _
              rw [if_pos (by omega)]
            · show _ = _ * (if r = row then q else q' r) ∧ _ ≤ (if r = row then q else q' r) ∧ (if r = row then q else q' r) ≤ _ ∧ _ = Int32.ofInt (if r = row then q else q' r)
              rw [if_neg d]
              exact hq' r (by omega) c
        · right
          exact ⟨by rw [hstep, e]; exact e', hno'⟩
    · exact ⟨inp, fun _ _ => rfl, Or.inr ⟨by rw [hstep, e], row, by omega, hno⟩⟩
/-- what a try of the class answers, where the start spans -/
theorem rf_ev {to : Nat → Int32} {B : Nat → Nat → Int} {rk n t b : Nat} {S : Nat → Int} (hX : PX to B rk n t b S) {L : Nat} (hL : L ≤ 5) {u : Nat → Int} (hub : ∀ i, i < t → -5 ≤ u i ∧ u i ≤ 5) (hopen : ∀ j, b ≤ j → j < 3 → cB B j (gn false to n S) = 0) {due s0 s1 s2 : Nat → Int64} (hdue : ∀ r, r < 3 → due r = Int64.ofInt (-(cB B r (gn false to n S)))) (hs : ∀ a, a < t → ∀ r, r < 3 → selS s0 s1 s2 a r = Int64.ofInt (cB B r (Rw false to (n - 1 - a)))) {inp : Nat → Int32} (hi : ∀ i, i < t → inp i = Int32.ofInt (u i)) : ∃ inp2, (∃ q, F_X2_restFits (Int64.ofInt (DT (B 0) (B 1) (B 2))) (nI L) (nI t) (nI b) due inp s0 s1 s2 = some (1, inp2) ∧ Good to S L n t u q ∧ ∀ i, i < n → inp2 i = Int32.ofInt (mx u q t i)) ∨ (F_X2_restFits (Int64.ofInt (DT (B 0) (B 1) (B 2))) (nI L) (nI t) (nI b) due inp s0 s1 s2 = some (0, inp2) ∧ ¬ ∃ q, Good to S L n t u q) := by
  have hX' := hX
  obtain ⟨hB, en', eb, h6, ht3, hS, hc, hq, d1, d2⟩ := hX'
  have hcg : ∀ q r, cB B r (yv to S n (mx u q t) t) = cB B r (yv to S n u t) := fun q r => cB_cg B r (fun k _ => yv_cg to S n t (fun j hj => mx_lt hj) k)
  obtain ⟨inp2, fr, h⟩ := rf_2 hX hL hub hdue hs b 0 3000 inp (by omega) (by omega) hi
  refine ⟨inp2, ?_⟩
  rcases h with ⟨q, e, hq⟩ | ⟨e, r, hr, hno⟩
  · left
    refine ⟨fun i => q (n - 1 - i), e, ⟨?_, ?_⟩, ?_⟩
    · rw [rest_iff hB S en' (by omega)]
      refine ⟨fun r hr => ?_, fun r h1 h2 => ?_⟩
      · rw [hcg, mx_ge (by omega), (hq r (by omega) hr).1, show n - 1 - (n - 1 - r) = r by omega]
      · rw [hcg, hX.opn u h1 h2]; exact hopen r h1 h2
    · intro i h1 h2
      have := hq (n - 1 - i) (by omega) (by omega)
      exact ⟨this.2.1, this.2.2.1⟩
    · intro i hin
      by_cases c : i < t
      · rw [mx_lt c, fr i (Or.inl c)]; exact hi i c
      · rw [mx_ge (by omega)]
        have := (hq (n - 1 - i) (by omega) (by omega)).2.2.2
        rw [show n - 1 - (n - 1 - i) = i by omega] at this
        exact this
  · right
    refine ⟨e, ?_⟩
    rintro ⟨q, hg, hq⟩
    have h1 := ((rest_iff hB S en' (by omega) _).mp hg).1 r hr
    rw [hcg, mx_ge (by omega)] at h1
    have h2 := hq (n - 1 - r) (by omega) (by omega)
    exact hno ⟨q (n - 1 - r), h1.symm, h2.1, h2.2⟩
theorem pw_lt {F t : Nat} (hF : F ≤ 11) (ht : t ≤ 3) : F ^ t ≤ 1331 := by
  have h1 : F ^ t ≤ 11 ^ t := Nat.pow_le_pow_left hF t
  have h2 : 11 ^ t ≤ 11 ^ 3 := Nat.pow_le_pow_right (by omega) ht
  have h3 : 11 ^ 3 = 1331 := by decide
  omega
theorem im_39 {to : Nat → Int32} {B : Nat → Nat → Int} {rk n t b : Nat} {S : Nat → Int} (hX : PX to B rk n t b S) {L F : Nat} (hL : L ≤ 5) (hF : F = 2 * L + 1) (hopen : ∀ j, b ≤ j → j < 3 → cB B j (gn false to n S) = 0) {due s0 s1 s2 : Nat → Int64} (hdue : ∀ r, r < 3 → due r = Int64.ofInt (-(cB B r (gn false to n S)))) (hs : ∀ a, a < t → ∀ r, r < 3 → selS s0 s1 s2 a r = Int64.ofInt (cB B r (Rw false to (n - 1 - a)))) : ∀ (m N f : Nat) (inp : Nat → Int32), N + m = F ^ t → m < f → ∃ inp2, (∃ M q, N ≤ M ∧ M < F ^ t ∧ Good to S L n t (dg F L t M) q ∧ (∀ M', N ≤ M' → M' < M → ¬ ∃ q, Good to S L n t (dg F L t M') q) ∧ F_X2_isMet_39 f (Int64.ofInt (DT (B 0) (B 1) (B 2))) (nI F) (nI (F ^ t)) (nI N) (nI L) (nI t) (nI b) inp due s0 s1 s2 = some (1, inp2) ∧ ∀ i, i < n → inp2 i = Int32.ofInt (mx (dg F L t M) q t i)) ∨ (F_X2_isMet_39 f (Int64.ofInt (DT (B 0) (B 1) (B 2))) (nI F) (nI (F ^ t)) (nI N) (nI L) (nI t) (nI b) inp due s0 s1 s2 = some (0, inp2) ∧ ∀ M', N ≤ M' → M' < F ^ t → ¬ ∃ q, Good to S L n t (dg F L t M') q) := by
  have ht3 := hX.2.2.2.2.1
  have hpw := pw_lt (F := F) (t := t) (by omega) ht3
  intro m
  induction m with
  | zero =>
    intro N f inp hN hf
    obtain ⟨f, rfl⟩ : ∃ q, f = q + 1 := ⟨f - 1, by omega⟩
    exact ⟨inp, Or.inr ⟨by rw [F_X2_isMet_39, if_pos (nI_le (by omega) (by omega))], fun M' a c => by omega⟩⟩
  | succ m ih =>
    intro N f inp hN hf
    obtain ⟨f, rfl⟩ : ∃ q, f = q + 1 := ⟨f - 1, by omega⟩
    obtain ⟨inp1, e1, h1⟩ := st_go hF hL (nI t) t N 3000 inp (by omega) (by omega) (by omega)
    have hub : ∀ i, i < t → -5 ≤ dg F L t N i ∧ dg F L t N i ≤ 5 := fun i _ => by have := dg_bd hF t N i; omega
    obtain ⟨inp2, h2⟩ := rf_ev hX hL hub hopen hdue hs (inp := inp1) (fun i hit => by rw [h1 i, if_pos hit])
    have e1' : F_X2_setTried (nI N) (nI F) (nI L) (nI t) inp = some inp1 := e1
    rcases h2 with ⟨q, e2, hg, hi2⟩ | ⟨e2, hno⟩
    · refine ⟨inp2, Or.inl ⟨N, q, Nat.le_refl _, by omega, hg, fun M' a c => by omega, ?_, hi2⟩⟩
      rw [F_X2_isMet_39, if_neg (nI_ge (by omega) (by omega))]
      exact b1 e1' (b2 e2 ie1)
    · obtain ⟨inp3, h3⟩ := ih (N + 1) f inp2 (by omega) (by omega)
      have estep : F_X2_isMet_39 (f + 1) (Int64.ofInt (DT (B 0) (B 1) (B 2))) (nI F) (nI (F ^ t)) (nI N) (nI L) (nI t) (nI b) inp due s0 s1 s2 = F_X2_isMet_39 f (Int64.ofInt (DT (B 0) (B 1) (B 2))) (nI F) (nI (F ^ t)) (nI (N + 1)) (nI L) (nI t) (nI b) inp2 due s0 s1 s2 := by
        rw [F_X2_isMet_39, if_neg (nI_ge (by omega) (by omega))]
        exact b1 e1' (b2 e2 (by rw [ie0, nI_1]))
      refine ⟨inp3, ?_⟩
      rcases h3 with ⟨M, q, a1, a2, a3, a4, a5, a6⟩ | ⟨a5, a4⟩
      · refine Or.inl ⟨M, q, by omega, a2, a3, fun M' c1 c2 => ?_, by rw [estep]; exact a5, a6⟩
        by_cases d : M' = N
        · rw [d]; exact hno
        · exact a4 M' (by omega) c2
      · refine Or.inr ⟨by rw [estep]; exact a5, fun M' c1 c2 => ?_⟩
        by_cases d : M' = N
        · rw [d]; exact hno
        · exact a4 M' (by omega) c2
theorem im_15 {F t : Nat} (hF : F ≤ 11) (ht : t ≤ 3) (D : Int64) (li b : Int32) (inp : Nat → Int32) (due s0 s1 s2 : Nat → Int64) : ∀ (m a f : Nat), a + m = t → m < f → F_X2_isMet_15 f D (nI F) (nI (F ^ a)) (nI a) li (nI t) b inp due s0 s1 s2 = F_X2_isMet_39 3000 D (nI F) (nI (F ^ t)) 0 li (nI t) b inp due s0 s1 s2 := by
  intro m
  induction m with
  | zero =>
    intro a f ha hf
    obtain ⟨f, rfl⟩ : ∃ q, f = q + 1 := ⟨f - 1, by omega⟩
    have e : a = t := by omega
    subst e
    rw [F_X2_isMet_15, if_pos (nI_le (Nat.le_refl _) (by omega))]
  | succ m ih =>
    intro a f ha hf
    obtain ⟨f, rfl⟩ : ∃ q, f = q + 1 := ⟨f - 1, by omega⟩
    rw [F_X2_isMet_15, if_neg (nI_ge (by omega) (by omega)), nI_mulN, nI_1, ← Nat.pow_succ]
    exact ih (a + 1) f (by omega) (by omega)
def NoFit (to : Nat → Int32) (S : Nat → Int) (L n t : Nat) : Prop := ∀ M, M < (2 * L + 1) ^ t → ¬ ∃ q, Good to S L n t (dg (2 * L + 1) L t M) q
def HasFit (to : Nat → Int32) (S : Nat → Int) (L n t : Nat) (inp : Nat → Int32) : Prop := ∃ M q, M < (2 * L + 1) ^ t ∧ Good to S L n t (dg (2 * L + 1) L t M) q ∧ (∀ M', M' < M → ¬ ∃ q, Good to S L n t (dg (2 * L + 1) L t M') q) ∧ ∀ i, i < n → inp i = Int32.ofInt (mx (dg (2 * L + 1) L t M) q t i)
theorem im_ev {to : Nat → Int32} {B : Nat → Nat → Int} {rk n t b : Nat} {S : Nat → Int} (hX : PX to B rk n t b S) {L : Nat} (hL : L ≤ 5) (hopen : ∀ j, b ≤ j → j < 3 → cB B j (gn false to n S) = 0) {due s0 s1 s2 : Nat → Int64} (hdue : ∀ r, r < 3 → due r = Int64.ofInt (-(cB B r (gn false to n S)))) (hs : ∀ a, a < t → ∀ r, r < 3 → selS s0 s1 s2 a r = Int64.ofInt (cB B r (Rw false to (n - 1 - a)))) (inp : Nat → Int32) : ∃ inp2, (F_X2_isMet (Int64.ofInt (DT (B 0) (B 1) (B 2))) (nI L) (nI t) (nI b) inp due s0 s1 s2 = some (1, inp2) ∧ HasFit to S L n t inp2) ∨ (F_X2_isMet (Int64.ofInt (DT (B 0) (B 1) (B 2))) (nI L) (nI t) (nI b) inp due s0 s1 s2 = some (0, inp2) ∧ NoFit to S L n t) := by
  have ht3 := hX.2.2.2.2.1
  have hpw := pw_lt (F := 2 * L + 1) (t := t) (by omega) ht3
  have eF : (2 : Int32) * nI L + 1 = nI (2 * L + 1) := by
    rw [show (2 : Int32) = nI 2 from rfl, nI_mulN, nI_1]
  have e15 := im_15 (F := 2 * L + 1) (by omega) ht3 (Int64.ofInt (DT (B 0) (B 1) (B 2))) (nI L) (nI b) inp due s0 s1 s2 t 0 3000 (by omega) (by omega)
  have e0 : F_X2_isMet (Int64.ofInt (DT (B 0) (B 1) (B 2))) (nI L) (nI t) (nI b) inp due s0 s1 s2 = F_X2_isMet_39 3000 (Int64.ofInt (DT (B 0) (B 1) (B 2))) (nI (2 * L + 1)) (nI ((2 * L + 1) ^ t)) (nI 0) (nI L) (nI t) (nI b) inp due s0 s1 s2 := by
    unfold F_X2_isMet
    rw [eF]
    exact e15
  obtain ⟨inp2, h⟩ := im_39 hX hL (F := 2 * L + 1) rfl hopen hdue hs ((2 * L + 1) ^ t) 0 3000 inp (by omega) (by omega)
  refine ⟨inp2, ?_⟩
  rcases h with ⟨M, q, -, a2, a3, a4, a5, a6⟩ | ⟨a5, a4⟩
  · exact Or.inl ⟨by rw [e0]; exact a5, M, q, a2, a3, fun M' c => a4 M' (by omega) c, a6⟩
  · exact Or.inr ⟨by rw [e0]; exact a5, fun M c => a4 M (by omega) c⟩
