/-! plans: the class seeks -/
theorem b9 {A0 A1 A2 A3 A4 A5 A6 A7 A8 R : Type} {x : Option (A0 × A1 × A2 × A3 × A4 × A5 × A6 × A7 × A8)} {f : A0 → A1 → A2 → A3 → A4 → A5 → A6 → A7 → A8 → Option R} {a0 : A0} {a1 : A1} {a2 : A2} {a3 : A3} {a4 : A4} {a5 : A5} {a6 : A6} {a7 : A7} {a8 : A8} {r : Option R} (hx : x = some (a0, a1, a2, a3, a4, a5, a6, a7, a8)) (h : f a0 a1 a2 a3 a4 a5 a6 a7 a8 = r) : bd9 x f = r := by rw [hx]; exact h
theorem b11 {A0 A1 A2 A3 A4 A5 A6 A7 A8 A9 A10 R : Type} {x : Option (A0 × A1 × A2 × A3 × A4 × A5 × A6 × A7 × A8 × A9 × A10)} {f : A0 → A1 → A2 → A3 → A4 → A5 → A6 → A7 → A8 → A9 → A10 → Option R} {a0 : A0} {a1 : A1} {a2 : A2} {a3 : A3} {a4 : A4} {a5 : A5} {a6 : A6} {a7 : A7} {a8 : A8} {a9 : A9} {a10 : A10} {r : Option R} (hx : x = some (a0, a1, a2, a3, a4, a5, a6, a7, a8, a9, a10)) (h : f a0 a1 a2 a3 a4 a5 a6 a7 a8 a9 a10 = r) : bd11 x f = r := by rw [hx]; exact h
theorem b13 {A0 A1 A2 A3 A4 A5 A6 A7 A8 A9 A10 A11 A12 R : Type} {x : Option (A0 × A1 × A2 × A3 × A4 × A5 × A6 × A7 × A8 × A9 × A10 × A11 × A12)} {f : A0 → A1 → A2 → A3 → A4 → A5 → A6 → A7 → A8 → A9 → A10 → A11 → A12 → Option R} {a0 : A0} {a1 : A1} {a2 : A2} {a3 : A3} {a4 : A4} {a5 : A5} {a6 : A6} {a7 : A7} {a8 : A8} {a9 : A9} {a10 : A10} {a11 : A11} {a12 : A12} {r : Option R} (hx : x = some (a0, a1, a2, a3, a4, a5, a6, a7, a8, a9, a10, a11, a12)) (h : f a0 a1 a2 a3 a4 a5 a6 a7 a8 a9 a10 a11 a12 = r) : bd13 x f = r := by rw [hx]; exact h
theorem io_46 {to : Nat → Int32} {B : Nat → Nat → Int} {q0 q1 q2 : Nat → Int64} (h0 : rp q0 (cr (B 1) (B 2))) (h1 : rp q1 (cr (B 2) (B 0))) (h2 : rp q2 (cr (B 0) (B 1))) {sp : Nat → Int64} {y : Nat → Int} (hy : rp sp y) (tr bo : Int32) (st gsp r0 r1 r2 s0 s1 s2 : Nat → Int64) (ce : Nat → Int32) : ∀ (m k f : Nat) (due : Nat → Int64), k + m = 3 → m < f → (∀ j, j < k → due j = Int64.ofInt (-(cB B j y))) → ∃ due2, F_X2_isOpen_46 f (nI k) tr bo sp st gsp ce q0 q1 q2 due r0 r1 r2 s0 s1 s2 = F_X2_isOpen_79 3000 0 tr bo sp st gsp ce q0 q1 q2 due2 r0 r1 r2 s0 s1 s2 ∧ ∀ j, j < 3 → due2 j = Int64.ofInt (-(cB B j y)) := by
  intro m
  induction m with
  | zero =>
    intro k f due hk hf hd
    obtain ⟨f, rfl⟩ : ∃ q, f = q + 1 := ⟨f - 1, by omega⟩
    exact ⟨due, by rw [F_X2_isOpen_46, if_pos (show (3 : Int32) ≤ nI k from nI_le (a := 3) (by omega) (by omega))], fun j hj => hd j (by omega)⟩
  | succ m ih =>
    intro k f due hk hf hd
    obtain ⟨f, rfl⟩ : ∃ q, f = q + 1 := ⟨f - 1, by omega⟩
    obtain ⟨due2, e, h⟩ := ih (k + 1) f (vp_updL due k (-(Int64.ofInt (cB B k y)))) (by omega) (by omega) (fun j hj => by
      show (if j = k then _ else due j) = _
      by_cases c : j = k
      · rw [if_pos c, c, o_neg]
      · rw [if_neg c]; exact hd j (by omega))
    refine ⟨due2, ?_, h⟩
    rw [F_X2_isOpen_46, if_neg (nle3 (by omega))]
    refine b1 (sq_rp h0 h1 h2 (by omega) hy) ?_
    rw [if_neg (in3 (by omega)), clk (by omega), nI_1]
    exact e
theorem io_127 {B : Nat → Nat → Int} {q0 q1 q2 : Nat → Int64} (h0 : rp q0 (cr (B 1) (B 2))) (h1 : rp q1 (cr (B 2) (B 0))) (h2 : rp q2 (cr (B 0) (B 1))) {sp : Nat → Int64} {y : Nat → Int} (hy : rp sp y) {a : Nat} (ha : a < 3) (k79 : Int32 → Int32 → Int32 → (Nat → Int64) → (Nat → Int64) → (Nat → Int64) → (Nat → Int32) → (Nat → Int64) → (Nat → Int64) → (Nat → Int64) → (Nat → Int64) → (Nat → Int64) → (Nat → Int64) → (Nat → Int64) → (Nat → Int64) → (Nat → Int64) → (Nat → Int64) → Option (Int32 × (Nat → Int64) × (Nat → Int64) × (Nat → Int64) × (Nat → Int64) × (Nat → Int64) × (Nat → Int64))) (tr bo : Int32) (st gsp due r0 r1 r2 : Nat → Int64) (ce : Nat → Int32) : ∀ (m k f : Nat) (s0 s1 s2 : Nat → Int64), k + m = 3 → m < f → ∃ s0' s1' s2', F_X2_isOpen_127 k79 f (nI a) (nI k) tr bo sp st gsp ce q0 q1 q2 due r0 r1 r2 s0 s1 s2 = k79 (nI (a + 1)) tr bo sp st gsp ce q0 q1 q2 due r0 r1 r2 s0' s1' s2' ∧ ∀ c i, c < 3 → selS s0' s1' s2' c i = if c = a ∧ k ≤ i ∧ i < 3 then Int64.ofInt (cB B i y) else selS s0 s1 s2 c i := by
  intro m
  induction m with
  | zero =>
    intro k f s0 s1 s2 hk hf
    obtain ⟨f, rfl⟩ : ∃ q, f = q + 1 := ⟨f - 1, by omega⟩
    exact ⟨s0, s1, s2, by rw [F_X2_isOpen_127, if_pos (show (3 : Int32) ≤ nI k from nI_le (a := 3) (by omega) (by omega)), nI_1], fun c i _ => by rw [if_neg (by omega)]⟩
  | succ m ih =>
    intro k f s0 s1 s2 hk hf
    obtain ⟨f, rfl⟩ : ∃ q, f = q + 1 := ⟨f - 1, by omega⟩
    have hsh := sq_rp h0 h1 h2 (show k < 3 by omega) hy
    have fin : ∀ (t0 t1 t2 : Nat → Int64), (∀ c i, c < 3 → selS t0 t1 t2 c i = if c = a ∧ i = k then Int64.ofInt (cB B k y) else selS s0 s1 s2 c i) → ∀ s0' s1' s2', (∀ c i, c < 3 → selS s0' s1' s2' c i = if c = a ∧ k + 1 ≤ i ∧ i < 3 then Int64.ofInt (cB B i y) else selS t0 t1 t2 c i) → ∀ c i, c < 3 → selS s0' s1' s2' c i = if c = a ∧ k ≤ i ∧ i < 3 then Int64.ofInt (cB B i y) else selS s0 s1 s2 c i := by
      intro t0 t1 t2 ht s0' s1' s2' hs c i hc
      rw [hs c i hc]
      by_cases d : c = a ∧ k + 1 ≤ i ∧ i < 3
      · rw [if_pos d, if_pos ⟨d.1, by omega, d.2.2⟩]
      · rw [if_neg d, ht c i hc]
        by_cases e : c = a ∧ i = k
        · rw [if_pos e, if_pos ⟨e.1, by omega, by omega⟩, e.2]
        · rw [if_neg e, if_neg (by omega)]
    match a, ha with
    | 0, _ =>
      obtain ⟨s0', s1', s2', e, h⟩ := ih (k + 1) f (vp_updL s0 k (Int64.ofInt (cB B k y))) s1 s2 (by omega) (by omega)
      refine ⟨s0', s1', s2', ?_, fin _ _ _ ?_ _ _ _ h⟩
      · rw [F_X2_isOpen_127, if_neg (nle3 (by omega)), if_pos (show nI 0 = 0 from rfl)]
        refine b1 hsh ?_
        rw [if_neg (in3 (by omega)), clk (by omega), nI_1]
        exact e
      · intro c i hc
        match c, hc with
        | 0, _ => show (if i = k then _ else s0 i) = _; by_cases d : i = k
                  · rw [if_pos d, if_pos ⟨rfl, d⟩]
                  · rw [if_neg d, if_neg (fun q => d q.2)]; rfl
        | 1, _ => rw [if_neg (fun q => absurd q.1 (by omega))]; rfl
        | 2, _ => rw [if_neg (fun q => absurd q.1 (by omega))]; rfl
    | 1, _ =>
      obtain ⟨s0', s1', s2', e, h⟩ := ih (k + 1) f s0 (vp_updL s1 k (Int64.ofInt (cB B k y))) s2 (by omega) (by omega)
      refine ⟨s0', s1', s2', ?_, fin _ _ _ ?_ _ _ _ h⟩
      · rw [F_X2_isOpen_127, if_neg (nle3 (by omega)), if_neg (show ¬ nI 1 = 0 by decide), if_pos (show nI 1 = 1 from rfl)]
        refine b1 hsh ?_
        rw [if_neg (in3 (by omega)), clk (by omega), nI_1]
        exact e
      · intro c i hc
        match c, hc with
        | 0, _ => rw [if_neg (fun q => absurd q.1 (by omega))]; rfl
        | 1, _ => show (if i = k then _ else s1 i) = _; by_cases d : i = k
                  · rw [if_pos d, if_pos ⟨rfl, d⟩]
                  · rw [if_neg d, if_neg (fun q => d q.2)]; rfl
        | 2, _ => rw [if_neg (fun q => absurd q.1 (by omega))]; rfl
    | 2, _ =>
      obtain ⟨s0', s1', s2', e, h⟩ := ih (k + 1) f s0 s1 (vp_updL s2 k (Int64.ofInt (cB B k y))) (by omega) (by omega)
      refine ⟨s0', s1', s2', ?_, fin _ _ _ ?_ _ _ _ h⟩
      · rw [F_X2_isOpen_127, if_neg (nle3 (by omega)), if_neg (show ¬ nI 2 = 0 by decide), if_neg (show ¬ nI 2 = 1 by decide), if_pos (show nI 2 = 2 from rfl)]
        refine b1 hsh ?_
        rw [if_neg (in3 (by omega)), clk (by omega), nI_1]
        exact e
      · intro c i hc
        match c, hc with
        | 0, _ => rw [if_neg (fun q => absurd q.1 (by omega))]; rfl
        | 1, _ => rw [if_neg (fun q => absurd q.1 (by omega))]; rfl
        | 2, _ => show (if i = k then _ else s2 i) = _; by_cases d : i = k
                  · rw [if_pos d, if_pos ⟨rfl, d⟩]
                  · rw [if_neg d, if_neg (fun q => d q.2)]; rfl
theorem io_79 {ce to : Nat → Int32} (hq : ∀ k, k < 15 → to k = ce k) {B : Nat → Nat → Int} {q0 q1 q2 : Nat → Int64} (h0 : rp q0 (cr (B 1) (B 2))) (h1 : rp q1 (cr (B 2) (B 0))) (h2 : rp q2 (cr (B 0) (B 1))) {r0 : Nat → Int64} (hr0 : rp r0 (Rw false ce 0)) {n t b : Nat} (hn : n = t + b) (h6 : n ≤ 6) (ht : t ≤ 3) (st due r1 r2 : Nat → Int64) : ∀ (m a f : Nat) (sp gsp s0 s1 s2 : Nat → Int64), a + m = t → m < f → (∀ c, c < a → ∀ r, r < 3 → selS s0 s1 s2 c r = Int64.ofInt (cB B r (Rw false to (n - 1 - c)))) → ∃ sp2 gsp2 s0' s1' s2', F_X2_isOpen_79 f (nI a) (nI t) (nI b) sp st gsp ce q0 q1 q2 due r0 r1 r2 s0 s1 s2 = some (1, sp2, gsp2, due, s0', s1', s2') ∧ ∀ c, c < t → ∀ r, r < 3 → selS s0' s1' s2' c r = Int64.ofInt (cB B r (Rw false to (n - 1 - c))) := by
  intro m
  induction m with
  | zero =>
    intro a f sp gsp s0 s1 s2 ha hf hs
    obtain ⟨f, rfl⟩ : ∃ q, f = q + 1 := ⟨f - 1, by omega⟩
    have e : a = t := by omega
    subst e
    exact ⟨sp, gsp, s0, s1, s2, by rw [F_X2_isOpen_79, if_pos (nI_le (Nat.le_refl _) (by omega))], hs⟩
  | succ m ih =>
    intro a f sp gsp s0 s1 s2 ha hf hs
    obtain ⟨f, rfl⟩ : ∃ q, f = q + 1 := ⟨f - 1, by omega⟩
    obtain ⟨sp1, e1, hsp1⟩ := copy_rp sp hr0
    obtain ⟨gsp2, sp2, e2, hsp2⟩ := carry_rp false ce (n - 1 - a) (by omega) gsp hsp1
    obtain ⟨s0', s1', s2', e3, h3⟩ := io_127 h0 h1 h2 (sp := sp2) (y := gn false ce (n - 1 - a) (Rw false ce 0)) hsp2 (a := a) (by omega) (fun l4 v_tried v_bound v_spare v_g3 v_g1_spare v_g1_cells v_g2_square_r0 v_g2_square_r1 v_g2_square_r2 v_due v_g2_rows_r0 v_g2_rows_r1 v_g2_rows_r2 v_shares_r0 v_shares_r1 v_shares_r2 => F_X2_isOpen_79 f l4 v_tried v_bound v_spare v_g3 v_g1_spare v_g1_cells v_g2_square_r0 v_g2_square_r1 v_g2_square_r2 v_due v_g2_rows_r0 v_g2_rows_r1 v_g2_rows_r2 v_shares_r0 v_shares_r1 v_shares_r2) (nI t) (nI b) st gsp2 due r0 r1 r2 ce 3 0 3000 s0 s1 s2 (by omega) (by omega)
    obtain ⟨sp4, gsp4, t0, t1, t2, e4, h4⟩ := ih (a + 1) f sp2 gsp2 s0' s1' s2' (by omega) (by omega) (fun c hc r hr => by
      rw [h3 c r (by omega)]
      by_cases d : c = a
      · rw [if_pos ⟨d, by omega, hr⟩, d]
        congr 1
        exact cB_cg B r (fun k hk => (Rw_cg hq false (n - 1 - a) hk).symm)
      · rw [if_neg (fun q => d q.1)]
        exact hs c (by omega) r hr)
    refine ⟨sp4, gsp4, t0, t1, t2, ?_, h4⟩
    have ei : nI t + nI b - 1 - nI a = nI (n - 1 - a) := by
      rw [nI_add, show (1 : Int32) = nI 1 from rfl, nIs (by omega), nIs (by omega), hn]
    rw [F_X2_isOpen_79, if_neg (nI_ge (by omega) (by omega)), ei]
    exact b1 e1 (b2 e2 (e3.trans e4))
theorem io_ev {ce to : Nat → Int32} (hq : ∀ k, k < 15 → to k = ce k) {B : Nat → Nat → Int} {q0 q1 q2 : Nat → Int64} (h0 : rp q0 (cr (B 1) (B 2))) (h1 : rp q1 (cr (B 2) (B 0))) (h2 : rp q2 (cr (B 0) (B 1))) {r0 : Nat → Int64} (hr0 : rp r0 (Rw false ce 0)) {rk n t b : Nat} {S : Nat → Int} (hX : PX to B rk n t b S) {st : Nat → Int64} (hst : rp st S) (sp gsp due r1 r2 s0 s1 s2 : Nat → Int64) : ∃ r sp2 gsp2 due2 s0' s1' s2', F_X2_isOpen (nI t) (nI b) sp st gsp ce q0 q1 q2 due r0 r1 r2 s0 s1 s2 = some (r, sp2, gsp2, due2, s0', s1', s2') ∧ ((r = 0 ∧ ¬ ∀ j, b ≤ j → j < 3 → cB B j (gn false to n S) = 0) ∨ (r = 1 ∧ (∀ j, b ≤ j → j < 3 → cB B j (gn false to n S) = 0) ∧ (∀ r, r < 3 → due2 r = Int64.ofInt (-(cB B r (gn false to n S)))) ∧ ∀ c, c < t → ∀ r, r < 3 → selS s0' s1' s2' c r = Int64.ofInt (cB B r (Rw false to (n - 1 - c))))) := by
  have hX' := hX
  obtain ⟨hB, en', eb, h6, ht3, hS, hc, hqb, d1, d2⟩ := hX'
  have hb3 : b ≤ 3 := by have := hB.1; omega
  obtain ⟨sp1, e1, hsp1⟩ := copy_rp sp hst
  obtain ⟨gsp2, sp2, e2, hsp2'⟩ := carry_rp false ce n (by omega) gsp hsp1
  have hsp2 : rp sp2 (gn false to n S) := hsp2'.cg (fun k hk => (gn_cg hq false (fun _ _ => rfl) n hk).symm)
  have hbb : ∀ k, k < 3 → -9000000000000000000 ≤ dotI (sq B k) (gn false to n S) ∧ dotI (sq B k) (gn false to n S) ≤ 9000000000000000000 := fun k _ => by
    have := hX.cy (u := fun _ => 0) (f := 0) (by omega) (fun i hi => by omega) k
    show -9000000000000000000 ≤ cB B k (yv to S n (fun _ => 0) 0) ∧ cB B k (yv to S n (fun _ => 0) 0) ≤ 9000000000000000000
    omega
  have ea : nI t + nI b = nI n := by rw [nI_add, en']
  rcases spans_ev (S := sq B) h0 h1 h2 hsp2 hbb (k := b) hb3 with ⟨e3, hall⟩ | ⟨e3, hno⟩
  · obtain ⟨due2, e4, hd⟩ := io_46 (to := to) h0 h1 h2 hsp2 (nI t) (nI b) st gsp2 r0 r1 r2 s0 s1 s2 ce 3 0 3000 due (by omega) (by omega) (fun j hj => by omega)
    obtain ⟨sp5, gsp5, s0', s1', s2', e5, h5⟩ := io_79 hq h0 h1 h2 hr0 en' h6 ht3 st due2 r1 r2 t 0 3000 sp2 gsp2 s0 s1 s2 (by omega) (by omega) (fun c hc => by omega)
    refine ⟨1, sp5, gsp5, due2, s0', s1', s2', ?_, Or.inr ⟨rfl, hall, hd, h5⟩⟩
    unfold F_X2_isOpen
    rw [ea]
    refine b1 e1 (b2 e2 (b1 e3 ?_))
    rw [ie1]
    rw [show nI 0 = (0 : Int32) from rfl] at e4 e5
    rw [e4, e5]
  · refine ⟨0, sp2, gsp2, due, s0, s1, s2, ?_, Or.inl ⟨rfl, hno⟩⟩
    unfold F_X2_isOpen
    rw [ea]
    exact b1 e1 (b2 e2 (b1 e3 ie0))
theorem no_open {to : Nat → Int32} {B : Nat → Nat → Int} {rk n t b : Nat} {S : Nat → Int} (hX : PX to B rk n t b S) (L : Nat) (h : ¬ ∀ j, b ≤ j → j < 3 → cB B j (gn false to n S) = 0) : NoFit to S L n t := by
  intro M _
  rintro ⟨q, hg, -⟩
  have h2 := ((rest_iff hX.1 S hX.2.1 (by have := hX.2.2.1; omega) _).mp hg).2
  exact h (fun j h1 h3 => by rw [← hX.opn (mx (dg (2 * L + 1) L t M) q t) h1 h3]; exact h2 j h1 h3)
def PlanIs (to : Nat → Int32) (S : Nat → Int) (L rk : Nat) (ticks : Int32) (inp : Nat → Int32) : Prop := (∃ n, n ≤ rk + 3 ∧ ticks = nI n ∧ (∀ m, m < n → NoFit to S L m (m - min m rk)) ∧ HasFit to S L n (n - min n rk) inp) ∨ (ticks = -1 ∧ ∀ m, m ≤ rk + 3 → NoFit to S L m (m - min m rk))
theorem nlt {a b : Nat} (ha : a < 1000) (hb : b < 1000) : nI a < nI b ↔ a < b := by
  rw [i_lt, nI_O, nI_O, iO_toInt (by omega) (by omega), iO_toInt (by omega) (by omega)]
  omega
theorem nmin {a b : Nat} (ha : a < 1000) (hb : b < 1000) : (if nI a < nI b then nI a else nI b) = nI (min b a) := by
  by_cases c : a < b
  · rw [if_pos ((nlt ha hb).mpr c), Nat.min_eq_right (by omega)]
  · rw [if_neg (fun q => c ((nlt ha hb).mp q)), Nat.min_eq_left (by omega)]
def PB (to : Nat → Int32) (B : Nat → Nat → Int) (rk : Nat) (S : Nat → Int) : Prop := Bs to rk B ∧ Bd 1000000 S ∧ CB to ∧ (∀ r, Bd 1728 (sq B r)) ∧ -10368 ≤ DT (B 0) (B 1) (B 2) ∧ DT (B 0) (B 1) (B 2) ≤ 10368
theorem PB.px {to : Nat → Int32} {B : Nat → Nat → Int} {rk : Nat} {S : Nat → Int} (h : PB to B rk S) {n : Nat} (hn : n ≤ rk + 3) : PX to B rk n (n - min n rk) (min n rk) S := by
  obtain ⟨h1, h2, h3, h4, h5, h6⟩ := h
  have := h1.1
  exact ⟨h1, by omega, rfl, by omega, by omega, h2, h3, h4, h5, h6⟩
theorem seek_ret (f : Nat) {n n0 rk : Nat} (hn : n < 1000) (hrk : rk ≤ 3) (li tr bo : Int32) (be : Int64) (sp st gsp q0 q1 q2 due r0 r1 r2 s0 s1 s2 : Nat → Int64) (ce inp : Nat → Int32) (tk : Int32) (h : rk + 3 < n ∨ (0 : Int32) ≤ tk) : F_X2_seek_14 (f + 1) (nI n) tk li tr bo (nI rk) be sp st gsp ce q0 q1 q2 due r0 r1 r2 s0 s1 s2 inp = some (tk, li, tr, bo, sp, gsp, due, s0, s1, s2, inp) := by
  have e3 : nI rk + 3 = nI (rk + 3) := nI_add rk 3
  rw [F_X2_seek_14, e3]
  by_cases c : rk + 3 < n
  · rw [if_pos ((nlt (by omega) hn).mpr c)]
  · rw [if_neg (fun q => c ((nlt (by omega) hn).mp q)), if_pos (h.resolve_left c)]
theorem seek_go {ce to : Nat → Int32} (hq : ∀ k, k < 15 → to k = ce k) {B : Nat → Nat → Int} {q0 q1 q2 : Nat → Int64} (h0 : rp q0 (cr (B 1) (B 2))) (h1 : rp q1 (cr (B 2) (B 0))) (h2 : rp q2 (cr (B 0) (B 1))) {r0 : Nat → Int64} (hr0 : rp r0 (Rw false ce 0)) {rk : Nat} {S : Nat → Int} (hP : PB to B rk S) {L : Nat} (hL : L ≤ 5) {st : Nat → Int64} (hst : rp st S) (r1 r2 : Nat → Int64) : ∀ (m n f : Nat) (tr bo : Int32) (sp gsp due s0 s1 s2 : Nat → Int64) (inp : Nat → Int32), n + m = rk + 4 → m < f → (∀ k, k < n → NoFit to S L k (k - min k rk)) → ∃ tk tr2 bo2 sp2 gsp2 due2 s0' s1' s2' inp2, F_X2_seek_14 f (nI n) (-1) (nI L) tr bo (nI rk) (Int64.ofInt (DT (B 0) (B 1) (B 2))) sp st gsp ce q0 q1 q2 due r0 r1 r2 s0 s1 s2 inp = some (tk, nI L, tr2, bo2, sp2, gsp2, due2, s0', s1', s2', inp2) ∧ PlanIs to S L rk tk inp2 := by
  have hrk := hP.1.1
  intro m
  induction m with
  | zero =>
    intro n f tr bo sp gsp due s0 s1 s2 inp hn hf hno
    obtain ⟨f, rfl⟩ : ∃ q, f = q + 1 := ⟨f - 1, by omega⟩
    exact ⟨-1, tr, bo, sp, gsp, due, s0, s1, s2, inp, seek_ret (n0 := 0) f (by omega) hrk _ _ _ _ _ _ _ _ _ _ _ _ _ _ _ _ _ _ _ _ (Or.inl (by omega)), Or.inr ⟨rfl, fun k hk => hno k (by omega)⟩⟩
  | succ m ih =>
    intro n f tr bo sp gsp due s0 s1 s2 inp hn hf hno
    obtain ⟨f, rfl⟩ : ∃ q, f = q + 1 := ⟨f - 1, by omega⟩
    obtain ⟨f, rfl⟩ : ∃ q, f = q + 1 := ⟨f - 1, by omega⟩
    have hX := hP.px (n := n) (by omega)
    obtain ⟨r, sp2, gsp2, due2, s0', s1', s2', e1, ho⟩ := io_ev hq h0 h1 h2 hr0 hX hst sp gsp due r1 r2 s0 s1 s2
    have e3 : nI rk + 3 = nI (rk + 3) := nI_add rk 3
    have emin : (if nI rk < nI n then nI rk else nI n) = nI (min n rk) := nmin (by omega) (by omega)
    have esub : nI n - nI (min n rk) = nI (n - min n rk) := nIs (Nat.min_le_left n rk)
    rw [F_X2_seek_14, e3, if_neg (fun q => by have := (nlt (by omega) (by omega)).mp q; omega), if_neg (by decide), emin, esub]
    rcases ho with ⟨rfl, hn0⟩ | ⟨rfl, hop, hd, hs⟩
    · have hnf := no_open hX L hn0
      obtain ⟨tk, tr3, bo3, sp3, gsp3, due3, u0, u1, u2, inp3, e4, hp⟩ := ih (n + 1) (f + 1) (nI (n - min n rk)) (nI (min n rk)) sp2 gsp2 due2 s0' s1' s2' inp (by omega) (by omega) (fun k hk => by
        by_cases c : k = n
        · rw [c]; exact hnf
        · exact hno k (by omega))
      refine ⟨tk, tr3, bo3, sp3, gsp3, due3, u0, u1, u2, inp3, ?_, hp⟩
      refine b7 e1 ?_
      rw [ie0]
      unfold F_X2_seek_83
      rw [nI_1]
      exact e4
    · obtain ⟨inp2, hm⟩ := im_ev hX hL hop hd hs inp
      rcases hm with ⟨e2, hfit⟩ | ⟨e2, hnf⟩
      · refine ⟨nI n, nI (n - min n rk), nI (min n rk), sp2, gsp2, due2, s0', s1', s2', inp2, ?_, Or.inl ⟨n, by omega, rfl, hno, hfit⟩⟩
        refine b7 e1 ?_
        rw [ie1]
        refine b2 e2 ?_
        rw [ie1]
        unfold F_X2_seek_83
        rw [nI_1]
        exact seek_ret (n0 := 0) f (by omega) hrk _ _ _ _ _ _ _ _ _ _ _ _ _ _ _ _ _ _ _ _ (Or.inr (nI_le (a := 0) (by omega) (by omega)))
      · obtain ⟨tk, tr3, bo3, sp3, gsp3, due3, u0, u1, u2, inp3, e4, hp⟩ := ih (n + 1) (f + 1) (nI (n - min n rk)) (nI (min n rk)) sp2 gsp2 due2 s0' s1' s2' inp2 (by omega) (by omega) (fun k hk => by
          by_cases c : k = n
          · rw [c]; exact hnf
          · exact hno k (by omega))
        refine ⟨tk, tr3, bo3, sp3, gsp3, due3, u0, u1, u2, inp3, ?_, hp⟩
        refine b7 e1 ?_
        rw [ie1]
        refine b2 e2 ?_
        rw [ie0]
        unfold F_X2_seek_83
        rw [nI_1]
        exact e4
