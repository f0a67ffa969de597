/-! plans: the mathematics -/
def yv (to : Nat → Int32) (S : Nat → Int) (n : Nat) (u : Nat → Int) : Nat → Nat → Int
  | 0 => gn false to n S
  | f + 1 => fun k => yv to S n u f k + u f * Rw false to (n - 1 - f) k
def Rest (to : Nat → Int32) (S : Nat → Int) (n : Nat) (u : Nat → Int) : Prop := ∀ k, k < 3 → yv to S n u n k = 0
def mx (u q : Nat → Int) (t i : Nat) : Int := if i < t then u i else q i
def Good (to : Nat → Int32) (S : Nat → Int) (L n t : Nat) (u q : Nat → Int) : Prop := Rest to S n (mx u q t) ∧ ∀ i, t ≤ i → i < n → -(L : Int) ≤ q i ∧ q i ≤ L
theorem yv_cg (to : Nat → Int32) (S : Nat → Int) (n : Nat) {u v : Nat → Int} : ∀ (f : Nat), (∀ i, i < f → u i = v i) → ∀ k, yv to S n u f k = yv to S n v f k
  | 0, _, _ => rfl
  | f + 1, h, k => by
    show yv to S n u f k + u f * _ = yv to S n v f k + v f * _
    rw [yv_cg to S n f (fun i hi => h i (by omega)) k, h f (by omega)]
def es (to : Nat → Int32) (S : Nat → Int) (u : Nat → Int) : Nat → Nat → Int
  | 0 => S
  | t + 1 => fun k => pu false to k * u t + go1 false to (es to S u t) k
theorem es_yv (to : Nat → Int32) (S : Nat → Int) (u : Nat → Int) : ∀ (t m k : Nat), k < 3 → gn false to m (es to S u t) k = yv to S (t + m) u t k
  | 0, m, k, _ => by show gn false to m S k = gn false to (0 + m) S k; rw [Nat.zero_add]
  | t + 1, m, k, hk => by
    rw [gn3 false to (a := u t) (b := 1) (c := 0) (v := pu false to) (w := go1 false to (es to S u t)) (z := S) (fun j _ => by show pu false to j * u t + go1 false to (es to S u t) j = _; grind) m k hk]
    have e := es_yv to S u t (m + 1) k hk
    rw [gn_succ] at e
    show _ = yv to S (t + 1 + m) u t k + u t * Rw false to (t + 1 + m - 1 - t) k
    rw [show t + 1 + m - 1 - t = m by omega, show t + 1 + m = t + (m + 1) by omega, ← e]
    show u t * Rw false to m k + _ + _ = _
    grind
theorem base_D {x : Bool} {ce : Nat → Int32} {rk : Nat} {B : Nat → Nat → Int} (hB : BaseIs (Rw x ce) rk B) : DT (B 0) (B 1) (B 2) ≠ 0 := by
  rcases hB with ⟨-, hd, b0, b1', b2'⟩ | ⟨-, -, a, ha, hne, -, b0, b1', b2'⟩ | ⟨-, -, a, ha, hne, -, b0, b1', b2'⟩ | ⟨-, -, -, b0, b1', b2'⟩
  · rw [b0, b1', b2']; exact hd
  · rw [b0, b1', b2', ← DT_dot]
    intro q; apply hne; rw [← q]
    match a, ha with
    | 0, _ => show _ = cr _ _ 0 * 1 + cr _ _ 1 * 0 + cr _ _ 2 * 0; grind
    | 1, _ => show _ = cr _ _ 0 * 0 + cr _ _ 1 * 1 + cr _ _ 2 * 0; grind
    | 2, _ => show _ = cr _ _ 0 * 0 + cr _ _ 1 * 0 + cr _ _ 2 * 1; grind
  · rw [b0, b1', b2']
    intro q; apply hne; rw [← q]
    match a, ha with
    | 0, _ => show _ = Rw x ce 0 0 * (1 * 1 - 0 * 0) + Rw x ce 0 1 * (0 * 0 - 0 * 1) + Rw x ce 0 2 * (0 * 0 - 1 * 0); grind
    | 1, _ => show _ = Rw x ce 0 0 * (0 * 0 - 1 * 0) + Rw x ce 0 1 * (1 * 1 - 0 * 0) + Rw x ce 0 2 * (0 * 0 - 0 * 1); grind
    | 2, _ => show _ = Rw x ce 0 0 * (0 * 0 - 0 * 1) + Rw x ce 0 1 * (0 * 0 - 1 * 0) + Rw x ce 0 2 * (1 * 1 - 0 * 0); grind
  · rw [b0, b1', b2']; decide
theorem base_R {x : Bool} {ce : Nat → Int32} {rk : Nat} {B : Nat → Nat → Int} (hB : BaseIs (Rw x ce) rk B) : ∀ j, j < rk → B j = Rw x ce j := by
  rcases hB with ⟨rfl, -, b0, b1', b2'⟩ | ⟨rfl, -, a, -, -, -, b0, b1', b2'⟩ | ⟨rfl, -, a, -, -, -, b0, b1', b2'⟩ | ⟨rfl, -, -, b0, b1', b2'⟩
  · intro j hj
    rcases (show j = 0 ∨ j = 1 ∨ j = 2 by omega) with rfl | rfl | rfl <;> assumption
  · intro j hj
    rcases (show j = 0 ∨ j = 1 by omega) with rfl | rfl <;> assumption
  · intro j hj
    rcases (show j = 0 by omega) with rfl; assumption
  · intro j hj; omega
def cB (B : Nat → Nat → Int) (r : Nat) (y : Nat → Int) : Int := dotI (sq B r) y
theorem cB_B (B : Nat → Nat → Int) {r s : Nat} (hr : r < 3) (hs : s < 3) : cB B r (B s) = if r = s then DT (B 0) (B 1) (B 2) else 0 := sq_M B r s hr hs
theorem cB_3 (B : Nat → Nat → Int) (r : Nat) {a b c : Int} {u v w z : Nat → Int} (h : ∀ k, k < 3 → u k = a * v k + b * w k + c * z k) : cB B r u = a * cB B r v + b * cB B r w + c * cB B r z := dot3 _ h
theorem cB_cg (B : Nat → Nat → Int) (r : Nat) {u v : Nat → Int} (h : ∀ k, k < 3 → u k = v k) : cB B r u = cB B r v := dot_cg _ h
theorem cB_zero (B : Nat → Nat → Int) (r : Nat) {u : Nat → Int} (h : ∀ k, k < 3 → u k = 0) : cB B r u = 0 := by
  unfold cB dotI
  rw [h 0 (by omega), h 1 (by omega), h 2 (by omega)]; simp
/-- the row behind the base's own rows is a sum of them -/
theorem base_next {x : Bool} {ce : Nat → Int32} {rk : Nat} {B : Nat → Nat → Int} (hB : BaseIs (Rw x ce) rk B) : ∀ r, rk ≤ r → r < 3 → cB B r (Rw x ce rk) = 0 := by
  intro r h1 h2
  obtain ⟨s0, s1, s2⟩ := sq_ev B (Rw x ce rk)
  unfold cB
  rcases hB with ⟨rfl, -, b0, b1', b2'⟩ | ⟨rfl, hd, a, ha, -, -, b0, b1', b2'⟩ | ⟨rfl, hcr, a, ha, -, -, b0, b1', b2'⟩ | ⟨rfl, -, h0, b0, b1', b2'⟩
  · omega
  · rcases (show r = 2 by omega) with rfl
    rw [s2, b0, b1']; exact hd
  · rw [b0, b2'] at s1
    rw [b0, b1'] at s2
    have c0 : Rw x ce 0 1 * Rw x ce 1 2 - Rw x ce 0 2 * Rw x ce 1 1 = 0 := hcr 0 (by omega)
    have c1 : Rw x ce 0 2 * Rw x ce 1 0 - Rw x ce 0 0 * Rw x ce 1 2 = 0 := hcr 1 (by omega)
    have c2 : Rw x ce 0 0 * Rw x ce 1 1 - Rw x ce 0 1 * Rw x ce 1 0 = 0 := hcr 2 (by omega)
    rcases (show r = 1 ∨ r = 2 by omega) with rfl | rfl
    · rw [s1]
      match a, ha with
      | 0, _ => show Rw x ce 0 0 * (Rw x ce 1 1 * 1 - Rw x ce 1 2 * 0) + Rw x ce 0 1 * (Rw x ce 1 2 * 0 - Rw x ce 1 0 * 1) + Rw x ce 0 2 * (Rw x ce 1 0 * 0 - Rw x ce 1 1 * 0) = 0; grind
      | 1, _ => show Rw x ce 0 0 * (Rw x ce 1 1 * 0 - Rw x ce 1 2 * 0) + Rw x ce 0 1 * (Rw x ce 1 2 * 1 - Rw x ce 1 0 * 0) + Rw x ce 0 2 * (Rw x ce 1 0 * 0 - Rw x ce 1 1 * 1) = 0; grind
      | 2, _ => show Rw x ce 0 0 * (Rw x ce 1 1 * 0 - Rw x ce 1 2 * 1) + Rw x ce 0 1 * (Rw x ce 1 2 * 0 - Rw x ce 1 0 * 0) + Rw x ce 0 2 * (Rw x ce 1 0 * 1 - Rw x ce 1 1 * 0) = 0; grind
    · rw [s2]
      match a, ha with
      | 0, _ => show Rw x ce 0 0 * (1 * Rw x ce 1 2 - 0 * Rw x ce 1 1) + Rw x ce 0 1 * (0 * Rw x ce 1 0 - 0 * Rw x ce 1 2) + Rw x ce 0 2 * (0 * Rw x ce 1 1 - 1 * Rw x ce 1 0) = 0; grind
      | 1, _ => show Rw x ce 0 0 * (0 * Rw x ce 1 2 - 1 * Rw x ce 1 1) + Rw x ce 0 1 * (1 * Rw x ce 1 0 - 0 * Rw x ce 1 2) + Rw x ce 0 2 * (0 * Rw x ce 1 1 - 0 * Rw x ce 1 0) = 0; grind
      | 2, _ => show Rw x ce 0 0 * (0 * Rw x ce 1 2 - 0 * Rw x ce 1 1) + Rw x ce 0 1 * (0 * Rw x ce 1 0 - 1 * Rw x ce 1 2) + Rw x ce 0 2 * (1 * Rw x ce 1 1 - 0 * Rw x ce 1 0) = 0; grind
  · exact cB_zero B r h0
theorem base_rk {x : Bool} {ce : Nat → Int32} {rk : Nat} {B : Nat → Nat → Int} (hB : BaseIs (Rw x ce) rk B) : rk ≤ 3 := by
  rcases hB with ⟨rfl, -⟩ | ⟨rfl, -⟩ | ⟨rfl, -⟩ | ⟨rfl, -⟩ <;> omega
theorem base_span {x : Bool} {ce : Nat → Int32} {rk : Nat} {B : Nat → Nat → Int} (hB : BaseIs (Rw x ce) rk B) : ∀ (d r : Nat), rk ≤ r → r < 3 → cB B r (Rw x ce (rk + d)) = 0 := by
  have hD := base_D hB
  have hR := base_R hB
  have hN := base_next hB
  intro d
  induction d with
  | zero => exact hN
  | succ d ih =>
    intro r h1 h2
    apply mz hD
    have hc : ∀ k, k < 3 → DT (B 0) (B 1) (B 2) * Rw x ce (rk + d) k = cB B 0 (Rw x ce (rk + d)) * B 0 k + cB B 1 (Rw x ce (rk + d)) * B 1 k + cB B 2 (Rw x ce (rk + d)) * B 2 k := cramer B _
    have hgo : ∀ k, DT (B 0) (B 1) (B 2) * Rw x ce (rk + d + 1) k = cB B 0 (Rw x ce (rk + d)) * go1 x ce (B 0) k + cB B 1 (Rw x ce (rk + d)) * go1 x ce (B 1) k + cB B 2 (Rw x ce (rk + d)) * go1 x ce (B 2) k := by
      intro k
      rw [← go3 x ce (u := fun k => DT (B 0) (B 1) (B 2) * Rw x ce (rk + d) k) (fun j hj => hc j hj) k]
      rw [go3 x ce (u := fun k => DT (B 0) (B 1) (B 2) * Rw x ce (rk + d) k) (a := DT (B 0) (B 1) (B 2)) (b := 0) (c := 0) (v := Rw x ce (rk + d)) (w := Rw x ce (rk + d)) (z := Rw x ce (rk + d)) (fun j _ => by grind) k]
      show _ = DT (B 0) (B 1) (B 2) * Rw x ce (rk + d + 1) k + _ + _
      grind
    have key : ∀ s, s < 3 → cB B s (Rw x ce (rk + d)) * cB B r (go1 x ce (B s)) = 0 := by
      intro s hs
      by_cases c : s < rk
      · have e : cB B r (go1 x ce (B s)) = 0 := by
          rw [hR s c, show go1 x ce (Rw x ce s) = Rw x ce (s + 1) from rfl]
          by_cases c2 : s + 1 < rk
          · rw [← hR (s + 1) c2, cB_B B h2 (by have := base_rk hB; omega), if_neg (by omega)]
          · rw [show s + 1 = rk by omega]; exact hN r h1 h2
        rw [e]; simp
      · rw [ih s (by omega) hs]; simp
    have h3 := cB_3 B r (u := fun k => DT (B 0) (B 1) (B 2) * Rw x ce (rk + d + 1) k) (fun k _ => hgo k)
    have h4 := cB_3 B r (u := fun k => DT (B 0) (B 1) (B 2) * Rw x ce (rk + d + 1) k) (a := DT (B 0) (B 1) (B 2)) (b := 0) (c := 0) (v := Rw x ce (rk + d + 1)) (w := Rw x ce 0) (z := Rw x ce 0) (fun k _ => by grind)
    rw [h4, key 0 (by omega), key 1 (by omega), key 2 (by omega)] at h3
    show DT (B 0) (B 1) (B 2) * cB B r (Rw x ce (rk + d + 1)) = 0
    grind
def Bs (to : Nat → Int32) (rk : Nat) (B : Nat → Nat → Int) : Prop := rk ≤ 3 ∧ DT (B 0) (B 1) (B 2) ≠ 0 ∧ (∀ r j, r < 3 → j < rk → cB B r (Rw false to j) = if r = j then DT (B 0) (B 1) (B 2) else 0) ∧ (∀ r j, rk ≤ r → r < 3 → cB B r (Rw false to j) = 0)
theorem bs_of {ce to : Nat → Int32} (h : ∀ k, k < 15 → to k = ce k) {rk : Nat} {B : Nat → Nat → Int} (hB : BaseIs (Rw false ce) rk B) : Bs to rk B := by
  have hrk := base_rk hB
  have h2 : ∀ r j, r < 3 → j < rk → cB B r (Rw false to j) = if r = j then DT (B 0) (B 1) (B 2) else 0 := by
    intro r j hr hj
    rw [cB_cg B r (fun k hk => Rw_cg h false j hk), ← base_R hB j hj]
    exact cB_B B hr (by omega)
  refine ⟨hrk, base_D hB, h2, ?_⟩
  intro r j h1 hr
  by_cases c : j < rk
  · rw [h2 r j hr c, if_neg (by omega)]
  · rw [cB_cg B r (fun k hk => Rw_cg h false j hk)]
    have := base_span hB (j - rk) r h1 hr
    rw [show rk + (j - rk) = j by omega] at this
    exact this
theorem cB_y (to : Nat → Int32) (B : Nat → Nat → Int) (r : Nat) (S : Nat → Int) (n : Nat) (u : Nat → Int) (f : Nat) : cB B r (yv to S n u (f + 1)) = cB B r (yv to S n u f) + u f * cB B r (Rw false to (n - 1 - f)) := by
  rw [cB_3 B r (a := 1) (b := u f) (c := 0) (v := yv to S n u f) (w := Rw false to (n - 1 - f)) (z := S) (fun k _ => by show yv to S n u f k + u f * Rw false to (n - 1 - f) k = _; grind)]
  grind
theorem cB_end {to : Nat → Int32} {rk : Nat} {B : Nat → Nat → Int} (hB : Bs to rk B) (S : Nat → Int) {n t b : Nat} (hn : n = t + b) (hb : b ≤ rk) (u : Nat → Int) {r : Nat} (hr : r < 3) : ∀ m, m ≤ b → cB B r (yv to S n u (t + m)) = cB B r (yv to S n u t) + (if b ≤ r + m ∧ r < b then DT (B 0) (B 1) (B 2) * u (n - 1 - r) else 0) := by
  intro m
  induction m with
  | zero => intro _; rw [if_neg (by omega)]; simp
  | succ m ih =>
    intro hm
    rw [show t + (m + 1) = (t + m) + 1 from rfl, cB_y, ih (by omega), show n - 1 - (t + m) = b - 1 - m by omega, hB.2.2.1 r (b - 1 - m) hr (by omega)]
    by_cases c : r = b - 1 - m
    · rw [if_neg (show ¬ (b ≤ r + m ∧ r < b) by omega), if_pos c, if_pos (show b ≤ r + (m + 1) ∧ r < b by omega), show n - 1 - r = t + m by omega]
      grind
    · rw [if_neg c]
      by_cases d : b ≤ r + m ∧ r < b
      · rw [if_pos d, if_pos (show b ≤ r + (m + 1) ∧ r < b by omega)]; grind
      · rw [if_neg d, if_neg (show ¬ (b ≤ r + (m + 1) ∧ r < b) by omega)]; grind
theorem cB_free {to : Nat → Int32} {rk : Nat} {B : Nat → Nat → Int} (hB : Bs to rk B) (S : Nat → Int) (n : Nat) (u : Nat → Int) {r : Nat} (h1 : rk ≤ r) (hr : r < 3) : ∀ f, cB B r (yv to S n u f) = cB B r (gn false to n S)
  | 0 => rfl
  | f + 1 => by rw [cB_y, cB_free hB S n u h1 hr f, hB.2.2.2 r _ h1 hr]; simp
theorem all_zero {B : Nat → Nat → Int} (hD : DT (B 0) (B 1) (B 2) ≠ 0) {y : Nat → Int} (h : ∀ r, r < 3 → cB B r y = 0) : ∀ k, k < 3 → y k = 0 := by
  intro k hk
  apply mz hD
  have c : DT (B 0) (B 1) (B 2) * y k = cB B 0 y * B 0 k + cB B 1 y * B 1 k + cB B 2 y * B 2 k := cramer B y k hk
  rw [c, h 0 (by omega), h 1 (by omega), h 2 (by omega)]; simp
/-- n ticks, of which the last b inputs are bound: rest is b equations, and the others -/
theorem rest_iff {to : Nat → Int32} {rk : Nat} {B : Nat → Nat → Int} (hB : Bs to rk B) (S : Nat → Int) {n t b : Nat} (hn : n = t + b) (hb : b ≤ rk) (u : Nat → Int) : Rest to S n u ↔ ((∀ r, r < b → DT (B 0) (B 1) (B 2) * u (n - 1 - r) = -(cB B r (yv to S n u t))) ∧ ∀ r, b ≤ r → r < 3 → cB B r (yv to S n u t) = 0) := by
  have he : ∀ r, r < 3 → cB B r (yv to S n u n) = cB B r (yv to S n u t) + (if r < b then DT (B 0) (B 1) (B 2) * u (n - 1 - r) else 0) := by
    intro r hr
    have := cB_end hB S hn hb u hr b (Nat.le_refl _)
    rw [← hn] at this
    rw [this]
    by_cases c : r < b
    · rw [if_pos (show b ≤ r + b ∧ r < b by omega), if_pos c]
    · rw [if_neg (show ¬ (b ≤ r + b ∧ r < b) by omega), if_neg c]
  have hb3 : b ≤ 3 := Nat.le_trans hb hB.1
  constructor
  · intro h
    have hz : ∀ r, r < 3 → cB B r (yv to S n u n) = 0 := fun r _ => cB_zero B r h
    constructor
    · intro r hr
      have := he r (by omega)
      rw [hz r (by omega), if_pos hr] at this
      omega
    · intro r h1 hr
      have := he r hr
      rw [hz r hr, if_neg (by omega)] at this
      omega
  · rintro ⟨h1, h2⟩
    apply all_zero hB.2.1
    intro r hr
    rw [he r hr]
    by_cases c : r < b
    · rw [if_pos c, h1 r c]; omega
    · rw [if_neg c, h2 r (by omega) hr]; simp
theorem mx_lt {u q : Nat → Int} {t i : Nat} (h : i < t) : mx u q t i = u i := if_pos h
theorem mx_ge {u q : Nat → Int} {t i : Nat} (h : t ≤ i) : mx u q t i = q i := if_neg (by omega)
theorem good_one {to : Nat → Int32} {rk : Nat} {B : Nat → Nat → Int} (hB : Bs to rk B) {S : Nat → Int} {L n t b : Nat} (hn : n = t + b) (hb : b ≤ rk) {u q q' : Nat → Int} (h : Good to S L n t u q) (h' : Good to S L n t u q') : ∀ i, t ≤ i → i < n → q i = q' i := by
  intro i h1 h2
  have a := ((rest_iff hB S hn hb _).mp h.1).1 (n - 1 - i) (by omega)
  have a' := ((rest_iff hB S hn hb _).mp h'.1).1 (n - 1 - i) (by omega)
  rw [show n - 1 - (n - 1 - i) = i by omega, mx_ge h1, cB_cg B _ (fun k _ => yv_cg to S n t (fun j hj => mx_lt hj) k)] at a a'
  exact Int.eq_of_mul_eq_mul_left hB.2.1 (by rw [a, a'])
/-! figures -/
def dg (F L : Nat) : Nat → Nat → Nat → Int
  | 0, _, _ => 0
  | f + 1, N, i => if i = f then (N % F : Nat) - (L : Int) else dg F L f (N / F) i
theorem dg_bd {F L : Nat} (hF : F = 2 * L + 1) : ∀ (f N i : Nat), -(L : Int) ≤ dg F L f N i ∧ dg F L f N i ≤ L
  | 0, _, _ => by show _ ≤ (0 : Int) ∧ (0 : Int) ≤ _; omega
  | f + 1, N, i => by
    unfold dg
    split
    · have := Nat.mod_lt N (show F > 0 by omega); omega
    · exact dg_bd hF f (N / F) i
