/-! the way to rest: in as many ticks as the order -/
theorem go3 (x : Bool) (to : Nat → Int32) {a b c : Int} {u v w z : Nat → Int} (h : ∀ k, k < 3 → u k = a * v k + b * w k + c * z k) (k : Nat) : go1 x to u k = a * go1 x to v k + b * go1 x to w k + c * go1 x to z k := by
  unfold go1
  rw [h 0 (by omega), h 1 (by omega), h 2 (by omega)]
  grind
theorem dot3 (q : Nat → Int) {a b c : Int} {u v w z : Nat → Int} (h : ∀ k, k < 3 → u k = a * v k + b * w k + c * z k) : dotI q u = a * dotI q v + b * dotI q w + c * dotI q z := by
  unfold dotI
  rw [h 0 (by omega), h 1 (by omega), h 2 (by omega)]
  grind
theorem gn3 (x : Bool) (to : Nat → Int32) {a b c : Int} {u v w z : Nat → Int} (h : ∀ k, k < 3 → u k = a * v k + b * w k + c * z k) : ∀ (t : Nat) (k : Nat), k < 3 → gn x to t u k = a * gn x to t v k + b * gn x to t w k + c * gn x to t z k
  | 0, k, hk => h k hk
  | t + 1, k, hk => go3 x to (fun j hj => gn3 x to h t j hj) k
theorem sq_M (M : Nat → Nat → Int) : ∀ r s, r < 3 → s < 3 → dotI (sq M r) (M s) = if r = s then DT (M 0) (M 1) (M 2) else 0 := by
  intro r s hr hs
  obtain ⟨e0, e1, e2⟩ := sq_ev M (M s)
  match r, hr with
  | 0, _ =>
    rw [e0]
    match s, hs with
    | 0, _ => rw [if_pos rfl]
    | 1, _ => rw [if_neg (by omega)]; unfold DT; grind
    | 2, _ => rw [if_neg (by omega)]; unfold DT; grind
  | 1, _ =>
    rw [e1]
    match s, hs with
    | 0, _ => rw [if_neg (by omega)]; unfold DT; grind
    | 1, _ => rw [if_pos rfl]
    | 2, _ => rw [if_neg (by omega)]; unfold DT; grind
  | 2, _ =>
    rw [e2]
    match s, hs with
    | 0, _ => rw [if_neg (by omega)]; unfold DT; grind
    | 1, _ => rw [if_neg (by omega)]; unfold DT; grind
    | 2, _ => rw [if_pos rfl]
theorem cram_s (a0 a1 a2 b0 b1 b2 c0 c1 c2 y0 y1 y2 : Int) : (a0 * (b1 * c2 - b2 * c1) + a1 * (b2 * c0 - b0 * c2) + a2 * (b0 * c1 - b1 * c0)) * y0 = (y0 * (b1 * c2 - b2 * c1) + y1 * (b2 * c0 - b0 * c2) + y2 * (b0 * c1 - b1 * c0)) * a0 + (a0 * (y1 * c2 - y2 * c1) + a1 * (y2 * c0 - y0 * c2) + a2 * (y0 * c1 - y1 * c0)) * b0 + (a0 * (b1 * y2 - b2 * y1) + a1 * (b2 * y0 - b0 * y2) + a2 * (b0 * y1 - b1 * y0)) * c0 := by grind
theorem cramer (M : Nat → Nat → Int) (y : Nat → Int) : ∀ k, k < 3 → DT (M 0) (M 1) (M 2) * y k = dotI (sq M 0) y * M 0 k + dotI (sq M 1) y * M 1 k + dotI (sq M 2) y * M 2 k := by
  intro k hk
  obtain ⟨e0, e1, e2⟩ := sq_ev M y
  rw [e0, e1, e2]
  unfold DT
  match k, hk with
  | 0, _ => exact cram_s _ _ _ _ _ _ _ _ _ _ _ _
  | 1, _ => have := cram_s (M 0 1) (M 0 2) (M 0 0) (M 1 1) (M 1 2) (M 1 0) (M 2 1) (M 2 2) (M 2 0) (y 1) (y 2) (y 0); grind
  | 2, _ => have := cram_s (M 0 2) (M 0 0) (M 0 1) (M 1 2) (M 1 0) (M 1 1) (M 2 2) (M 2 0) (M 2 1) (y 2) (y 0) (y 1); grind
def cc (x : Bool) (to : Nat → Int32) (o r : Nat) (y : Nat → Int) : Int := dotI (sq (RM (Rw x to) o) r) y
theorem RM_at {o : Nat} {to : Nat → Int32} (hz : ZT o to) (x : Bool) {r k : Nat} (hr : r < o) (hr3 : r < 3) (hk : k < 3) : RM (Rw x to) o r k = Rw x to r k := by
  unfold RM
  by_cases c : k < o
  · rw [if_pos ⟨hr, c⟩]
  · rw [if_neg (fun q => c q.2), if_neg (by omega), Rw_z hz x r hk (by omega)]
theorem dot_cg (q : Nat → Int) {u v : Nat → Int} (h : ∀ k, k < 3 → u k = v k) : dotI q u = dotI q v := by
  unfold dotI
  rw [h 0 (by omega), h 1 (by omega), h 2 (by omega)]
theorem cc_R {o : Nat} (ho : o ≤ 3) {to : Nat → Int32} (hz : ZT o to) (x : Bool) {r s : Nat} (hr : r < o) (hs : s < o) : cc x to o r (Rw x to s) = if r = s then DM x to o else 0 := by
  unfold cc
  rw [dot_cg _ (fun k hk => (RM_at hz x hs (by omega) hk).symm)]
  exact sq_M _ r s (by omega) (by omega)
theorem cc_3 (x : Bool) (to : Nat → Int32) (o r : Nat) {a b c : Int} {u v w z : Nat → Int} (h : ∀ k, k < 3 → u k = a * v k + b * w k + c * z k) : cc x to o r u = a * cc x to o r v + b * cc x to o r w + c * cc x to o r z := dot3 _ h
theorem cc_out {o : Nat} (h1 : 1 ≤ o) (ho : o ≤ 3) (x : Bool) (to : Nat → Int32) {y : Nat → Int} (hy : ∀ k, k < 3 → o ≤ k → y k = 0) : ∀ r, o ≤ r → r < 3 → cc x to o r y = 0 :=
  sq_full (R := Rw x to) h1 ho (fun _ _ _ _ => rfl) hy
def UV (x : Bool) (to : Nat → Int32) (o : Nat) (s : Nat → Int) (t : Nat) : Int := if t < o then -(cc x to o (o - 1 - t) (gn x to o s)) else 0
def WS (x : Bool) (to : Nat → Int32) (o : Nat) (s : Nat → Int) : Nat → Nat → Int
  | 0 => fun k => DM x to o * s k
  | t + 1 => fun k => go1 x to (WS x to o s t) k + pu x to k * UV x to o s t
theorem UI_UV (x : Bool) (to : Nat → Int32) (o t p : Nat) : UI x to o t p = UV x to o (un p) t := rfl
theorem SI_WS (x : Bool) (to : Nat → Int32) (o p : Nat) : ∀ (c k : Nat), SI x to (DM x to o) (fun t => UI x to o t p) p c k = WS x to o (un p) c k
  | 0, k => by
    show (if k = p then DM x to o else 0) = DM x to o * (if k = p then 1 else 0)
    split <;> simp
  | c + 1, k => by
    show go1 x to (SI x to (DM x to o) (fun t => UI x to o t p) p c) k + pu x to k * UI x to o c p = go1 x to (WS x to o (un p) c) k + pu x to k * UV x to o (un p) c
    rw [UI_UV]
    unfold go1
    rw [SI_WS x to o p c 0, SI_WS x to o p c 1, SI_WS x to o p c 2]
theorem WS_z {o : Nat} {to : Nat → Int32} (hz : ZT o to) (x : Bool) {s : Nat → Int} (hs : ∀ k, k < 3 → o ≤ k → s k = 0) : ∀ (t k : Nat), k < 3 → o ≤ k → WS x to o s t k = 0
  | 0, k, hk, h => by show DM x to o * s k = 0; rw [hs k hk h]; simp
  | t + 1, k, hk, h => by
    show go1 x to _ k + pu x to k * UV x to o s t = 0
    rw [go1_z hz x _ hk h, pu_z hz x hk h]; simp
theorem gn_s {x : Bool} {to : Nat → Int32} (t : Nat) (v : Nat → Int) : gn x to (t + 1) v = go1 x to (gn x to t v) := rfl
theorem Rw_s {x : Bool} {to : Nat → Int32} (t : Nat) : Rw x to (t + 1) = go1 x to (Rw x to t) := rfl
theorem WS_s (x : Bool) (to : Nat → Int32) (o : Nat) (s : Nat → Int) (t k : Nat) : WS x to o s (t + 1) k = go1 x to (WS x to o s t) k + Rw x to 0 k * UV x to o s t := rfl
/-- the state behind t ticks, out of the start and the inputs -/
theorem WS_1 (x : Bool) (to : Nat → Int32) (o : Nat) (s : Nat → Int) (k : Nat) : WS x to o s 1 k = DM x to o * gn x to 1 s k + UV x to o s 0 * Rw x to 0 k := by
  rw [WS_s, go3 x to (a := DM x to o) (b := 0) (c := 0) (v := s) (w := s) (z := s) (fun j _ => by show DM x to o * s j = _; grind) k]
  show DM x to o * go1 x to s k + _ + _ + _ = DM x to o * go1 x to s k + _
  grind
theorem WS_2 (x : Bool) (to : Nat → Int32) (o : Nat) (s : Nat → Int) (k : Nat) : WS x to o s 2 k = DM x to o * gn x to 2 s k + UV x to o s 0 * Rw x to 1 k + UV x to o s 1 * Rw x to 0 k := by
  rw [WS_s, go3 x to (a := DM x to o) (b := UV x to o s 0) (c := 0) (v := gn x to 1 s) (w := Rw x to 0) (z := s) (fun j _ => by rw [WS_1]; grind) k]
  rw [show gn x to 2 s = go1 x to (gn x to 1 s) from rfl, show Rw x to 1 = go1 x to (Rw x to 0) from rfl]
  grind
theorem WS_3 (x : Bool) (to : Nat → Int32) (o : Nat) (s : Nat → Int) (k : Nat) : WS x to o s 3 k = DM x to o * gn x to 3 s k + UV x to o s 0 * Rw x to 2 k + UV x to o s 1 * Rw x to 1 k + UV x to o s 2 * Rw x to 0 k := by
  rw [WS_s, go3 x to (a := DM x to o) (b := UV x to o s 0) (c := UV x to o s 1) (v := gn x to 2 s) (w := Rw x to 1) (z := Rw x to 0) (fun j _ => WS_2 x to o s j) k]
  rw [show gn x to 3 s = go1 x to (gn x to 2 s) from rfl, show Rw x to 2 = go1 x to (Rw x to 1) from rfl, show Rw x to 1 = go1 x to (Rw x to 0) from rfl]
  grind
theorem cram_o {o : Nat} {to : Nat → Int32} (x : Bool) (y : Nat → Int) : ∀ k, k < 3 → DM x to o * y k = cc x to o 0 y * RM (Rw x to) o 0 k + cc x to o 1 y * RM (Rw x to) o 1 k + cc x to o 2 y * RM (Rw x to) o 2 k := cramer _ y
theorem way_zero {o : Nat} (h1 : 1 ≤ o) (ho : o ≤ 3) {to : Nat → Int32} (hz : ZT o to) (x : Bool) {s : Nat → Int} (hs : ∀ k, k < 3 → o ≤ k → s k = 0) : ∀ k, k < 3 → WS x to o s o k = 0 := by
  intro k hk
  have hy : ∀ k, k < 3 → o ≤ k → gn x to o s k = 0 := fun k hk h => gn_z hz x hs o hk h
  have hc := cram_o (o := o) (to := to) x (gn x to o s) k hk
  have hout := cc_out h1 ho x to hy
  rcases (show o = 1 ∨ o = 2 ∨ o = 3 by omega) with rfl | rfl | rfl
  · rw [hout 1 (by omega) (by omega), hout 2 (by omega) (by omega), RM_at hz x (by omega) (by omega) hk] at hc
    rw [WS_1, show UV x to 1 s 0 = -(cc x to 1 0 (gn x to 1 s)) from rfl]
    grind
  · rw [hout 2 (by omega) (by omega), RM_at hz x (by omega) (by omega) hk, RM_at hz x (r := 1) (by omega) (by omega) hk] at hc
    rw [WS_2, show UV x to 2 s 0 = -(cc x to 2 1 (gn x to 2 s)) from rfl, show UV x to 2 s 1 = -(cc x to 2 0 (gn x to 2 s)) from rfl]
    grind
  · rw [RM_at hz x (by omega) (by omega) hk, RM_at hz x (r := 1) (by omega) (by omega) hk, RM_at hz x (r := 2) (by omega) (by omega) hk] at hc
    rw [WS_3, show UV x to 3 s 0 = -(cc x to 3 2 (gn x to 3 s)) from rfl, show UV x to 3 s 1 = -(cc x to 3 1 (gn x to 3 s)) from rfl, show UV x to 3 s 2 = -(cc x to 3 0 (gn x to 3 s)) from rfl]
    grind
theorem UV_out (x : Bool) (to : Nat → Int32) {o t : Nat} (s : Nat → Int) (h : o ≤ t) : UV x to o s t = 0 := if_neg (by omega)
theorem way_rest {o : Nat} (h1 : 1 ≤ o) (ho : o ≤ 3) {to : Nat → Int32} (hz : ZT o to) (x : Bool) {s : Nat → Int} (hs : ∀ k, k < 3 → o ≤ k → s k = 0) : ∀ (d k : Nat), k < 3 → WS x to o s (o + d) k = 0
  | 0, k, hk => way_zero h1 ho hz x hs k hk
  | d + 1, k, hk => by
    rw [show o + (d + 1) = (o + d) + 1 from rfl, WS_s, UV_out x to s (by omega)]
    unfold go1
    rw [way_rest h1 ho hz x hs d 0 (by omega), way_rest h1 ho hz x hs d 1 (by omega), way_rest h1 ho hz x hs d 2 (by omega)]
    simp
/-- a state of the way, gone on without input -/
theorem WS_go (x : Bool) (to : Nat → Int32) (o : Nat) (s : Nat → Int) (t k : Nat) : go1 x to (WS x to o s t) k = 1 * WS x to o s (t + 1) k + (-(UV x to o s t)) * Rw x to 0 k + 0 * 0 := by
  rw [WS_s]; grind
theorem gain_way {o : Nat} (h1 : 1 ≤ o) (ho : o ≤ 3) {to : Nat → Int32} (hz : ZT o to) (x : Bool) {s : Nat → Int} (hs : ∀ k, k < 3 → o ≤ k → s k = 0) (t : Nat) : cc x to o (o - 1) (gn x to o (WS x to o s t)) = -(DM x to o * UV x to o s t) := by
  by_cases ht : t < o
  · have w := way_zero h1 ho hz x hs
    by_cases h0 : t = 0
    · subst h0
      rw [cc_3 x to o (o - 1) (a := DM x to o) (b := 0) (c := 0) (v := gn x to o s) (w := s) (z := s) (fun k hk => by
        rw [gn3 x to (a := DM x to o) (b := 0) (c := 0) (v := s) (w := s) (z := s) (fun j _ => by show DM x to o * s j = _; grind) o k hk]; grind)]
      unfold UV
      rw [if_pos (by omega), show o - 1 - 0 = o - 1 from rfl]
      grind
    · rcases (show o = 2 ∨ o = 3 by omega) with rfl | rfl
      · have e : t = 1 := by omega
        subst e
        have g1 : ∀ k, k < 3 → go1 x to (WS x to 2 s 1) k = (-(UV x to 2 s 1)) * Rw x to 0 k + 0 * s k + 0 * s k := fun k hk => by rw [WS_go, w k hk]; grind
        have g2 := go3 x to g1
        rw [show gn x to 2 (WS x to 2 s 1) = go1 x to (go1 x to (WS x to 2 s 1)) from rfl, cc_3 x to 2 (2 - 1) (fun k _ => g2 k), show go1 x to (Rw x to 0) = Rw x to 1 from rfl, cc_R (by omega) hz x (by omega) (by omega), if_pos rfl]
        grind
      · have g1 : ∀ k, k < 3 → go1 x to (WS x to 3 s 2) k = (-(UV x to 3 s 2)) * Rw x to 0 k + 0 * s k + 0 * s k := fun k hk => by rw [WS_go, w k hk]; grind
        rcases (show t = 1 ∨ t = 2 by omega) with rfl | rfl
        · have f1 : ∀ k, k < 3 → go1 x to (WS x to 3 s 1) k = 1 * WS x to 3 s 2 k + (-(UV x to 3 s 1)) * Rw x to 0 k + 0 * s k := fun k _ => by rw [WS_go]; grind
          have f2 : ∀ k, k < 3 → go1 x to (go1 x to (WS x to 3 s 1)) k = (-(UV x to 3 s 2)) * Rw x to 0 k + (-(UV x to 3 s 1)) * Rw x to 1 k + 0 * s k := fun k hk => by
            rw [go3 x to f1 k, g1 k hk, show go1 x to (Rw x to 0) = Rw x to 1 from rfl]; grind
          have f3 := go3 x to f2
          rw [show gn x to 3 (WS x to 3 s 1) = go1 x to (go1 x to (go1 x to (WS x to 3 s 1))) from rfl, cc_3 x to 3 (3 - 1) (fun k _ => f3 k), show go1 x to (Rw x to 0) = Rw x to 1 from rfl, show go1 x to (Rw x to 1) = Rw x to 2 from rfl, cc_R (by omega) hz x (by omega) (by omega), cc_R (by omega) hz x (by omega) (by omega), if_neg (by omega), if_pos rfl]
          grind
        · have g2 : ∀ k, k < 3 → go1 x to (go1 x to (WS x to 3 s 2)) k = (-(UV x to 3 s 2)) * Rw x to 1 k + 0 * s k + 0 * s k := fun k hk => by
            rw [go3 x to g1 k, show go1 x to (Rw x to 0) = Rw x to 1 from rfl]; grind
          have g3 := go3 x to g2
          rw [show gn x to 3 (WS x to 3 s 2) = go1 x to (go1 x to (go1 x to (WS x to 3 s 2))) from rfl, cc_3 x to 3 (3 - 1) (fun k _ => g3 k), show go1 x to (Rw x to 1) = Rw x to 2 from rfl, cc_R (by omega) hz x (by omega) (by omega), if_pos rfl]
          grind
  · rw [UV_out x to s (by omega)]
    obtain ⟨d, rfl⟩ : ∃ d, t = o + d := ⟨t - o, by omega⟩
    have w := way_rest h1 ho hz x hs d
    rw [cc_3 x to o (o - 1) (a := 0) (b := 0) (c := 0) (v := s) (w := s) (z := s) (fun k hk => by
      rw [gn3 x to (a := 0) (b := 0) (c := 0) (v := s) (w := s) (z := s) (fun j hj => by rw [w j hj]; grind) o k hk]; grind)]
    grind
/-- linear in the start -/
theorem UV_3 (x : Bool) (to : Nat → Int32) (o : Nat) {a b c : Int} {u v w z : Nat → Int} (h : ∀ k, k < 3 → u k = a * v k + b * w k + c * z k) (t : Nat) : UV x to o u t = a * UV x to o v t + b * UV x to o w t + c * UV x to o z t := by
  unfold UV
  by_cases ht : t < o
  · rw [if_pos ht, if_pos ht, if_pos ht, if_pos ht, cc_3 x to o _ (fun k hk => gn3 x to h o k hk)]; grind
  · rw [if_neg ht, if_neg ht, if_neg ht, if_neg ht]; grind
theorem WS_lin (x : Bool) (to : Nat → Int32) (o : Nat) {a b c : Int} {u v w z : Nat → Int} (h : ∀ k, k < 3 → u k = a * v k + b * w k + c * z k) : ∀ (t k : Nat), k < 3 → WS x to o u t k = a * WS x to o v t k + b * WS x to o w t k + c * WS x to o z t k
  | 0, k, hk => by
    show DM x to o * u k = a * (DM x to o * v k) + b * (DM x to o * w k) + c * (DM x to o * z k)
    rw [h k hk]; grind
  | t + 1, k, hk => by
    rw [WS_s, WS_s, WS_s, WS_s, go3 x to (fun j hj => WS_lin x to o h t j hj) k, UV_3 x to o h t]; grind
theorem un_sum (s : Nat → Int) : ∀ k, k < 3 → s k = s 0 * un 0 k + s 1 * un 1 k + s 2 * un 2 k := by
  intro k hk
  match k, hk with
  | 0, _ => show s 0 = s 0 * 1 + s 1 * 0 + s 2 * 0; grind
  | 1, _ => show s 1 = s 0 * 0 + s 1 * 1 + s 2 * 0; grind
  | 2, _ => show s 2 = s 0 * 0 + s 1 * 0 + s 2 * 1; grind
