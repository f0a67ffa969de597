/-! bounds; the watcher's way -/
theorem RM_bd3 {o : Nat} {to : Nat → Int32} (hz : ZT o to) (x : Bool) : Bd 2 (RM (Rw x to) o 0) ∧ Bd 12 (RM (Rw x to) o 1) ∧ Bd 72 (RM (Rw x to) o 2) := by
  have key : ∀ (r : Nat) (N : Int), 1 ≤ N → Bd N (Rw x to r) → Bd N (RM (Rw x to) o r) := by
    intro r N hN h k hk
    unfold RM
    split
    · exact h k hk
    · split <;> omega
  exact ⟨key 0 2 (by omega) (R0_bd hz.1 x), key 1 12 (by omega) (R1_bd hz.1 x), key 2 72 (by omega) (R2_bd hz.1 x)⟩
theorem DM_bd {o : Nat} {to : Nat → Int32} (hz : ZT o to) (x : Bool) : -10368 ≤ DM x to o ∧ DM x to o ≤ 10368 := by
  obtain ⟨d0, d1, d2⟩ := RM_bd3 hz x
  have := DT_bd d0 d1 d2
  unfold DM
  omega
theorem cc_bd {o : Nat} {to : Nat → Int32} (hz : ZT o to) (x : Bool) {Y : Int} {y : Nat → Int} (hy : Bd Y y) : (-(3 * (1728 * Y)) ≤ cc x to o 0 y ∧ cc x to o 0 y ≤ 3 * (1728 * Y)) ∧ (-(3 * (288 * Y)) ≤ cc x to o 1 y ∧ cc x to o 1 y ≤ 3 * (288 * Y)) ∧ (-(3 * (48 * Y)) ≤ cc x to o 2 y ∧ cc x to o 2 y ≤ 3 * (48 * Y)) := by
  obtain ⟨d0, d1, d2⟩ := RM_bd3 hz x
  refine ⟨?_, ?_, ?_⟩
  · exact dot_bd (cr_bd d1 d2) hy
  · exact dot_bd (cr_bd d2 d0) hy
  · exact dot_bd (cr_bd d0 d1) hy
theorem UV_bd {o : Nat} (h1 : 1 ≤ o) (ho : o ≤ 3) {to : Nat → Int32} (hz : ZT o to) (x : Bool) (p : Nat) : (-31104 ≤ UV x to o (un p) 0 ∧ UV x to o (un p) 0 ≤ 31104) ∧ (-186624 ≤ UV x to o (un p) 1 ∧ UV x to o (un p) 1 ≤ 186624) ∧ ∀ t, -1119744 ≤ UV x to o (un p) t ∧ UV x to o (un p) t ≤ 1119744 := by
  have hg := gn_bd hz.1 x (un_bd p) o
  obtain ⟨c0, c1, c2⟩ := cc_bd hz x hg
  rcases (show o = 1 ∨ o = 2 ∨ o = 3 by omega) with rfl | rfl | rfl
  · have e0 : UV x to 1 (un p) 0 = -(cc x to 1 0 (gn x to 1 (un p))) := rfl
    have e1 : UV x to 1 (un p) 1 = 0 := rfl
    refine ⟨by rw [e0]; omega, by rw [e1]; omega, fun t => ?_⟩
    match t with
    | 0 => rw [e0]; omega
    | t + 1 => rw [UV_out x to _ (by omega)]; omega
  · have e0 : UV x to 2 (un p) 0 = -(cc x to 2 1 (gn x to 2 (un p))) := rfl
    have e1 : UV x to 2 (un p) 1 = -(cc x to 2 0 (gn x to 2 (un p))) := rfl
    refine ⟨by rw [e0]; omega, by rw [e1]; omega, fun t => ?_⟩
    match t with
    | 0 => rw [e0]; omega
    | 1 => rw [e1]; omega
    | t + 2 => rw [UV_out x to _ (by omega)]; omega
  · have e0 : UV x to 3 (un p) 0 = -(cc x to 3 2 (gn x to 3 (un p))) := rfl
    have e1 : UV x to 3 (un p) 1 = -(cc x to 3 1 (gn x to 3 (un p))) := rfl
    have e2 : UV x to 3 (un p) 2 = -(cc x to 3 0 (gn x to 3 (un p))) := rfl
    refine ⟨by rw [e0]; omega, by rw [e1]; omega, fun t => ?_⟩
    match t with
    | 0 => rw [e0]; omega
    | 1 => rw [e1]; omega
    | 2 => rw [e2]; omega
    | t + 3 => rw [UV_out x to _ (by omega)]; omega
theorem WS_bd {o : Nat} (h1 : 1 ≤ o) (ho : o ≤ 3) {to : Nat → Int32} (hz : ZT o to) (x : Bool) {p : Nat} (hp : p < o) : ∀ t, Bd 1119744 (WS x to o (un p) t) := by
  obtain ⟨u0, u1, -⟩ := UV_bd h1 ho hz x p
  have hd := DM_bd hz x
  have w0 : Bd 10368 (WS x to o (un p) 0) := fun k hk => by
    show _ ≤ DM x to o * un p k ∧ DM x to o * un p k ≤ _
    have := mb hd.1 hd.2 (un_bd p k hk).1 (un_bd p k hk).2
    omega
  have w1 : Bd 124416 (WS x to o (un p) 1) := fun k hk => by
    rw [WS_s]
    have a := go1_bd hz.1 x w0 k hk
    have b := mb (pu_bd hz.1 x k hk).1 (pu_bd hz.1 x k hk).2 u0.1 u0.2
    have e : Rw x to 0 k = pu x to k := rfl
    rw [e]
    omega
  have w2 : Bd 1119744 (WS x to o (un p) 2) := fun k hk => by
    rw [WS_s]
    have a := go1_bd hz.1 x w1 k hk
    have b := mb (pu_bd hz.1 x k hk).1 (pu_bd hz.1 x k hk).2 u1.1 u1.2
    have e : Rw x to 0 k = pu x to k := rfl
    rw [e]
    omega
  intro t
  match t with
  | 0 => exact w0.mono (by omega)
  | 1 => exact w1.mono (by omega)
  | 2 => exact w2
  | t + 3 =>
    intro k hk
    have := way_rest h1 ho hz x (un_z hp) (t + 3 - o) k hk
    rw [show o + (t + 3 - o) = t + 3 by omega] at this
    rw [this]; omega
theorem sum_bd {S : Nat → Int} {o : Nat} (hS : Bd 1000000 S) (hz : ∀ k, k < 3 → o ≤ k → S k = 0) {N : Int} (hN : 0 ≤ N) {f : Nat → Int} (hf : ∀ p, p < o → -N ≤ f p ∧ f p ≤ N) : -(3 * (1000000 * N)) ≤ S 0 * f 0 + S 1 * f 1 + S 2 * f 2 ∧ S 0 * f 0 + S 1 * f 1 + S 2 * f 2 ≤ 3 * (1000000 * N) := by
  have one : ∀ p, p < 3 → -(1000000 * N) ≤ S p * f p ∧ S p * f p ≤ 1000000 * N := by
    intro p hp
    by_cases c : p < o
    · exact mb (hS p hp).1 (hS p hp).2 (hf p c).1 (hf p c).2
    · rw [hz p hp (by omega), Int.zero_mul]; omega
  have a := one 0 (by omega)
  have b := one 1 (by omega)
  have c := one 2 (by omega)
  omega
theorem WS_S_bd {o : Nat} (h1 : 1 ≤ o) (ho : o ≤ 3) {to : Nat → Int32} (hz : ZT o to) (x : Bool) {S : Nat → Int} (hS : Bd 1000000 S) (hSz : ∀ k, k < 3 → o ≤ k → S k = 0) (t : Nat) : Bd 3359232000000 (WS x to o S t) := by
  intro k hk
  rw [WS_lin x to o (un_sum S) t k hk]
  have := sum_bd hS hSz (N := 1119744) (by omega) (f := fun p => WS x to o (un p) t k) (fun p hp => WS_bd h1 ho hz x hp t k hk)
  omega
theorem UV_S_bd {o : Nat} (h1 : 1 ≤ o) (ho : o ≤ 3) {to : Nat → Int32} (hz : ZT o to) (x : Bool) {S : Nat → Int} (hS : Bd 1000000 S) (hSz : ∀ k, k < 3 → o ≤ k → S k = 0) (t : Nat) : -3359232000000 ≤ UV x to o S t ∧ UV x to o S t ≤ 3359232000000 := by
  rw [UV_3 x to o (un_sum S) t]
  have := sum_bd hS hSz (N := 1119744) (by omega) (f := fun p => UV x to o (un p) t) (fun p hp => (UV_bd h1 ho hz x p).2.2 t)
  omega
def GG (x : Bool) (to : Nat → Int32) (o k : Nat) : Int := cc x to o (o - 1) (gn x to o (un k))
theorem GG_U {o : Nat} (h1 : 1 ≤ o) (x : Bool) (to : Nat → Int32) (k : Nat) : GG x to o k = -(UV x to o (un k) 0) := by
  unfold UV GG
  rw [if_pos (by omega), show o - 1 - 0 = o - 1 from rfl]; grind
theorem GG_dot (x : Bool) (to : Nat → Int32) (o : Nat) (w : Nat → Int) : dotI (GG x to o) w = cc x to o (o - 1) (gn x to o w) := by
  rw [cc_3 x to o (o - 1) (fun k hk => gn3 x to (un_sum w) o k hk)]
  unfold dotI GG
  grind
theorem GG_bd {o : Nat} (h1 : 1 ≤ o) (ho : o ≤ 3) {to : Nat → Int32} (hz : ZT o to) (x : Bool) (k : Nat) : -31104 ≤ GG x to o k ∧ GG x to o k ≤ 31104 := by
  rw [GG_U h1]
  have := (UV_bd h1 ho hz x k).1
  omega
theorem go_un (x : Bool) (to : Nat → Int32) {k : Nat} (hk : k < 3) (i : Nat) : go1 x to (un k) i = en x to i k := by
  unfold go1
  match k, hk with
  | 0, _ => show en x to i 0 * 1 + en x to i 1 * 0 + en x to i 2 * 0 = _; grind
  | 1, _ => show en x to i 0 * 0 + en x to i 1 * 1 + en x to i 2 * 0 = _; grind
  | 2, _ => show en x to i 0 * 0 + en x to i 1 * 0 + en x to i 2 * 1 = _; grind
theorem gn_zero (x : Bool) (to : Nat → Int32) {v : Nat → Int} (h : ∀ k, k < 3 → v k = 0) : ∀ (t : Nat) (k : Nat), k < 3 → gn x to t v k = 0 := by
  intro t k hk
  rw [gn3 x to (a := 0) (b := 0) (c := 0) (v := v) (w := v) (z := v) (fun j hj => by rw [h j hj]; grind) t k hk]; grind
theorem GG_z {o : Nat} (h1 : 1 ≤ o) {to : Nat → Int32} (hz : ZT o to) (x : Bool) {k : Nat} (hk : k < 3) (ho : o ≤ k) : GG x to o k = 0 := by
  unfold GG
  obtain ⟨m, rfl⟩ : ∃ m, o = m + 1 := ⟨o - 1, by omega⟩
  rw [gn_succ]
  rw [cc_3 x to (m + 1) _ (a := 0) (b := 0) (c := 0) (v := un k) (w := un k) (z := un k) (fun j hj => by
    rw [gn_zero x to (fun i hi => by rw [go_un x to hk, en_z hz x hi hk (Or.inr ho)]) m j hj]; grind)]
  grind
/-- a step of the way, times what is below -/
def NN (x : Bool) (to : Nat → Int32) (o : Nat) (v : Nat → Int) (j : Nat) : Int := DM x to o * go1 x to v j - pu x to j * cc x to o (o - 1) (gn x to o v)
theorem NN_lin (x : Bool) (to : Nat → Int32) (o : Nat) {a b c : Int} {u v w z : Nat → Int} (h : ∀ k, k < 3 → u k = a * v k + b * w k + c * z k) (j : Nat) : NN x to o u j = a * NN x to o v j + b * NN x to o w j + c * NN x to o z j := by
  unfold NN
  rw [go3 x to h j, cc_3 x to o _ (fun k hk => gn3 x to h o k hk)]; grind
theorem NN_cg (x : Bool) (to : Nat → Int32) (o : Nat) {u v : Nat → Int} (h : ∀ k, k < 3 → u k = v k) (j : Nat) : NN x to o u j = NN x to o v j := by
  rw [NN_lin x to o (a := 1) (b := 0) (c := 0) (v := v) (w := v) (z := v) (fun k hk => by rw [h k hk]; grind) j]; grind
theorem NN_z {o : Nat} {to : Nat → Int32} (hz : ZT o to) (x : Bool) (v : Nat → Int) : ∀ k, k < 3 → o ≤ k → NN x to o v k = 0 := by
  intro k hk h
  unfold NN
  rw [go1_z hz x v hk h, pu_z hz x hk h]; simp
theorem WS_NN {o : Nat} (h1 : 1 ≤ o) (ho : o ≤ 3) {to : Nat → Int32} (hz : ZT o to) (x : Bool) {s : Nat → Int} (hs : ∀ k, k < 3 → o ≤ k → s k = 0) (t j : Nat) : DM x to o * WS x to o s (t + 1) j = NN x to o (WS x to o s t) j := by
  unfold NN
  rw [gain_way h1 ho hz x hs t, WS_s]
  show DM x to o * (go1 x to (WS x to o s t) j + pu x to j * UV x to o s t) = _
  grind
theorem WS_com {o : Nat} (h1 : 1 ≤ o) (ho : o ≤ 3) {to : Nat → Int32} (hz : ZT o to) (x : Bool) (hd : DM x to o ≠ 0) : ∀ (t : Nat) {s : Nat → Int}, (∀ k, k < 3 → o ≤ k → s k = 0) → ∀ j, j < 3 → WS x to o (NN x to o s) t j = NN x to o (WS x to o s t) j := by
  intro t
  induction t with
  | zero =>
    intro s hs j hj
    rw [NN_lin x to o (a := DM x to o) (b := 0) (c := 0) (v := s) (w := s) (z := s) (fun k _ => by show DM x to o * s k = _; grind) j]
    show DM x to o * NN x to o s j = _
    grind
  | succ t ih =>
    intro s hs j hj
    apply Int.eq_of_mul_eq_mul_left hd
    rw [WS_NN h1 ho hz x (NN_z hz x s) t j, NN_cg x to o (fun k hk => ih hs k hk) j]
    have e := NN_lin x to o (u := NN x to o (WS x to o s t)) (a := DM x to o) (b := 0) (c := 0) (v := WS x to o s (t + 1)) (w := s) (z := s) (fun k _ => by rw [← WS_NN h1 ho hz x hs t k]; grind) j
    rw [e]; grind
def VV (to : Nat → Int32) (o : Nat) (s : Nat → Int) (t k : Nat) : Int := if k < o then dotI (WS true to o (un k) t) s else 0
theorem VV_0 (to : Nat → Int32) (o : Nat) {s : Nat → Int} (hs : ∀ k, k < 3 → o ≤ k → s k = 0) {k : Nat} (hk : k < 3) : VV to o s 0 k = DM true to o * s k := by
  unfold VV
  by_cases c : k < o
  · rw [if_pos c]
    show DM true to o * un k 0 * s 0 + DM true to o * un k 1 * s 1 + DM true to o * un k 2 * s 2 = _
    have := un_sum s k hk
    match k, hk with
    | 0, _ => show DM true to o * 1 * s 0 + DM true to o * 0 * s 1 + DM true to o * 0 * s 2 = _; grind
    | 1, _ => show DM true to o * 0 * s 0 + DM true to o * 1 * s 1 + DM true to o * 0 * s 2 = _; grind
    | 2, _ => show DM true to o * 0 * s 0 + DM true to o * 0 * s 1 + DM true to o * 1 * s 2 = _; grind
  · rw [if_neg c, hs k hk (by omega)]; simp
theorem en_tf (to : Nat → Int32) (i j : Nat) : en true to i j = en false to j i := by simp [en]
theorem VV_s {o : Nat} (h1 : 1 ≤ o) (ho : o ≤ 3) {to : Nat → Int32} (hz : ZT o to) (hd : DM true to o ≠ 0) (s : Nat → Int) (t : Nat) {k : Nat} (hk : k < 3) : DM true to o * VV to o s (t + 1) k = DM true to o * go1 false to (VV to o s t) k - GG true to o k * dotI (pu true to) (VV to o s t) := by
  by_cases c : k < o
  · have e1 : ∀ j, j < 3 → DM true to o * WS true to o (un k) (t + 1) j = NN true to o (un k) 0 * WS true to o (un 0) t j + NN true to o (un k) 1 * WS true to o (un 1) t j + NN true to o (un k) 2 * WS true to o (un 2) t j := by
      intro j hj
      rw [WS_NN h1 ho hz true (un_z c) t j, ← WS_com h1 ho hz true hd t (un_z c) j hj, WS_lin true to o (un_sum (NN true to o (un k))) t j hj]
    have e2 : ∀ l, l < 3 → NN true to o (un k) l * dotI (WS true to o (un l) t) s = NN true to o (un k) l * VV to o s t l := by
      intro l hl
      by_cases q : l < o
      · unfold VV; rw [if_pos q]
      · rw [NN_z hz true _ l hl (by omega)]; simp
    have e3 : ∀ l, NN true to o (un k) l = DM true to o * en false to k l - pu true to l * GG true to o k := by
      intro l
      unfold NN GG
      rw [go_un true to hk l, en_tf]
    have e4 : VV to o s (t + 1) k = dotI (WS true to o (un k) (t + 1)) s := if_pos c
    have f0 := e2 0 (by omega)
    have f1 := e2 1 (by omega)
    have f2 := e2 2 (by omega)
    have a0 := e1 0 (by omega)
    have a1 := e1 1 (by omega)
    have a2 := e1 2 (by omega)
    rw [e4]
    have e5 : DM true to o * dotI (WS true to o (un k) (t + 1)) s = NN true to o (un k) 0 * VV to o s t 0 + NN true to o (un k) 1 * VV to o s t 1 + NN true to o (un k) 2 * VV to o s t 2 := by
      rw [← f0, ← f1, ← f2]
      unfold dotI
      grind
    rw [e5, e3 0, e3 1, e3 2]
    unfold go1 dotI
    grind
  · have e : VV to o s (t + 1) k = 0 := if_neg c
    rw [e, go1_z hz false _ hk (by omega), GG_z h1 hz true hk (by omega)]
    simp
theorem VV_bd {o : Nat} (h1 : 1 ≤ o) (ho : o ≤ 3) {to : Nat → Int32} (hz : ZT o to) {S : Nat → Int} (hS : Bd 1000000 S) (t : Nat) : Bd 3359232000000 (VV to o S t) := by
  intro k hk
  unfold VV
  by_cases c : k < o
  · rw [if_pos c]
    have := dot_bd (WS_bd h1 ho hz true c t) hS
    omega
  · rw [if_neg c]; omega
