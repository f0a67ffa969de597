/-! the class goes the way -/
theorem RM_cg {ce to : Nat → Int32} (h : ∀ k, k < 15 → to k = ce k) (x : Bool) (o : Nat) {r i : Nat} (hi : i < 3) : RM (Rw x to) o r i = RM (Rw x ce) o r i := by
  unfold RM
  split
  · exact Rw_cg h x r hi
  · rfl
theorem DT_cg {u v w u' v' w' : Nat → Int} (h1 : ∀ k, k < 3 → u k = u' k) (h2 : ∀ k, k < 3 → v k = v' k) (h3 : ∀ k, k < 3 → w k = w' k) : DT u v w = DT u' v' w' := by
  unfold DT
  rw [h1 0 (by omega), h1 1 (by omega), h1 2 (by omega), h2 0 (by omega), h2 1 (by omega), h2 2 (by omega), h3 0 (by omega), h3 1 (by omega), h3 2 (by omega)]
theorem sq_cg {B M : Nat → Nat → Int} (h : ∀ j i, j < 3 → i < 3 → B j i = M j i) {r : Nat} (hr : r < 3) {v w : Nat → Int} (hv : ∀ k, k < 3 → v k = w k) : dotI (sq B r) v = dotI (sq M r) w := by
  obtain ⟨a0, a1, a2⟩ := sq_ev B v
  obtain ⟨c0, c1, c2⟩ := sq_ev M w
  have h0 := fun k (hk : k < 3) => h 0 k (by omega) hk
  have h1 := fun k (hk : k < 3) => h 1 k (by omega) hk
  have h2 := fun k (hk : k < 3) => h 2 k (by omega) hk
  match r, hr with
  | 0, _ => rw [a0, c0]; exact DT_cg hv h1 h2
  | 1, _ => rw [a1, c1]; exact DT_cg h0 hv h2
  | 2, _ => rw [a2, c2]; exact DT_cg h0 h1 hv
theorem rp.cg {f : Nat → Int64} {u v : Nat → Int} (h : rp f u) (e : ∀ k, k < 3 → u k = v k) : rp f v := ⟨by rw [h.1, e 0 (by omega)], by rw [h.2.1, e 1 (by omega)], by rw [h.2.2, e 2 (by omega)]⟩
theorem rp.of {f : Nat → Int64} {v : Nat → Int} (h : ∀ k, k < 3 → f k = Int64.ofInt (v k)) : rp f v := ⟨h 0 (by omega), h 1 (by omega), h 2 (by omega)⟩
theorem RkM_full {x : Bool} {to : Nat → Int32} {o : Nat} (h1 : 1 ≤ o) (ho : o ≤ 3) (h : RkM (RM (Rw x to) o) o o) : DM x to o ≠ 0 := by
  unfold DM
  rcases h with ⟨h, -⟩ | ⟨hd, ⟨e, -, e2⟩ | ⟨-, ⟨⟨r, i, hr, hi, hne⟩, e⟩ | ⟨-, e⟩⟩⟩
  · exact h
  · omega
  · subst e
    have r0 : r = 0 := by omega
    have i0 : i = 0 := by omega
    subst r0 i0
    rw [DT_RM1] at hd
    exact absurd (by unfold RM; rw [if_pos ⟨by omega, by omega⟩]; exact hd) hne
  · omega
theorem chain_full (x : Bool) {o : Nat} (h1 : 1 ≤ o) (ho : o ≤ 3) {ce to : Nat → Int32} (hT : JT o ce to) {rank : Int32} {below : Int64} {r0 r1 r2 ga s0 s1 s2 : Nat → Int64} (hC : ChainIs x ce o rank below r0 r1 r2 ga s0 s1 s2) : ∃ rk B, rk ≤ 3 ∧ rank = nI rk ∧ BaseIs (Rw x ce) rk B ∧ (rk = o → DM x to o ≠ 0 ∧ below = Int64.ofInt (DM x to o) ∧ rp ga (GG x to o)) := by
  obtain ⟨rk, B, hrk, rfl, hB, -, -, -, -, -, -, hbe, hga⟩ := hC
  refine ⟨rk, B, hrk, rfl, hB, fun e => ?_⟩
  subst e
  obtain ⟨rk2, hk2⟩ := RkM_ex (RM (Rw x to) rk) rk
  obtain ⟨e2, -, hf⟩ := rk_eq x h1 ho hT.zc hT.eq hB hk2
  subst e2
  have hBM : ∀ j i, j < 3 → i < 3 → B j i = RM (Rw x to) rk2 j i := fun j i hj hi => by rw [hf rfl j i hj hi, RM_cg hT.eq x rk2 hi]
  refine ⟨RkM_full h1 ho hk2, ?_, ?_⟩
  · rw [hbe]; unfold DM
    rw [DT_cg (fun k hk => hBM 0 k (by omega) hk) (fun k hk => hBM 1 k (by omega) hk) (fun k hk => hBM 2 k (by omega) hk)]
  · refine hga.cg (fun k hk => ?_)
    unfold Gn GG cc
    rw [if_pos ⟨h1, rfl⟩]
    exact sq_cg hBM (by omega) (fun j hj => (gn_cg hT.eq x (fun _ _ => rfl) rk2 hj).symm)
theorem quot_ex {d q : Int} (hd : d ≠ 0) (d1 : -1000000 ≤ d) (d2 : d ≤ 1000000) (h1 : -9000000000000000000 ≤ d * q) (h2 : d * q ≤ 9000000000000000000) : F_X4_quotient (Int64.ofInt (d * q)) (Int64.ofInt d) = some (Int64.ofInt q) := by
  have hn : ¬ Int64.ofInt d = 0 := fun e => hd ((o_zero (by omega) (by omega)).mp e)
  rw [quot_ev _ hn, o_div h1 h2 (by omega) (by omega), Int.mul_tdiv_cancel_left q hd]
theorem w99b (l2 l4 : Int32) (l5 rb sb : Int64) (st sg nx rg : Nat → Int64) (ce : Nat → Int32) (k43 : Int32 → Int32 → Int32 → Int64 → Int64 → (Nat → Int64) → (Nat → Int64) → (Nat → Int64) → (Nat → Int32) → (Nat → Int64) → (Nat → Int64) → Option ((Nat → Int64) × (Nat → Int64))) {q : Nat → Int64} (hq : ∀ k, k < 3 → F_X4_quotient ((ce (9 + k)).toInt64 * l5) rb = some (q k)) : ∀ (m k n : Nat) (wy : Nat → Int64), k + m = 3 → m < n → ∃ w2, F_X4_goTheWay_99_b k43 n 0 l2 l4 l5 (nI k) rb sb wy st sg ce nx rg = k43 0 l2 (l4 + 1) rb sb w2 st sg ce nx rg ∧ ∀ i, w2 i = if k ≤ i ∧ i < 3 then nx i - q i else wy i := by
  intro m
  induction m with
  | zero =>
    intro k n wy hk hn
    obtain ⟨n, rfl⟩ : ∃ q, n = q + 1 := ⟨n - 1, by omega⟩
    exact ⟨wy, by rw [F_X4_goTheWay_99_b, if_pos (show (3 : Int32) ≤ nI k from nI_le (a := 3) (by omega) (by omega))], fun i => by rw [if_neg (by omega)]⟩
  | succ m ih =>
    intro k n wy hk hn
    obtain ⟨n, rfl⟩ : ∃ q, n = q + 1 := ⟨n - 1, by omega⟩
    have e9 : (9 : Int32) + nI k = nI (9 + k) := ixp false k
    obtain ⟨w2, e, h⟩ := ih (k + 1) n (vp_updL wy k (nx k - q k)) (by omega) (by omega)
    refine ⟨w2, ?_, fun i => ?_⟩
    · rw [F_X4_goTheWay_99_b, if_neg (nle3 (by omega)), ie0, e9, if_neg (in15 (by omega)), clk (show 9 + k < 1000 by omega)]
      unfold F_X4_goTheWay_133_b
      rw [if_neg (in3 (by omega)), hq k (by omega)]
      refine b1 rfl ?_
      rw [if_neg (in3 (by omega)), clk (show k < 1000 by omega), nI_1]
      exact e
    · rw [h i]
      show (if k + 1 ≤ i ∧ i < 3 then nx i - q i else (if i = k then nx k - q k else wy i)) = _
      by_cases c : i = k
      · subst c
        rw [if_neg (show ¬ (i + 1 ≤ i ∧ i < 3) by omega), if_pos (show i = i from rfl), if_pos (show i ≤ i ∧ i < 3 by omega)]
      · by_cases d : k + 1 ≤ i ∧ i < 3
        · rw [if_pos d, if_pos (show k ≤ i ∧ i < 3 by omega)]
        · rw [if_neg d, if_neg c, if_neg (by omega)]
theorem w99a (l2 l4 : Int32) (l5 rb sb : Int64) (st sg nx rg : Nat → Int64) (ce : Nat → Int32) (k43 : Int32 → Int32 → Int32 → Int64 → Int64 → (Nat → Int64) → (Nat → Int64) → (Nat → Int64) → (Nat → Int32) → (Nat → Int64) → (Nat → Int64) → Option ((Nat → Int64) × (Nat → Int64))) {q : Nat → Int64} (hq : ∀ k, k < 3 → F_X4_quotient (sg k * l5) sb = some (q k)) : ∀ (m k n : Nat) (wy : Nat → Int64), k + m = 3 → m < n → ∃ w2, F_X4_goTheWay_99_a k43 n 1 l2 l4 l5 (nI k) rb sb wy st sg ce nx rg = k43 1 l2 (l4 + 1) rb sb w2 st sg ce nx rg ∧ ∀ i, w2 i = if k ≤ i ∧ i < 3 then nx i - q i else wy i := by
  intro m
  induction m with
  | zero =>
    intro k n wy hk hn
    obtain ⟨n, rfl⟩ : ∃ q, n = q + 1 := ⟨n - 1, by omega⟩
    exact ⟨wy, by rw [F_X4_goTheWay_99_a, if_pos (show (3 : Int32) ≤ nI k from nI_le (a := 3) (by omega) (by omega))], fun i => by rw [if_neg (by omega)]⟩
  | succ m ih =>
    intro k n wy hk hn
    obtain ⟨n, rfl⟩ : ∃ q, n = q + 1 := ⟨n - 1, by omega⟩
    obtain ⟨w2, e, h⟩ := ih (k + 1) n (vp_updL wy k (nx k - q k)) (by omega) (by omega)
    refine ⟨w2, ?_, fun i => ?_⟩
    · rw [F_X4_goTheWay_99_a, if_neg (nle3 (by omega)), ie1, if_neg (in3 (by omega)), clk (show k < 1000 by omega)]
      unfold F_X4_goTheWay_133_a
      rw [if_neg (in3 (by omega)), hq k (by omega)]
      refine b1 rfl ?_
      rw [if_neg (in3 (by omega)), clk (show k < 1000 by omega), nI_1]
      exact e
    · rw [h i]
      show (if k + 1 ≤ i ∧ i < 3 then nx i - q i else (if i = k then nx k - q k else wy i)) = _
      by_cases c : i = k
      · subst c
        rw [if_neg (show ¬ (i + 1 ≤ i ∧ i < 3) by omega), if_pos (show i = i from rfl), if_pos (show i ≤ i ∧ i < 3 by omega)]
      · by_cases d : k + 1 ≤ i ∧ i < 3
        · rw [if_pos d, if_pos (show k ≤ i ∧ i < 3 by omega)]
        · rw [if_neg d, if_neg c, if_neg (by omega)]
theorem w43b {o : Nat} (h1 : 1 ≤ o) (ho : o ≤ 3) {ce to : Nat → Int32} (hT : JT o ce to) {s : Nat → Int} (hs : Bd 1000000 s) (hsz : ∀ k, k < 3 → o ≤ k → s k = 0) (hd : DM false to o ≠ 0) (sb : Int64) (st sg : Nat → Int64) {rg : Nat → Int64} (hg : rp rg (GG false to o)) {T : Nat} (hT4 : T ≤ 4) : ∀ (m t n : Nat) (wy nx : Nat → Int64), t + m = T → m < n → rp wy (WS false to o s t) → ∃ w2 nx2, F_X4_goTheWay_43_b n 0 (nI T) (nI t) (Int64.ofInt (DM false to o)) sb wy st sg ce nx rg = some (w2, nx2) ∧ rp w2 (WS false to o s T) := by
  intro m
  induction m with
  | zero =>
    intro t n wy nx ht hn hw
    obtain ⟨n, rfl⟩ : ∃ q, n = q + 1 := ⟨n - 1, by omega⟩
    have e : t = T := by omega
    subst e
    exact ⟨wy, nx, by rw [F_X4_goTheWay_43_b, if_pos (nI_le (by omega) (by omega))], hw⟩
  | succ m ih =>
    intro t n wy nx ht hn hw
    obtain ⟨n, rfl⟩ : ∃ q, n = q + 1 := ⟨n - 1, by omega⟩
    have hz := hT.zt
    have hdb := DM_bd hz false
    have hub := UV_S_bd h1 ho hz false hs hsz t
    have edot := dot_rp hg hw
    rw [GG_dot, gain_way h1 ho hz false hsz t] at edot
    obtain ⟨nx1, eg, hn1⟩ := goOn_rp false ce nx hw
    have hq : ∀ k, k < 3 → F_X4_quotient ((ce (9 + k)).toInt64 * Int64.ofInt (-(DM false to o * UV false to o s t))) (Int64.ofInt (DM false to o)) = some (Int64.ofInt (-(pu false to k * UV false to o s t))) := by
      intro k hk
      have epu : (ce (9 + k)).toInt = pu false to k := (pu_cg hT.eq false hk).symm
      rw [lin1, epu, show pu false to k * -(DM false to o * UV false to o s t) = DM false to o * (-(pu false to k * UV false to o s t)) by grind]
      have b1 := mb (pu_bd hz.1 false k hk).1 (pu_bd hz.1 false k hk).2 hub.1 hub.2
      have b2 := mb hdb.1 hdb.2 (show -(2 * 3359232000000) ≤ -(pu false to k * UV false to o s t) by omega) (show -(pu false to k * UV false to o s t) ≤ 2 * 3359232000000 by omega)
      exact quot_ex hd (by omega) (by omega) (by omega) (by omega)
    obtain ⟨w2, e2, hw2⟩ := w99b (nI T) (nI t) _ (Int64.ofInt (DM false to o)) sb st sg nx1 rg ce (fun l1 l2 l4 v_reach_below v_sight_below v_way v_start v_sight_gains v_plant_cells v_next v_reach_gains => F_X4_goTheWay_43_b n l1 l2 l4 v_reach_below v_sight_below v_way v_start v_sight_gains v_plant_cells v_next v_reach_gains) hq 3 0 3000 wy (by omega) (by omega)
    have hr : rp w2 (WS false to o s (t + 1)) := rp.of (fun k hk => by
      rw [hw2 k, if_pos ⟨by omega, hk⟩, hn1.at hk, ← Int64.ofInt_sub, WS_s]
      congr 1
      rw [go1_cg (fun j hj => (hT.eq j hj).symm) false (fun _ _ => rfl) hk]
      show _ = go1 false to (WS false to o s t) k + pu false to k * UV false to o s t
      omega)
    obtain ⟨w3, nx3, e3, h3⟩ := ih (t + 1) n w2 nx1 (by omega) (by omega) hr
    refine ⟨w3, nx3, ?_, h3⟩
    rw [F_X4_goTheWay_43_b, if_neg (nI_ge (by omega) (by omega)), ie0]
    refine b1 edot ?_
    unfold F_X4_goTheWay_78_b
    refine b1 eg (e2.trans ?_)
    show F_X4_goTheWay_43_b n 0 (nI T) (nI t + 1) _ _ _ _ _ _ _ _ = _
    rw [nI_1]; exact e3
theorem w43a {o : Nat} (h1 : 1 ≤ o) (ho : o ≤ 3) {ce to : Nat → Int32} (hT : JT o ce to) {s : Nat → Int} (hs : Bd 1000000 s) (hsz : ∀ k, k < 3 → o ≤ k → s k = 0) (hd : DM true to o ≠ 0) (rb : Int64) (st rg : Nat → Int64) {sg : Nat → Int64} (hg : rp sg (GG true to o)) {T : Nat} (hT4 : T ≤ 4) : ∀ (m t n : Nat) (wy nx : Nat → Int64), t + m = T → m < n → rp wy (VV to o s t) → ∃ w2 nx2, F_X4_goTheWay_43_a n 1 (nI T) (nI t) rb (Int64.ofInt (DM true to o)) wy st sg ce nx rg = some (w2, nx2) ∧ rp w2 (VV to o s T) := by
  intro m
  induction m with
  | zero =>
    intro t n wy nx ht hn hw
    obtain ⟨n, rfl⟩ : ∃ q, n = q + 1 := ⟨n - 1, by omega⟩
    have e : t = T := by omega
    subst e
    exact ⟨wy, nx, by rw [F_X4_goTheWay_43_a, if_pos (nI_le (by omega) (by omega))], hw⟩
  | succ m ih =>
    intro t n wy nx ht hn hw
    obtain ⟨n, rfl⟩ : ∃ q, n = q + 1 := ⟨n - 1, by omega⟩
    have hz := hT.zt
    have hdb := DM_bd hz true
    have hvb := VV_bd h1 ho hz hs t
    have eseen := seen_rp (ce := ce) hw
    rw [← cells_dot hT.eq] at eseen
    have hcb := dot_bd (pu_bd hz.1 true) hvb
    obtain ⟨nx1, eg, hn1⟩ := goOn_rp false ce nx hw
    have hq : ∀ k, k < 3 → F_X4_quotient (sg k * Int64.ofInt (dotI (pu true to) (VV to o s t))) (Int64.ofInt (DM true to o)) = some (Int64.ofInt (go1 false to (VV to o s t) k - VV to o s (t + 1) k)) := by
      intro k hk
      have hgb := GG_bd h1 ho hz true k
      have b := mb hgb.1 hgb.2 hcb.1 hcb.2
      have e := VV_s h1 ho hz hd s t hk
      have e2 : GG true to o k * dotI (pu true to) (VV to o s t) = DM true to o * (go1 false to (VV to o s t) k - VV to o s (t + 1) k) := by grind
      rw [hg.at hk, ← Int64.ofInt_mul, e2]
      rw [e2] at b
      exact quot_ex hd (by omega) (by omega) (by omega) (by omega)
    obtain ⟨w2, e2, hw2⟩ := w99a (nI T) (nI t) _ rb (Int64.ofInt (DM true to o)) st sg nx1 rg ce (fun l1 l2 l4 v_reach_below v_sight_below v_way v_start v_sight_gains v_plant_cells v_next v_reach_gains => F_X4_goTheWay_43_a n l1 l2 l4 v_reach_below v_sight_below v_way v_start v_sight_gains v_plant_cells v_next v_reach_gains) hq 3 0 3000 wy (by omega) (by omega)
    have hr : rp w2 (VV to o s (t + 1)) := rp.of (fun k hk => by
      rw [hw2 k, if_pos ⟨by omega, hk⟩, hn1.at hk, ← Int64.ofInt_sub]
      congr 1
      rw [go1_cg (fun j hj => (hT.eq j hj).symm) false (fun _ _ => rfl) hk]
      omega)
    obtain ⟨w3, nx3, e3, h3⟩ := ih (t + 1) n w2 nx1 (by omega) (by omega) hr
    refine ⟨w3, nx3, ?_, h3⟩
    rw [F_X4_goTheWay_43_a, if_neg (nI_ge (by omega) (by omega)), ie1]
    refine b1 eseen ?_
    unfold F_X4_goTheWay_78_a
    refine b1 eg (e2.trans ?_)
    show F_X4_goTheWay_43_a n 1 (nI T) (nI t + 1) _ _ _ _ _ _ _ _ = _
    rw [nI_1]; exact e3
theorem w9a (l2 : Int32) (rb sb : Int64) (st sg nx rg : Nat → Int64) (ce : Nat → Int32) : ∀ (m k n : Nat) (wy : Nat → Int64), k + m = 3 → m < n → ∃ w2, F_X4_goTheWay_9_a n 0 l2 (nI k) rb sb wy st sg ce nx rg = F_X4_goTheWay_43_b 3000 0 l2 0 rb sb w2 st sg ce nx rg ∧ ∀ i, w2 i = if k ≤ i ∧ i < 3 then st i * rb else wy i := by
  intro m
  induction m with
  | zero =>
    intro k n wy hk hn
    obtain ⟨n, rfl⟩ : ∃ q, n = q + 1 := ⟨n - 1, by omega⟩
    exact ⟨wy, by rw [F_X4_goTheWay_9_a, if_pos (show (3 : Int32) ≤ nI k from nI_le (a := 3) (by omega) (by omega))], fun i => by rw [if_neg (by omega)]⟩
  | succ m ih =>
    intro k n wy hk hn
    obtain ⟨n, rfl⟩ : ∃ q, n = q + 1 := ⟨n - 1, by omega⟩
    obtain ⟨w2, e, h⟩ := ih (k + 1) n (vp_updL wy k (st k * rb)) (by omega) (by omega)
    refine ⟨w2, ?_, fun i => ?_⟩
    · rw [F_X4_goTheWay_9_a, if_neg (nle3 (by omega)), if_neg (in3 (by omega)), if_neg (in3 (by omega)), clk (show k < 1000 by omega), nI_1]
      exact e
    · rw [h i]
      show (if k + 1 ≤ i ∧ i < 3 then st i * rb else (if i = k then st k * rb else wy i)) = _
      by_cases c : i = k
      · subst c
        rw [if_neg (show ¬ (i + 1 ≤ i ∧ i < 3) by omega), if_pos (show i = i from rfl), if_pos (show i ≤ i ∧ i < 3 by omega)]
      · by_cases d : k + 1 ≤ i ∧ i < 3
        · rw [if_pos d, if_pos (show k ≤ i ∧ i < 3 by omega)]
        · rw [if_neg d, if_neg c, if_neg (by omega)]
theorem w9b (l2 : Int32) (rb sb : Int64) (st sg nx rg : Nat → Int64) (ce : Nat → Int32) : ∀ (m k n : Nat) (wy : Nat → Int64), k + m = 3 → m < n → ∃ w2, F_X4_goTheWay_9_b n 1 l2 (nI k) rb sb wy st sg ce nx rg = F_X4_goTheWay_43_a 3000 1 l2 0 rb sb w2 st sg ce nx rg ∧ ∀ i, w2 i = if k ≤ i ∧ i < 3 then st i * sb else wy i := by
  intro m
  induction m with
  | zero =>
    intro k n wy hk hn
    obtain ⟨n, rfl⟩ : ∃ q, n = q + 1 := ⟨n - 1, by omega⟩
    exact ⟨wy, by rw [F_X4_goTheWay_9_b, if_pos (show (3 : Int32) ≤ nI k from nI_le (a := 3) (by omega) (by omega))], fun i => by rw [if_neg (by omega)]⟩
  | succ m ih =>
    intro k n wy hk hn
    obtain ⟨n, rfl⟩ : ∃ q, n = q + 1 := ⟨n - 1, by omega⟩
    obtain ⟨w2, e, h⟩ := ih (k + 1) n (vp_updL wy k (st k * sb)) (by omega) (by omega)
    refine ⟨w2, ?_, fun i => ?_⟩
    · rw [F_X4_goTheWay_9_b, if_neg (nle3 (by omega)), if_neg (in3 (by omega)), if_neg (in3 (by omega)), clk (show k < 1000 by omega), nI_1]
      exact e
    · rw [h i]
      show (if k + 1 ≤ i ∧ i < 3 then st i * sb else (if i = k then st k * sb else wy i)) = _
      by_cases c : i = k
      · subst c
        rw [if_neg (show ¬ (i + 1 ≤ i ∧ i < 3) by omega), if_pos (show i = i from rfl), if_pos (show i ≤ i ∧ i < 3 by omega)]
      · by_cases d : k + 1 ≤ i ∧ i < 3
        · rw [if_pos d, if_pos (show k ≤ i ∧ i < 3 by omega)]
        · rw [if_neg d, if_neg c, if_neg (by omega)]
theorem way_f {o : Nat} (h1 : 1 ≤ o) (ho : o ≤ 3) {ce to : Nat → Int32} (hT : JT o ce to) {st sa : Nat → Int64} (hS : JS o st sa) (hd : DM false to o ≠ 0) (sb : Int64) (sg : Nat → Int64) {rg : Nat → Int64} (hg : rp rg (GG false to o)) {T : Nat} (hT4 : T ≤ 4) (wy nx : Nat → Int64) : ∃ w2 nx2, F_X4_goTheWay 0 (nI T) (Int64.ofInt (DM false to o)) sb wy st sg ce nx rg = some (w2, nx2) ∧ rp w2 (WS false to o (fun k => (st k).toInt) T) := by
  obtain ⟨w1, e1, hw1⟩ := w9a (nI T) (Int64.ofInt (DM false to o)) sb st sg nx rg ce 3 0 3000 wy (by omega) (by omega)
  have hr : rp w1 (WS false to o (fun k => (st k).toInt) 0) := rp.of (fun k hk => by
    rw [hw1 k, if_pos ⟨by omega, hk⟩, hS.rp.at hk, ← Int64.ofInt_mul, Int.mul_comm]; rfl)
  obtain ⟨w2, nx2, e2, h2⟩ := w43b h1 ho hT hS.bd (fun k hk h => hS.z hk h) hd sb st sg hg hT4 T 0 3000 w1 nx (by omega) (by omega) hr
  refine ⟨w2, nx2, ?_, h2⟩
  unfold F_X4_goTheWay
  refine b1 (show F_X4_chain 0 = some 0 from rfl) ?_
  rw [if_pos rfl]
  rw [show nI 0 = (0 : Int32) from rfl] at e1 e2
  rw [e1, e2]
theorem way_t {o : Nat} (h1 : 1 ≤ o) (ho : o ≤ 3) {ce to : Nat → Int32} (hT : JT o ce to) {st sa : Nat → Int64} (hS : JS o st sa) (hd : DM true to o ≠ 0) (rb : Int64) (rg : Nat → Int64) {sg : Nat → Int64} (hg : rp sg (GG true to o)) {T : Nat} (hT4 : T ≤ 4) (wy nx : Nat → Int64) : ∃ w2 nx2, F_X4_goTheWay 1 (nI T) rb (Int64.ofInt (DM true to o)) wy st sg ce nx rg = some (w2, nx2) ∧ rp w2 (VV to o (fun k => (st k).toInt) T) := by
  obtain ⟨w1, e1, hw1⟩ := w9b (nI T) rb (Int64.ofInt (DM true to o)) st sg nx rg ce 3 0 3000 wy (by omega) (by omega)
  have hr : rp w1 (VV to o (fun k => (st k).toInt) 0) := rp.of (fun k hk => by
    rw [hw1 k, if_pos ⟨by omega, hk⟩, hS.rp.at hk, ← Int64.ofInt_mul, Int.mul_comm, VV_0 to o (fun k hk h => hS.z hk h) hk])
  obtain ⟨w2, nx2, e2, h2⟩ := w43a h1 ho hT hS.bd (fun k hk h => hS.z hk h) hd rb st rg hg hT4 T 0 3000 w1 nx (by omega) (by omega) hr
  refine ⟨w2, nx2, ?_, h2⟩
  unfold F_X4_goTheWay
  refine b1 (show F_X4_chain 1 = some 1 from rfl) ?_
  rw [if_neg (by decide)]
  rw [show nI 0 = (0 : Int32) from rfl] at e1 e2
  rw [e1, e2]
