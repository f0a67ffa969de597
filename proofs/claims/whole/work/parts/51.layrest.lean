/-! layInputs, layStates, layRest (model) -/
theorem det_sq {f g : Nat → Int64} {M : Nat → Nat → Int} {v : Nat → Int} (h : rm9 f M) (hg : rp g v) {k : Nat} (hk : k < 3) : F_X5_determinant (nI k) f g = some (Int64.ofInt (dotI (sq M k) v)) := by
  obtain ⟨s0, s1, s2⟩ := sq_ev M v
  match k, hk with
  | 0, _ => rw [s0]; exact det0 h hg
  | 1, _ => rw [s1]; exact det1 h hg
  | 2, _ => rw [s2]; exact det2 h hg
theorem sub_tab : ∀ o, o < 4 → ∀ t, t < o → nI o - 1 - nI t = nI (o - 1 - t) := by decide
def UI (x : Bool) (to : Nat → Int32) (o t p : Nat) : Int := if t < o then -(dotI (sq (RM (Rw x to) o) (o - 1 - t)) (gn x to o (un p))) else 0
theorem li_1 (l1 or_ : Int32) (p : Nat) (hp : p < 3) (g nx ib rows : Nat → Int64) (to : Nat → Int32) : ∃ g2, F_X5_layInputs l1 (nI p) or_ g nx to ib rows = F_X5_layInputs_31 3000 l1 (nI p) 0 or_ g2 nx to ib rows ∧ rp g2 (un p) := by
  match p, hp with
  | 0, _ => exact ⟨_, rfl, rfl, rfl, rfl⟩
  | 1, _ => exact ⟨_, rfl, rfl, rfl, rfl⟩
  | 2, _ => exact ⟨_, rfl, rfl, rfl, rfl⟩
theorem li_2 {o : Nat} (h1 : 1 ≤ o) (ho : o ≤ 3) {to : Nat → Int32} (hz : ZT o to) (x : Bool) (l2 : Int32) (ib rows : Nat → Int64) : ∀ (m k n : Nat) (nx g : Nat → Int64) (v : Nat → Int), k + m = o → m < n → rp g v → (∀ k, k < 3 → o ≤ k → v k = 0) → ∃ g2 nx2, F_X5_layInputs_31 n (xI x) l2 (nI k) (nI o) g nx to ib rows = F_X5_layInputs_56 3000 l2 0 (nI o) g2 nx2 to ib rows ∧ rp g2 (gn x to m v) := by
  intro m
  induction m with
  | zero =>
    intro k n nx g v hk hn hg _
    obtain ⟨n, rfl⟩ : ∃ q, n = q + 1 := ⟨n - 1, by omega⟩
    exact ⟨g, nx, by rw [F_X5_layInputs_31, if_pos (nI_le (by omega) (by omega))], hg⟩
  | succ m ih =>
    intro k n nx g v hk hn hg hv
    obtain ⟨n, rfl⟩ : ∃ q, n = q + 1 := ⟨n - 1, by omega⟩
    obtain ⟨nx2, g2, e, hg2⟩ := turn_ev h1 ho hz x nx hg hv
    rw [F_X5_layInputs_31, if_neg (nI_ge (by omega) (by omega)), e]
    obtain ⟨g3, nx3, e3, h3⟩ := ih (k + 1) n nx2 g2 _ (by omega) (by omega) hg2 (fun k hk h => go1_z hz x v hk h)
    refine ⟨g3, nx3, b2 rfl (by rw [nI_1]; exact e3), ?_⟩
    rw [gn_succ]; exact h3
theorem li_3 {o : Nat} (h1 : 1 ≤ o) (ho : o ≤ 3) (to : Nat → Int32) {p : Nat} (hp : p < 3) {rows : Nat → Int64} {M : Nat → Nat → Int} (hm : rm9 rows M) {g : Nat → Int64} {v : Nat → Int} (hg : rp g v) (nx : Nat → Int64) : ∀ (m t n : Nat) (ib : Nat → Int64), t + m = 5 → m < n → ∃ ib2, F_X5_layInputs_56 n (nI p) (nI t) (nI o) g nx to ib rows = some (g, nx, ib2) ∧ (∀ s, t ≤ s → s < 5 → ib2 (3 * s + p) = Int64.ofInt (if s < o then -(dotI (sq M (o - 1 - s)) v) else 0)) ∧ (∀ j, (∀ s, t ≤ s → s < 5 → j ≠ 3 * s + p) → ib2 j = ib j) := by
  intro m
  induction m with
  | zero =>
    intro t n ib ht hn
    obtain ⟨n, rfl⟩ : ∃ q, n = q + 1 := ⟨n - 1, by omega⟩
    exact ⟨ib, by rw [F_X5_layInputs_56, if_pos (show (5 : Int32) ≤ nI t from nI_le (a := 5) (by omega) (by omega))], fun s a b => by omega, fun _ _ => rfl⟩
  | succ m ih =>
    intro t n ib ht hn
    obtain ⟨n, rfl⟩ : ∃ q, n = q + 1 := ⟨n - 1, by omega⟩
    have step : F_X5_layInputs_56 (n + 1) (nI p) (nI t) (nI o) g nx to ib rows = F_X5_layInputs_56 n (nI p) (nI (t + 1)) (nI o) g nx to (vp_updL ib (3 * t + p) (Int64.ofInt (if t < o then -(dotI (sq M (o - 1 - t)) v) else 0))) rows := by
      rw [F_X5_layInputs_56, if_neg (show ¬ (5 : Int32) ≤ nI t from nI_ge (b := 5) (by omega) (by omega))]
      by_cases c : t < o
      · rw [if_neg (nI_ge c (by omega)), sub_tab o (by omega) t c, if_pos c]
        refine b1 (det_sq hm hg (by omega)) ?_
        unfold F_X5_layInputs_103
        rw [ix3, if_neg (in15 (by omega)), clk (by omega), nI_1, o_neg]
      · rw [if_pos (nI_le (by omega) (by omega)), if_neg c]
        unfold F_X5_layInputs_103
        rw [ix3, if_neg (in15 (by omega)), clk (by omega), nI_1]
        rfl
    obtain ⟨ib2, e, h, fr⟩ := ih (t + 1) n (vp_updL ib (3 * t + p) (Int64.ofInt (if t < o then -(dotI (sq M (o - 1 - t)) v) else 0))) (by omega) (by omega)
    refine ⟨ib2, step.trans e, fun s a b => ?_, fun j hj => ?_⟩
    · by_cases q : s = t
      · subst q
        rw [fr (3 * s + p) (fun s' _ _ => by omega)]
        exact if_pos rfl
      · exact h s (by omega) b
    · rw [fr j (fun s' a b => hj s' (by omega) b)]
      exact if_neg (hj t (by omega) (by omega))
theorem un_z {o p : Nat} (hp : p < o) : ∀ k, k < 3 → o ≤ k → un p k = 0 := fun k _ h => if_neg (by omega)
theorem li_ev {o : Nat} (h1 : 1 ≤ o) (ho : o ≤ 3) {to : Nat → Int32} (hz : ZT o to) (x : Bool) {p : Nat} (hp : p < o) {rows : Nat → Int64} (hm : rm9 rows (RM (Rw x to) o)) (g nx ib : Nat → Int64) : ∃ g2 nx2 ib2, F_X5_layInputs (xI x) (nI p) (nI o) g nx to ib rows = some (g2, nx2, ib2) ∧ (∀ t, t < 5 → ib2 (3 * t + p) = Int64.ofInt (UI x to o t p)) ∧ (∀ t q, q < 3 → q ≠ p → ib2 (3 * t + q) = ib (3 * t + q)) := by
  obtain ⟨g1, e1, hg1⟩ := li_1 (xI x) (nI o) p (by omega) g nx ib rows to
  obtain ⟨g2, nx2, e2, hg2⟩ := li_2 h1 ho hz x (nI p) ib rows o 0 3000 nx g1 _ (by omega) (by omega) hg1 (un_z hp)
  obtain ⟨ib2, e3, h3, fr⟩ := li_3 h1 ho to (p := p) (by omega) hm hg2 nx2 5 0 3000 ib (by omega) (by omega)
  exact ⟨g2, nx2, ib2, e1.trans (e2.trans e3), fun t ht => h3 t (by omega) ht, fun t q hq hne => fr _ (fun s _ _ => by omega)⟩
def SI (x : Bool) (to : Nat → Int32) (D : Int) (U : Nat → Int) (p : Nat) : Nat → Nat → Int
  | 0 => fun k => if k = p then D else 0
  | b + 1 => fun k => go1 x to (SI x to D U p b) k + pu x to k * U b
theorem SI_z {o : Nat} {to : Nat → Int32} (hz : ZT o to) (x : Bool) (D : Int) (U : Nat → Int) {p : Nat} (hp : p < o) : ∀ (b : Nat) (k : Nat), k < 3 → o ≤ k → SI x to D U p b k = 0
  | 0, k, _, h => if_neg (by omega)
  | b + 1, k, hk, h => by
    show go1 x to _ k + pu x to k * U b = 0
    rw [go1_z hz x _ hk h, pu_z hz x hk h]; simp
theorem ls_1s (l1 or_ : Int32) (be : Int64) {p k : Nat} (hp : p < 3) (hk : k < 3) (n : Nat) (g nx sb ib : Nat → Int64) (to : Nat → Int32) : F_X5_layStates_2 (n + 1) l1 (nI p) (nI k) or_ be g nx to sb ib = F_X5_layStates_2 n l1 (nI p) (nI (k + 1)) or_ be (vp_updL g k (if k = p then be else 0)) nx to sb ib := by
  rw [F_X5_layStates_2, if_neg (nle3 hk)]
  by_cases c : k = p
  · rw [if_pos (by rw [c]), if_pos c]
    unfold F_X5_layStates_25
    rw [if_neg (in3 hk), clk (by omega), nI_1]
  · rw [if_neg (fun q => c (nI_inj3 (by omega) (by omega) q)), if_neg c]
    unfold F_X5_layStates_25
    rw [if_neg (in3 hk), clk (by omega), nI_1]
theorem ls_1 (l1 or_ : Int32) (D : Int) (p : Nat) (hp : p < 3) (g nx sb ib : Nat → Int64) (to : Nat → Int32) (x : Bool) (U : Nat → Int) : ∃ g2, F_X5_layStates l1 (nI p) or_ (Int64.ofInt D) g nx to sb ib = F_X5_layStates_34 3000 l1 (nI p) 0 or_ (Int64.ofInt D) g2 nx to sb ib ∧ rp g2 (SI x to D U p 0) := by
  have s0 := ls_1s l1 or_ (Int64.ofInt D) hp (show 0 < 3 by omega) 2999 g nx sb ib to
  have s1 := ls_1s l1 or_ (Int64.ofInt D) hp (show 1 < 3 by omega) 2998 (vp_updL g 0 (if 0 = p then Int64.ofInt D else 0)) nx sb ib to
  have s2 := ls_1s l1 or_ (Int64.ofInt D) hp (show 2 < 3 by omega) 2997 (vp_updL (vp_updL g 0 (if 0 = p then Int64.ofInt D else 0)) 1 (if 1 = p then Int64.ofInt D else 0)) nx sb ib to
  have sel : ∀ k, (if k = p then Int64.ofInt D else 0) = Int64.ofInt (SI x to D U p 0 k) := by
    intro k
    show _ = Int64.ofInt (if k = p then D else 0)
    split <;> rfl
  refine ⟨vp_updL (vp_updL (vp_updL g 0 (if 0 = p then Int64.ofInt D else 0)) 1 (if 1 = p then Int64.ofInt D else 0)) 2 (if 2 = p then Int64.ofInt D else 0), ?_, sel 0, sel 1, sel 2⟩
  have e0 : F_X5_layStates l1 (nI p) or_ (Int64.ofInt D) g nx to sb ib = F_X5_layStates_2 (2999 + 1) l1 (nI p) (nI 0) or_ (Int64.ofInt D) g nx to sb ib := by
    unfold F_X5_layStates
    rfl
  rw [e0, s0, show 2999 = 2998 + 1 from rfl, s1, show 2998 = 2997 + 1 from rfl, s2, show 2997 = 2996 + 1 from rfl, F_X5_layStates_2, if_pos (show (3 : Int32) ≤ nI (2 + 1) from by decide)]
theorem ix9 (a b c : Nat) : (9 : Int32) * nI a + (3 : Int32) * nI b + nI c = nI (9 * a + 3 * b + c) := by
  rw [show (9 : Int32) = nI 9 from rfl, show (3 : Int32) = nI 3 from rfl]
  simp only [nI, ← Int32.ofNat_mul, ← Int32.ofNat_add]
theorem in45 {k : Nat} (hk : k < 45) : ¬ (nI k < 0 ∨ 45 ≤ (nI k).toNatClampNeg) := nI_in hk (by omega)
theorem ls_42 {o : Nat} (ho : o ≤ 3) {p : Nat} (hp : p < 3) {b : Nat} (hb : b < 5) (l1 : Int32) (be : Int64) (g nx ib : Nat → Int64) (to : Nat → Int32) (k34 : Int32 → Int32 → Int32 → Int32 → Int64 → (Nat → Int64) → (Nat → Int64) → (Nat → Int32) → (Nat → Int64) → (Nat → Int64) → Option ((Nat → Int64) × (Nat → Int64) × (Nat → Int64))) : ∀ (m k n : Nat) (sb : Nat → Int64), k + m = o → m < n → ∃ sb2, F_X5_layStates_42 k34 n l1 (nI p) (nI b) (nI k) (nI o) be g nx to sb ib = bd2 (F_X5_turnOn l1 (nI o) nx to g) (fun x1_nextAt x1_g2 => F_X5_layStates_92 k34 3000 l1 (nI p) (nI b) (0 : Int32) (nI o) be x1_g2 x1_nextAt to sb2 ib) ∧ (∀ i, k ≤ i → i < o → sb2 (9 * b + 3 * i + p) = g i) ∧ (∀ j, (∀ i, k ≤ i → i < o → j ≠ 9 * b + 3 * i + p) → sb2 j = sb j) := by
  intro m
  induction m with
  | zero =>
    intro k n sb hk hn
    obtain ⟨n, rfl⟩ : ∃ q, n = q + 1 := ⟨n - 1, by omega⟩
    exact ⟨sb, by rw [F_X5_layStates_42, if_pos (nI_le (by omega) (by omega))], fun i a b => by omega, fun _ _ => rfl⟩
  | succ m ih =>
    intro k n sb hk hn
    obtain ⟨n, rfl⟩ : ∃ q, n = q + 1 := ⟨n - 1, by omega⟩
    rw [F_X5_layStates_42, if_neg (nI_ge (by omega) (by omega)), if_neg (in3 (by omega)), ix9, if_neg (in45 (by omega)), clk (by omega), clk (by omega), nI_1]
    obtain ⟨sb2, e, h, fr⟩ := ih (k + 1) n (vp_updL sb (9 * b + 3 * k + p) (g k)) (by omega) (by omega)
    refine ⟨sb2, e, fun i a c => ?_, fun j hj => ?_⟩
    · by_cases q : i = k
      · subst q
        rw [fr _ (fun i' _ _ => by omega)]
        exact if_pos rfl
      · exact h i (by omega) c
    · rw [fr j (fun i' a c => hj i' (by omega) c)]
      exact if_neg (hj k (by omega) (by omega))
theorem ixp (x : Bool) (k : Nat) : (if x then (12 : Int32) else 9) + nI k = nI ((if x then 12 else 9) + k) := by
  cases x
  · show (9 : Int32) + nI k = nI (9 + k)
    rw [show (9 : Int32) = nI 9 from rfl]
    simp only [nI, ← Int32.ofNat_add]
  · show (12 : Int32) + nI k = nI (12 + k)
    rw [show (12 : Int32) = nI 12 from rfl]
    simp only [nI, ← Int32.ofNat_add]
theorem ls_92s {o : Nat} (ho : o ≤ 3) (x : Bool) {p : Nat} (hp : p < 3) {b : Nat} (hb : b < 5) (be : Int64) (g nx sb ib : Nat → Int64) (to : Nat → Int32) (k34 : Int32 → Int32 → Int32 → Int32 → Int64 → (Nat → Int64) → (Nat → Int64) → (Nat → Int32) → (Nat → Int64) → (Nat → Int64) → Option ((Nat → Int64) × (Nat → Int64) × (Nat → Int64))) {k : Nat} (hk : k < o) (n : Nat) : F_X5_layStates_92 k34 (n + 1) (xI x) (nI p) (nI b) (nI k) (nI o) be g nx to sb ib = F_X5_layStates_92 k34 n (xI x) (nI p) (nI b) (nI (k + 1)) (nI o) be (vp_updL g k (g k + (to ((if x then 12 else 9) + k)).toInt64 * ib (3 * b + p))) nx to sb ib := by
  have i15 : (if x then 12 else 9) + k < 15 := by cases x <;> simp <;> omega
  rw [F_X5_layStates_92, if_neg (nI_ge (by omega) (by omega)), if_neg (in3 (by omega))]
  have e := ixp x k
  have body : ∀ s4 : Int32, s4 = (if x then (12 : Int32) else 9) → F_X5_layStates_124 k34 (fun l1 l2 l3 l4 v_order v_below v_goal v_nextAt v_told v_stateBy v_inputBy => F_X5_layStates_92 k34 n l1 l2 l3 l4 v_order v_below v_goal v_nextAt v_told v_stateBy v_inputBy) (nI k) (g (nI k).toNatClampNeg) s4 (xI x) (nI p) (nI b) (nI k) (nI o) be g nx to sb ib = F_X5_layStates_92 k34 n (xI x) (nI p) (nI b) (nI (k + 1)) (nI o) be (vp_updL g k (g k + (to ((if x then 12 else 9) + k)).toInt64 * ib (3 * b + p))) nx to sb ib := by
    rintro s4 rfl
    unfold F_X5_layStates_124
    rw [e, if_neg (in15 i15), ix3, if_neg (in15 (by omega)), if_neg (in3 (by omega)), clk (show (if x then 12 else 9) + k < 1000 by omega), clk (show k < 1000 by omega), clk (show 3 * b + p < 1000 by omega), nI_1]
  cases x
  · rw [if_pos (show xI false = 0 from rfl)]; exact body 9 rfl
  · rw [if_neg (show ¬ xI true = 0 by decide)]; exact body 12 rfl
theorem ls_92 {o : Nat} (ho : o ≤ 3) (x : Bool) {p : Nat} (hp : p < 3) {b : Nat} (hb : b < 5) (be : Int64) (nx sb ib : Nat → Int64) (to : Nat → Int32) (k34 : Int32 → Int32 → Int32 → Int32 → Int64 → (Nat → Int64) → (Nat → Int64) → (Nat → Int32) → (Nat → Int64) → (Nat → Int64) → Option ((Nat → Int64) × (Nat → Int64) × (Nat → Int64))) : ∀ (m k n : Nat) (g : Nat → Int64), k + m = o → m < n → ∃ g2, F_X5_layStates_92 k34 n (xI x) (nI p) (nI b) (nI k) (nI o) be g nx to sb ib = k34 (xI x) (nI p) (nI (b + 1)) (nI o) be g2 nx to sb ib ∧ ∀ i, g2 i = if k ≤ i ∧ i < o then g i + (to ((if x then 12 else 9) + i)).toInt64 * ib (3 * b + p) else g i := by
  intro m
  induction m with
  | zero =>
    intro k n g hk hn
    obtain ⟨n, rfl⟩ : ∃ q, n = q + 1 := ⟨n - 1, by omega⟩
    exact ⟨g, by rw [F_X5_layStates_92, if_pos (nI_le (by omega) (by omega)), nI_1], fun i => by rw [if_neg (by omega)]⟩
  | succ m ih =>
    intro k n g hk hn
    obtain ⟨n, rfl⟩ : ∃ q, n = q + 1 := ⟨n - 1, by omega⟩
    rw [ls_92s ho x hp hb be g nx sb ib to k34 (by omega) n]
    obtain ⟨g2, e, h⟩ := ih (k + 1) n (vp_updL g k (g k + (to ((if x then 12 else 9) + k)).toInt64 * ib (3 * b + p))) (by omega) (by omega)
    refine ⟨g2, e, fun i => ?_⟩
    rw [h i]
    show (if k + 1 ≤ i ∧ i < o then (if i = k then _ else g i) + _ else (if i = k then _ else g i)) = _
    by_cases q : i = k
    · subst q
      rw [if_neg (show ¬ (i + 1 ≤ i ∧ i < o) by omega), if_pos (show i = i from rfl), if_pos (show i ≤ i ∧ i < o by omega)]
    · rw [if_neg q]
      by_cases c : k + 1 ≤ i ∧ i < o
      · rw [if_pos c, if_pos (show k ≤ i ∧ i < o by omega)]
      · rw [if_neg c, if_neg (by omega)]
theorem ls_34 {o : Nat} (h1 : 1 ≤ o) (ho : o ≤ 3) {to : Nat → Int32} (hz : ZT o to) (x : Bool) {p : Nat} (hp : p < o) (D : Int) (U : Nat → Int) (be : Int64) {ib : Nat → Int64} (hib : ∀ t, t < 5 → ib (3 * t + p) = Int64.ofInt (U t)) : ∀ (m b n : Nat) (g nx sb : Nat → Int64), b + m = 5 → m < n → rp g (SI x to D U p b) → ∃ g2 nx2 sb2, F_X5_layStates_34 n (xI x) (nI p) (nI b) (nI o) be g nx to sb ib = some (g2, nx2, sb2) ∧ (∀ c k, b ≤ c → c < 5 → k < o → sb2 (9 * c + 3 * k + p) = Int64.ofInt (SI x to D U p c k)) ∧ (∀ j, (∀ c k, b ≤ c → c < 5 → k < o → j ≠ 9 * c + 3 * k + p) → sb2 j = sb j) := by
  intro m
  induction m with
  | zero =>
    intro b n g nx sb hb hn hg
    obtain ⟨n, rfl⟩ : ∃ q, n = q + 1 := ⟨n - 1, by omega⟩
    exact ⟨g, nx, sb, by rw [F_X5_layStates_34, if_pos (show (5 : Int32) ≤ nI b from nI_le (a := 5) (by omega) (by omega))], fun c k a b => by omega, fun _ _ => rfl⟩
  | succ m ih =>
    intro b n g nx sb hb hn hg
    obtain ⟨n, rfl⟩ : ∃ q, n = q + 1 := ⟨n - 1, by omega⟩
    rw [F_X5_layStates_34, if_neg (show ¬ (5 : Int32) ≤ nI b from nI_ge (b := 5) (by omega) (by omega))]
    obtain ⟨sb1, e1, hs1, fr1⟩ := ls_42 ho (p := p) (by omega) (b := b) (by omega) (xI x) be g nx ib to (fun l1 l2 l3 v_order v_below v_goal v_nextAt v_told v_stateBy v_inputBy => F_X5_layStates_34 n l1 l2 l3 v_order v_below v_goal v_nextAt v_told v_stateBy v_inputBy) o 0 3000 sb (by omega) (by omega)
    obtain ⟨nx2, g2, e2, hg2⟩ := turn_ev h1 ho hz x nx hg (SI_z hz x D U hp b)
    obtain ⟨g3, e3, hg3⟩ := ls_92 ho x (p := p) (by omega) (b := b) (by omega) be nx2 sb1 ib to (fun l1 l2 l3 v_order v_below v_goal v_nextAt v_told v_stateBy v_inputBy => F_X5_layStates_34 n l1 l2 l3 v_order v_below v_goal v_nextAt v_told v_stateBy v_inputBy) o 0 3000 g2 (by omega) (by omega)
    have hr : rp g3 (SI x to D U p (b + 1)) := by
      have all : ∀ i, i < 3 → g3 i = Int64.ofInt (SI x to D U p (b + 1) i) := by
        intro i hi
        rw [hg3 i, hg2.at hi, hib b (by omega)]
        have epu : (to ((if x then 12 else 9) + i)).toInt = pu x to i := by cases x <;> rfl
        show _ = Int64.ofInt (go1 x to (SI x to D U p b) i + pu x to i * U b)
        by_cases c : 0 ≤ i ∧ i < o
        · rw [if_pos c, lin1, epu, ← Int64.ofInt_add]
        · rw [if_neg c, pu_z hz x hi (by omega)]
          congr 1; simp
      exact ⟨all 0 (by omega), all 1 (by omega), all 2 (by omega)⟩
    obtain ⟨g4, nx4, sb4, e4, hs4, fr4⟩ := ih (b + 1) n g3 nx2 sb1 (by omega) (by omega) hr
    refine ⟨g4, nx4, sb4, e1.trans (b2 e2 (e3.trans e4)), fun c k a1 a2 a3 => ?_, fun j hj => ?_⟩
    · by_cases q : c = b
      · subst q
        rw [fr4 _ (fun c' k' _ _ _ => by omega), hs1 k (by omega) a3]
        exact hg.at (by omega)
      · exact hs4 c k (by omega) a2 a3
    · rw [fr4 j (fun c' k' a1 a2 a3 => hj c' k' (by omega) a2 a3), fr1 j (fun i _ a3 => hj b i (by omega) (by omega) a3)]
theorem ls_ev {o : Nat} (h1 : 1 ≤ o) (ho : o ≤ 3) {to : Nat → Int32} (hz : ZT o to) (x : Bool) {p : Nat} (hp : p < o) (D : Int) (U : Nat → Int) {ib : Nat → Int64} (hib : ∀ t, t < 5 → ib (3 * t + p) = Int64.ofInt (U t)) (g nx sb : Nat → Int64) : ∃ g2 nx2 sb2, F_X5_layStates (xI x) (nI p) (nI o) (Int64.ofInt D) g nx to sb ib = some (g2, nx2, sb2) ∧ (∀ c k, c < 5 → k < o → sb2 (9 * c + 3 * k + p) = Int64.ofInt (SI x to D U p c k)) ∧ (∀ c k q, k < 3 → q < 3 → q ≠ p → sb2 (9 * c + 3 * k + q) = sb (9 * c + 3 * k + q)) := by
  obtain ⟨g1, e1, hg1⟩ := ls_1 (xI x) (nI o) D p (by omega) g nx sb ib to x U
  obtain ⟨g2, nx2, sb2, e2, h2, fr⟩ := ls_34 h1 ho hz x hp D U (Int64.ofInt D) hib 5 0 3000 g1 nx sb (by omega) (by omega) hg1
  exact ⟨g2, nx2, sb2, e1.trans e2, fun c k a b => h2 c k (by omega) a b, fun c k q hk hq hne => fr _ (fun c' k' _ _ _ => by omega)⟩
def DM (x : Bool) (to : Nat → Int32) (o : Nat) : Int := DT (RM (Rw x to) o 0) (RM (Rw x to) o 1) (RM (Rw x to) o 2)
def RestIs (x : Bool) (to : Nat → Int32) (o : Nat) (be : Int64) (ib sb : Nat → Int64) : Prop := be = Int64.ofInt (DM x to o) ∧ (∀ t p, t < 5 → p < o → ib (3 * t + p) = Int64.ofInt (UI x to o t p)) ∧ (∀ c k p, c < 5 → k < o → p < o → sb (9 * c + 3 * k + p) = Int64.ofInt (SI x to (DM x to o) (fun t => UI x to o t p) p c k))
theorem lr_24 {o : Nat} (h1 : 1 ≤ o) (ho : o ≤ 3) {to : Nat → Int32} (hz : ZT o to) (x : Bool) {rows : Nat → Int64} (hm : rm9 rows (RM (Rw x to) o)) : ∀ (m p n : Nat) (g nx ib sb : Nat → Int64), p + m = o → m < n → (∀ t q, t < 5 → q < p → ib (3 * t + q) = Int64.ofInt (UI x to o t q)) → (∀ c k q, c < 5 → k < o → q < p → sb (9 * c + 3 * k + q) = Int64.ofInt (SI x to (DM x to o) (fun t => UI x to o t q) q c k)) → ∃ g2 nx2 ib2 sb2, F_X5_layRest_24 n (xI x) (nI p) (nI o) (Int64.ofInt (DM x to o)) rows to g nx ib sb = some (Int64.ofInt (DM x to o), rows, g2, nx2, ib2, sb2) ∧ RestIs x to o (Int64.ofInt (DM x to o)) ib2 sb2 := by
  intro m
  induction m with
  | zero =>
    intro p n g nx ib sb hp hn hi hs
    obtain ⟨n, rfl⟩ : ∃ q, n = q + 1 := ⟨n - 1, by omega⟩
    have e : p = o := by omega
    subst e
    exact ⟨g, nx, ib, sb, by rw [F_X5_layRest_24, if_pos (nI_le (by omega) (by omega))], rfl, hi, hs⟩
  | succ m ih =>
    intro p n g nx ib sb hp hn hi hs
    obtain ⟨n, rfl⟩ : ∃ q, n = q + 1 := ⟨n - 1, by omega⟩
    obtain ⟨g1, nx1, ib1, e1, hib1, fr1⟩ := li_ev h1 ho hz x (p := p) (by omega) hm g nx ib
    obtain ⟨g2, nx2, sb2, e2, hsb2, fr2⟩ := ls_ev h1 ho hz x (p := p) (by omega) (DM x to o) (fun t => UI x to o t p) hib1 g1 nx1 sb
    obtain ⟨g3, nx3, ib3, sb3, e3, h3⟩ := ih (p + 1) n g2 nx2 ib1 sb2 (by omega) (by omega)
      (fun t q ht hq => by
        by_cases c : q = p
        · subst c; exact hib1 t ht
        · rw [fr1 t q (by omega) c]; exact hi t q ht (by omega))
      (fun c k q hc hk hq => by
        by_cases d : q = p
        · subst d; exact hsb2 c k hc hk
        · rw [fr2 c k q (by omega) (by omega) d]; exact hs c k q hc hk (by omega))
    refine ⟨g3, nx3, ib3, sb3, ?_, h3⟩
    rw [F_X5_layRest_24, if_neg (nI_ge (by omega) (by omega))]
    exact b3 e1 (b3 e2 (by rw [nI_1]; exact e3))
theorem lr_ev {o : Nat} (h1 : 1 ≤ o) (ho : o ≤ 3) {to : Nat → Int32} (hz : ZT o to) (x : Bool) (be : Int64) (rows g nx ib sb : Nat → Int64) : ∃ be2 rows2 g2 nx2 ib2 sb2, F_X5_layRest (xI x) (nI o) be rows to g nx ib sb = some (be2, rows2, g2, nx2, ib2, sb2) ∧ RestIs x to o be2 ib2 sb2 := by
  obtain ⟨f, hf, hm⟩ := lay_ev x ho hz rows
  obtain ⟨g2, nx2, ib2, sb2, e, h⟩ := lr_24 h1 ho hz x hm o 0 3000 g nx ib sb (by omega) (by omega) (fun t q _ hq => by omega) (fun c k q _ _ hq => by omega)
  refine ⟨_, f, g2, nx2, ib2, sb2, ?_, h⟩
  unfold F_X5_layRest
  exact b1 hf (b1 (det3 hm) e)
