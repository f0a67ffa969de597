/-! gain, after, input, most: the model, and both -/
theorem b6 {A0 A1 A2 A3 A4 A5 R : Type} {x : Option (A0 × A1 × A2 × A3 × A4 × A5)} {f : A0 → A1 → A2 → A3 → A4 → A5 → Option R} {a0 : A0} {a1 : A1} {a2 : A2} {a3 : A3} {a4 : A4} {a5 : A5} {r : Option R} (hx : x = some (a0, a1, a2, a3, a4, a5)) (h : f a0 a1 a2 a3 a4 a5 = r) : bd6 x f = r := by rw [hx]; exact h
def sgm (E s : Nat → Int) : Nat → Nat → Int
  | _, 0 => 0
  | k, m + 1 => E k * s k + sgm E s (k + 1) m
theorem sgm_dot {o : Nat} (ho : o ≤ 3) (E : Nat → Int) {s : Nat → Int} (hs : ∀ k, k < 3 → o ≤ k → s k = 0) : sgm E s 0 o = dotI E s := by
  rcases (show o = 0 ∨ o = 1 ∨ o = 2 ∨ o = 3 by omega) with rfl | rfl | rfl | rfl
  · show (0 : Int) = E 0 * s 0 + E 1 * s 1 + E 2 * s 2
    rw [hs 0 (by omega) (by omega), hs 1 (by omega) (by omega), hs 2 (by omega) (by omega)]; simp
  · show E 0 * s 0 + 0 = E 0 * s 0 + E 1 * s 1 + E 2 * s 2
    rw [hs 1 (by omega) (by omega), hs 2 (by omega) (by omega)]; simp
  · show E 0 * s 0 + (E 1 * s 1 + 0) = E 0 * s 0 + E 1 * s 1 + E 2 * s 2
    rw [hs 2 (by omega) (by omega)]; simp
  · show E 0 * s 0 + (E 1 * s 1 + (E 2 * s 2 + 0)) = E 0 * s 0 + E 1 * s 1 + E 2 * s 2
    omega
theorem ix9' (a b c : Nat) : (9 : Int32) * nI a + ((3 : Int32) * nI b + nI c) = nI (9 * a + (3 * b + c)) := by
  rw [ix3, show (9 : Int32) = nI 9 from rfl]
  simp only [nI, ← Int32.ofNat_mul, ← Int32.ofNat_add]
theorem an_go {o : Nat} (ho : o ≤ 3) (x : Bool) {T pl : Nat} (hT : T < 5) (hp : pl < 3) (w : Int32) (be : Int64) (rows g nx ib sb sa : Nat → Int64) (to : Nat → Int32) {E s : Nat → Int} (hE : ∀ k, k < o → sb (9 * T + (if x then 3 * k + pl else 3 * pl + k)) = Int64.ofInt (E k)) (hs : rpo o sa s) : ∀ (m k n : Nat) (acc : Int), k + m = o → m < n → F_X5_afterNow_11 n (xI x) (nI T) (nI pl) w (Int64.ofInt acc) (nI k) (nI o) be rows to g nx ib sb sa = bd1 (F_X5_lowest (Int64.ofInt (acc + sgm E s k m)) be w) (fun r1 => some (r1, be, rows, g, nx, ib, sb)) := by
  intro m
  induction m with
  | zero =>
    intro k n acc hk hn
    obtain ⟨n, rfl⟩ : ∃ q, n = q + 1 := ⟨n - 1, by omega⟩
    rw [F_X5_afterNow_11, if_pos (nI_le (by omega) (by omega)), show acc + sgm E s k 0 = acc from Int.add_zero acc]
  | succ m ih =>
    intro k n acc hk hn
    obtain ⟨n, rfl⟩ : ∃ q, n = q + 1 := ⟨n - 1, by omega⟩
    have hE' := hE k (by omega)
    have hs' := hs k (by omega)
    have e := ih (k + 1) n (acc + E k * s k) (by omega) (by omega)
    rw [show acc + sgm E s k (m + 1) = acc + E k * s k + sgm E s (k + 1) m from by show acc + (E k * s k + sgm E s (k + 1) m) = _; omega, ← e, F_X5_afterNow_11, if_neg (nI_ge (by omega) (by omega))]
    cases x
    · rw [if_pos (show xI false = 0 from rfl)]
      unfold F_X5_afterNow_49
      have hE2 : sb (9 * T + (3 * pl + k)) = Int64.ofInt (E k) := hE'
      rw [ix9', if_neg (in45 (by omega)), if_neg (in3 (by omega)), clk (show 9 * T + (3 * pl + k) < 1000 by omega), clk (show k < 1000 by omega), hE2, hs', ← Int64.ofInt_mul, ← Int64.ofInt_add, nI_1]
    · rw [if_neg (show ¬ xI true = 0 by decide)]
      unfold F_X5_afterNow_49
      have hE2 : sb (9 * T + (3 * k + pl)) = Int64.ofInt (E k) := hE'
      rw [ix9', if_neg (in45 (by omega)), if_neg (in3 (by omega)), clk (show 9 * T + (3 * k + pl) < 1000 by omega), clk (show k < 1000 by omega), hE2, hs', ← Int64.ofInt_mul, ← Int64.ofInt_add, nI_1]
theorem in_go {o : Nat} (ho : o ≤ 3) {T : Nat} (hT : T < 5) (w : Int32) (be : Int64) (rows g nx ib sb sa : Nat → Int64) (to : Nat → Int32) {E s : Nat → Int} (hE : ∀ k, k < o → ib (3 * T + k) = Int64.ofInt (E k)) (hs : rpo o sa s) : ∀ (m k n : Nat) (acc : Int), k + m = o → m < n → F_X5_inputNow_10 n (nI T) w (Int64.ofInt acc) (nI k) (nI o) be rows to g nx ib sb sa = bd1 (F_X5_lowest (Int64.ofInt (acc + sgm E s k m)) be w) (fun r1 => some (r1, be, rows, g, nx, ib, sb)) := by
  intro m
  induction m with
  | zero =>
    intro k n acc hk hn
    obtain ⟨n, rfl⟩ : ∃ q, n = q + 1 := ⟨n - 1, by omega⟩
    rw [F_X5_inputNow_10, if_pos (nI_le (by omega) (by omega)), show acc + sgm E s k 0 = acc from Int.add_zero acc]
  | succ m ih =>
    intro k n acc hk hn
    obtain ⟨n, rfl⟩ : ∃ q, n = q + 1 := ⟨n - 1, by omega⟩
    have hE' := hE k (by omega)
    have hs' := hs k (by omega)
    have e := ih (k + 1) n (acc + E k * s k) (by omega) (by omega)
    rw [show acc + sgm E s k (m + 1) = acc + E k * s k + sgm E s (k + 1) m from by show acc + (E k * s k + sgm E s (k + 1) m) = _; omega, ← e, F_X5_inputNow_10, if_neg (nI_ge (by omega) (by omega)), ix3, if_neg (in15 (by omega)), if_neg (in3 (by omega)), clk (show 3 * T + k < 1000 by omega), clk (show k < 1000 by omega), hE', hs', ← Int64.ofInt_mul, ← Int64.ofInt_add, nI_1]
theorem gain_full (x : Bool) {o : Nat} (h1 : 1 ≤ o) (ho : o ≤ 3) {to : Nat → Int32} (hz : ZT o to) (hd : DM x to o ≠ 0) {ga : Nat → Int64} (hg : rp ga (GG x to o)) {p : Nat} (hp : p < o) (w : Int32) (be : Int64) (rows g nx ib sb : Nat → Int64) : ∃ r be2 rows2 g2 nx2 ib2 sb2, F_X4_fraction (ga p) (Int64.ofInt (DM x to o)) w = some r ∧ F_X5_gainNow (xI x) (nI p) w (nI o) be rows to g nx ib sb = some (r, be2, rows2, g2, nx2, ib2, sb2) := by
  obtain ⟨be2, rows2, g2, nx2, ib2, sb2, e, rfl, hi, -⟩ := lr_ev h1 ho hz x be rows g nx ib sb
  have hb := GG_bd h1 ho hz x p
  have hdb := DM_bd hz x
  obtain ⟨q, e4, e5⟩ := frac_eq (a := GG x to o p) (b := DM x to o) (by omega) (by omega) hd (by omega) (by omega) w
  refine ⟨q, Int64.ofInt (DM x to o), rows2, g2, nx2, ib2, sb2, by rw [hg.at (by omega)]; exact e4, ?_⟩
  unfold F_X5_gainNow
  refine b6 e ?_
  have hi0 := hi 0 p (by omega) hp
  rw [show 3 * 0 + p = p by omega, UI_UV, show UV x to o (un p) 0 = -(GG x to o p) by rw [GG_U h1]; omega] at hi0
  rw [if_neg (in15 (by omega)), clk (by omega), hi0, o_neg, Int.neg_neg]
  exact b1 e5 rfl
theorem after_full (x : Bool) {o : Nat} (h1 : 1 ≤ o) (ho : o ≤ 3) {ce to : Nat → Int32} (hT : JT o ce to) {st sa : Nat → Int64} (hS : JS o st sa) (hd : DM x to o ≠ 0) {T p : Nat} (hT4 : T < 5) (hp : p < o) {wy : Nat → Int64} (hw : rp wy (if x then VV to o (fun k => (st k).toInt) T else WS false to o (fun k => (st k).toInt) T)) (w : Int32) (be : Int64) (rows g nx ib sb : Nat → Int64) : ∃ r be2 rows2 g2 nx2 ib2 sb2, F_X4_fraction (wy p) (Int64.ofInt (DM x to o)) w = some r ∧ F_X5_afterNow (xI x) (nI T) (nI p) w (nI o) be rows to g nx ib sb sa = some (r, be2, rows2, g2, nx2, ib2, sb2) := by
  have hz := hT.zt
  obtain ⟨be2, rows2, g2, nx2, ib2, sb2, e, rfl, -, hs⟩ := lr_ev h1 ho hz x be rows g nx ib sb
  have hdb := DM_bd hz x
  have hsz : ∀ k, k < 3 → o ≤ k → (fun k => (st k).toInt) k = 0 := fun k hk h => hS.z hk h
  have hb : ∀ k, k < 3 → -9000000000000000000 ≤ (if x then VV to o (fun k => (st k).toInt) T else WS false to o (fun k => (st k).toInt) T) k ∧ (if x then VV to o (fun k => (st k).toInt) T else WS false to o (fun k => (st k).toInt) T) k ≤ 9000000000000000000 := by
    intro k hk
    cases x
    · have := WS_S_bd h1 ho hz false hS.bd hsz T k hk
      rw [if_neg (by decide)]; omega
    · have := VV_bd h1 ho hz hS.bd T k hk
      rw [if_pos rfl]; omega
  obtain ⟨q, e4, e5⟩ := frac_eq (b := DM x to o) (hb p (by omega)).1 (hb p (by omega)).2 hd (by omega) (by omega) w
  refine ⟨q, Int64.ofInt (DM x to o), rows2, g2, nx2, ib2, sb2, by rw [hw.at (by omega)]; exact e4, ?_⟩
  unfold F_X5_afterNow
  refine b6 e ?_
  have hval : ∃ E : Nat → Int, (∀ k, k < o → sb2 (9 * T + (if x then 3 * k + p else 3 * p + k)) = Int64.ofInt (E k)) ∧ sgm E (fun k => (st k).toInt) 0 o = (if x then VV to o (fun k => (st k).toInt) T else WS false to o (fun k => (st k).toInt) T) p := by
    cases x
    · refine ⟨fun k => WS false to o (un k) T p, fun k hk => ?_, ?_⟩
      · have := hs T p k hT4 hp hk
        rw [SI_WS] at this
        rw [if_neg (by decide), ← Nat.add_assoc]; exact this
      · rw [sgm_dot ho _ hsz, if_neg (by decide), WS_lin false to o (un_sum (fun k => (st k).toInt)) T p (by omega)]
        unfold dotI
        grind
    · refine ⟨fun k => WS true to o (un p) T k, fun k hk => ?_, ?_⟩
      · have := hs T k p hT4 hk hp
        rw [SI_WS] at this
        rw [if_pos rfl, ← Nat.add_assoc]; exact this
      · rw [sgm_dot ho _ hsz, if_pos rfl]
        unfold VV
        rw [if_pos hp]
  obtain ⟨E, hE, hsum⟩ := hval
  have eg := an_go ho x hT4 (show p < 3 by omega) w (Int64.ofInt (DM x to o)) rows2 g2 nx2 ib2 sb2 sa to hE (hS.rpo ho) o 0 3000 0 (by omega) (by omega)
  rw [hsum, Int.zero_add] at eg
  exact eg.trans (b1 e5 rfl)
theorem input_full {o : Nat} (h1 : 1 ≤ o) (ho : o ≤ 3) {ce to : Nat → Int32} (hT : JT o ce to) {st sa : Nat → Int64} (hS : JS o st sa) (hd : DM false to o ≠ 0) {T : Nat} (hT4 : T < 5) (w : Int32) (be : Int64) (rows g nx ib sb : Nat → Int64) : ∃ r be2 rows2 g2 nx2 ib2 sb2, F_X4_fraction (Int64.ofInt (UV false to o (fun k => (st k).toInt) T)) (Int64.ofInt (DM false to o)) w = some r ∧ F_X5_inputNow (nI T) w (nI o) be rows to g nx ib sb sa = some (r, be2, rows2, g2, nx2, ib2, sb2) := by
  have hz := hT.zt
  obtain ⟨be2, rows2, g2, nx2, ib2, sb2, e, rfl, hi, -⟩ := lr_ev h1 ho hz false be rows g nx ib sb
  have hdb := DM_bd hz false
  have hsz : ∀ k, k < 3 → o ≤ k → (fun k => (st k).toInt) k = 0 := fun k hk h => hS.z hk h
  have hb := UV_S_bd h1 ho hz false hS.bd hsz T
  obtain ⟨q, e4, e5⟩ := frac_eq (a := UV false to o (fun k => (st k).toInt) T) (b := DM false to o) (by omega) (by omega) hd (by omega) (by omega) w
  refine ⟨q, Int64.ofInt (DM false to o), rows2, g2, nx2, ib2, sb2, e4, ?_⟩
  unfold F_X5_inputNow
  refine b6 e ?_
  have eg := in_go ho hT4 w (Int64.ofInt (DM false to o)) rows2 g2 nx2 ib2 sb2 sa to (E := fun k => UV false to o (un k) T) (fun k hk => hi T k hT4 hk) (hS.rpo ho) o 0 3000 0 (by omega) (by omega)
  have hsum : sgm (fun k => UV false to o (un k) T) (fun k => (st k).toInt) 0 o = UV false to o (fun k => (st k).toInt) T := by
    rw [sgm_dot ho _ hsz, UV_3 false to o (un_sum (fun k => (st k).toInt)) T]
    unfold dotI
    grind
  rw [hsum, Int.zero_add] at eg
  exact eg.trans (b1 e5 rfl)
def NZ (o : Nat) (v : Nat → Int) (k : Nat) : Prop := k / 3 % 3 < o ∧ k % 3 < o ∧ v k ≠ 0
theorem md3 (k : Nat) : nI k - nI k / 3 * 3 = nI k - nI k / 3 * 3 := rfl
theorem most_tab : ∀ k, k < 45 → ((nI k / (3 : Int32)) - (nI k / (3 : Int32)) / (3 : Int32) * (3 : Int32) = nI (k / 3 % 3)) ∧ (nI k - nI k / (3 : Int32) * (3 : Int32) = nI (k % 3)) ∧ nI k / 9 + 1 = nI (k / 9 + 1) := by decide +kernel
theorem most_step {o : Nat} (ho : o ≤ 3) (be : Int64) (rows g nx ib : Nat → Int64) (to : Nat → Int32) {sb : Nat → Int64} {v : Nat → Int} (hv : ∀ k, k < 45 → k / 3 % 3 < o → k % 3 < o → sb k = Int64.ofInt (v k) ∧ -9000000000000000000 ≤ v k ∧ v k ≤ 9000000000000000000) (n : Nat) {k : Nat} (hk : k < 45) (l : Int32) : (NZ o v k ∧ F_X5_mostNow_9 (n + 1) l (nI k) (nI o) be rows to g nx ib sb = F_X5_mostNow_9 n (nI (k / 9 + 1)) (nI (k + 1)) (nI o) be rows to g nx ib sb) ∨ (¬ NZ o v k ∧ F_X5_mostNow_9 (n + 1) l (nI k) (nI o) be rows to g nx ib sb = F_X5_mostNow_9 n l (nI (k + 1)) (nI o) be rows to g nx ib sb) := by
  obtain ⟨t1, t2, t3⟩ := most_tab k hk
  rw [F_X5_mostNow_9, if_neg (show ¬ (45 : Int32) ≤ nI k from nI_ge (b := 45) hk (by omega)), t1, isP ho (show k / 3 % 3 < 1000 by omega)]
  by_cases c1 : k / 3 % 3 < o
  · rw [if_pos c1]
    by_cases c2 : k % 3 < o
    · obtain ⟨hs, b1', b2'⟩ := hv k hk c1 c2
      have hc := cmp0 b1' b2'
      by_cases c3 : v k = 0
      · refine Or.inr ⟨fun q => q.2.2 c3, b1 rfl ?_⟩
        rw [ie1, t2, isP ho (show k % 3 < 1000 by omega), if_pos c2]
        refine b1 rfl ?_
        rw [ie1, if_neg (in45 hk), clk (by omega), hs, if_pos (hc.mpr c3)]
        unfold F_X5_mostNow_52 F_X5_mostNow_53 F_X5_mostNow_70
        rw [ie0, nI_1]
      · refine Or.inl ⟨⟨c1, c2, c3⟩, b1 rfl ?_⟩
        rw [ie1, t2, isP ho (show k % 3 < 1000 by omega), if_pos c2]
        refine b1 rfl ?_
        rw [ie1, if_neg (in45 hk), clk (by omega), hs, if_neg (fun q => c3 (hc.mp q))]
        unfold F_X5_mostNow_53 F_X5_mostNow_70
        rw [ie1, t3, nI_1]
    · refine Or.inr ⟨fun q => c2 q.2.1, b1 rfl ?_⟩
      rw [ie1, t2, isP ho (show k % 3 < 1000 by omega), if_neg c2]
      refine b1 rfl ?_
      rw [ie0]
      unfold F_X5_mostNow_52 F_X5_mostNow_53 F_X5_mostNow_70
      rw [ie0, nI_1]
  · rw [if_neg c1]
    refine Or.inr ⟨fun q => c1 q.1, b1 rfl ?_⟩
    rw [ie0]
    unfold F_X5_mostNow_52 F_X5_mostNow_53 F_X5_mostNow_70
    rw [ie0, nI_1]
theorem most_go {o : Nat} (h1 : 1 ≤ o) (ho : o ≤ 3) (be : Int64) (rows g nx ib : Nat → Int64) (to : Nat → Int32) {sb : Nat → Int64} {v : Nat → Int} (hv : ∀ k, k < 45 → k / 3 % 3 < o → k % 3 < o → sb k = Int64.ofInt (v k) ∧ -9000000000000000000 ≤ v k ∧ v k ≤ 9000000000000000000) (hzr : ∀ k, k < 45 → NZ o v k → k < 9 * o) : ∀ (m k n : Nat) (l : Int32), k + m = 45 → m < n → ((∃ j, k ≤ j ∧ j < 45 ∧ NZ o v j ∧ 9 * (o - 1) ≤ j) ∨ (l = nI o ∧ 9 * (o - 1) ≤ k)) → F_X5_mostNow_9 n l (nI k) (nI o) be rows to g nx ib sb = some ((nI o).toInt64, be, rows, g, nx, ib, sb) := by
  intro m
  induction m with
  | zero =>
    intro k n l hk hn h
    obtain ⟨n, rfl⟩ : ∃ q, n = q + 1 := ⟨n - 1, by omega⟩
    rcases h with ⟨j, a, b, -⟩ | ⟨rfl, -⟩
    · omega
    · rw [F_X5_mostNow_9, if_pos (show (45 : Int32) ≤ nI k from nI_le (a := 45) (by omega) (by omega))]
  | succ m ih =>
    intro k n l hk hn h
    obtain ⟨n, rfl⟩ : ∃ q, n = q + 1 := ⟨n - 1, by omega⟩
    rcases most_step ho be rows g nx ib to hv n (show k < 45 by omega) l with ⟨hz, e⟩ | ⟨hz, e⟩
    · rw [e]
      refine ih (k + 1) n _ (by omega) (by omega) ?_
      have hlt := hzr k (by omega) hz
      by_cases c : 9 * (o - 1) ≤ k
      · refine Or.inr ⟨?_, by omega⟩
        rw [show k / 9 + 1 = o by omega]
      · rcases h with ⟨j, a, b, hj, d⟩ | ⟨-, d⟩
        · exact Or.inl ⟨j, by omega, b, hj, d⟩
        · omega
    · rw [e]
      refine ih (k + 1) n _ (by omega) (by omega) ?_
      rcases h with ⟨j, a, b, hj, d⟩ | ⟨el, d⟩
      · have : j ≠ k := fun q => hz (q ▸ hj)
        exact Or.inl ⟨j, by omega, b, hj, d⟩
      · exact Or.inr ⟨el, by omega⟩
theorem last_ne {o : Nat} (h1 : 1 ≤ o) (ho : o ≤ 3) {to : Nat → Int32} (hz : ZT o to) (x : Bool) (hd : DM x to o ≠ 0) : ∃ p k, p < o ∧ k < o ∧ WS x to o (un p) (o - 1) k ≠ 0 := by
  apply Classical.byContradiction
  intro hno
  have hall : ∀ p k, p < o → k < o → WS x to o (un p) (o - 1) k = 0 := fun p k hp hk => Classical.byContradiction (fun q => hno ⟨p, k, hp, hk, q⟩)
  have hb : ∀ k, k < 3 → WS x to o (Rw x to 0) (o - 1) k = 0 := by
    intro k hk
    by_cases c : k < o
    · rw [WS_lin x to o (un_sum (Rw x to 0)) (o - 1) k hk]
      have one : ∀ p, p < 3 → Rw x to 0 p * WS x to o (un p) (o - 1) k = 0 := by
        intro p hp
        by_cases q : p < o
        · rw [hall p k q c]; simp
        · rw [Rw_z hz x 0 hp (by omega)]; simp
      rw [one 0 (by omega), one 1 (by omega), one 2 (by omega)]; simp
    · exact WS_z hz x (fun j hj h => Rw_z hz x 0 hj h) (o - 1) k hk (by omega)
  have h0 : cc x to o (o - 1) (WS x to o (Rw x to 0) (o - 1)) = 0 := by
    rw [cc_3 x to o (o - 1) (a := 0) (b := 0) (c := 0) (v := Rw x to 0) (w := Rw x to 0) (z := Rw x to 0) (fun k hk => by rw [hb k hk]; grind)]; grind
  have h2 : cc x to o (o - 1) (WS x to o (Rw x to 0) (o - 1)) = DM x to o * DM x to o := by
    rcases (show o = 1 ∨ o = 2 ∨ o = 3 by omega) with rfl | rfl | rfl
    · rw [cc_3 x to 1 (1 - 1) (a := DM x to 1) (b := 0) (c := 0) (v := Rw x to 0) (w := Rw x to 0) (z := Rw x to 0) (fun k hk => by show DM x to 1 * Rw x to 0 k = _; grind), cc_R (by omega) hz x (by omega) (by omega), if_pos rfl]
      grind
    · rw [cc_3 x to 2 (2 - 1) (a := DM x to 2) (b := UV x to 2 (Rw x to 0) 0) (c := 0) (v := Rw x to 1) (w := Rw x to 0) (z := Rw x to 0) (fun k hk => by
        show WS x to 2 (Rw x to 0) 1 k = _
        rw [WS_1]
        show DM x to 2 * Rw x to 1 k + _ = _
        grind), cc_R (by omega) hz x (by omega) (by omega), cc_R (by omega) hz x (by omega) (by omega), if_pos rfl, if_neg (by omega)]
      grind
    · rw [cc_3 x to 3 (3 - 1) (a := DM x to 3) (b := UV x to 3 (Rw x to 0) 0) (c := UV x to 3 (Rw x to 0) 1) (v := Rw x to 2) (w := Rw x to 1) (z := Rw x to 0) (fun k hk => by
        show WS x to 3 (Rw x to 0) 2 k = _
        rw [WS_2]
        show DM x to 3 * Rw x to 2 k + _ + _ = _
        grind), cc_R (by omega) hz x (by omega) (by omega), cc_R (by omega) hz x (by omega) (by omega), cc_R (by omega) hz x (by omega) (by omega), if_pos rfl, if_neg (by omega), if_neg (by omega)]
      grind
  rw [h0] at h2
  rcases Int.mul_eq_zero.mp h2.symm with q | q <;> exact hd q
theorem most_full (x : Bool) {o : Nat} (h1 : 1 ≤ o) (ho : o ≤ 3) {to : Nat → Int32} (hz : ZT o to) (hd : DM x to o ≠ 0) (be : Int64) (rows g nx ib sb : Nat → Int64) : ∃ be2 rows2 g2 nx2 ib2 sb2, F_X5_mostNow (xI x) (nI o) be rows to g nx ib sb = some ((nI o).toInt64, be2, rows2, g2, nx2, ib2, sb2) := by
  obtain ⟨be2, rows2, g2, nx2, ib2, sb2, e, rfl, -, hs⟩ := lr_ev h1 ho hz x be rows g nx ib sb
  refine ⟨Int64.ofInt (DM x to o), rows2, g2, nx2, ib2, sb2, ?_⟩
  unfold F_X5_mostNow
  refine b6 e ?_
  refine most_go h1 ho _ rows2 g2 nx2 ib2 to (v := fun k => WS x to o (un (k % 3)) (k / 9) (k / 3 % 3)) ?_ ?_ 45 0 3000 0 (by omega) (by omega) (Or.inl ?_)
  · intro k hk c1 c2
    have h := hs (k / 9) (k / 3 % 3) (k % 3) (by omega) c1 c2
    rw [SI_WS, show 9 * (k / 9) + 3 * (k / 3 % 3) + k % 3 = k by omega] at h
    have hb := WS_bd h1 ho hz x c2 (k / 9) (k / 3 % 3) (by omega)
    refine ⟨h, ?_, ?_⟩
    · show _ ≤ WS x to o (un (k % 3)) (k / 9) (k / 3 % 3); omega
    · show WS x to o (un (k % 3)) (k / 9) (k / 3 % 3) ≤ _; omega
  · rintro k hk ⟨-, c2, hne⟩
    apply Classical.byContradiction
    intro q
    have := way_rest h1 ho hz x (un_z c2) (k / 9 - o) (k / 3 % 3) (by omega)
    rw [show o + (k / 9 - o) = k / 9 by omega] at this
    exact hne this
  · obtain ⟨p, k, hp, hk, hne⟩ := last_ne h1 ho hz x hd
    refine ⟨9 * (o - 1) + 3 * k + p, by omega, by omega, ⟨by omega, by omega, ?_⟩, by omega⟩
    show WS x to o (un ((9 * (o - 1) + 3 * k + p) % 3)) ((9 * (o - 1) + 3 * k + p) / 9) ((9 * (o - 1) + 3 * k + p) / 3 % 3) ≠ 0
    rw [show (9 * (o - 1) + 3 * k + p) % 3 = p by omega, show (9 * (o - 1) + 3 * k + p) / 9 = o - 1 by omega, show (9 * (o - 1) + 3 * k + p) / 3 % 3 = k by omega]
    exact hne
