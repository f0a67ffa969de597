/-! plans: the model's plan -/
theorem go_4 {F L : Nat} (hF : F = 2 * L + 1) (hL1 : 1 ≤ L) (hL : L ≤ 5) : ∀ (f N n : Nat) (inp : Nat → Int32), f ≤ 6 → f < n → N < F ^ f → (∀ i, i < f → inp i = Int32.ofInt (dg F L f N i)) → ∃ r inp2, F_X5_goesOn_4 n (nI f - 1) (nI L) inp = some (r, inp2) ∧ (∀ i, f ≤ i → inp2 i = inp i) ∧ ((r = 1 ∧ N + 1 < F ^ f ∧ ∀ i, i < f → inp2 i = Int32.ofInt (dg F L f (N + 1) i)) ∨ (r = 0 ∧ N + 1 = F ^ f)) := by
  intro f
  induction f with
  | zero =>
    intro N n inp _ hn hN _
    obtain ⟨n, rfl⟩ : ∃ q, n = q + 1 := ⟨n - 1, by omega⟩
    refine ⟨0, inp, ?_, fun _ _ => rfl, Or.inr ⟨rfl, ?_⟩⟩
    · rw [F_X5_goesOn_4, if_pos (show nI 0 - 1 < 0 by decide)]
      unfold F_X5_goesOn_38
      rw [if_pos (show nI 0 - 1 < 0 by decide)]
      unfold F_X5_goesOn_52
      rw [if_pos (show nI 0 - 1 < 0 by decide)]
    · have : F ^ 0 = 1 := rfl
      omega
  | succ f ih =>
    intro N n inp hf hn hN hi
    obtain ⟨n, rfl⟩ : ∃ q, n = q + 1 := ⟨n - 1, by omega⟩
    have e1 : nI (f + 1) - 1 = nI f := nIs (b := 1) (by omega)
    have e2 : nI f + (-1 : Int32) = nI f - 1 := by rw [Int32.sub_eq_add_neg]
    have hFp : 0 < F := by omega
    have epow : F ^ (f + 1) = F ^ f * F := Nat.pow_succ F f
    have i6 : ¬ (nI f < 0 ∨ 6 ≤ f) := fun q => q.elim (nI_n0 f (by omega)) (by omega)
    have hdm := Nat.div_add_mod N F
    have hml := Nat.mod_lt N hFp
    have hcomm : F * (N / F) = N / F * F := Nat.mul_comm _ _
    have hlast : inp f = Int32.ofInt (((N % F : Nat) : Int) - (L : Int)) := by
      rw [hi f (by omega)]; unfold dg; rw [if_pos rfl]
    have hdiv : N / F < F ^ f := Nat.div_lt_of_lt_mul (by rw [Nat.mul_comm, ← epow]; exact hN)
    rw [F_X5_goesOn_4, e1, if_neg (nI_n0 f (by omega)), if_neg (in6 (by omega)), clk (by omega), hlast]
    by_cases c : N % F = 2 * L
    · have hc : Int32.ofInt (((N % F : Nat) : Int) - (L : Int)) = nI L := by
        rw [nI_O]; congr 1; omega
      rw [if_pos hc, if_neg i6, e2]
      have hdv1 : (N + 1) / F = N / F + 1 := by
        rw [show N + 1 = (N / F + 1) * F by rw [Nat.add_mul]; omega]
        exact Nat.mul_div_cancel _ hFp
      have hmd1 : (N + 1) % F = 0 := by
        rw [show N + 1 = (N / F + 1) * F by rw [Nat.add_mul]; omega]
        exact Nat.mul_mod_left _ _
      obtain ⟨r, inp2, e, fr, h⟩ := ih (N / F) n (upd inp f (-(nI L))) (by omega) (by omega) hdiv (fun i hif => by
        show (if i = f then _ else inp i) = _
        rw [if_neg (by omega), hi i (by omega)]
        show Int32.ofInt (if i = f then _ else dg F L f (N / F) i) = _
        rw [if_neg (by omega)])
      have hf2 : inp2 f = -(nI L) := by rw [fr f (by omega)]; exact if_pos rfl
      refine ⟨r, inp2, e, fun i hif => ?_, ?_⟩
      · rw [fr i (by omega)]
        show (if i = f then _ else inp i) = _
        rw [if_neg (by omega)]
      · rcases h with ⟨rfl, hlt, hd⟩ | ⟨rfl, heq⟩
        · left
          refine ⟨rfl, ?_, fun i hif => ?_⟩
          · have : (N / F + 1 + 1) * F ≤ F ^ f * F := Nat.mul_le_mul_right F hlt
            rw [epow]
            rw [Nat.add_mul, Nat.add_mul] at this
            omega
          · show _ = Int32.ofInt (if i = f then _ else dg F L f ((N + 1) / F) i)
            by_cases d : i = f
            · rw [if_pos d, d, hf2, hmd1, nI_O, ← Int32.ofInt_neg]
              congr 1
              omega
            · rw [if_neg d, hdv1]; exact hd i (by omega)
        · right
          refine ⟨rfl, ?_⟩
          rw [epow, ← heq, Nat.add_mul]
          omega
    · have hc : ¬ Int32.ofInt (((N % F : Nat) : Int) - (L : Int)) = nI L := by
        intro q
        have q' := congrArg Int32.toInt q
        rw [nI_O, iO_toInt (by omega) (by omega), iO_toInt (by omega) (by omega)] at q'
        omega
      rw [if_neg hc]
      have hdv1 : (N + 1) / F = N / F := by
        have hq : (N % F + 1) / F = 0 := Nat.div_eq_of_lt (by omega)
        rw [show N + 1 = F * (N / F) + (N % F + 1) by omega, Nat.mul_add_div hFp, hq, Nat.add_zero]
      have hmd1 : (N + 1) % F = N % F + 1 := by
        rw [show N + 1 = F * (N / F) + (N % F + 1) by omega, Nat.mul_add_mod, Nat.mod_eq_of_lt (by omega)]
      have hlt : N + 1 < F ^ (f + 1) := by
        rw [epow]
        have : (N / F + 1) * F ≤ F ^ f * F := Nat.mul_le_mul_right F hdiv
        rw [Nat.add_mul] at this
        omega
      refine ⟨1, upd inp f (Int32.ofInt (((N % F : Nat) : Int) - (L : Int)) + 1), ?_, fun i hif => ?_, Or.inl ⟨rfl, hlt, fun i hif => ?_⟩⟩
      · unfold F_X5_goesOn_38
        rw [if_neg (nI_n0 f (by omega)), if_neg (in6 (by omega)), if_neg (in6 (by omega)), clk (by omega), hlast]
        unfold F_X5_goesOn_52
        rw [if_neg (nI_n0 f (by omega))]
      · show (if i = f then _ else inp i) = _
        rw [if_neg (by omega)]
      · show (if i = f then _ else inp i) = Int32.ofInt (if i = f then _ else dg F L f ((N + 1) / F) i)
        by_cases d : i = f
        · rw [if_pos d, if_pos d, hmd1, show (1 : Int32) = Int32.ofInt 1 from rfl, ← Int32.ofInt_add]
          congr 1
          omega
        · rw [if_neg d, if_neg d, hdv1, hi i (by omega)]
          show Int32.ofInt (if i = f then _ else dg F L f (N / F) i) = _
          rw [if_neg d]
theorem dg_0 {F L : Nat} (hF : 0 < F) : ∀ (f i : Nat), i < f → dg F L f 0 i = -(L : Int)
  | 0, i, h => by omega
  | f + 1, i, h => by
    show (if i = f then ((0 % F : Nat) : Int) - (L : Int) else dg F L f (0 / F) i) = _
    by_cases c : i = f
    · rw [if_pos c, Nat.zero_mod]; omega
    · rw [if_neg c, Nat.zero_div]; exact dg_0 hF f i (by omega)
theorem fp_41 {to : Nat → Int32} {B : Nat → Nat → Int} {o rk n t b : Nat} {S : Nat → Int} {sa rows : Nat → Int64} (hX : PX to B rk n t b S) (hY : PY to o rk S sa rows) {L F : Nat} (hL1 : 1 ≤ L) (hL : L ≤ 5) (hF : F = 2 * L + 1) : ∀ (m N f : Nat) (inp : Nat → Int32) (tr nx go en' wa : Nat → Int64), N + m = F ^ t → 1 ≤ m → m < f → (∀ i, i < t → inp i = Int32.ofInt (dg F L t N i)) → ∃ inp2 tr2 nx2 go2 en2 wa2, (∃ M q, N ≤ M ∧ M < F ^ t ∧ Good to S L n t (dg F L t M) q ∧ (∀ M', N ≤ M' → M' < M → ¬ ∃ q, Good to S L n t (dg F L t M') q) ∧ F_X5_findPlan_41 f (nI n) (nI b) 1 (nI o) (nI L) inp tr sa nx to go en' wa rows = some (1, inp2, tr2, nx2, go2, en2, wa2) ∧ ∀ i, i < n → inp2 i = Int32.ofInt (mx (dg F L t M) q t i)) ∨ (F_X5_findPlan_41 f (nI n) (nI b) 1 (nI o) (nI L) inp tr sa nx to go en' wa rows = some (0, inp2, tr2, nx2, go2, en2, wa2) ∧ ∀ M', N ≤ M' → M' < F ^ t → ¬ ∃ q, Good to S L n t (dg F L t M') q) := by
  have hX' := hX
  obtain ⟨hB, en0, eb, h6, ht3, -⟩ := hX'
  have esub : nI n - nI b = nI t := by rw [nIs (by omega)]; congr 1; omega
  intro m
  induction m with
  | zero => intro N f inp tr nx go en' wa _ h; omega
  | succ m ih =>
    intro N f inp tr nx go en' wa hN _ hf hi
    obtain ⟨f, rfl⟩ : ∃ q, f = q + 1 := ⟨f - 1, by omega⟩
    obtain ⟨r, tr1, inp1, nx1, go1', en1, wa1, e1, h1⟩ := tf_ev hX hY hL (u := dg F L t N) (fun i _ => dg_bd hF t N i) hi tr nx go en' wa
    rcases h1 with ⟨rfl, q, hg, hq⟩ | ⟨rfl, hno, hfr⟩
    · refine ⟨inp1, tr1, nx1, go1', en1, wa1, Or.inl ⟨N, q, Nat.le_refl _, by omega, hg, fun M' a c => by omega, ?_, hq⟩⟩
      rw [F_X5_findPlan_41, if_neg (by decide)]
      refine b7 e1 ?_
      rw [ie1]
    · obtain ⟨r2, inp2, e2, -, h2⟩ := go_4 hF hL1 hL t N 3000 inp1 (by omega) (by omega) (by omega) (fun i hit => by rw [hfr i hit]; exact hi i hit)
      have e2' : F_X5_goesOn (nI n - nI b) (nI L) inp1 = some (r2, inp2) := by
        unfold F_X5_goesOn
        rw [esub]; exact e2
      have estep : F_X5_findPlan_41 (f + 1) (nI n) (nI b) 1 (nI o) (nI L) inp tr sa nx to go en' wa rows = F_X5_findPlan_41 f (nI n) (nI b) r2 (nI o) (nI L) inp2 tr1 sa nx1 to go1' en1 wa1 rows := by
        rw [F_X5_findPlan_41, if_neg (by decide)]
        refine b7 e1 ?_
        rw [ie0]
        exact b2 e2' rfl
      rcases h2 with ⟨rfl, hlt, hd⟩ | ⟨rfl, heq⟩
      · obtain ⟨inp3, tr3, nx3, go3', en3, wa3, h3⟩ := ih (N + 1) f inp2 tr1 nx1 go1' en1 wa1 (by omega) (by omega) (by omega) hd
        refine ⟨inp3, tr3, nx3, go3', en3, wa3, ?_⟩
        rcases h3 with ⟨M, q, a1, a2, a3, a4, a5, a6⟩ | ⟨a5, a4⟩
        · refine Or.inl ⟨M, q, by omega, a2, a3, fun M' c1 c2 => ?_, estep.trans a5, a6⟩
          by_cases d : M' = N
          · rw [d]; exact hno
          · exact a4 M' (by omega) c2
        · refine Or.inr ⟨estep.trans a5, fun M' c1 c2 => ?_⟩
          by_cases d : M' = N
          · rw [d]; exact hno
          · exact a4 M' (by omega) c2
      · obtain ⟨f, rfl⟩ : ∃ q, f = q + 1 := ⟨f - 1, by omega⟩
        refine ⟨inp2, tr1, nx1, go1', en1, wa1, Or.inr ⟨?_, fun M' c1 c2 => ?_⟩⟩
        · rw [estep, F_X5_findPlan_41, ie0]
        · have d : M' = N := by omega
          rw [d]; exact hno
theorem fp_14 {n : Nat} (h6 : n ≤ 6) (b : Int32) (li or_ : Int32) (tr sa nx go en' wa rows : Nat → Int64) (to : Nat → Int32) : ∀ (m k f : Nat) (inp : Nat → Int32), k + m = n → m < f → (∀ i, i < k → inp i = -li) → ∃ inp2, F_X5_findPlan_14 f (nI n) b (nI k) or_ li inp tr sa nx to go en' wa rows = F_X5_findPlan_41 3000 (nI n) b 1 or_ li inp2 tr sa nx to go en' wa rows ∧ ∀ i, i < n → inp2 i = -li := by
  intro m
  induction m with
  | zero =>
    intro k f inp hk hf h
    obtain ⟨f, rfl⟩ : ∃ q, f = q + 1 := ⟨f - 1, by omega⟩
    exact ⟨inp, by rw [F_X5_findPlan_14, if_pos (nI_le (by omega) (by omega))], fun i hi => h i (by omega)⟩
  | succ m ih =>
    intro k f inp hk hf h
    obtain ⟨f, rfl⟩ : ∃ q, f = q + 1 := ⟨f - 1, by omega⟩
    obtain ⟨inp2, e, h2⟩ := ih (k + 1) f (upd inp k (-li)) (by omega) (by omega) (fun i hi => by
      show (if i = k then _ else inp i) = _
      by_cases c : i = k
      · rw [if_pos c]
      · rw [if_neg c]; exact h i (by omega))
    refine ⟨inp2, ?_, h2⟩
    rw [F_X5_findPlan_14, if_neg (nI_ge (by omega) (by omega)), if_neg (in6 (by omega)), clk (by omega), nI_1]
    exact e
theorem fp_ev {to : Nat → Int32} {B : Nat → Nat → Int} {o rk : Nat} {S : Nat → Int} {sa rows : Nat → Int64} (hP : PB to B rk S) (hY : PY to o rk S sa rows) {L : Nat} (hL1 : 1 ≤ L) (hL : L ≤ 5) {n : Nat} (hn : n ≤ rk + 3) (inp : Nat → Int32) (tr nx go en' wa : Nat → Int64) : ∃ r inp2 tr2 nx2 go2 en2 wa2, F_X5_findPlan (nI n) (nI rk) (nI o) (nI L) inp tr sa nx to go en' wa rows = some (r, inp2, tr2, nx2, go2, en2, wa2) ∧ ((r = 1 ∧ HasFit to S L n (n - min n rk) inp2) ∨ (r = 0 ∧ NoFit to S L n (n - min n rk))) := by
  have hrk := hP.1.1
  have hX := hP.px hn
  obtain ⟨inp1, e1, h1⟩ := fp_14 (n := n) (by omega) (nI (min n rk)) (nI L) (nI o) tr sa nx go en' wa rows to n 0 3000 inp (by omega) (by omega) (fun i hi => by omega)
  have hpw := pw_lt (F := 2 * L + 1) (t := n - min n rk) (by omega) hX.2.2.2.2.1
  have hpos : 0 < (2 * L + 1) ^ (n - min n rk) := Nat.pow_pos (by omega)
  obtain ⟨inp2, tr2, nx2, go2, en2, wa2, h⟩ := fp_41 hX hY hL1 hL (F := 2 * L + 1) rfl ((2 * L + 1) ^ (n - min n rk)) 0 3000 inp1 tr nx go en' wa (by omega) (by omega) (by omega) (fun i hi => by
    rw [h1 i (by omega), dg_0 (by omega) _ i hi, nI_O, ← Int32.ofInt_neg])
  have e0 : F_X5_findPlan (nI n) (nI rk) (nI o) (nI L) inp tr sa nx to go en' wa rows = F_X5_findPlan_41 3000 (nI n) (nI (min n rk)) 1 (nI o) (nI L) inp1 tr sa nx to go en' wa rows := by
    unfold F_X5_findPlan F_X5_findPlan_10
    rw [show nI 0 = (0 : Int32) from rfl] at e1
    by_cases c : rk ≤ n
    · rw [if_pos (nI_le c (by omega))]
      rw [Nat.min_eq_right c] at e1 ⊢
      exact e1
    · rw [if_neg (nI_ge (by omega) (by omega))]
      rw [Nat.min_eq_left (by omega)] at e1 ⊢
      exact e1
  rcases h with ⟨M, q, -, a2, a3, a4, a5, a6⟩ | ⟨a5, a4⟩
  · exact ⟨1, inp2, tr2, nx2, go2, en2, wa2, e0.trans a5, Or.inl ⟨rfl, M, q, a2, a3, fun M' c => a4 M' (by omega) c, a6⟩⟩
  · exact ⟨0, inp2, tr2, nx2, go2, en2, wa2, e0.trans a5, Or.inr ⟨rfl, fun M c => a4 M (by omega) c⟩⟩
theorem lp_56 {n : Nat} (h6 : n ≤ 6) (or_ li : Int32) (rows tr sa nx go en' wa : Nat → Int64) (to inp : Nat → Int32) : ∀ (m k f : Nat) (pa : Nat → Int32), k + m = n → m < f → (∀ i, i < k → pa i = inp i) → ∃ pa2, F_X5_layPlan_56 f (nI k) or_ li (nI n) rows to inp tr sa nx go en' wa pa = some (nI n, rows, inp, tr, nx, go, en', wa, pa2) ∧ ∀ i, i < n → pa2 i = inp i := by
  intro m
  induction m with
  | zero =>
    intro k f pa hk hf h
    obtain ⟨f, rfl⟩ : ∃ q, f = q + 1 := ⟨f - 1, by omega⟩
    exact ⟨pa, by rw [F_X5_layPlan_56, if_pos (nI_le (by omega) (by omega))], fun i hi => h i (by omega)⟩
  | succ m ih =>
    intro k f pa hk hf h
    obtain ⟨f, rfl⟩ : ∃ q, f = q + 1 := ⟨f - 1, by omega⟩
    obtain ⟨pa2, e, h2⟩ := ih (k + 1) f (upd pa k (inp k)) (by omega) (by omega) (fun i hi => by
      show (if i = k then _ else pa i) = _
      by_cases c : i = k
      · rw [if_pos c, c]
      · rw [if_neg c]; exact h i (by omega))
    refine ⟨pa2, ?_, h2⟩
    rw [F_X5_layPlan_56, if_neg (nI_ge (by omega) (by omega)), if_neg (in6 (by omega)), if_neg (in6 (by omega)), clk (by omega), nI_1]
    exact e
theorem lp_ret (f : Nat) {n rk : Nat} (hn : n < 1000) (hrk : rk ≤ 3) (or_ li tk : Int32) (rows tr sa nx go en' wa : Nat → Int64) (to inp pa : Nat → Int32) (h : rk + 3 < n ∨ (0 : Int32) ≤ tk) : F_X5_layPlan_13 (f + 1) (nI rk) (nI n) or_ li tk rows to inp tr sa nx go en' wa pa = F_X5_layPlan_56 3000 0 or_ li tk rows to inp tr sa nx go en' wa pa := by
  have e3 : nI rk + 3 = nI (rk + 3) := nI_add rk 3
  rw [F_X5_layPlan_13, e3]
  unfold F_X5_layPlan_54
  by_cases c : rk + 3 < n
  · rw [if_pos ((nlt (by omega) hn).mpr c)]
  · rw [if_neg (fun q => c ((nlt (by omega) hn).mp q)), if_pos (h.resolve_left c)]
theorem fit_cg {to : Nat → Int32} {S : Nat → Int} {L n t : Nat} {i1 i2 : Nat → Int32} (h : ∀ i, i < n → i2 i = i1 i) (hf : HasFit to S L n t i1) : HasFit to S L n t i2 := by
  obtain ⟨M, q, a, b, c, d⟩ := hf
  exact ⟨M, q, a, b, c, fun i hi => by rw [h i hi]; exact d i hi⟩
theorem lp_13 {to : Nat → Int32} {B : Nat → Nat → Int} {o rk : Nat} {S : Nat → Int} {sa rows : Nat → Int64} (hP : PB to B rk S) (hY : PY to o rk S sa rows) {L : Nat} (hL1 : 1 ≤ L) (hL : L ≤ 5) : ∀ (m n f : Nat) (inp pa : Nat → Int32) (tr nx go en' wa : Nat → Int64), n + m = rk + 4 → m < f → (∀ k, k < n → NoFit to S L k (k - min k rk)) → ∃ tk inp2 tr2 nx2 go2 en2 wa2 pa2, F_X5_layPlan_13 f (nI rk) (nI n) (nI o) (nI L) (-1) rows to inp tr sa nx go en' wa pa = some (tk, rows, inp2, tr2, nx2, go2, en2, wa2, pa2) ∧ PlanIs to S L rk tk pa2 := by
  have hrk := hP.1.1
  intro m
  induction m with
  | zero =>
    intro n f inp pa tr nx go en' wa hn hf hno
    obtain ⟨f, rfl⟩ : ∃ q, f = q + 1 := ⟨f - 1, by omega⟩
    refine ⟨-1, inp, tr, nx, go, en', wa, pa, ?_, Or.inr ⟨rfl, fun k hk => hno k (by omega)⟩⟩
    rw [lp_ret f (by omega) hrk _ _ _ _ _ _ _ _ _ _ _ _ _ (Or.inl (by omega)), show (3000 : Nat) = 2999 + 1 from rfl, F_X5_layPlan_56, if_pos (show (-1 : Int32) ≤ 0 by decide)]
  | succ m ih =>
    intro n f inp pa tr nx go en' wa hn hf hno
    obtain ⟨f, rfl⟩ : ∃ q, f = q + 1 := ⟨f - 1, by omega⟩
    obtain ⟨f, rfl⟩ : ∃ q, f = q + 1 := ⟨f - 1, by omega⟩
    obtain ⟨r, inp1, tr1, nx1, go1', en1, wa1, e1, h1⟩ := fp_ev hP hY hL1 hL (n := n) (by omega) inp tr nx go en' wa
    have e3 : nI rk + 3 = nI (rk + 3) := nI_add rk 3
    rw [F_X5_layPlan_13, e3, if_neg (fun q => by have := (nlt (by omega) (by omega)).mp q; omega), if_neg (by decide)]
    rcases h1 with ⟨rfl, hfit⟩ | ⟨rfl, hnf⟩
    · obtain ⟨pa2, e2, h2⟩ := lp_56 (n := n) (by omega) (nI o) (nI L) rows tr1 sa nx1 go1' en1 wa1 to inp1 n 0 3000 pa (by omega) (by omega) (fun i hi => by omega)
      refine ⟨nI n, inp1, tr1, nx1, go1', en1, wa1, pa2, ?_, Or.inl ⟨n, by omega, rfl, hno, fit_cg h2 hfit⟩⟩
      refine b7 e1 ?_
      rw [ie1]
      unfold F_X5_layPlan_45
      rw [nI_1]
      exact (lp_ret f (n := n + 1) (by omega) hrk _ _ _ _ _ _ _ _ _ _ _ _ _ (Or.inr (nI_le (a := 0) (b := n) (by omega) (by omega)))).trans e2
    · obtain ⟨tk, inp3, tr3, nx3, go3', en3, wa3, pa3, e4, hp⟩ := ih (n + 1) (f + 1) inp1 pa tr1 nx1 go1' en1 wa1 (by omega) (by omega) (fun k hk => by
        by_cases c : k = n
        · rw [c]; exact hnf
        · exact hno k (by omega))
      refine ⟨tk, inp3, tr3, nx3, go3', en3, wa3, pa3, ?_, hp⟩
      refine b7 e1 ?_
      rw [ie0]
      unfold F_X5_layPlan_45
      rw [nI_1]
      exact e4
