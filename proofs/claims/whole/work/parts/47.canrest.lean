/-! canRest on both sides -/
theorem nI_inj3 {a b : Nat} (ha : a < 1000) (hb : b < 1000) (h : nI a = nI b) : a = b := by
  have := congrArg Int32.toNatClampNeg h
  rwa [clk ha, clk hb] at this
theorem nle3 {k : Nat} (hk : k < 3) : ¬ (3 : Int32) ≤ nI k := nI_ge (b := 3) hk (by omega)
theorem spans_go {S : Nat → Nat → Int} {s0 s1 s2 g : Nat → Int64} {v : Nat → Int} (h0 : rp s0 (S 0)) (h1 : rp s1 (S 1)) (h2 : rp s2 (S 2)) (hg : rp g v) (hb : ∀ k, k < 3 → -9000000000000000000 ≤ dotI (S k) v ∧ dotI (S k) v ≤ 9000000000000000000) : ∀ (m k n : Nat), k + m = 3 → m < n → (F_X0_spans_2 n (nI k) s0 s1 s2 g = some 1 ∧ ∀ j, k ≤ j → j < 3 → dotI (S j) v = 0) ∨ (F_X0_spans_2 n (nI k) s0 s1 s2 g = some 0 ∧ ¬ ∀ j, k ≤ j → j < 3 → dotI (S j) v = 0) := by
  intro m
  induction m with
  | zero =>
    intro k n hk hn
    obtain ⟨n, rfl⟩ := Nat.exists_eq_add_of_lt hn
    have e : k = 3 := by omega
    subst e
    rw [show 0 + n + 1 = n + 1 from by omega, F_X0_spans_2]
    exact Or.inl ⟨if_pos (by decide), fun j a b => by omega⟩
  | succ m ih =>
    intro k n hk hn
    obtain ⟨n, rfl⟩ : ∃ q, n = q + 1 := ⟨n - 1, by omega⟩
    rw [F_X0_spans_2, if_neg (nle3 (by omega)), share_rp k (by omega) h0 h1 h2 hg]
    have hc := cmp0 (hb k (by omega)).1 (hb k (by omega)).2
    by_cases hz : dotI (S k) v = 0
    · have e1 : bd1 (some (Int64.ofInt (dotI (S k) v))) (fun r1 => if (lg_cmp r1 (0 : Int64)) = 0 then (F_X0_spans_2 n (nI k + (1 : Int32)) s0 s1 s2 g) else (some (0 : Int32))) = F_X0_spans_2 n (nI (k + 1)) s0 s1 s2 g := b1 rfl (by rw [if_pos (hc.mpr hz), nI_1])
      rw [e1]
      rcases ih (k + 1) n (by omega) (by omega) with ⟨e, a⟩ | ⟨e, a⟩
      · refine Or.inl ⟨e, fun j j1 j2 => ?_⟩
        by_cases q : j = k
        · rw [q]; exact hz
        · exact a j (by omega) j2
      · exact Or.inr ⟨e, fun q => a (fun j j1 j2 => q j (by omega) j2)⟩
    · exact Or.inr ⟨b1 rfl (by rw [if_neg (fun q => hz (hc.mp q))]), fun q => hz (q k (by omega) (by omega))⟩
theorem spans_ev {S : Nat → Nat → Int} {s0 s1 s2 g : Nat → Int64} {v : Nat → Int} (h0 : rp s0 (S 0)) (h1 : rp s1 (S 1)) (h2 : rp s2 (S 2)) (hg : rp g v) (hb : ∀ k, k < 3 → -9000000000000000000 ≤ dotI (S k) v ∧ dotI (S k) v ≤ 9000000000000000000) {k : Nat} (hk : k ≤ 3) : (F_X0_spans (nI k) s0 s1 s2 g = some 1 ∧ ∀ j, k ≤ j → j < 3 → dotI (S j) v = 0) ∨ (F_X0_spans (nI k) s0 s1 s2 g = some 0 ∧ ¬ ∀ j, k ≤ j → j < 3 → dotI (S j) v = 0) :=
  spans_go h0 h1 h2 hg hb (3 - k) k 3000 (by omega) (by omega)
theorem more_go {o : Nat} (ho : o ≤ 3) {row : Nat} (hrow : row < o) (l2 : Int32) (to : Nat → Int32) {tr : Nat → Int64} {v : Nat → Int} (hv : rpo o tr v) (R : Nat → Nat → Int) : ∀ (m k n : Nat) (f : Nat → Int64), k + m = o → m < n → rm9 f (fun r i => if r = row ∧ i < k then v i else RM R o r i) → ∃ f2, F_X5_isMore_7 n (nI row) l2 (nI k) (nI o) f to tr = F_X5_isMore_7 1 (nI row) l2 (nI o) (nI o) f2 to tr ∧ rm9 f2 (RMr R o row v) := by
  intro m
  induction m with
  | zero =>
    intro k n f hk hn hf
    obtain ⟨n, rfl⟩ : ∃ q, n = q + 1 := ⟨n - 1, by omega⟩
    have e : k = o := by omega
    subst e
    refine ⟨f, ?_, hf⟩
    have hle : nI k ≤ nI k := nI_le (by omega) (by omega)
    rw [F_X5_isMore_7, if_pos hle, show (1 : Nat) = 0 + 1 from rfl, F_X5_isMore_7, if_pos hle]
  | succ m ih =>
    intro k n f hk hn hf
    obtain ⟨n, rfl⟩ : ∃ q, n = q + 1 := ⟨n - 1, by omega⟩
    rw [F_X5_isMore_7, if_neg (nI_ge (by omega) (by omega)), if_neg (in3 (by omega)), ix3, if_neg (in9 (by omega)), nI_1, clk (by omega), clk (by omega)]
    refine ih (k + 1) n _ (by omega) (by omega) ?_
    intro r i hr hi
    show (if 3 * r + i = 3 * row + k then tr k else f (3 * r + i)) = _
    by_cases c : r = row ∧ i = k
    · obtain ⟨rfl, rfl⟩ := c
      rw [if_pos rfl, hv i (by omega)]
      show _ = Int64.ofInt (if r = r ∧ i < i + 1 then v i else _)
      rw [if_pos ⟨rfl, by omega⟩]
    · rw [if_neg (by omega), hf r i hr hi]
      show Int64.ofInt (if r = row ∧ i < k then v i else _) = Int64.ofInt (if r = row ∧ i < k + 1 then v i else _)
      by_cases d : r = row ∧ i < k
      · rw [if_pos d, if_pos ⟨d.1, by omega⟩]
      · rw [if_neg d, if_neg (by omega)]
theorem RMr_bd {R : Nat → Nat → Int} {o row : Nat} {v : Nat → Int} (hrow : row < o) (hR : ∀ r, r < 3 → Bd 72 (RM R o r)) (hv : Bd 216000000 v) : (∀ r, r < 3 → r ≠ row → Bd 72 (RMr R o row v r)) ∧ Bd 216000000 (RMr R o row v row) := by
  constructor
  · intro r hr hne k hk
    unfold RMr
    rw [if_neg (fun q => hne q.1)]
    exact hR r hr k hk
  · intro k hk
    unfold RMr
    by_cases c : k < o
    · rw [if_pos ⟨rfl, c⟩]; exact hv k hk
    · rw [if_neg (fun q => c q.2)]
      unfold RM
      rw [if_neg (fun q => c q.2)]
      split <;> omega
theorem more_ev {o : Nat} (h1 : 1 ≤ o) (ho : o ≤ 3) {row : Nat} (hrow : row < o) {rk : Nat} (hrk : rk ≤ 3) {to : Nat → Int32} (hz : ZT o to) (rows : Nat → Int64) {tr : Nat → Int64} {v : Nat → Int} (hv : rpo o tr v) (hb : Bd 216000000 v) : ∃ now f2, RkM (RMr (Rw false to) o row v) o now ∧ F_X5_isMore (nI row) (nI rk) (nI o) rows to tr = some (if now ≤ rk then 0 else 1, f2) := by
  obtain ⟨f, hf, hm⟩ := lay_ev false ho hz rows
  obtain ⟨f2, e2, hm2⟩ := more_go ho hrow (nI rk) to hv (Rw false to) o 0 3000 f (by omega) (by omega) (fun r i hr hi => by rw [hm r i hr hi]; show _ = Int64.ofInt (if r = row ∧ i < 0 then _ else _); rw [if_neg (fun q => absurd q.2 (by omega))])
  have hbd := RM_bd (o := o) (R0_bd hz.1 false) (R1_bd hz.1 false) (R2_bd hz.1 false)
  obtain ⟨hb1, hb2⟩ := RMr_bd (v := v) hrow hbd hb
  have hball : ∀ r i, r < 3 → i < 3 → -1000000000 ≤ RMr (Rw false to) o row v r i ∧ RMr (Rw false to) o row v r i ≤ 1000000000 := by
    intro r i hr hi
    by_cases c : r = row
    · subst c; have := hb2 i hi; omega
    · have := hb1 r hr c i hi; omega
  have hdt : -9000000000000000000 ≤ DT (RMr (Rw false to) o row v 0) (RMr (Rw false to) o row v 1) (RMr (Rw false to) o row v 2) ∧ DT (RMr (Rw false to) o row v 0) (RMr (Rw false to) o row v 1) (RMr (Rw false to) o row v 2) ≤ 9000000000000000000 := by
    rcases (show row = 0 ∨ row = 1 ∨ row = 2 by omega) with rfl | rfl | rfl
    · have := DT_bd hb2 (hb1 1 (by omega) (by omega)) (hb1 2 (by omega) (by omega)); omega
    · have := DT_bd (hb1 0 (by omega) (by omega)) hb2 (hb1 2 (by omega) (by omega)); omega
    · have := DT_bd (hb1 0 (by omega) (by omega)) (hb1 1 (by omega) (by omega)) hb2; omega
  obtain ⟨now, hnow, hle, e⟩ := rank_ev h1 ho hm2 hball hdt (fun k => F_X5_isMore_93 (nI k) (nI rk) (nI o) f2 to tr) (if nI o ≤ (2 : Int32) then (F_X5_isMore_81 (nI rk) (nI o) f2 to tr) else (bd1 (F_X5_areTwo (nI o) f2) (fun r2 => if r2 = 0 then (F_X5_isMore_81 (nI rk) (nI o) f2 to tr) else (F_X5_isMore_93 (2 : Int32) (nI rk) (nI o) f2 to tr)))) (fun X a b => by
    unfold F_X5_isMore_81
    by_cases c : nI o ≤ 2
    · rw [if_pos c]
      rcases any_ev ho hm2 hball with ⟨e1, -⟩ | ⟨e1, -⟩
      · rw [(a c).2 e1]; exact b1 e1 ie1
      · rw [(a c).1 e1]; exact b1 e1 ie0
    · rw [if_neg c]
      have h3 : o = 3 := by
        apply Classical.byContradiction
        intro q
        exact c (nI_le (b := 2) (by omega) (by omega))
      subst h3
      rcases two_ev hm2 hball with ⟨e2, -⟩ | ⟨e2, -⟩
      · rw [(b c).1 e2]; exact b1 e2 ie1
      · refine b1 e2 ?_
        rw [ie0]
        rcases any_ev ho hm2 hball with ⟨e1, -⟩ | ⟨e1, -⟩
        · rw [((b c).2 e2).2 e1]; exact b1 e1 ie1
        · rw [((b c).2 e2).1 e1]; exact b1 e1 ie0)
  refine ⟨now, f2, hnow, ?_⟩
  unfold F_X5_isMore
  refine b1 hf ?_
  refine e2.trans ?_
  rw [show (1 : Nat) = 0 + 1 from rfl, F_X5_isMore_7, if_pos (nI_le (Nat.le_refl _) (by omega))]
  refine e.trans ?_
  show F_X5_isMore_93 (nI now) (nI rk) (nI o) f2 to tr = _
  unfold F_X5_isMore_93
  by_cases c : now ≤ rk
  · rw [if_pos (nI_le c (by omega)), if_pos c]
  · rw [if_neg (nI_ge (by omega) (by omega)), if_neg c]
theorem cr47 {o : Nat} (h1 : 1 ≤ o) (ho : o ≤ 3) {rk : Nat} (hrk : rk ≤ 3) {to : Nat → Int32} (hz : ZT o to) {tr : Nat → Int64} {v : Nat → Int} (hv : rpo o tr v) (hb : Bd 216000000 v) (sa nx : Nat → Int64) : ∀ (m k n : Nat) (rows : Nat → Int64), k + m = o → m < n → ∃ f2, (F_X5_canRest_47 n (nI rk) (nI k) (nI o) rows to tr sa nx = some (1, f2, tr, nx) ∧ ∃ now : Nat → Nat, ∀ row, k ≤ row → row < o → RkM (RMr (Rw false to) o row v) o (now row) ∧ now row ≤ rk) ∨ (F_X5_canRest_47 n (nI rk) (nI k) (nI o) rows to tr sa nx = some (0, f2, tr, nx) ∧ ∃ row now, row < o ∧ RkM (RMr (Rw false to) o row v) o now ∧ ¬ now ≤ rk) := by
  intro m
  induction m with
  | zero =>
    intro k n rows hk hn
    obtain ⟨n, rfl⟩ : ∃ q, n = q + 1 := ⟨n - 1, by omega⟩
    exact ⟨rows, Or.inl ⟨by rw [F_X5_canRest_47, if_pos (nI_le (by omega) (by omega))], fun _ => 0, fun row a b => by omega⟩⟩
  | succ m ih =>
    intro k n rows hk hn
    obtain ⟨n, rfl⟩ : ∃ q, n = q + 1 := ⟨n - 1, by omega⟩
    obtain ⟨now, f2, hnow, e⟩ := more_ev h1 ho (row := k) (by omega) hrk hz rows hv hb
    rw [F_X5_canRest_47, if_neg (nI_ge (by omega) (by omega)), e]
    by_cases c : now ≤ rk
    · rw [if_pos c]
      obtain ⟨f3, hh⟩ := ih (k + 1) n f2 (by omega) (by omega)
      refine ⟨f3, ?_⟩
      have ee : bd2 (some ((0 : Int32), f2)) (fun r1 x1_rows => if r1 = 0 then (F_X5_canRest_47 n (nI rk) (nI k + (1 : Int32)) (nI o) x1_rows to tr sa nx) else (some ((0 : Int32), x1_rows, tr, nx))) = F_X5_canRest_47 n (nI rk) (nI (k + 1)) (nI o) f2 to tr sa nx := b2 rfl (by rw [ie0, nI_1])
      rw [ee]
      rcases hh with ⟨e3, nw, hw⟩ | ⟨e3, hw⟩
      · refine Or.inl ⟨e3, fun row => if row = k then now else nw row, fun row a b => ?_⟩
        show RkM (RMr (Rw false to) o row v) o (if row = k then now else nw row) ∧ (if row = k then now else nw row) ≤ rk
        by_cases q : row = k
        · subst q; rw [if_pos rfl]; exact ⟨hnow, c⟩
        · rw [if_neg q]; exact hw row (by omega) b
      · exact Or.inr ⟨e3, hw⟩
    · rw [if_neg c]
      exact ⟨f2, Or.inr ⟨b2 rfl ie1, k, now, by omega, hnow, c⟩⟩
theorem rpo.cg {o : Nat} {f : Nat → Int64} {u v : Nat → Int} (h : rpo o f u) (e : ∀ k, k < o → u k = v k) : rpo o f v := fun k hk => by rw [h k hk, e k hk]
theorem mgo0 {o : Nat} (ho : o ≤ 3) {to : Nat → Int32} (hz : ZT o to) (nx : Nat → Int64) {st : Nat → Int64} {v : Nat → Int} (hs : rpo o st v) : ∃ r1 r2, F_X5_goOn 0 (nI o) nx to st = some (r1, r2) ∧ rpo o r2 (go1 false to v) := by
  obtain ⟨r1, r2, e, h⟩ := mgo_ev ho hz nx 0 hs
  exact ⟨r1, r2, e, h.cg (fun k _ => by show pu false to k * 0 + go1 false to v k = _; rw [Int.mul_zero, Int.zero_add])⟩
theorem cr22 {o : Nat} (ho : o ≤ 3) {to : Nat → Int32} (hz : ZT o to) (l1 : Int32) (rows sa : Nat → Int64) : ∀ (m k n : Nat) (tr nx : Nat → Int64) (v : Nat → Int), k + m = o → m < n → rpo o tr v → ∃ tr2 nx2, F_X5_canRest_22 n l1 (nI k) (nI o) rows to tr sa nx = F_X5_canRest_47 3000 l1 0 (nI o) rows to tr2 sa nx2 ∧ rpo o tr2 (gn false to m v) := by
  intro m
  induction m with
  | zero =>
    intro k n tr nx v hk hn hv
    obtain ⟨n, rfl⟩ : ∃ q, n = q + 1 := ⟨n - 1, by omega⟩
    exact ⟨tr, nx, by rw [F_X5_canRest_22, if_pos (nI_le (by omega) (by omega))], hv⟩
  | succ m ih =>
    intro k n tr nx v hk hn hv
    obtain ⟨n, rfl⟩ : ∃ q, n = q + 1 := ⟨n - 1, by omega⟩
    obtain ⟨r1, r2, e, h⟩ := mgo0 ho hz nx hv
    rw [F_X5_canRest_22, if_neg (nI_ge (by omega) (by omega)), e]
    obtain ⟨tr2, nx2, e2, h2⟩ := ih (k + 1) n r2 r1 _ (by omega) (by omega) h
    refine ⟨tr2, nx2, b2 rfl (by rw [nI_1]; exact e2), ?_⟩
    rw [gn_succ]; exact h2

theorem RkM_ex (M : Nat → Nat → Int) (o : Nat) : ∃ rk, RkM M o rk := by
  by_cases hd : DT (M 0) (M 1) (M 2) = 0
  · by_cases h2 : o = 3 ∧ AreTwo M
    · exact ⟨2, Or.inr ⟨hd, Or.inl ⟨h2.1, h2.2, rfl⟩⟩⟩
    · by_cases ha : ∃ r i, r < o ∧ i < o ∧ M r i ≠ 0
      · exact ⟨1, Or.inr ⟨hd, Or.inr ⟨h2, Or.inl ⟨ha, rfl⟩⟩⟩⟩
      · exact ⟨0, Or.inr ⟨hd, Or.inr ⟨h2, Or.inr ⟨fun r i hr hi => Classical.byContradiction (fun q => ha ⟨r, i, hr, hi, q⟩), rfl⟩⟩⟩⟩
  · exact ⟨o, Or.inl ⟨hd, rfl⟩⟩
theorem B_bd (x : Bool) {ce : Nat → Int32} (hc : CB ce) {rk : Nat} {B : Nat → Nat → Int} (hB : BaseIs (Rw x ce) rk B) : Bd 2 (B 0) ∧ Bd 12 (B 1) ∧ Bd 72 (B 2) := by
  have d0 := R0_bd hc x
  have d1 := R1_bd hc x
  have d2 := R2_bd hc x
  have u : ∀ a, Bd 1 (un a) := un_bd
  rcases hB with ⟨-, -, b0, b1', b2'⟩ | ⟨-, -, a, -, -, -, b0, b1', b2'⟩ | ⟨-, -, a, -, -, -, b0, b1', b2'⟩ | ⟨-, -, -, b0, b1', b2'⟩
  · rw [b0, b1', b2']; exact ⟨d0, d1, d2⟩
  · rw [b0, b1', b2']; exact ⟨d0, d1, (u _).mono (by omega)⟩
  · rw [b0, b1', b2']; exact ⟨d0, (u _).mono (by omega), (u _).mono (by omega)⟩
  · rw [b0, b1', b2']; exact ⟨(u _).mono (by omega), (u _).mono (by omega), (u _).mono (by omega)⟩
theorem sq_bd (x : Bool) {ce : Nat → Int32} (hc : CB ce) {rk : Nat} {B : Nat → Nat → Int} (hB : BaseIs (Rw x ce) rk B) (j : Nat) : Bd 1728 (sq B j) := by
  obtain ⟨d0, d1, d2⟩ := B_bd x hc hB
  unfold sq
  by_cases a : j = 0
  · rw [if_pos a]; exact cr_bd d1 d2
  · rw [if_neg a]
    by_cases b : j = 1
    · rw [if_pos b]; exact (cr_bd d2 d0).mono (by omega)
    · rw [if_neg b]; exact (cr_bd d0 d1).mono (by omega)
theorem sq_full {R B : Nat → Nat → Int} {o : Nat} (h1 : 1 ≤ o) (ho : o ≤ 3) (hB : ∀ j i, j < 3 → i < 3 → B j i = RM R o j i) {v : Nat → Int} (hv : ∀ k, k < 3 → o ≤ k → v k = 0) : ∀ j, o ≤ j → j < 3 → dotI (sq B j) v = 0 := by
  obtain ⟨s0, s1, s2⟩ := sq_ev B v
  have out : ∀ j i, j < 3 → i < 3 → ¬ (j < o ∧ i < o) → B j i = if j = i then 1 else 0 := fun j i hj hi h => by rw [hB j i hj hi]; exact if_neg h
  intro j hj1 hj2
  rcases (show j = 1 ∨ j = 2 by omega) with rfl | rfl
  · have o1' : o = 1 := by omega
    subst o1'
    rw [s1]; unfold DT
    rw [out 0 1 (by omega) (by omega) (by omega), out 0 2 (by omega) (by omega) (by omega), hv 1 (by omega) (by omega), hv 2 (by omega) (by omega)]
    simp
  · rw [s2]; unfold DT
    rw [out 0 2 (by omega) (by omega) (by omega), out 1 2 (by omega) (by omega) (by omega), hv 2 (by omega) (by omega)]
    simp
theorem gn_z {o : Nat} {ce : Nat → Int32} (hz : ZT o ce) (x : Bool) {v : Nat → Int} (hv : ∀ k, k < 3 → o ≤ k → v k = 0) : ∀ (t : Nat) {k : Nat}, k < 3 → o ≤ k → gn x ce t v k = 0
  | 0, k, hk, h => hv k hk h
  | t + 1, k, hk, h => go1_z hz x (gn x ce t v) hk h
theorem canrest_both {o : Nat} (h1 : 1 ≤ o) (ho : o ≤ 3) {ce to : Nat → Int32} (hT : JT o ce to) {st sa : Nat → Int64} (hS : JS o st sa) {rank : Int32} {below : Int64} {r0 r1 r2 ga s0 s1 s2 : Nat → Int64} (hC : ChainIs false ce o rank below r0 r1 r2 ga s0 s1 s2) (wy sp rows tr nx : Nat → Int64) : ∃ c wy2 sp2 rows2 tr2 nx2, (c = 0 ∨ c = 1) ∧ F_X4_canRest st wy (nI o) sp ce rank s0 s1 s2 = some (c, wy2, sp2) ∧ F_X5_canRest (nI o) rows to tr sa nx = some (c, rows2, tr2, nx2) := by
  obtain ⟨rk, B, hrk, rfl, hB, -, -, -, hs0, hs1, hs2, -, -⟩ := hC
  obtain ⟨w1, e1, hw1⟩ := copy_rp wy hS.rp
  obtain ⟨sp2, w2, e2, hw2⟩ := carry_rp false ce o (by omega) sp hw1
  have hvb : Bd 216000000 (gn false ce o (fun k => (st k).toInt)) := (gn_bd hT.cb false hS.bd o).mono (by
    rcases (show o = 1 ∨ o = 2 ∨ o = 3 by omega) with rfl | rfl | rfl <;> decide)
  have hvz : ∀ k, k < 3 → o ≤ k → gn false ce o (fun k => (st k).toInt) k = 0 := fun k hk h => gn_z hT.zc false (fun k hk h => hS.z hk h) o hk h
  have hbb : ∀ k, k < 3 → -9000000000000000000 ≤ dotI (sq B k) (gn false ce o (fun k => (st k).toInt)) ∧ dotI (sq B k) (gn false ce o (fun k => (st k).toInt)) ≤ 9000000000000000000 := fun k _ => by
    have := dot_bd (sq_bd false hT.cb hB k) hvb
    omega
  have hspan := spans_ev (S := sq B) hs0 hs1 hs2 hw2 hbb hrk
  obtain ⟨f, e5, hm5⟩ := rank5 false h1 ho hT hB rows
  obtain ⟨rk2, f', hk2, -, e5', -⟩ := rankNow_ev false h1 ho hT.zt rows
  obtain ⟨hrr, hro, hfull⟩ := rk_eq false h1 ho hT.zc hT.eq hB hk2
  have h4 : ∀ c : Int32, (c = 0 ∨ c = 1) → F_X0_spans (nI rk) s0 s1 s2 w2 = some c → F_X4_canRest st wy (nI o) sp ce (nI rk) s0 s1 s2 = some (c, w2, sp2) := by
    intro c hc e
    unfold F_X4_canRest
    refine b1 e1 (b2 e2 (b1 e ?_))
    rcases hc with rfl | rfl <;> rfl
  by_cases hfo : rk = o
  · have hz := sq_full h1 ho (hfull hfo) hvz
    rcases hspan with ⟨e, -⟩ | ⟨-, a⟩
    · refine ⟨1, w2, sp2, f, tr, nx, Or.inr rfl, h4 1 (Or.inr rfl) e, ?_⟩
      unfold F_X5_canRest
      exact b2 e5 (if_pos (by rw [hfo]))
    · exact absurd (fun j a b => hz j (by omega) b) a
  · obtain ⟨t1, et, ht⟩ := try_ev ho tr sa
    have ht' : rpo o t1 (fun k => (st k).toInt) := fun k hk => by rw [ht k hk]; exact hS.rpo ho k hk
    obtain ⟨t2, nx2, e22, h22⟩ := cr22 ho hT.zt (nI rk) f sa o 0 3000 t1 nx _ (by omega) (by omega) ht'
    have hv2 : rpo o t2 (gn false ce o (fun k => (st k).toInt)) := h22.cg (fun k hk => gn_cg hT.eq false (fun _ _ => rfl) o (by omega))
    obtain ⟨f2, h47⟩ := cr47 h1 ho hrk hT.zt hv2 hvb sa nx2 o 0 3000 f (by omega) (by omega)
    have hcv : ∀ row, row < o → ∀ now, RkM (RMr (Rw false to) o row (gn false ce o (fun k => (st k).toInt))) o now → RkM (RMr (Rw false ce) o row (gn false ce o (fun k => (st k).toInt))) o now := by
      intro row hrow now h
      refine RkM_cg ho (fun r i hr hi => ?_) h
      unfold RMr RM
      split
      · rfl
      · split
        · exact Rw_cg hT.eq false r hi
        · rfl
    have h5 : ∀ c : Int32, F_X5_canRest_47 3000 (nI rk) 0 (nI o) f to t2 sa nx2 = some (c, f2, t2, nx2) → F_X5_canRest (nI o) rows to tr sa nx = some (c, f2, t2, nx2) := by
      intro c e
      unfold F_X5_canRest
      refine b2 e5 ?_
      rw [if_neg (fun q => hfo (nI_inj3 (by omega) (by omega) q))]
      refine b1 et ?_
      exact e22.trans e
    rcases h47 with ⟨e47, now, hnow⟩ | ⟨e47, row, nw, hrow, hnw, hbad⟩
    · have hc := canrest false h1 ho hT.zc hB (by omega) hvz (now := now) (fun row hrow => hcv row hrow _ (hnow row (by omega) hrow).1)
      have hall := hc.mpr (fun row hrow => (hnow row (by omega) hrow).2)
      rcases hspan with ⟨e, -⟩ | ⟨-, a⟩
      · exact ⟨1, w2, sp2, f2, t2, nx2, Or.inr rfl, h4 1 (Or.inr rfl) e, h5 1 e47⟩
      · exact absurd hall a
    · have hex : ∃ now : Nat → Nat, ∀ r, RkM (RMr (Rw false ce) o r (gn false ce o (fun k => (st k).toInt))) o (now r) := ⟨fun r => (RkM_ex _ o).choose, fun r => (RkM_ex _ o).choose_spec⟩
      obtain ⟨now, hnow⟩ := hex
      have hc := canrest false h1 ho hT.zc hB (by omega) hvz (now := fun r => if r = row then nw else now r) (fun r hr => by
        show RkM _ o (if r = row then nw else now r)
        by_cases q : r = row
        · subst q; rw [if_pos rfl]; exact hcv r hr _ hnw
        · rw [if_neg q]; exact hnow r)
      rcases hspan with ⟨-, a⟩ | ⟨e, -⟩
      · have h := hc.mp a row hrow
        have h' : (if row = row then nw else now row) ≤ rk := h
        rw [if_pos rfl] at h'
        exact absurd h' hbad
      · exact ⟨0, w2, sp2, f2, t2, nx2, Or.inl rfl, h4 0 (Or.inl rfl) e, h5 0 e47⟩
