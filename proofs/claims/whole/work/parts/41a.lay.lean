/-! rows and ranks, the reference's way -/
def RM (R : Nat → Nat → Int) (o r i : Nat) : Int := if r < o ∧ i < o then R r i else if r = i then 1 else 0
def rm9 (f : Nat → Int64) (M : Nat → Nat → Int) : Prop := ∀ r i, r < 3 → i < 3 → f (3 * r + i) = Int64.ofInt (M r i)
theorem ix3 (a b : Nat) : (3 : Int32) * nI a + nI b = nI (3 * a + b) := by
  rw [show (3 : Int32) = nI 3 from rfl, pk_mul, nI_add]
theorem in9 {k : Nat} (hk : k < 9) : ¬ (nI k < 0 ∨ 9 ≤ (nI k).toNatClampNeg) := nI_in hk (by omega)
theorem in3 {k : Nat} (hk : k < 3) : ¬ (nI k < 0 ∨ 3 ≤ (nI k).toNatClampNeg) := nI_in hk (by omega)
theorem in15 {k : Nat} (hk : k < 15) : ¬ (nI k < 0 ∨ 15 ≤ (nI k).toNatClampNeg) := nI_in hk (by omega)
theorem clk {k : Nat} (hk : k < 1000) : (nI k).toNatClampNeg = k := nI_clamp (by omega)
theorem isP {o a : Nat} (ho : o ≤ 3) (ha : a < 1000) : F_X5_isPlace (nI a) (nI o) = some (if a < o then 1 else 0) := by
  rcases place_spec ho (nI a) with ⟨-, h⟩ | ⟨k, hk, e, -, h⟩
  · by_cases hao : a < o
    · have : F_X5_isPlace (nI a) (nI o) = some 1 := by
        rcases (show o = 1 ∨ o = 2 ∨ o = 3 by omega) with rfl | rfl | rfl
        · rw [show a = 0 by omega]; rfl
        · rcases (show a = 0 ∨ a = 1 by omega) with rfl | rfl <;> rfl
        · rcases (show a = 0 ∨ a = 1 ∨ a = 2 by omega) with rfl | rfl | rfl <;> rfl
      rw [h] at this; cases this
    · rw [h, if_neg hao]
  · have e2 : a = k := (nI_eq (by omega) (by omega)).mp e
    rw [h, if_pos (by omega)]
def ent (x : Bool) (i j : Nat) : Nat := if x then 3 * j + i else 3 * i + j
theorem tab_ev (x : Bool) {i j : Nat} (hi : i < 3) (hj : j < 3) (to : Nat → Int32) : F_X5_tableAt (xI x) (nI i) (nI j) to = some (to (ent x i j)) := by
  unfold F_X5_tableAt ent
  cases x
  · show (if (0 : Int32) = 0 then _ else _) = some (to (3 * i + j))
    rw [ie0, ix3, if_neg (in15 (by omega)), clk (by omega)]
  · show (if (1 : Int32) = 0 then _ else _) = some (to (3 * j + i))
    rw [ie1, ix3, if_neg (in15 (by omega)), clk (by omega)]
theorem ent_en (x : Bool) (to : Nat → Int32) (i j : Nat) : (to (ent x i j)).toInt = en x to i j := by
  unfold ent en
  cases x <;> rfl
theorem iL (n : Nat) {k : Nat} (hk : k < 9) {o : Nat} (ho : o ≤ 3) (l1 : Int32) (rows : Nat → Int64) (to : Nat → Int32) : F_X5_layRows_2 (n + 1) l1 (nI k) (nI o) rows to = F_X5_layRows_2 n l1 (nI (k + 1)) (nI o) (vp_updL rows k (if k / 3 < o ∧ k % 3 < o then 0 else if k / 3 = k % 3 then 1 else 0)) to := by
  have ed : nI k / 3 = nI (k / 3) := pk_div (d := 3) (by omega) (by omega) (by omega)
  have er : nI k - nI k / 3 * 3 = nI (k % 3) := pk_rem (d := 3) (by omega) (by omega) (by omega)
  have hif : ∀ {α : Type} (a b : α), (if nI (k / 3) = nI (k % 3) then a else b) = (if k / 3 = k % 3 then a else b) := by
    intro α a b
    by_cases h : k / 3 = k % 3
    · rw [if_pos h, if_pos (by rw [h])]
    · rw [if_neg h, if_neg (fun q => h ((nI_eq (by omega) (by omega)).mp q))]
  rw [F_X5_layRows_2, if_neg (show ¬ (9 : Int32) ≤ nI k from nI_ge (b := 9) hk (by omega)), er, ed]
  refine b1 (isP ho (by omega)) ?_
  by_cases h1 : k / 3 < o
  · rw [if_pos h1, ie1]
    refine b1 (isP ho (by omega)) ?_
    by_cases h2 : k % 3 < o
    · rw [if_pos h2, ie1, if_pos ⟨h1, h2⟩]
      unfold F_X5_layRows_51
      rw [if_neg (in9 hk), clk (by omega), nI_1]
    · rw [if_neg h2, ie0, if_neg (fun q => h2 q.2)]
      unfold F_X5_layRows_37
      rw [er, ed, hif]
      unfold F_X5_layRows_51
      rw [if_neg (in9 hk), if_neg (in9 hk), clk (by omega), nI_1]
      by_cases h : k / 3 = k % 3
      · rw [if_pos h, if_pos h]
      · rw [if_neg h, if_neg h]
  · rw [if_neg h1, ie0, if_neg (fun q => h1 q.1)]
    unfold F_X5_layRows_37
    rw [er, ed, hif]
    unfold F_X5_layRows_51
    rw [if_neg (in9 hk), if_neg (in9 hk), clk (by omega), nI_1]
    by_cases h : k / 3 = k % 3
    · rw [if_pos h, if_pos h]
    · rw [if_neg h, if_neg h]
theorem iL_all {o : Nat} (ho : o ≤ 3) (l1 : Int32) (to : Nat → Int32) : ∀ (m k n : Nat) (rows : Nat → Int64), k + m = 9 → m < n → (∀ j, j < k → rows j = if j / 3 < o ∧ j % 3 < o then 0 else if j / 3 = j % 3 then 1 else 0) → ∃ f, F_X5_layRows_2 n l1 (nI k) (nI o) rows to = F_X5_layRows_60 3000 l1 0 (nI o) f to ∧ ∀ j, j < 9 → f j = if j / 3 < o ∧ j % 3 < o then 0 else if j / 3 = j % 3 then 1 else 0 := by
  intro m
  induction m with
  | zero =>
    intro k n rows hk hn h
    match n, hn with
    | n + 1, _ =>
      refine ⟨rows, ?_, fun j hj => h j (by omega)⟩
      rw [F_X5_layRows_2, if_pos (show (9 : Int32) ≤ nI k from nI_le (a := 9) (by omega) (by omega))]
  | succ m ih =>
    intro k n rows hk hn h
    match n, hn with
    | n + 1, hn =>
      rw [iL n (by omega) ho]
      refine ih (k + 1) n _ (by omega) (by omega) (fun j hj => ?_)
      by_cases e : j = k
      · subst e; rw [pk_uLs]
      · rw [pk_uLn e]; exact h j (by omega)
/-- the sum that stands for one number of a row -/
def sm (x : Bool) (to : Nat → Int32) (v : Nat → Int) (i : Nat) : Nat → Nat → Int
  | _, 0 => 0
  | k, m + 1 => en x to i k * v k + sm x to v i (k + 1) m
theorem sm_go {o : Nat} (ho : o ≤ 3) {to : Nat → Int32} (hz : ZT o to) (x : Bool) (v : Nat → Int) {i : Nat} (hi : i < 3) : sm x to v i 0 o = go1 x to v i := by
  have z : ∀ j, j < 3 → o ≤ j → en x to i j = 0 := fun j hj h => en_z hz x hi hj (Or.inr h)
  unfold go1
  rcases (show o = 0 ∨ o = 1 ∨ o = 2 ∨ o = 3 by omega) with rfl | rfl | rfl | rfl
  · rw [z 0 (by omega) (by omega), z 1 (by omega) (by omega), z 2 (by omega) (by omega)]; simp [sm]
  · rw [z 1 (by omega) (by omega), z 2 (by omega) (by omega)]; simp [sm]
  · rw [z 2 (by omega) (by omega)]; simp [sm]
  · simp [sm]; omega
theorem in118 {o : Nat} (ho : o ≤ 3) (x : Bool) (to : Nat → Int32) {r i : Nat} (hr1 : 1 ≤ r) (hr : r < o) (hi : i < o) {v : Nat → Int} (k60 : Int32 → Int32 → Int32 → (Nat → Int64) → (Nat → Int32) → Option (Nat → Int64)) (k70 : Int32 → Int32 → Int32 → Int32 → (Nat → Int64) → (Nat → Int32) → Option (Nat → Int64)) : ∀ (m k n : Nat) (rows : Nat → Int64) (acc : Int), k + m = o → m < n → rows (3 * r + i) = Int64.ofInt acc → (∀ j, j < o → rows (3 * (r - 1) + j) = Int64.ofInt (v j)) →
    ∃ f, F_X5_layRows_118 k60 k70 n (xI x) (nI r) (nI i) (nI k) (nI o) rows to = k70 (xI x) (nI r) (nI (i + 1)) (nI o) f to ∧ f (3 * r + i) = Int64.ofInt (acc + sm x to v i k m) ∧ ∀ j, j ≠ 3 * r + i → f j = rows j := by
  intro m
  induction m with
  | zero =>
    intro k n rows acc hk hn ha hv
    match n, hn with
    | n + 1, _ =>
      refine ⟨rows, ?_, by rw [ha]; simp [sm], fun _ _ => rfl⟩
      rw [F_X5_layRows_118, if_pos (nI_le (by omega) (by omega))]
      unfold F_X5_layRows_173
      rw [nI_1]
  | succ m ih =>
    intro k n rows acc hk hn ha hv
    match n, hn with
    | n + 1, hn =>
      have e1 : nI r - 1 = nI (r - 1) := pk_sub (a := r) (b := 1) (by omega)
      obtain ⟨f, hf, h1, h2⟩ := ih (k + 1) n (vp_updL rows (3 * r + i) (Int64.ofInt (acc + en x to i k * v k))) (acc + en x to i k * v k) (by omega) (by omega) pk_uLs (fun j hj => by rw [pk_uLn (by omega)]; exact hv j hj)
      refine ⟨f, ?_, ?_, fun j hj => by rw [h2 j hj, pk_uLn hj]⟩
      · rw [F_X5_layRows_118, if_neg (nI_ge (by omega) (by omega)), if_neg (nI_nle (by omega) (by omega)), ix3, if_neg (in9 (by omega))]
        refine b1 (tab_ev x (by omega) (by omega) to) ?_
        rw [e1, ix3, if_neg (in9 (by omega)), if_neg (in9 (by omega)), clk (by omega), clk (by omega), ha, hv k (by omega), lin1, ent_en, ← Int64.ofInt_add, nI_1]
        exact hf
      · rw [h1]; congr 1; simp only [sm]; omega
theorem lay70 {o : Nat} (ho : o ≤ 3) (x : Bool) {to : Nat → Int32} (hz : ZT o to) {r : Nat} (hr : r < o) (k60 : Int32 → Int32 → Int32 → (Nat → Int64) → (Nat → Int32) → Option (Nat → Int64)) : ∀ (m i n : Nat) (rows : Nat → Int64), i + m = o → m < n → (∀ j, 1 ≤ r → j < o → rows (3 * (r - 1) + j) = Int64.ofInt (Rw x to (r - 1) j)) → (∀ j, j < i → rows (3 * r + j) = Int64.ofInt (Rw x to r j)) →
    ∃ f, F_X5_layRows_70 k60 n (xI x) (nI r) (nI i) (nI o) rows to = k60 (xI x) (nI (r + 1)) (nI o) f to ∧ (∀ j, j < o → f (3 * r + j) = Int64.ofInt (Rw x to r j)) ∧ ∀ j, (∀ q, q < o → j ≠ 3 * r + q) → f j = rows j := by
  intro m
  induction m with
  | zero =>
    intro i n rows hi hn hp hc
    match n, hn with
    | n + 1, _ =>
      refine ⟨rows, ?_, fun j hj => hc j (by omega), fun _ _ => rfl⟩
      rw [F_X5_layRows_70, if_pos (nI_le (by omega) (by omega)), nI_1]
  | succ m ih =>
    intro i n rows hi hn hp hc
    match n, hn with
    | n + 1, hn =>
      obtain ⟨f0, e0, v0, o0'⟩ : ∃ f0, F_X5_layRows_70 k60 (n + 1) (xI x) (nI r) (nI i) (nI o) rows to = F_X5_layRows_70 k60 n (xI x) (nI r) (nI (i + 1)) (nI o) f0 to ∧ f0 (3 * r + i) = Int64.ofInt (Rw x to r i) ∧ ∀ j, j ≠ 3 * r + i → f0 j = rows j := by
        rw [F_X5_layRows_70, if_neg (nI_ge (by omega) (by omega))]
        by_cases hr0 : r = 0
        · subst hr0
          refine ⟨vp_updL rows (3 * 0 + i) (Int64.ofInt (Rw x to 0 i)), ?_, pk_uLs, fun j hj => pk_uLn hj⟩
          have t118 : ∀ rw2, F_X5_layRows_118 k60 (fun l1 l2 l3 v_order v_rows v_told => F_X5_layRows_70 k60 n l1 l2 l3 v_order v_rows v_told) 3000 (xI x) (nI 0) (nI i) 0 (nI o) rw2 to = F_X5_layRows_70 k60 n (xI x) (nI 0) (nI (i + 1)) (nI o) rw2 to := by
            intro rw2
            rw [show (3000 : Nat) = 2999 + 1 from rfl, F_X5_layRows_118]
            unfold F_X5_layRows_173
            rw [nI_1]
            by_cases ho0 : nI o ≤ 0
            · rw [if_pos ho0]
            · rw [if_neg ho0, if_pos (show nI 0 ≤ 0 by decide)]
          rw [if_pos (show nI 0 = 0 from rfl), ix3]
          cases x
          · show (if (0 : Int32) = 0 then _ else _) = _
            rw [ie0]
            unfold F_X5_layRows_106 F_X5_layRows_114
            rw [show (9 : Int32) + nI i = nI (9 + i) from nI_add 9 i, if_neg (in15 (by omega)), if_neg (in9 (by omega)), clk (by omega), clk (by omega), t64]
            exact t118 _
          · show (if (1 : Int32) = 0 then _ else _) = _
            rw [ie1]
            unfold F_X5_layRows_106 F_X5_layRows_114
            rw [show (12 : Int32) + nI i = nI (12 + i) from nI_add 12 i, if_neg (in15 (by omega)), if_neg (in9 (by omega)), clk (by omega), clk (by omega), t64]
            exact t118 _
        · rw [if_neg (nI_ne0 (by omega) (by omega))]
          unfold F_X5_layRows_114
          rw [ix3, if_neg (in9 (by omega)), clk (by omega)]
          obtain ⟨f, hf, h1, h2⟩ := in118 ho x to (r := r) (i := i) (by omega) hr (by omega) (v := Rw x to (r - 1)) k60 (fun l1 l2 l3 v_order v_rows v_told => F_X5_layRows_70 k60 n l1 l2 l3 v_order v_rows v_told) o 0 3000 (vp_updL rows (3 * r + i) 0) 0 (by omega) (by omega) pk_uLs (fun j hj => by rw [pk_uLn (by omega)]; exact hp j (by omega) hj)
          refine ⟨f, hf, ?_, fun j hj => by rw [h2 j hj, pk_uLn hj]⟩
          rw [h1, sm_go ho hz x _ (by omega)]
          obtain ⟨q, rfl⟩ : ∃ q, r = q + 1 := ⟨r - 1, by omega⟩
          congr 1
          show 0 + go1 x to (Rw x to q) i = go1 x to (Rw x to q) i
          omega
      rw [e0]
      obtain ⟨f, hf, h1, h2⟩ := ih (i + 1) n f0 (by omega) (by omega) (fun j h3 h4 => by rw [o0' _ (by omega)]; exact hp j h3 h4) (fun j hj => by
        by_cases e : j = i
        · subst e; exact v0
        · rw [o0' _ (by omega)]; exact hc j (by omega))
      exact ⟨f, hf, h1, fun j hj => by rw [h2 j hj, o0' j (hj i (by omega))]⟩
theorem lay60 {o : Nat} (ho : o ≤ 3) (x : Bool) {to : Nat → Int32} (hz : ZT o to) : ∀ (m r n : Nat) (rows : Nat → Int64), r + m = o → m < n → (∀ a i, a < 3 → i < 3 → rows (3 * a + i) = if a < o ∧ i < o then (if a < r then Int64.ofInt (Rw x to a i) else 0) else Int64.ofInt (if a = i then 1 else 0)) →
    ∃ f, F_X5_layRows_60 n (xI x) (nI r) (nI o) rows to = some f ∧ rm9 f (RM (Rw x to) o) := by
  intro m
  induction m with
  | zero =>
    intro r n rows hr hn h
    match n, hn with
    | n + 1, _ =>
      refine ⟨rows, ?_, fun a i ha hi => ?_⟩
      · rw [F_X5_layRows_60, if_pos (nI_le (by omega) (by omega))]
      · rw [h a i ha hi]
        unfold RM
        by_cases c : a < o ∧ i < o
        · rw [if_pos c, if_pos c, if_pos (by omega)]
        · rw [if_neg c, if_neg c]
  | succ m ih =>
    intro r n rows hr hn h
    match n, hn with
    | n + 1, hn =>
      rw [F_X5_layRows_60, if_neg (nI_ge (by omega) (by omega))]
      obtain ⟨f, hf, h1, h2⟩ := lay70 ho x hz (r := r) (by omega) (fun l1 l2 v_order v_rows v_told => F_X5_layRows_60 n l1 l2 v_order v_rows v_told) o 0 3000 rows (by omega) (by omega) (fun j h3 h4 => by rw [h (r - 1) j (by omega) (by omega), if_pos (by omega), if_pos (by omega)]) (fun j hj => absurd hj (Nat.not_lt_zero j))
      obtain ⟨g, hg, hgm⟩ := ih (r + 1) n f (by omega) (by omega) (fun a i ha hi => by
        by_cases c : a < o ∧ i < o
        · rw [if_pos c]
          by_cases e : a = r
          · subst e; rw [h1 i c.2, if_pos (by omega)]
          · rw [h2 _ (fun q hq => by omega), h a i ha hi, if_pos c]
            by_cases c2 : a < r
            · rw [if_pos c2, if_pos (by omega)]
            · rw [if_neg c2, if_neg (by omega)]
        · rw [if_neg c, h2 _ (fun q hq => by omega), h a i ha hi, if_neg c])
      exact ⟨g, hf.trans hg, hgm⟩
theorem lay_ev (x : Bool) {o : Nat} (ho : o ≤ 3) {to : Nat → Int32} (hz : ZT o to) (rows : Nat → Int64) : ∃ f, F_X5_layRows (xI x) (nI o) rows to = some f ∧ rm9 f (RM (Rw x to) o) := by
  obtain ⟨f, hf, h⟩ := iL_all ho (xI x) to 9 0 3000 rows (by omega) (by omega) (fun j hj => absurd hj (Nat.not_lt_zero j))
  obtain ⟨g, hg, hm⟩ := lay60 ho x hz o 0 3000 f (by omega) (by omega) (fun a i ha hi => by
    rw [h (3 * a + i) (by omega), show (3 * a + i) / 3 = a by omega, show (3 * a + i) % 3 = i by omega]
    by_cases c : a < o ∧ i < o
    · rw [if_pos c, if_pos c, if_neg (by omega)]
    · rw [if_neg c, if_neg c]
      by_cases e : a = i
      · rw [if_pos e, if_pos e]; rfl
      · rw [if_neg e, if_neg e]; rfl)
  exact ⟨g, hf.trans hg, hm⟩
