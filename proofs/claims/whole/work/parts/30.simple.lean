/-! THE MATHEMATICS, no machine: what the invariant says, and the small methods -/
/-- what stands at a place of a plant of order o -/
def There (o k : Nat) : Prop := k % 3 < o ∧ (9 ≤ k ∨ k / 3 < o)
def JP (pl : Int32) (le : Nat → Int32) (pl2 : Int32) (pa : Nat → Int32) : Prop := ∃ n : Nat, n ≤ 46 ∧ pl = nI n ∧ pl2 = nI n ∧ ∀ j, j < n → pa j = le j
def JT (o : Nat) (ce to : Nat → Int32) : Prop := ∀ k, k < 15 → to k = ce k ∧ -2 ≤ (ce k).toInt ∧ (ce k).toInt ≤ 2 ∧ (¬ There o k → ce k = 0)
def JS (o : Nat) (st sa : Nat → Int64) : Prop := ∀ k, k < 3 → sa k = st k ∧ -1000000 ≤ (st k).toInt ∧ (st k).toInt ≤ 1000000 ∧ (o ≤ k → st k = 0)
theorem cl_0 : (0 : Int32).toNatClampNeg = 0 := rfl
theorem cl_1 : (1 : Int32).toNatClampNeg = 1 := rfl
theorem cl_2 : (2 : Int32).toNatClampNeg = 2 := rfl
theorem i_lt (a b : Int32) : a < b ↔ a.toInt < b.toInt := Int32.lt_iff_toInt_lt
theorem i_le (a b : Int32) : a ≤ b ↔ a.toInt ≤ b.toInt := Int32.le_iff_toInt_le
theorem i_eq (a b : Int32) : a = b ↔ a.toInt = b.toInt := Int32.toInt_inj.symm
theorem l_lt (a b : Int64) : a < b ↔ a.toInt < b.toInt := Int64.lt_iff_toInt_lt
theorem l_le (a b : Int64) : a ≤ b ↔ a.toInt ≤ b.toInt := Int64.le_iff_toInt_le
theorem l_eq (a b : Int64) : a = b ↔ a.toInt = b.toInt := Int64.toInt_inj.symm
theorem b1 {A R : Type} {x : Option A} {f : A → Option R} {a : A} {r : Option R} (hx : x = some a) (h : f a = r) : bd1 x f = r := by rw [hx]; exact h
theorem ie1 {α : Type} {a b : α} : (if (1 : Int32) = 0 then a else b) = b := rfl
theorem ie0 {α : Type} {a b : α} : (if (0 : Int32) = 0 then a else b) = a := rfl
theorem within_1 {a lo hi : Int32} (h1 : lo ≤ a) (h2 : a ≤ hi) : F_X5_within a lo hi = some 1 := by
  unfold F_X5_within
  rw [if_neg (by rw [i_lt]; rw [i_le] at h1; omega), if_neg (by rw [i_lt]; rw [i_le] at h2; omega)]
theorem within_0 {a lo hi : Int32} (h : a < lo ∨ hi < a) : F_X5_within a lo hi = some 0 := by
  unfold F_X5_within
  by_cases h1 : a < lo
  · rw [if_pos h1]
  · rw [if_neg h1, if_pos (h.resolve_left h1)]
/-- an int is a place below n, or it isn't -/
theorem pl_cases (a : Int32) (n : Nat) (hn : n < 2 ^ 31) : (a < 0 ∨ nI n ≤ a) ∨ ∃ k, k < n ∧ a = nI k := by
  rcases pk_ix a hn with h | h | h
  · exact Or.inl (Or.inl h)
  · exact Or.inl (Or.inr h)
  · exact Or.inr h
theorem place_spec {o : Nat} (ho : o ≤ 3) (a : Int32) : ((F_X3_hasPlace a (nI o) = some 0 ∧ F_X5_isPlace a (nI o) = some 0)) ∨ ∃ k, k < o ∧ a = nI k ∧ F_X3_hasPlace a (nI o) = some 1 ∧ F_X5_isPlace a (nI o) = some 1 := by
  have hm : (nI o - (1 : Int32)).toInt = (o : Int) - 1 := pk_sub_toInt (a := o) (b := 1) (by omega) (by omega)
  have h0 : (0 : Int32).toInt = 0 := rfl
  have ht : (nI o).toInt = (o : Int) := nI_toInt (by omega)
  rcases pl_cases a o (by omega) with h | ⟨k, hk, rfl⟩
  · left
    constructor
    · unfold F_X3_hasPlace
      rcases h with h | h
      · rw [if_pos h]
      · by_cases h1 : a < 0
        · rw [if_pos h1]
        · rw [if_neg h1, if_pos h]
    · unfold F_X5_isPlace
      rw [within_0 (by rw [i_lt, i_lt, hm, h0]; rw [i_lt, i_le, h0, ht] at h; omega)]
      rfl
  · right
    refine ⟨k, hk, rfl, ?_, ?_⟩
    · unfold F_X3_hasPlace
      rw [if_neg (nI_pos (by omega)), if_neg (nI_ge hk (by omega))]
    · unfold F_X5_isPlace
      have hkt : (nI k).toInt = (k : Int) := nI_toInt (by omega)
      rw [within_1 (by rw [i_le, h0, hkt]; omega) (by rw [i_le, hkt, hm]; omega)]
      rfl
theorem there_tab : ∀ o, o < 4 → ∀ k, k < 15 → (F_X3_hasCell (nI k) (nI o) = some (if k % 3 < o ∧ (9 ≤ k ∨ k / 3 < o) then 1 else 0) ∧ F_X5_isThere (nI k) (nI o) = some (if k % 3 < o ∧ (9 ≤ k ∨ k / 3 < o) then 1 else 0)) := by decide +kernel
theorem there_spec {o : Nat} (ho : o ≤ 3) (a : Int32) : ((F_X3_hasCell a (nI o) = some 0 ∧ F_X5_isThere a (nI o) = some 0)) ∨ ∃ k, k < 15 ∧ There o k ∧ a = nI k ∧ F_X3_hasCell a (nI o) = some 1 ∧ F_X5_isThere a (nI o) = some 1 := by
  rcases pl_cases a 15 (by omega) with h | ⟨k, hk, rfl⟩
  · left
    constructor
    · unfold F_X3_hasCell
      rcases h with h | h
      · rw [if_pos h]
      · by_cases h1 : a < 0
        · rw [if_pos h1]
        · rw [if_neg h1, if_neg (by intro q; rw [i_lt] at q; rw [i_le] at h; have e : (nI 15).toInt = 15 := rfl; have e2 : (15 : Int32).toInt = 15 := rfl; omega)]
    · unfold F_X5_isThere
      have g : a < 0 ∨ (14 : Int32) < a := by
        rcases h with h | h
        · exact Or.inl h
        · right
          rw [i_lt]; rw [i_le] at h
          have e : (nI 15).toInt = 15 := rfl
          have e2 : (14 : Int32).toInt = 14 := rfl
          omega
      rw [within_0 g]
      rfl
  · obtain ⟨h1, h2⟩ := there_tab o (by omega) k hk
    by_cases ht : k % 3 < o ∧ (9 ≤ k ∨ k / 3 < o)
    · rw [if_pos ht] at h1 h2
      exact Or.inr ⟨k, hk, ht, rfl, h1, h2⟩
    · rw [if_neg ht] at h1 h2
      exact Or.inl ⟨h1, h2⟩
theorem m_letter {pl pl2 : Int32} {le pa : Nat → Int32} (h : JP pl le pl2 pa) (a : Int32) : ∃ (r : Int64) (q1 : Int32) (q2 : Nat → Int32) (q3 : Int32) (q4 : Nat → Int32), F_X4_letter a pl le = some (r, q1, q2) ∧ F_X5_letter a pl2 pa = some (r, q3, q4) ∧ JP q1 q2 q3 q4 := by
  obtain ⟨n, hn, rfl, rfl, hj⟩ := h
  have hJ : JP (nI n) le (nI n) pa := ⟨n, hn, rfl, rfl, hj⟩
  unfold F_X4_letter F_X5_letter
  by_cases h1 : a < 32
  · refine ⟨_, _, _, _, _, if_pos h1, ?_, hJ⟩
    rw [within_0 (Or.inl h1)]; rfl
  · rw [if_neg h1]
    have h1' : (32 : Int32) ≤ a := by rw [i_le]; rw [i_lt] at h1; omega
    by_cases h2 : a ≤ 126
    · rw [if_pos h2, within_1 h1' h2]
      by_cases h3 : n < 46
      · have e3 : nI n < 46 := nI_lt (b := 46) h3 (by omega)
        have g : ¬ (nI n < 0 ∨ 46 ≤ (nI n).toNatClampNeg) := nI_in h3 (by omega)
        refine ⟨(nI n + 1).toInt64, nI n + 1, upd le (nI n).toNatClampNeg a, nI n + 1, upd pa (nI n).toNatClampNeg a, ?_, ?_, ?_⟩
        · rw [if_pos e3]
          unfold F_X1_write
          rw [if_neg (show ¬ (46 : Int32) ≤ nI n from nI_ge (b := 46) h3 (by omega)), if_neg g]
          rfl
        · refine b1 rfl ?_
          rw [ie1, if_neg (by intro q; rw [q] at e3; exact absurd e3 (by decide)), if_neg g]
        · refine ⟨n + 1, by omega, nI_1 n, nI_1 n, fun j hj2 => ?_⟩
          rw [nI_clamp (by omega)]
          by_cases e : j = n
          · subst e; rw [pk_us, pk_us]
          · rw [pk_un e, pk_un e]; exact hj j (by omega)
      · have e : n = 46 := by omega
        subst e
        refine ⟨-10000000000005, nI 46, le, nI 46, pa, ?_, ?_, hJ⟩
        · rw [if_neg (by decide)]
        · rfl
    · refine ⟨-10000000000003, nI n, le, nI n, pa, ?_, ?_, hJ⟩
      · rw [if_neg h2]
      · rw [within_0 (Or.inr (by rw [i_lt]; rw [i_le] at h2; omega))]; rfl
theorem m_blank {pl pl2 : Int32} {le pa : Nat → Int32} (h : JP pl le pl2 pa) : ∃ (r : Int64) (q1 q3 : Int32), F_X4_blank pl = some (r, q1) ∧ F_X5_blank pl2 = some (r, q3) ∧ JP q1 le q3 pa := by
  obtain ⟨n, hn, rfl, rfl, hj⟩ := h
  exact ⟨_, _, _, rfl, rfl, 0, by omega, rfl, rfl, fun j h => absurd h (Nat.not_lt_zero j)⟩
theorem m_has {o : Nat} (ho : o ≤ 3) {ce to : Nat → Int32} (h : JT o ce to) (a : Int32) : ∃ r : Int64, F_X4_has a (nI o) ce = some r ∧ F_X5_has a (nI o) to = some r := by
  unfold F_X4_has F_X5_has
  rcases there_spec ho a with ⟨h1, h2⟩ | ⟨k, hk, ht, rfl, h1, h2⟩
  · exact ⟨_, b1 h1 ie0, b1 h2 ie0⟩
  · have g : ¬ (nI k < 0 ∨ 15 ≤ (nI k).toNatClampNeg) := nI_in hk (by omega)
    refine ⟨(ce k).toInt64, b1 h1 ?_, b1 h2 ?_⟩
    · rw [ie1, if_neg g, nI_clamp (by omega)]
    · rw [ie1, if_neg g, nI_clamp (by omega), (h k hk).1]
theorem toI64 (x : Int32) : x.toInt64.toInt = x.toInt := by simp
theorem m_start {o : Nat} (ho : o ≤ 3) {st sa : Nat → Int64} (h : JS o st sa) (pn : Int32) (a v : Int32) : ∃ (r : Int64) (q1 : Int32) (q2 q3 : Nat → Int64), F_X4_start a v pn (nI o) st = some (r, q1, q2) ∧ F_X5_start a v (nI o) sa = some (r, q3) ∧ JS o q2 q3 ∧ (q1 = 0 ∨ (q1 = pn ∧ q2 = st)) := by
  unfold F_X4_start F_X5_start
  rcases place_spec ho a with ⟨h1, h2⟩ | ⟨k, hk, rfl, h1, h2⟩
  · exact ⟨_, _, _, _, b1 h1 ie0, b1 h2 ie0, h, Or.inr ⟨rfl, rfl⟩⟩
  · have g : ¬ (nI k < 0 ∨ 3 ≤ (nI k).toNatClampNeg) := nI_in (by omega) (by omega)
    by_cases v1 : v < -20
    · refine ⟨-10000000000003, pn, st, sa, b1 h1 ?_, b1 h2 ?_, h, Or.inr ⟨rfl, rfl⟩⟩
      · rw [ie1, if_pos v1]
      · rw [ie1]; exact b1 (within_0 (Or.inl v1)) ie0
    · by_cases v2 : v ≤ 20
      · have v1' : (-20 : Int32) ≤ v := by rw [i_le]; rw [i_lt] at v1; omega
        refine ⟨st k, 0, vp_updL st k v.toInt64, vp_updL sa k v.toInt64, b1 h1 ?_, b1 h2 ?_, ?_, Or.inl rfl⟩
        · rw [ie1, if_neg v1, if_pos v2, if_neg g, if_neg g, nI_clamp (by omega)]
        · rw [ie1]; refine b1 (within_1 v1' v2) ?_
          rw [ie1, if_neg g, if_neg g, nI_clamp (by omega), (h k (by omega)).1]
        · intro j hj
          by_cases e : j = k
          · subst e
            rw [pk_uLs, pk_uLs]
            have e1 := toI64 v
            rw [i_le] at v1' v2
            have e2 : (-20 : Int32).toInt = -20 := rfl
            have e3 : (20 : Int32).toInt = 20 := rfl
            exact ⟨rfl, by omega, by omega, fun q => by omega⟩
          · rw [pk_uLn e, pk_uLn e]; exact h j hj
      · refine ⟨-10000000000003, pn, st, sa, b1 h1 ?_, b1 h2 ?_, h, Or.inr ⟨rfl, rfl⟩⟩
        · rw [ie1, if_neg v1, if_neg v2]
        · rw [ie1]; exact b1 (within_0 (Or.inr (by rw [i_lt]; rw [i_le] at v2; omega))) ie0
def JL (a b : Int32) : Prop := b = a ∧ 1 ≤ a.toInt ∧ a.toInt ≤ 5
theorem m_limit {li li2 : Int32} (h : JL li li2) (pn a : Int32) : ∃ (r : Int64) (q1 q2 q3 : Int32), F_X4_limit a li pn = some (r, q1, q2) ∧ F_X5_limit a li2 = some (r, q3) ∧ JL q1 q3 ∧ (q2 = 0 ∨ (q2 = pn ∧ q1 = li)) := by
  obtain ⟨rfl, h1, h2⟩ := h
  unfold F_X4_limit F_X5_limit
  by_cases v1 : a < 1
  · refine ⟨_, _, _, _, if_pos v1, ?_, ⟨rfl, h1, h2⟩, Or.inr ⟨rfl, rfl⟩⟩
    rw [within_0 (Or.inl v1)]; rfl
  · rw [if_neg v1]
    by_cases v2 : a ≤ 5
    · have v1' : (1 : Int32) ≤ a := by rw [i_le]; rw [i_lt] at v1; omega
      refine ⟨_, _, _, _, if_pos v2, ?_, ⟨rfl, ?_, ?_⟩, Or.inl rfl⟩
      · rw [within_1 v1' v2]; rfl
      · rw [i_le] at v1'; exact v1'
      · rw [i_le] at v2; exact v2
    · refine ⟨_, _, _, _, if_neg v2, ?_, ⟨rfl, h1, h2⟩, Or.inr ⟨rfl, rfl⟩⟩
      rw [within_0 (Or.inr (by rw [i_lt]; rw [i_le] at v2; omega))]; rfl
theorem m_count (a li pr tg or_ pl : Int32) : ∃ r : Int64, F_X4_count a li pr tg or_ pl = some r ∧ F_X5_count a pl or_ li pr tg = some r := by
  unfold F_X4_count F_X5_count F_X5_howMany
  by_cases h0 : a = 0
  · subst h0; exact ⟨_, rfl, rfl⟩
  by_cases h1 : a = 1
  · subst h1; exact ⟨_, rfl, rfl⟩
  by_cases h2 : a = 2
  · subst h2; exact ⟨_, rfl, rfl⟩
  by_cases h3 : a = 3
  · subst h3; exact ⟨_, rfl, rfl⟩
  by_cases h4 : a = 4
  · subst h4; exact ⟨_, rfl, rfl⟩
  refine ⟨-10000000000003, ?_, ?_⟩
  · rw [if_neg h0, if_neg h1, if_neg h2, if_neg h3, if_neg h4]
  · rw [if_neg h0, if_neg h1, if_neg h2, if_neg h3, if_neg h4]; rfl
