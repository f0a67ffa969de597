/-! plans: the model -/
theorem gi_go {o : Nat} (ho : o ≤ 3) {to : Nat → Int32} (hz : ZT o to) (S : Nat → Int) (sa : Nat → Int64) {T : Nat} (hT : T ≤ 6) {inp : Nat → Int32} {u : Nat → Int} (hu : ∀ i, i < T → inp i = Int32.ofInt (u i) ∧ -5 ≤ u i ∧ u i ≤ 5) : ∀ (m k f : Nat) (tr nx : Nat → Int64), k + m = T → m < f → rpo o tr (es to S u k) → ∃ tr2 nx2, F_X5_goInputs_6 f (nI T) (nI k) (nI o) tr sa inp nx to = some (tr2, nx2) ∧ rpo o tr2 (es to S u T) := by
  intro m
  induction m with
  | zero =>
    intro k f tr nx hk hf hr
    obtain ⟨f, rfl⟩ : ∃ q, f = q + 1 := ⟨f - 1, by omega⟩
    have e : k = T := by omega
    subst e
    exact ⟨tr, nx, by rw [F_X5_goInputs_6, if_pos (nI_le (Nat.le_refl _) (by omega))], hr⟩
  | succ m ih =>
    intro k f tr nx hk hf hr
    obtain ⟨f, rfl⟩ : ∃ q, f = q + 1 := ⟨f - 1, by omega⟩
    obtain ⟨hi, u1, u2⟩ := hu k (by omega)
    obtain ⟨nx1, tr1, e1, h1⟩ := mgo_ev ho hz nx (u k) hr
    obtain ⟨tr2, nx2, e2, h2⟩ := ih (k + 1) f tr1 nx1 (by omega) (by omega) h1
    refine ⟨tr2, nx2, ?_, h2⟩
    rw [F_X5_goInputs_6, if_neg (nI_ge (by omega) (by omega)), if_neg (in6 (by omega)), clk (by omega), hi, iO_64 (by omega) (by omega), nI_1]
    exact b2 e1 e2
theorem gi_ev {o : Nat} (ho : o ≤ 3) {to : Nat → Int32} (hz : ZT o to) {S : Nat → Int} {sa : Nat → Int64} (hS : rpo o sa S) {T : Nat} (hT : T ≤ 6) {inp : Nat → Int32} {u : Nat → Int} (hu : ∀ i, i < T → inp i = Int32.ofInt (u i) ∧ -5 ≤ u i ∧ u i ≤ 5) (tr nx : Nat → Int64) : ∃ tr2 nx2, F_X5_goInputs (nI T) (nI o) tr sa inp nx to = some (tr2, nx2) ∧ rpo o tr2 (es to S u T) := by
  obtain ⟨t1, e1, h1⟩ := try_ev ho tr sa
  obtain ⟨tr2, nx2, e2, h2⟩ := gi_go ho hz S sa hT hu T 0 3000 t1 nx (by omega) (by omega) (fun k hk => by rw [h1 k hk]; exact hS k hk)
  refine ⟨tr2, nx2, ?_, h2⟩
  unfold F_X5_goInputs
  exact b1 e1 e2
theorem es_end (to : Nat → Int32) (S u : Nat → Int) (n : Nat) : ∀ k, k < 3 → es to S u n k = yv to S n u n k := fun k hk => es_yv to S u n 0 k hk
theorem yv_z {o : Nat} {to : Nat → Int32} (hz : ZT o to) {S : Nat → Int} (hS : ∀ k, k < 3 → o ≤ k → S k = 0) (n : Nat) (u : Nat → Int) : ∀ (f k : Nat), k < 3 → o ≤ k → yv to S n u f k = 0
  | 0, k, hk, h => gn_z hz false hS n hk h
  | f + 1, k, hk, h => by
    show yv to S n u f k + u f * _ = 0
    rw [yv_z hz hS n u f k hk h, Rw_z hz false _ hk h]; simp
theorem ir_go {o : Nat} (ho : o ≤ 3) {tr : Nat → Int64} {v : Nat → Int} (hv : rpo o tr v) (hb : ∀ k, k < o → -9000000000000000000 ≤ v k ∧ v k ≤ 9000000000000000000) : ∀ (m k f : Nat) (l : Int32), k + m = o → m < f → (l = 0 ∨ l = 1) → (F_X5_isRest_4 f l (nI k) (nI o) tr = some 1 ∧ l = 1 ∧ ∀ j, k ≤ j → j < o → v j = 0) ∨ (F_X5_isRest_4 f l (nI k) (nI o) tr = some 0 ∧ (l = 0 ∨ ¬ ∀ j, k ≤ j → j < o → v j = 0)) := by
  intro m
  induction m with
  | zero =>
    intro k f l hk hf hl
    obtain ⟨f, rfl⟩ : ∃ q, f = q + 1 := ⟨f - 1, by omega⟩
    rw [F_X5_isRest_4, if_pos (nI_le (by omega) (by omega))]
    rcases hl with rfl | rfl
    · exact Or.inr ⟨rfl, Or.inl rfl⟩
    · exact Or.inl ⟨rfl, rfl, fun j a b => by omega⟩
  | succ m ih =>
    intro k f l hk hf hl
    obtain ⟨f, rfl⟩ : ∃ q, f = q + 1 := ⟨f - 1, by omega⟩
    rw [F_X5_isRest_4, if_neg (nI_ge (by omega) (by omega))]
    rcases hl with rfl | rfl
    · rw [ie0]
      unfold F_X5_isRest_31 F_X5_isRest_32
      rw [nI_1]
      rcases ih (k + 1) f 0 (by omega) (by omega) (Or.inl rfl) with ⟨-, h, -⟩ | ⟨e, -⟩
      · exact absurd h (by decide)
      · exact Or.inr ⟨e, Or.inl rfl⟩
    · rw [ie1, if_neg (in3 (by omega)), clk (by omega), hv k (by omega)]
      have hc := cmp0 (hb k (by omega)).1 (hb k (by omega)).2
      by_cases c : v k = 0
      · rw [if_pos (hc.mpr c)]
        unfold F_X5_isRest_32
        rw [nI_1]
        rcases ih (k + 1) f 1 (by omega) (by omega) (Or.inr rfl) with ⟨e, -, h⟩ | ⟨e, h⟩
        · refine Or.inl ⟨e, rfl, fun j a b => ?_⟩
          by_cases d : j = k
          · rw [d]; exact c
          · exact h j (by omega) b
        · refine Or.inr ⟨e, Or.inr (fun q => ?_)⟩
          rcases h with h | h
          · exact absurd h (by decide)
          · exact h (fun j a b => q j (by omega) b)
      · rw [if_neg (fun q => c (hc.mp q))]
        unfold F_X5_isRest_31 F_X5_isRest_32
        rw [nI_1]
        rcases ih (k + 1) f 0 (by omega) (by omega) (Or.inl rfl) with ⟨-, h, -⟩ | ⟨e, -⟩
        · exact absurd h (by decide)
        · exact Or.inr ⟨e, Or.inr (fun q => c (q k (by omega) (by omega)))⟩
theorem ir_ev {o : Nat} (ho : o ≤ 3) {tr : Nat → Int64} {v : Nat → Int} (hv : rpo o tr v) (hb : ∀ k, k < o → -9000000000000000000 ≤ v k ∧ v k ≤ 9000000000000000000) : (F_X5_isRest (nI o) tr = some 1 ∧ ∀ j, j < o → v j = 0) ∨ (F_X5_isRest (nI o) tr = some 0 ∧ ¬ ∀ j, j < o → v j = 0) := by
  rcases ir_go ho hv hb o 0 3000 1 (by omega) (by omega) (Or.inr rfl) with ⟨e, -, h⟩ | ⟨e, h⟩
  · exact Or.inl ⟨e, fun j hj => h j (by omega) hj⟩
  · refine Or.inr ⟨e, fun q => ?_⟩
    rcases h with h | h
    · exact absurd h (by decide)
    · exact h (fun j _ b => q j b)
theorem la_5 (l1 l2 l3 or_ : Int32) (wa go rows : Nat → Int64) : ∀ (m k f : Nat) (en' : Nat → Int64), k + m = 9 → m < f → (∀ j, j < k → en' j = if j / 3 = j % 3 then 1 else 0) → ∃ e2, F_X5_layAsked_5 f l1 l2 l3 (nI k) or_ en' wa go rows = F_X5_layAsked_44 3000 l1 l2 l3 0 or_ e2 wa go rows ∧ ∀ j, j < 9 → e2 j = if j / 3 = j % 3 then 1 else 0 := by
  intro m
  induction m with
  | zero =>
    intro k f e' hk hf h
    obtain ⟨f, rfl⟩ : ∃ q, f = q + 1 := ⟨f - 1, by omega⟩
    exact ⟨e', by rw [F_X5_layAsked_5, if_pos (show (9 : Int32) ≤ nI k from nI_le (a := 9) (by omega) (by omega))], fun j hj => h j (by omega)⟩
  | succ m ih =>
    intro k f e' hk hf h
    obtain ⟨f, rfl⟩ : ∃ q, f = q + 1 := ⟨f - 1, by omega⟩
    obtain ⟨e2, e, h2⟩ := ih (k + 1) f (vp_updL e' k (if k / 3 = k % 3 then 1 else 0)) (by omega) (by omega) (fun j hj => by
      show (if j = k then _ else e' j) = _
      by_cases c : j = k
      · rw [if_pos c, c]
      · rw [if_neg c]; exact h j (by omega))
    refine ⟨e2, ?_, h2⟩
    have d1 : nI k / 3 = nI (k / 3) := nI_div (b := 3) (by omega) (by omega)
    have d2 : nI k - nI (k / 3) * 3 = nI (k % 3) := by rw [← d1]; exact nI_rest (b := 3) (by omega) (by omega)
    rw [F_X5_layAsked_5, if_neg (show ¬ (9 : Int32) ≤ nI k from nI_ge (b := 9) (by omega) (by omega)), d1, d2]
    unfold F_X5_layAsked_34
    by_cases c : k / 3 = k % 3
    · rw [if_pos (by rw [c]), if_neg (in9 (by omega)), clk (by omega), nI_1]
      rw [if_pos c] at e
      exact e
    · rw [if_neg (fun q => c (nI_inj3 (by omega) (by omega) q)), if_neg (in9 (by omega)), clk (by omega), nI_1]
      rw [if_neg c] at e
      exact e
theorem la_44 (l1 l2 l3 or_ : Int32) (en' go rows : Nat → Int64) : ∀ (m k f : Nat) (wa : Nat → Int64), k + m = 3 → m < f → (∀ j, j < k → wa j = 0) → ∃ w2, F_X5_layAsked_44 f l1 l2 l3 (nI k) or_ en' wa go rows = F_X5_layAsked_67 3000 l1 l2 l3 0 or_ en' w2 go rows ∧ ∀ j, j < 3 → w2 j = 0 := by
  intro m
  induction m with
  | zero =>
    intro k f wa hk hf h
    obtain ⟨f, rfl⟩ : ∃ q, f = q + 1 := ⟨f - 1, by omega⟩
    exact ⟨wa, by rw [F_X5_layAsked_44, if_pos (show (3 : Int32) ≤ nI k from nI_le (a := 3) (by omega) (by omega))], fun j hj => h j (by omega)⟩
  | succ m ih =>
    intro k f wa hk hf h
    obtain ⟨f, rfl⟩ : ∃ q, f = q + 1 := ⟨f - 1, by omega⟩
    obtain ⟨w2, e, h2⟩ := ih (k + 1) f (vp_updL wa k 0) (by omega) (by omega) (fun j hj => by
      show (if j = k then _ else wa j) = _
      by_cases c : j = k
      · rw [if_pos c]
      · rw [if_neg c]; exact h j (by omega))
    refine ⟨w2, ?_, h2⟩
    rw [F_X5_layAsked_44, if_neg (nle3 (by omega)), if_neg (in3 (by omega)), clk (by omega), nI_1]
    exact e
def EM (R : Nat → Nat → Int) (many : Nat) (P : Nat → Nat) (g r j : Nat) : Int := if r < many ∧ j < g then R (many - 1 - r) (P j) else if r = j then 1 else 0
def WV (y : Nat → Int) (P : Nat → Nat) (g j : Nat) : Int := if j < g then -(y (P j)) else 0
def uP (P : Nat → Nat) (g p j : Nat) : Nat := if j = g then p else P j
theorem la_94 {o many : Nat} (ho : o ≤ 3) (hm : many ≤ o) {R : Nat → Nat → Int} {rows : Nat → Int64} (hr : rm9 rows (RM R o)) {go : Nat → Int64} {y : Nat → Int} (hgo : rpo o go y) {p g : Nat} (hp : p < o) (hg : g < many) (P : Nat → Nat) (l1 : Int32) (k67 : Int32 → Int32 → Int32 → Int32 → Int32 → (Nat → Int64) → (Nat → Int64) → (Nat → Int64) → (Nat → Int64) → Option (Int32 × (Nat → Int64) × (Nat → Int64))) {wa : Nat → Int64} (hw : rp wa (WV y P g)) : ∀ (m k f : Nat) (en' : Nat → Int64), k + m = many → m < f → rm9 en' (fun r j => if j = g ∧ r < k then R (many - 1 - r) p else EM R many P g r j) → ∃ e2 w2, F_X5_layAsked_94 k67 f l1 (nI many) (nI g) (nI p) (nI k) (nI o) en' wa go rows = k67 l1 (nI many) (nI (g + 1)) (nI (p + 1)) (nI o) e2 w2 go rows ∧ rm9 e2 (EM R many (uP P g p) (g + 1)) ∧ rp w2 (WV y (uP P g p) (g + 1)) := by
  intro m
  induction m with
  | zero =>
    intro k f e' hk hf he
    obtain ⟨f, rfl⟩ : ∃ q, f = q + 1 := ⟨f - 1, by omega⟩
    have ek : k = many := by omega
    subst ek
    refine ⟨e', vp_updL wa g (-(go p)), ?_, ?_, ?_⟩
    · rw [F_X5_layAsked_94, if_pos (nI_le (Nat.le_refl _) (by omega)), if_neg (in3 (by omega)), if_neg (in3 (by omega)), clk (by omega), clk (by omega)]
      unfold F_X5_layAsked_150
      rw [nI_1, nI_1]
    · intro r j hr' hj
      rw [he r j hr' hj]
      congr 1
      show (if j = g ∧ r < k then _ else (if r < k ∧ j < g then _ else _)) = (if r < k ∧ j < g + 1 then R (k - 1 - r) (uP P g p j) else _)
      unfold uP
      by_cases c : j = g ∧ r < k
      · rw [if_pos c, if_pos (show r < k ∧ j < g + 1 by omega), if_pos c.1]
      · rw [if_neg c]
        by_cases d : r < k ∧ j < g
        · rw [if_pos d, if_pos (show r < k ∧ j < g + 1 by omega), if_neg (by omega)]
        · rw [if_neg d, if_neg (show ¬ (r < k ∧ j < g + 1) by omega)]
    · refine rp.of (fun j hj => ?_)
      show (if j = g then -(go p) else wa j) = Int64.ofInt (if j < g + 1 then -(y (if j = g then p else P j)) else 0)
      by_cases c : j = g
      · rw [if_pos c, if_pos (by omega), if_pos c, hgo p hp, o_neg]
      · rw [if_neg c, hw.at hj]
        show Int64.ofInt (if j < g then _ else 0) = _
        by_cases d : j < g
        · rw [if_pos d, if_pos (show j < g + 1 by omega), if_neg c]
        · rw [if_neg d, if_neg (by omega)]
  | succ m ih =>
    intro k f e' hk hf he
    obtain ⟨f, rfl⟩ : ∃ q, f = q + 1 := ⟨f - 1, by omega⟩
    have ei : nI many - 1 - nI k = nI (many - 1 - k) := by rw [show (1 : Int32) = nI 1 from rfl, nIs (by omega), nIs (by omega)]
    rw [F_X5_layAsked_94, if_neg (nI_ge (by omega) (by omega)), ei, ix3, ix3, if_neg (in9 (by omega)), if_neg (in9 (by omega)), clk (by omega), clk (by omega), nI_1, hr (many - 1 - k) p (by omega) (by omega)]
    refine ih (k + 1) f _ (by omega) (by omega) ?_
    intro r j hr' hj
    show (if 3 * r + j = 3 * k + g then _ else e' (3 * r + j)) = _
    by_cases c : r = k ∧ j = g
    · obtain ⟨rfl, rfl⟩ := c
      rw [if_pos rfl]
      show _ = Int64.ofInt (if j = j ∧ r < r + 1 then _ else _)
      rw [if_pos ⟨rfl, by omega⟩]
      unfold RM
      rw [if_pos ⟨by omega, by omega⟩]
    · rw [if_neg (by omega), he r j hr' hj]
      show Int64.ofInt (if j = g ∧ r < k then _ else _) = Int64.ofInt (if j = g ∧ r < k + 1 then _ else _)
      by_cases d : j = g ∧ r < k
      · rw [if_pos d, if_pos (show j = g ∧ r < k + 1 by omega)]
      · rw [if_neg d, if_neg (show ¬ (j = g ∧ r < k + 1) by omega)]
def pk (set many : Nat) : Nat → Nat → Nat → (Nat → Nat) → Nat × (Nat → Nat)
  | 0, _, g, P => (g, P)
  | m + 1, p, g, P => if set / 2 ^ p % 2 = 1 ∧ g < many then pk set many m (p + 1) (g + 1) (uP P g p) else pk set many m (p + 1) g P
theorem bit_tab : ∀ set, set < 8 → ∀ p, p < 3 → (((nI set >>> (nI p &&& 31)) &&& (1 : Int32)) = (1 : Int32) ↔ set / 2 ^ p % 2 = 1) := by decide +kernel
theorem la_67 {o many set : Nat} (ho : o ≤ 3) (hm : many ≤ o) (hset : set < 8) {R : Nat → Nat → Int} {rows : Nat → Int64} (hr : rm9 rows (RM R o)) {go : Nat → Int64} {y : Nat → Int} (hgo : rpo o go y) : ∀ (m p f g : Nat) (P : Nat → Nat) (en' wa : Nat → Int64), p + m = o → m < f → g ≤ many → (∀ j, j < g → P j < o) → rm9 en' (EM R many P g) → rp wa (WV y P g) → ∃ e2 w2, F_X5_layAsked_67 f (nI set) (nI many) (nI g) (nI p) (nI o) en' wa go rows = F_X5_layAsked_67 1 (nI set) (nI many) (nI (pk set many m p g P).1) (nI o) (nI o) e2 w2 go rows ∧ (pk set many m p g P).1 ≤ many ∧ (∀ j, j < (pk set many m p g P).1 → (pk set many m p g P).2 j < o) ∧ rm9 e2 (EM R many (pk set many m p g P).2 (pk set many m p g P).1) ∧ rp w2 (WV y (pk set many m p g P).2 (pk set many m p g P).1) := by
  intro m
  induction m with
  | zero =>
    intro p f g P e' wa hp hf hg hP he hw
    obtain ⟨f, rfl⟩ : ∃ q, f = q + 1 := ⟨f - 1, by omega⟩
    have e : p = o := by omega
    subst e
    refine ⟨e', wa, ?_, hg, hP, he, hw⟩
    show _ = F_X5_layAsked_67 (0 + 1) (nI set) (nI many) (nI g) (nI p) (nI p) e' wa go rows
    rw [F_X5_layAsked_67, F_X5_layAsked_67, if_pos (nI_le (Nat.le_refl _) (by omega)), if_pos (nI_le (Nat.le_refl _) (by omega))]
  | succ m ih =>
    intro p f g P e' wa hp hf hg hP he hw
    obtain ⟨f, rfl⟩ : ∃ q, f = q + 1 := ⟨f - 1, by omega⟩
    have hbit := bit_tab set hset p (by omega)
    by_cases c : set / 2 ^ p % 2 = 1 ∧ g < many
    · have epk : pk set many (m + 1) p g P = pk set many m (p + 1) (g + 1) (uP P g p) := if_pos c
      rw [epk]
      obtain ⟨e1, w1, ee, he1, hw1⟩ := la_94 ho hm hr hgo (p := p) (g := g) (by omega) c.2 P (nI set) (fun l1 l2 l3 l4 v_order v_ends v_wanted v_goal v_rows => F_X5_layAsked_67 f l1 l2 l3 l4 v_order v_ends v_wanted v_goal v_rows) hw many 0 3000 e' (by omega) (by omega) (fun r j hr' hj => by
        rw [he r j hr' hj]
        show _ = Int64.ofInt (if j = g ∧ r < 0 then _ else _)
        rw [if_neg (by omega)])
      obtain ⟨e2, w2, e3, h3⟩ := ih (p + 1) f (g + 1) (uP P g p) e1 w1 (by omega) (by omega) (by omega) (fun j hj => by
        unfold uP
        by_cases d : j = g
        · rw [if_pos d]; omega
        · rw [if_neg d]; exact hP j (by omega)) he1 hw1
      refine ⟨e2, w2, ?_, h3⟩
      rw [← e3, F_X5_layAsked_67, if_neg (nI_ge (by omega) (by omega)), if_pos (hbit.mpr c.1), if_neg (nI_ge (by omega) (by omega))]
      exact ee
    · have epk : pk set many (m + 1) p g P = pk set many m (p + 1) g P := if_neg c
      rw [epk]
      obtain ⟨e2, w2, e3, h3⟩ := ih (p + 1) f g P e' wa (by omega) (by omega) hg hP he hw
      refine ⟨e2, w2, ?_, h3⟩
      rw [← e3, F_X5_layAsked_67, if_neg (nI_ge (by omega) (by omega))]
      by_cases d : set / 2 ^ p % 2 = 1
      · rw [if_pos (hbit.mpr d), if_pos (nI_le (by omega) (by omega))]
        unfold F_X5_layAsked_150
        rw [nI_1]
      · rw [if_neg (fun q => d (hbit.mp q))]
        unfold F_X5_layAsked_150
        rw [nI_1]
def Pk (o many set : Nat) : Nat × (Nat → Nat) := pk set many o 0 0 (fun _ => 0)
def Suc (R : Nat → Nat → Int) (o many set : Nat) : Prop := (Pk o many set).1 = many ∧ DT (EM R many (Pk o many set).2 many 0) (EM R many (Pk o many set).2 many 1) (EM R many (Pk o many set).2 many 2) ≠ 0
theorem EM_bd {R : Nat → Nat → Int} (d0 : Bd 2 (R 0)) (d1 : Bd 12 (R 1)) (d2 : Bd 72 (R 2)) {many o : Nat} (hm : many ≤ 3) (ho : o ≤ 3) {P : Nat → Nat} (hP : ∀ j, j < many → P j < o) : ∀ r, r < 3 → Bd (if many - 1 - r = 0 then 2 else if many - 1 - r = 1 then 12 else 72) (EM R many P many r) := by
  intro r hr k hk
  unfold EM
  by_cases c : r < many ∧ k < many
  · have hp := hP k c.2
    rw [if_pos c]
    rcases (show many - 1 - r = 0 ∨ many - 1 - r = 1 ∨ many - 1 - r = 2 by omega) with e | e | e
    · rw [e, if_pos rfl]; exact d0 _ (by omega)
    · rw [e, if_neg (by omega), if_pos rfl]; exact d1 _ (by omega)
    · rw [e, if_neg (by omega), if_neg (by omega)]; exact d2 _ (by omega)
  · rw [if_neg c]
    split <;> split <;> (try split) <;> omega
theorem la_ev {o many set : Nat} (ho : o ≤ 3) (h1 : 1 ≤ many) (hm : many ≤ o) (hset : set < 8) {R : Nat → Nat → Int} (d0 : Bd 2 (R 0)) (d1 : Bd 12 (R 1)) (d2 : Bd 72 (R 2)) {rows : Nat → Int64} (hr : rm9 rows (RM R o)) {go : Nat → Int64} {y : Nat → Int} (hgo : rpo o go y) (en' wa : Nat → Int64) : ∃ e2 w2, (Suc R o many set ∧ (∀ j, j < many → (Pk o many set).2 j < o) ∧ F_X5_layAsked (nI set) (nI many) (nI o) en' wa go rows = some (1, e2, w2) ∧ rm9 e2 (EM R many (Pk o many set).2 many) ∧ rp w2 (WV y (Pk o many set).2 many)) ∨ (¬ Suc R o many set ∧ F_X5_layAsked (nI set) (nI many) (nI o) en' wa go rows = some (0, e2, w2)) := by
  obtain ⟨ea, e1, ha⟩ := la_5 (nI set) (nI many) 0 (nI o) wa go rows 9 0 3000 en' (by omega) (by omega) (fun j hj => by omega)
  obtain ⟨wb, e2, hb⟩ := la_44 (nI set) (nI many) 0 (nI o) ea go rows 3 0 3000 wa (by omega) (by omega) (fun j hj => by omega)
  obtain ⟨ec, wc, e3, hg, hP, hE, hW⟩ := la_67 ho hm hset hr hgo o 0 3000 0 (fun _ => 0) ea wb (by omega) (by omega) (by omega) (fun j hj => by omega) (fun r j hr' hj => by
    rw [ha (3 * r + j) (by omega)]
    show _ = Int64.ofInt (if r < many ∧ j < 0 then _ else if r = j then 1 else 0)
    rw [if_neg (show ¬ (r < many ∧ j < 0) by omega), show (3 * r + j) / 3 = r by omega, show (3 * r + j) % 3 = j by omega]
    split <;> rfl) (rp.of (fun j hj => by
      rw [hb j hj]
      show _ = Int64.ofInt (if j < 0 then _ else 0)
      rw [if_neg (by omega)]; rfl))
  have eall : F_X5_layAsked (nI set) (nI many) (nI o) en' wa go rows = F_X5_layAsked_67 1 (nI set) (nI many) (nI (Pk o many set).1) (nI o) (nI o) ec wc go rows := by
    unfold F_X5_layAsked
    rw [show nI 0 = (0 : Int32) from rfl] at e1 e2 e3
    rw [e1, e2, e3]; rfl
  refine ⟨ec, wc, ?_⟩
  rw [eall, show (1 : Nat) = 0 + 1 from rfl, F_X5_layAsked_67, if_pos (nI_le (Nat.le_refl _) (by omega))]
  change (Pk o many set).1 ≤ many at hg
  change (∀ j, j < (Pk o many set).1 → (Pk o many set).2 j < o) at hP
  change rm9 ec (EM R many (Pk o many set).2 (Pk o many set).1) at hE
  change rp wc (WV y (Pk o many set).2 (Pk o many set).1) at hW
  by_cases c : (Pk o many set).1 = many
  · rw [c] at hP hE hW
    rw [c, if_pos rfl, det3 hE]
    have hbd := EM_bd d0 d1 d2 (show many ≤ 3 by omega) ho hP
    have hb72 : ∀ r, r < 3 → Bd 72 (EM R many (Pk o many set).2 many r) := fun r hr' => (hbd r hr').mono (by split <;> (try split) <;> omega)
    have hdt := DT_bd (hb72 0 (by omega)) (hb72 1 (by omega)) (hb72 2 (by omega))
    have hc := cmp0 (z := DT (EM R many (Pk o many set).2 many 0) (EM R many (Pk o many set).2 many 1) (EM R many (Pk o many set).2 many 2)) (by omega) (by omega)
    by_cases d : DT (EM R many (Pk o many set).2 many 0) (EM R many (Pk o many set).2 many 1) (EM R many (Pk o many set).2 many 2) = 0
    · exact Or.inr ⟨fun q => q.2 d, b1 rfl (if_pos (hc.mpr d))⟩
    · exact Or.inl ⟨⟨c, d⟩, hP, b1 rfl (if_neg (fun q => d (hc.mp q))), hE, hW⟩
  · rw [if_neg (fun q => c (nI_inj3 (by omega) (by omega) q))]
    exact Or.inr ⟨fun q => c q.1, rfl⟩
