/-! digest: rows and gains -/
def hs (v : Nat → Int64) : Nat → Nat → Int64 → Int64
  | 0, _, h => h
  | m + 1, k, h => hs v m (k + 1) (31 * h + v k)
theorem hs_cg {v w : Nat → Int64} : ∀ (m k : Nat) (h : Int64), (∀ j, k ≤ j → j < k + m → v j = w j) → hs v m k h = hs w m k h
  | 0, _, _, _ => rfl
  | m + 1, k, h, q => by
    show hs v m (k + 1) (31 * h + v k) = hs w m (k + 1) (31 * h + w k)
    rw [q k (by omega) (by omega)]
    exact hs_cg m (k + 1) _ (fun j a b => q j (by omega) (by omega))
theorem wr_ev {o : Nat} (h1 : 1 ≤ o) (ho : o ≤ 3) (h : Int64) (r0 r1 r2 : Nat → Int64) : F_X4_withRows h (nI o) r0 r1 r2 = some (hs (fun k => selS r0 r1 r2 (k / o) (k % o)) (o * o) 0 h) := by
  rcases (show o = 1 ∨ o = 2 ∨ o = 3 by omega) with rfl | rfl | rfl <;> rfl
theorem mr_step {o : Nat} (h1 : 1 ≤ o) (ho : o ≤ 3) {k : Nat} (hk : k < o * o) (n : Nat) (h : Int64) (f : Nat → Int64) (to : Nat → Int32) : F_X5_mixRows_7 (n + 1) (nI k) (nI o) h f to = F_X5_mixRows_7 n (nI (k + 1)) (nI o) (31 * h + f (3 * (k / o) + k % o)) f to := by
  have hoo : o * o ≤ 9 := Nat.mul_le_mul ho ho
  have hd : k / o < o := Nat.div_lt_of_lt_mul hk
  have hm : k % o < o := Nat.mod_lt _ h1
  rw [F_X5_mixRows_7, nI_mulN, if_neg (nI_ge hk (by omega)), if_neg (nI_ne0 h1 (by omega)), if_neg (nI_ne0 h1 (by omega)), nI_rest (by omega) (by omega), nI_div (by omega) (by omega), ix3, if_neg (in9 (by omega)), clk (by omega), nI_1]
  exact b1 (a := 31 * h + f (3 * (k / o) + k % o)) rfl rfl
theorem mr_go {o : Nat} (h1 : 1 ≤ o) (ho : o ≤ 3) (f : Nat → Int64) (to : Nat → Int32) : ∀ (m k n : Nat) (h : Int64), k + m = o * o → m < n → F_X5_mixRows_7 n (nI k) (nI o) h f to = some (hs (fun k => f (3 * (k / o) + k % o)) m k h, f) := by
  have hoo : o * o ≤ 9 := Nat.mul_le_mul ho ho
  intro m
  induction m with
  | zero =>
    intro k n h hk hn
    obtain ⟨n, rfl⟩ : ∃ q, n = q + 1 := ⟨n - 1, by omega⟩
    rw [F_X5_mixRows_7, nI_mulN, if_pos (nI_le (by omega) (by omega))]
    rfl
  | succ m ih =>
    intro k n h hk hn
    obtain ⟨n, rfl⟩ : ∃ q, n = q + 1 := ⟨n - 1, by omega⟩
    rw [mr_step h1 ho (by omega), ih (k + 1) n _ (by omega) (by omega)]
    rfl
theorem sel_rw {x : Bool} {ce : Nat → Int32} {r0 r1 r2 : Nat → Int64} (h0 : rp r0 (Rw x ce 0)) (h1 : rp r1 (Rw x ce 1)) (h2 : rp r2 (Rw x ce 2)) {r i : Nat} (hr : r < 3) (hi : i < 3) : selS r0 r1 r2 r i = Int64.ofInt (Rw x ce r i) := by
  obtain ⟨a0, a1, a2⟩ := h0
  obtain ⟨b0, b1, b2⟩ := h1
  obtain ⟨c0, c1, c2⟩ := h2
  rcases (show r = 0 ∨ r = 1 ∨ r = 2 by omega) with rfl | rfl | rfl <;> rcases (show i = 0 ∨ i = 1 ∨ i = 2 by omega) with rfl | rfl | rfl
  · exact a0
  · exact a1
  · exact a2
  · exact b0
  · exact b1
  · exact b2
  · exact c0
  · exact c1
  · exact c2
theorem rows_both (x : Bool) {o : Nat} (h1 : 1 ≤ o) (ho : o ≤ 3) {ce to : Nat → Int32} (hT : JT o ce to) {r0 r1 r2 : Nat → Int64} (e0 : rp r0 (Rw x ce 0)) (e1 : rp r1 (Rw x ce 1)) (e2 : rp r2 (Rw x ce 2)) (h : Int64) (rows : Nat → Int64) : ∃ h' f, F_X4_withRows h (nI o) r0 r1 r2 = some h' ∧ F_X5_mixRows (xI x) (nI o) h rows to = some (h', f) := by
  obtain ⟨f, e, hm⟩ := lay_ev x ho hT.zt rows
  refine ⟨_, f, wr_ev h1 ho h r0 r1 r2, ?_⟩
  unfold F_X5_mixRows
  refine b1 e ?_
  refine (mr_go h1 ho f to (o * o) 0 3000 h (by omega) ?_).trans ?_
  · have : o * o ≤ 9 := Nat.mul_le_mul ho ho
    omega
  · refine congrArg (fun z => some (z, f)) (hs_cg _ _ _ ?_)
    intro j _ hj
    have hd : j / o < o := Nat.div_lt_of_lt_mul (by omega)
    have hm' : j % o < o := Nat.mod_lt _ h1
    show f (3 * (j / o) + j % o) = selS r0 r1 r2 (j / o) (j % o)
    rw [hm (j / o) (j % o) (by omega) (by omega), sel_rw e0 e1 e2 (by omega) (by omega)]
    unfold RM
    rw [if_pos ⟨hd, hm'⟩, Rw_cg hT.eq x (j / o) (by omega)]
def GB (A : Option (Int64 × (Nat → Int64) × (Nat → Int64))) (B : Option (Int64 × Int64 × (Nat → Int64) × (Nat → Int64) × (Nat → Int64) × (Nat → Int64) × (Nat → Int64))) : Prop := ∃ h wy nx be rows go na ib sb, A = some (h, wy, nx) ∧ B = some (be, h, rows, go, na, ib, sb)
def GX (o : Nat) (ce to : Nat → Int32) (st sa : Nat → Int64) (rk rk' : Nat) (be4 be4' : Int64) (ga ga' : Nat → Int64) (x : Bool) : Prop := 1 ≤ o ∧ o ≤ 3 ∧ JT o ce to ∧ JS o st sa ∧ Ch o ce to rk rk' be4 be4' ga ga' ∧ (if x then rk' else rk) = o
theorem prt0 : F_X4_isPart 0 = some 1 := rfl
theorem prt1 : F_X4_isPart 1 = some 1 := rfl
theorem two_0 (s : Nat) : (2 * s) / 2 = s ∧ (2 * s) % 2 = 0 := by omega
theorem two_1 (s : Nat) : (2 * s + 1) / 2 = s ∧ (2 * s + 1) % 2 = 1 := by omega
theorem r2_step {o : Nat} (ho : o ≤ 3) (x : Bool) (to : Nat → Int32) (sa : Nat → Int64) {j : Nat} (hj : j < 2 * o) (n : Nat) (h : Int64) {be : Int64} {rows go na ib sb : Nat → Int64} {r be2 : Int64} {rows2 go2 na2 ib2 sb2 : Nat → Int64} (e : F_X5_gainNow (xI x) (nI (j / 2)) (nI (j % 2)) (nI o) be rows to go na ib sb = some (r, be2, rows2, go2, na2, ib2, sb2)) : F_X5_mixRest_2 (n + 1) (xI x) (nI j) (nI o) be h rows to go na ib sb sa = F_X5_mixRest_2 n (xI x) (nI (j + 1)) (nI o) be2 (31 * h + r) rows2 to go2 na2 ib2 sb2 sa := by
  rw [F_X5_mixRest_2, show (2 : Int32) = nI 2 from rfl, nI_mulN, if_neg (nI_ge hj (by omega)), nI_rest (a := j) (b := 2) (by omega) (by omega), nI_div (a := j) (b := 2) (by omega) (by omega), nI_1]
  exact b7 e (b1 (a := 31 * h + r) rfl rfl)
theorem r44_step {o : Nat} (to : Nat → Int32) (sa : Nat → Int64) {j : Nat} (hj : j < 6) (n : Nat) (h : Int64) {be : Int64} {rows go na ib sb : Nat → Int64} {r be2 : Int64} {rows2 go2 na2 ib2 sb2 : Nat → Int64} (e : F_X5_inputNow (nI (j / 2)) (nI (j % 2)) (nI o) be rows to go na ib sb sa = some (r, be2, rows2, go2, na2, ib2, sb2)) : F_X5_mixRest_44 (n + 1) (xI false) (nI j) (nI o) be h rows to go na ib sb sa = F_X5_mixRest_44 n (xI false) (nI (j + 1)) (nI o) be2 (31 * h + r) rows2 to go2 na2 ib2 sb2 sa := by
  rw [F_X5_mixRest_44, if_neg (show ¬ (6 : Int32) ≤ nI j from nI_ge (b := 6) hj (by omega)), if_pos (show xI false = 0 from rfl), show (2 : Int32) = nI 2 from rfl, nI_rest (a := j) (b := 2) (by omega) (by omega), nI_div (a := j) (b := 2) (by omega) (by omega), nI_1]
  exact b7 e (b1 (a := 31 * h + r) rfl rfl)
theorem r76_step {o : Nat} (h1 : 1 ≤ o) (ho : o ≤ 3) (x : Bool) (to : Nat → Int32) (sa : Nat → Int64) {j : Nat} (hj : j < 4 * o) (n : Nat) (h : Int64) {be : Int64} {rows go na ib sb : Nat → Int64} {r be2 : Int64} {rows2 go2 na2 ib2 sb2 : Nat → Int64} (e : F_X5_afterNow (xI x) (nI (1 + j / 2 / o)) (nI (j / 2 % o)) (nI (j % 2)) (nI o) be rows to go na ib sb sa = some (r, be2, rows2, go2, na2, ib2, sb2)) : F_X5_mixRest_76 (n + 1) (xI x) (nI j) (nI o) be h rows to go na ib sb sa = F_X5_mixRest_76 n (xI x) (nI (j + 1)) (nI o) be2 (31 * h + r) rows2 to go2 na2 ib2 sb2 sa := by
  rw [F_X5_mixRest_76, show (4 : Int32) = nI 4 from rfl, nI_mulN, if_neg (nI_ge hj (by omega)), if_neg (nI_ne0 h1 (by omega)), if_neg (nI_ne0 h1 (by omega)), show (2 : Int32) = nI 2 from rfl, nI_rest (a := j) (b := 2) (by omega) (by omega), nI_div (a := j) (b := 2) (by omega) (by omega), nI_rest (a := j / 2) (b := o) (by omega) (by omega), nI_div (a := j / 2) (b := o) (by omega) (by omega), nI_1, show (1 : Int32) = nI 1 from rfl, nI_add]
  exact b7 e (b1 (a := 31 * h + r) rfl rfl)
theorem g136 {o : Nat} {ce to : Nat → Int32} {st sa : Nat → Int64} {rk rk' : Nat} {be4 be4' : Int64} {ga ga' : Nat → Int64} {x : Bool} (hG : GX o ce to st sa rk rk' be4 be4' ga ga' x) (a : Nat) (ha : a < 2) (k127 : Int64 → Int32 → Int32 → Int32 → Int64 → Int32 → Int64 → Int32 → (Nat → Int64) → (Nat → Int64) → (Nat → Int64) → (Nat → Int64) → (Nat → Int32) → (Nat → Int64) → Option (Int64 × (Nat → Int64) × (Nat → Int64))) (F : Nat) (K : ∀ (h : Int64) (wy nx4 : Nat → Int64) (be : Int64) (rows go na ib sb : Nat → Int64), GB (k127 h (xI x) (nI (a + 1 + 1)) (nI rk) be4 (nI rk') be4' (nI o) ga ga' wy st ce nx4) (F_X5_mixRest_76 F (xI x) (nI (2 * (o * a + o))) (nI o) be h rows to go na ib sb sa)) : ∀ (m p n : Nat) (h : Int64) (wy nx4 : Nat → Int64) (be : Int64) (rows go na ib sb : Nat → Int64), p + m = o → m < n → GB (F_X4_withGains_136 k127 n h (xI x) (nI (a + 1)) (nI p) (nI rk) be4 (nI rk') be4' (nI o) ga ga' wy st ce nx4) (F_X5_mixRest_76 (F + 2 * m) (xI x) (nI (2 * (o * a + p))) (nI o) be h rows to go na ib sb sa) := by
  obtain ⟨h1, ho, hT, hS, hC, hf⟩ := hG
  intro m
  induction m with
  | zero =>
    intro p n h wy nx4 be rows go na ib sb hp hn
    obtain ⟨n, rfl⟩ : ∃ q, n = q + 1 := ⟨n - 1, by omega⟩
    have ep : p = o := by omega
    subst ep
    rw [F_X4_withGains_136, if_pos (nI_le (by omega) (by omega)), nI_1]
    exact K h wy nx4 be rows go na ib sb
  | succ m ih =>
    intro p n h wy nx4 be rows go na ib sb hp hn
    obtain ⟨n, rfl⟩ : ∃ q, n = q + 1 := ⟨n - 1, by omega⟩
    have hpo : p < o := by omega
    obtain ⟨r1, wy2, nx42, be2, rows2, go2, na2, ib2, sb2, e4, e5⟩ := after_both h1 ho hT hS hC x hf (k := p) (T := a + 1) hpo (by omega) prt0 wy nx4 be rows go na ib sb
    obtain ⟨r2, wy3, nx43, be3, rows3, go3, na3, ib3, sb3, e4', e5'⟩ := after_both h1 ho hT hS hC x hf (k := p) (T := a + 1) hpo (by omega) prt1 wy2 nx42 be2 rows2 go2 na2 ib2 sb2
    have hd : (o * a + p) / o = a := by rw [Nat.mul_add_div (by omega), Nat.div_eq_of_lt hpo, Nat.add_zero]
    have hm : (o * a + p) % o = p := by rw [Nat.mul_add_mod, Nat.mod_eq_of_lt hpo]
    have hlt : o * a + p < 2 * o := by
      rcases (show a = 0 ∨ a = 1 by omega) with rfl | rfl <;> omega
    obtain ⟨t1, t2⟩ := two_0 (o * a + p)
    obtain ⟨t3, t4⟩ := two_1 (o * a + p)
    have eA : F_X4_withGains_136 k127 (n + 1) h (xI x) (nI (a + 1)) (nI p) (nI rk) be4 (nI rk') be4' (nI o) ga ga' wy st ce nx4 = F_X4_withGains_136 k127 n (31 * (31 * h + r1) + r2) (xI x) (nI (a + 1)) (nI (p + 1)) (nI rk) be4 (nI rk') be4' (nI o) ga ga' wy3 st ce nx43 := by
      rw [F_X4_withGains_136, if_neg (nI_ge hpo (by omega)), nI_1]
      exact b3 e4 (b3 e4' rfl)
    rw [eA, show F + 2 * (m + 1) = F + 2 * m + 1 + 1 by omega]
    have e6 : F_X5_afterNow (xI x) (nI (1 + 2 * (o * a + p) / 2 / o)) (nI (2 * (o * a + p) / 2 % o)) (nI (2 * (o * a + p) % 2)) (nI o) be rows to go na ib sb sa = some (r1, be2, rows2, go2, na2, ib2, sb2) := by
      rw [t1, t2, hd, hm, Nat.add_comm 1 a]
      exact e5
    have e6' : F_X5_afterNow (xI x) (nI (1 + (2 * (o * a + p) + 1) / 2 / o)) (nI ((2 * (o * a + p) + 1) / 2 % o)) (nI ((2 * (o * a + p) + 1) % 2)) (nI o) be2 rows2 to go2 na2 ib2 sb2 sa = some (r2, be3, rows3, go3, na3, ib3, sb3) := by
      rw [t3, t4, hd, hm, Nat.add_comm 1 a]
      exact e5'
    rw [r76_step h1 ho x to sa (by omega) _ h e6, r76_step h1 ho x to sa (by omega) _ _ e6']
    rw [show 2 * (o * a + p) + 1 + 1 = 2 * (o * a + (p + 1)) by omega]
    exact ih (p + 1) n _ _ _ _ _ _ _ _ _ (by omega) (by omega)
theorem g127 {o : Nat} {ce to : Nat → Int32} {st sa : Nat → Int64} {rk rk' : Nat} {be4 be4' : Int64} {ga ga' : Nat → Int64} {x : Bool} (hG : GX o ce to st sa rk rk' be4 be4' ga ga' x) (h : Int64) (wy nx4 : Nat → Int64) (be : Int64) (rows go na ib sb : Nat → Int64) : GB (F_X4_withGains_127 3000 h (xI x) (1 : Int32) (nI rk) be4 (nI rk') be4' (nI o) ga ga' wy st ce nx4) (F_X5_mixRest_76 3000 (xI x) (0 : Int32) (nI o) be h rows to go na ib sb sa) := by
  have hG' := hG
  obtain ⟨h1, ho, hT, hS, hC, hf⟩ := hG
  have s3 : ∀ (n F : Nat) (h : Int64) (wy nx4 : Nat → Int64) (be : Int64) (rows go na ib sb : Nat → Int64), GB (F_X4_withGains_127 (n + 1) h (xI x) (nI 3) (nI rk) be4 (nI rk') be4' (nI o) ga ga' wy st ce nx4) (F_X5_mixRest_76 (F + 1) (xI x) (nI (2 * (o * 1 + o))) (nI o) be h rows to go na ib sb sa) := by
    intro n F h wy nx4 be rows go na ib sb
    refine ⟨h, wy, nx4, be, rows, go, na, ib, sb, ?_, ?_⟩
    · rw [F_X4_withGains_127, if_pos (show (3 : Int32) ≤ nI 3 from nI_le (a := 3) (by omega) (by omega))]
    · rw [F_X5_mixRest_76, show (4 : Int32) = nI 4 from rfl, nI_mulN, if_pos (nI_le (by omega) (by omega))]
  have s2 : ∀ (n F : Nat) (h : Int64) (wy nx4 : Nat → Int64) (be : Int64) (rows go na ib sb : Nat → Int64), GB (F_X4_withGains_127 (n + 1 + 1) h (xI x) (nI 2) (nI rk) be4 (nI rk') be4' (nI o) ga ga' wy st ce nx4) (F_X5_mixRest_76 (F + 1 + 2 * o) (xI x) (nI (2 * (o * 1 + 0))) (nI o) be h rows to go na ib sb sa) := by
    intro n F h wy nx4 be rows go na ib sb
    rw [F_X4_withGains_127, if_neg (show ¬ (3 : Int32) ≤ nI 2 from nI_ge (a := 2) (b := 3) (by omega) (by omega))]
    exact g136 hG' 1 (by omega) (F_X4_withGains_127 (n + 1)) (F + 1) (s3 n F) o 0 3000 h wy nx4 be rows go na ib sb (by omega) (by omega)
  have s1 : ∀ (n F : Nat) (h : Int64) (wy nx4 : Nat → Int64) (be : Int64) (rows go na ib sb : Nat → Int64), GB (F_X4_withGains_127 (n + 1 + 1 + 1) h (xI x) (nI 1) (nI rk) be4 (nI rk') be4' (nI o) ga ga' wy st ce nx4) (F_X5_mixRest_76 (F + 1 + 2 * o + 2 * o) (xI x) (nI (2 * (o * 0 + 0))) (nI o) be h rows to go na ib sb sa) := by
    intro n F h wy nx4 be rows go na ib sb
    rw [F_X4_withGains_127, if_neg (show ¬ (3 : Int32) ≤ nI 1 from nI_ge (a := 1) (b := 3) (by omega) (by omega))]
    exact g136 hG' 0 (by omega) (F_X4_withGains_127 (n + 1 + 1)) (F + 1 + 2 * o) (fun h wy nx4 be rows go na ib sb => by
      rw [show 2 * (o * 0 + o) = 2 * (o * 1 + 0) by omega]
      exact s2 n F h wy nx4 be rows go na ib sb) o 0 3000 h wy nx4 be rows go na ib sb (by omega) (by omega)
  have := s1 2997 (3000 - 1 - 4 * o) h wy nx4 be rows go na ib sb
  rw [show 3000 - 1 - 4 * o + 1 + 2 * o + 2 * o = 3000 by omega, show 2 * (o * 0 + 0) = 0 by omega] at this
  exact this
theorem g80t {o : Nat} {ce to : Nat → Int32} {st sa : Nat → Int64} {rk rk' : Nat} {be4 be4' : Int64} {ga ga' : Nat → Int64} {x : Bool} (hG : GX o ce to st sa rk rk' be4 be4' ga ga' x) (hx : x = true) (h : Int64) (wy nx4 : Nat → Int64) (be : Int64) (rows go na ib sb : Nat → Int64) : GB (F_X4_withGains_80 3000 h (xI x) (0 : Int32) (nI rk) be4 (nI rk') be4' (nI o) ga ga' wy st ce nx4) (F_X5_mixRest_44 3000 (xI x) (0 : Int32) (nI o) be h rows to go na ib sb sa) := by
  have e := g127 hG h wy nx4 be rows go na ib sb
  subst hx
  have eA : F_X4_withGains_80 (2999 + 1) h (xI true) (0 : Int32) (nI rk) be4 (nI rk') be4' (nI o) ga ga' wy st ce nx4 = F_X4_withGains_127 3000 h (xI true) (1 : Int32) (nI rk) be4 (nI rk') be4' (nI o) ga ga' wy st ce nx4 := by
    rw [F_X4_withGains_80, if_neg (show ¬ (3 : Int32) ≤ 0 by decide), if_neg (show ¬ xI true = 0 by decide)]
    rfl
  have eB : F_X5_mixRest_44 (2999 + 1) (xI true) (0 : Int32) (nI o) be h rows to go na ib sb sa = F_X5_mixRest_76 3000 (xI true) (0 : Int32) (nI o) be h rows to go na ib sb sa := by
    rw [F_X5_mixRest_44, if_neg (show ¬ (6 : Int32) ≤ 0 by decide), if_neg (show ¬ xI true = 0 by decide)]
    rfl
  rw [← eA, ← eB] at e
  exact e
theorem g80f {o : Nat} {ce to : Nat → Int32} {st sa : Nat → Int64} {rk rk' : Nat} {be4 be4' : Int64} {ga ga' : Nat → Int64} {x : Bool} (hG : GX o ce to st sa rk rk' be4 be4' ga ga' x) (hx : x = false) : ∀ (m t n n' : Nat) (h : Int64) (wy nx4 : Nat → Int64) (be : Int64) (rows go na ib sb : Nat → Int64), t + m = 3 → m < n → 2 * m < n' → GB (F_X4_withGains_80 n h (xI x) (nI t) (nI rk) be4 (nI rk') be4' (nI o) ga ga' wy st ce nx4) (F_X5_mixRest_44 n' (xI x) (nI (2 * t)) (nI o) be h rows to go na ib sb sa) := by
  have hG' := hG
  subst hx
  obtain ⟨h1, ho, hT, hS, hC, hf⟩ := hG
  have hf : rk = o := hf
  intro m
  induction m with
  | zero =>
    intro t n n' h wy nx4 be rows go na ib sb hp hn hn'
    obtain ⟨n, rfl⟩ : ∃ q, n = q + 1 := ⟨n - 1, by omega⟩
    obtain ⟨n', rfl⟩ : ∃ q, n' = q + 1 := ⟨n' - 1, by omega⟩
    have ep : t = 3 := by omega
    subst ep
    rw [F_X4_withGains_80, if_pos (show (3 : Int32) ≤ nI 3 from nI_le (a := 3) (by omega) (by omega)), F_X5_mixRest_44, if_pos (show (6 : Int32) ≤ nI (2 * 3) from nI_le (a := 6) (by omega) (by omega))]
    exact g127 hG' h wy nx4 be rows go na ib sb
  | succ m ih =>
    intro t n n' h wy nx4 be rows go na ib sb hp hn hn'
    obtain ⟨n, rfl⟩ : ∃ q, n = q + 1 := ⟨n - 1, by omega⟩
    obtain ⟨n', rfl⟩ : ∃ q, n' = q + 1 + 1 := ⟨n' - 2, by omega⟩
    obtain ⟨r1, wy2, nx42, be2, rows2, go2, na2, ib2, sb2, e4, e5⟩ := input_both h1 ho hT hS hC hf (T := t) (by omega) prt0 wy nx4 be rows go na ib sb
    obtain ⟨r2, wy3, nx43, be3, rows3, go3, na3, ib3, sb3, e4', e5'⟩ := input_both h1 ho hT hS hC hf (T := t) (by omega) prt1 wy2 nx42 be2 rows2 go2 na2 ib2 sb2
    obtain ⟨t1, t2⟩ := two_0 t
    obtain ⟨t3, t4⟩ := two_1 t
    have eA : F_X4_withGains_80 (n + 1) h (xI false) (nI t) (nI rk) be4 (nI rk') be4' (nI o) ga ga' wy st ce nx4 = F_X4_withGains_80 n (31 * (31 * h + r1) + r2) (xI false) (nI (t + 1)) (nI rk) be4 (nI rk') be4' (nI o) ga ga' wy3 st ce nx43 := by
      rw [F_X4_withGains_80, if_neg (nle3 (by omega)), if_pos (show xI false = 0 from rfl), nI_1]
      exact b3 e4 (b3 e4' rfl)
    rw [eA]
    have e6 : F_X5_inputNow (nI (2 * t / 2)) (nI (2 * t % 2)) (nI o) be rows to go na ib sb sa = some (r1, be2, rows2, go2, na2, ib2, sb2) := by
      rw [t1, t2]
      exact e5
    have e6' : F_X5_inputNow (nI ((2 * t + 1) / 2)) (nI ((2 * t + 1) % 2)) (nI o) be2 rows2 to go2 na2 ib2 sb2 sa = some (r2, be3, rows3, go3, na3, ib3, sb3) := by
      rw [t3, t4]
      exact e5'
    rw [r44_step to sa (by omega) _ h e6, r44_step to sa (by omega) _ _ e6']
    rw [show 2 * t + 1 + 1 = 2 * (t + 1) by omega]
    exact ih (t + 1) n n' _ _ _ _ _ _ _ _ _ (by omega) (by omega) (by omega)
theorem g80 {o : Nat} {ce to : Nat → Int32} {st sa : Nat → Int64} {rk rk' : Nat} {be4 be4' : Int64} {ga ga' : Nat → Int64} {x : Bool} (hG : GX o ce to st sa rk rk' be4 be4' ga ga' x) (h : Int64) (wy nx4 : Nat → Int64) (be : Int64) (rows go na ib sb : Nat → Int64) : GB (F_X4_withGains_80 3000 h (xI x) (0 : Int32) (nI rk) be4 (nI rk') be4' (nI o) ga ga' wy st ce nx4) (F_X5_mixRest_44 3000 (xI x) (0 : Int32) (nI o) be h rows to go na ib sb sa) := by
  cases hx : x with
  | true => subst hx; exact g80t hG rfl h wy nx4 be rows go na ib sb
  | false => subst hx; exact g80f hG rfl 3 0 3000 3000 h wy nx4 be rows go na ib sb (by omega) (by omega) (by omega)
theorem g17 {o : Nat} {ce to : Nat → Int32} {st sa : Nat → Int64} {rk rk' : Nat} {be4 be4' : Int64} {ga ga' : Nat → Int64} {x : Bool} (hG : GX o ce to st sa rk rk' be4 be4' ga ga' x) : ∀ (m k n n' : Nat) (h : Int64) (wy nx4 : Nat → Int64) (be : Int64) (rows go na ib sb : Nat → Int64), k + m = o → m < n → 2 * m < n' → GB (F_X4_withGains_17 n h (xI x) (nI k) (nI rk) be4 (nI rk') be4' (nI o) ga ga' wy st ce nx4) (F_X5_mixRest_2 n' (xI x) (nI (2 * k)) (nI o) be h rows to go na ib sb sa) := by
  have hG' := hG
  obtain ⟨h1, ho, hT, hS, hC, hf⟩ := hG
  intro m
  induction m with
  | zero =>
    intro k n n' h wy nx4 be rows go na ib sb hp hn hn'
    obtain ⟨n, rfl⟩ : ∃ q, n = q + 1 := ⟨n - 1, by omega⟩
    obtain ⟨n', rfl⟩ : ∃ q, n' = q + 1 := ⟨n' - 1, by omega⟩
    have ep : k = o := by omega
    subst ep
    obtain ⟨r, be2, rows2, go2, na2, ib2, sb2, e4, e5⟩ := most_both h1 ho hT hC x hf be rows go na ib sb
    have eA : F_X4_withGains_17 (n + 1) h (xI x) (nI k) (nI rk) be4 (nI rk') be4' (nI k) ga ga' wy st ce nx4 = F_X4_withGains_80 3000 (31 * h + r) (xI x) (0 : Int32) (nI rk) be4 (nI rk') be4' (nI k) ga ga' wy st ce nx4 := by
      rw [F_X4_withGains_17, if_pos (nI_le (by omega) (by omega))]
      exact b1 e4 rfl
    have eB : F_X5_mixRest_2 (n' + 1) (xI x) (nI (2 * k)) (nI k) be h rows to go na ib sb sa = F_X5_mixRest_44 3000 (xI x) (0 : Int32) (nI k) be2 (31 * h + r) rows2 to go2 na2 ib2 sb2 sa := by
      rw [F_X5_mixRest_2, show (2 : Int32) = nI 2 from rfl, nI_mulN, if_pos (nI_le (by omega) (by omega))]
      exact b7 e5 (b1 (a := 31 * h + r) rfl rfl)
    rw [eA, eB]
    exact g80 hG' _ _ _ _ _ _ _ _ _
  | succ m ih =>
    intro k n n' h wy nx4 be rows go na ib sb hp hn hn'
    obtain ⟨n, rfl⟩ : ∃ q, n = q + 1 := ⟨n - 1, by omega⟩
    obtain ⟨n', rfl⟩ : ∃ q, n' = q + 1 + 1 := ⟨n' - 2, by omega⟩
    have hko : k < o := by omega
    obtain ⟨r1, be2, rows2, go2, na2, ib2, sb2, e4, e5⟩ := gain_both h1 ho hT hC x hf hko prt0 be rows go na ib sb
    obtain ⟨r2, be3, rows3, go3, na3, ib3, sb3, e4', e5'⟩ := gain_both h1 ho hT hC x hf hko prt1 be2 rows2 go2 na2 ib2 sb2
    obtain ⟨t1, t2⟩ := two_0 k
    obtain ⟨t3, t4⟩ := two_1 k
    have eA : F_X4_withGains_17 (n + 1) h (xI x) (nI k) (nI rk) be4 (nI rk') be4' (nI o) ga ga' wy st ce nx4 = F_X4_withGains_17 n (31 * (31 * h + r1) + r2) (xI x) (nI (k + 1)) (nI rk) be4 (nI rk') be4' (nI o) ga ga' wy st ce nx4 := by
      rw [F_X4_withGains_17, if_neg (nI_ge hko (by omega)), nI_1]
      exact b1 e4 (b1 e4' rfl)
    rw [eA]
    have e6 : F_X5_gainNow (xI x) (nI (2 * k / 2)) (nI (2 * k % 2)) (nI o) be rows to go na ib sb = some (r1, be2, rows2, go2, na2, ib2, sb2) := by
      rw [t1, t2]
      exact e5
    have e6' : F_X5_gainNow (xI x) (nI ((2 * k + 1) / 2)) (nI ((2 * k + 1) % 2)) (nI o) be2 rows2 to go2 na2 ib2 sb2 = some (r2, be3, rows3, go3, na3, ib3, sb3) := by
      rw [t3, t4]
      exact e5'
    rw [r2_step ho x to sa (by omega) _ h e6, r2_step ho x to sa (by omega) _ _ e6']
    rw [show 2 * k + 1 + 1 = 2 * (k + 1) by omega]
    exact ih (k + 1) n n' _ _ _ _ _ _ _ _ _ (by omega) (by omega) (by omega)
theorem wg_both {o : Nat} (h1 : 1 ≤ o) (ho : o ≤ 3) {ce to : Nat → Int32} (hT : JT o ce to) {st sa : Nat → Int64} (hS : JS o st sa) {rk rk' : Nat} {be4 be4' : Int64} {ga ga' : Nat → Int64} (hC : Ch o ce to rk rk' be4 be4' ga ga') (x : Bool) (h : Int64) (wy nx4 : Nat → Int64) (be : Int64) (rows go na ib sb : Nat → Int64) : ∃ rows1, ((if x then rk' else rk) = o ∧ F_X5_isFull (xI x) (nI o) rows to = some (1, rows1) ∧ GB (F_X4_withGains h (xI x) (nI rk) be4 (nI rk') be4' (nI o) ga ga' wy st ce nx4) (F_X5_mixRest (xI x) (nI o) be h rows1 to go na ib sb sa)) ∨ (F_X5_isFull (xI x) (nI o) rows to = some (0, rows1) ∧ F_X4_withGains h (xI x) (nI rk) be4 (nI rk') be4' (nI o) ga ga' wy st ce nx4 = some (h, wy, nx4)) := by
  obtain ⟨f, e5⟩ := full5' h1 ho hT hC x rows
  refine ⟨f, ?_⟩
  by_cases hf : (if x then rk' else rk) = o
  · rw [if_pos hf] at e5
    refine Or.inl ⟨hf, e5, ?_⟩
    have e := g17 ⟨h1, ho, hT, hS, hC, hf⟩ o 0 3000 3000 h wy nx4 be f go na ib sb (by omega) (by omega) (by omega)
    have eA : F_X4_withGains h (xI x) (nI rk) be4 (nI rk') be4' (nI o) ga ga' wy st ce nx4 = F_X4_withGains_17 3000 h (xI x) (nI 0) (nI rk) be4 (nI rk') be4' (nI o) ga ga' wy st ce nx4 := by
      unfold F_X4_withGains
      cases x with
      | false =>
        have hf2 : rk = o := hf
        have h4 := full4' h1 ho hC.1
        rw [if_pos hf2] at h4
        exact b1 (show F_X4_chain (xI false) = some 0 from rfl) ((if_pos rfl).trans (b1 h4 ie1))
      | true =>
        have hf2 : rk' = o := hf
        have h4 := full4' h1 ho hC.2.1
        rw [if_pos hf2] at h4
        exact b1 (show F_X4_chain (xI true) = some 1 from rfl) ((if_neg (by decide)).trans (b1 h4 ie1))
    rw [eA]
    exact e
  · rw [if_neg hf] at e5
    refine Or.inr ⟨e5, ?_⟩
    unfold F_X4_withGains
    cases x with
    | false =>
      have hf2 : ¬ rk = o := hf
      have h4 := full4' h1 ho hC.1
      rw [if_neg hf2] at h4
      exact b1 (show F_X4_chain (xI false) = some 0 from rfl) ((if_pos rfl).trans (b1 h4 ie0))
    | true =>
      have hf2 : ¬ rk' = o := hf
      have h4 := full4' h1 ho hC.2.1
      rw [if_neg hf2] at h4
      exact b1 (show F_X4_chain (xI true) = some 1 from rfl) ((if_neg (by decide)).trans (b1 h4 ie0))
