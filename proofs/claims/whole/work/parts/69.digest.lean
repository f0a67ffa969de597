/-! digest -/
theorem b15 {A0 A1 A2 A3 A4 A5 A6 A7 A8 A9 A10 A11 A12 A13 A14 R : Type} {x : Option (A0 × A1 × A2 × A3 × A4 × A5 × A6 × A7 × A8 × A9 × A10 × A11 × A12 × A13 × A14)} {f : A0 → A1 → A2 → A3 → A4 → A5 → A6 → A7 → A8 → A9 → A10 → A11 → A12 → A13 → A14 → Option R} {a0 : A0} {a1 : A1} {a2 : A2} {a3 : A3} {a4 : A4} {a5 : A5} {a6 : A6} {a7 : A7} {a8 : A8} {a9 : A9} {a10 : A10} {a11 : A11} {a12 : A12} {a13 : A13} {a14 : A14} {r : Option R} (hx : x = some (a0, a1, a2, a3, a4, a5, a6, a7, a8, a9, a10, a11, a12, a13, a14)) (h : f a0 a1 a2 a3 a4 a5 a6 a7 a8 a9 a10 a11 a12 a13 a14 = r) : bd15 x f = r := by rw [hx]; exact h
def DB (to : Nat → Int32) (S : Nat → Int) (L : Nat) (rank : Int32) (A : Option (Int64 × Int32 × (Nat → Int64) × (Nat → Int64) × Int32 × Int32 × Int32 × Int32 × (Nat → Int64) × (Nat → Int64) × (Nat → Int64) × (Nat → Int64) × (Nat → Int64) × (Nat → Int64) × (Nat → Int32))) (B : Option (Int64 × Int64 × Int32 × Int64 × (Nat → Int64) × (Nat → Int64) × (Nat → Int64) × (Nat → Int64) × (Nat → Int64) × (Nat → Int64) × (Nat → Int32) × (Nat → Int64) × (Nat → Int64) × (Nat → Int32))) : Prop := ∃ h pn wy nx tk pl tr bo sp gsp due s0 s1 s2 inp be pt rows go na ib sb trd inps en' wa pa hh, A = some (h, pn, wy, nx, tk, pl, tr, bo, sp, gsp, due, s0, s1, s2, inp) ∧ B = some (h, be, pt, hh, rows, go, na, ib, sb, trd, inps, en', wa, pa) ∧ PJ to S L rank pn tk inp
def DX0 (o : Nat) (ce to : Nat → Int32) (st sa : Nat → Int64) (L : Nat) (rank rank' : Int32) (below below' : Int64) (r0 r1 r2 ga q0 q1 q2 r0' r1' r2' ga' q0' q1' q2' : Nat → Int64) : Prop := o ≤ 3 ∧ JT o ce to ∧ JS o st sa ∧ 1 ≤ L ∧ L ≤ 5 ∧ (o ≠ 0 → ChainIs false ce o rank below r0 r1 r2 ga q0 q1 q2 ∧ ChainIs true ce o rank' below' r0' r1' r2' ga' q0' q1' q2')
theorem hm_of {x : Option Int64} {r : Int64} (h : bd1 x (fun r1 => some r1) = some r) : x = some r := by
  cases x with
  | none => cases h
  | some p => exact h
theorem e100 {o : Nat} {ce to : Nat → Int32} {st sa : Nat → Int64} {L : Nat} {rank rank' : Int32} {below below' : Int64} {r0 r1 r2 ga q0 q1 q2 r0' r1' r2' ga' : Nat → Int64} (prd tg : Int32) (pgn : Nat) (le pg : Nat → Int32) : ∀ (m k n n' : Nat) (h : Int64) (pn : Int32) (wy nx : Nat → Int64) (tk pl tr bo : Int32) (sp gsp due s0 s1 s2 : Nat → Int64) (inp : Nat → Int32) (be : Int64) (pt : Int32) (rows go na ib sb trd : Nat → Int64) (inps : Nat → Int32) (en' wa : Nat → Int64) (pa : Nat → Int32), k + m = 5 → m < n → m < n' → PJ to (fun k => (st k).toInt) L rank pn tk inp → DB to (fun k => (st k).toInt) L rank (F_X4_digest_100 n h (nI k) (nI L) prd tg pn (nI o) rank below r0 r1 r2 rank' below' r0' r1' r2' st ga ga' wy ce nx tk pl tr bo sp gsp q0 q1 q2 due s0 s1 s2 inp (nI pgn) le) (F_X5_digest_80 n' (nI k) (nI pgn) (nI o) (nI L) prd tg be pt h rows to sa go na ib sb trd inps en' wa pa pg) := by
  intro m
  induction m with
  | zero =>
    intro k n n' h pn wy nx tk pl tr bo sp gsp due s0 s1 s2 inp be pt rows go na ib sb trd inps en' wa pa hk hn hn' hp
    obtain ⟨n, rfl⟩ : ∃ q, n = q + 1 := ⟨n - 1, by omega⟩
    obtain ⟨n', rfl⟩ : ∃ q, n' = q + 1 := ⟨n' - 1, by omega⟩
    have ek : k = 5 := by omega
    subst ek
    refine ⟨h, pn, wy, nx, tk, pl, tr, bo, sp, gsp, due, s0, s1, s2, inp, be, pt, rows, go, na, ib, sb, trd, inps, en', wa, pa, h, ?_, ?_, hp⟩
    · rw [F_X4_digest_100, if_pos (show (5 : Int32) ≤ nI 5 from nI_le (a := 5) (by omega) (by omega))]
    · rw [F_X5_digest_80, if_pos (show (5 : Int32) ≤ nI 5 from nI_le (a := 5) (by omega) (by omega))]
  | succ m ih =>
    intro k n n' h pn wy nx tk pl tr bo sp gsp due s0 s1 s2 inp be pt rows go na ib sb trd inps en' wa pa hk hn hn' hp
    obtain ⟨n, rfl⟩ : ∃ q, n = q + 1 := ⟨n - 1, by omega⟩
    obtain ⟨n', rfl⟩ : ∃ q, n' = q + 1 := ⟨n' - 1, by omega⟩
    obtain ⟨r, e4, e5⟩ := m_count (nI k) (nI L) prd tg (nI o) (nI pgn)
    unfold F_X5_count at e5
    have e5 := hm_of e5
    have eA : F_X4_digest_100 (n + 1) h (nI k) (nI L) prd tg pn (nI o) rank below r0 r1 r2 rank' below' r0' r1' r2' st ga ga' wy ce nx tk pl tr bo sp gsp q0 q1 q2 due s0 s1 s2 inp (nI pgn) le = F_X4_digest_100 n (31 * h + r) (nI (k + 1)) (nI L) prd tg pn (nI o) rank below r0 r1 r2 rank' below' r0' r1' r2' st ga ga' wy ce nx tk pl tr bo sp gsp q0 q1 q2 due s0 s1 s2 inp (nI pgn) le := by
      rw [F_X4_digest_100, if_neg (show ¬ (5 : Int32) ≤ nI k from nI_ge (b := 5) (by omega) (by omega)), nI_1]
      exact b1 e4 rfl
    have eB : F_X5_digest_80 (n' + 1) (nI k) (nI pgn) (nI o) (nI L) prd tg be pt h rows to sa go na ib sb trd inps en' wa pa pg = F_X5_digest_80 n' (nI (k + 1)) (nI pgn) (nI o) (nI L) prd tg be pt (31 * h + r) rows to sa go na ib sb trd inps en' wa pa pg := by
      rw [F_X5_digest_80, if_neg (show ¬ (5 : Int32) ≤ nI k from nI_ge (b := 5) (by omega) (by omega)), nI_1]
      exact b1 e5 (b1 (a := 31 * h + r) rfl rfl)
    rw [eA, eB]
    exact ih (k + 1) n n' _ _ _ _ _ _ _ _ _ _ _ _ _ _ _ _ _ _ _ _ _ _ _ _ _ _ _ (by omega) (by omega) (by omega) hp
theorem e64 {o : Nat} {ce to : Nat → Int32} {st sa : Nat → Int64} {L : Nat} {rank rank' : Int32} {below below' : Int64} {r0 r1 r2 ga q0 q1 q2 r0' r1' r2' ga' : Nat → Int64} (prd tg : Int32) {pgn : Nat} (hpg : pgn ≤ 46) {le pg : Nat → Int32} (hle : ∀ j, j < pgn → pg j = le j) : ∀ (m k n n' : Nat) (h : Int64) (pn : Int32) (wy nx : Nat → Int64) (tk pl tr bo : Int32) (sp gsp due s0 s1 s2 : Nat → Int64) (inp : Nat → Int32) (be : Int64) (pt : Int32) (rows go na ib sb trd : Nat → Int64) (inps : Nat → Int32) (en' wa : Nat → Int64) (pa : Nat → Int32), k + m = pgn → m < n → m < n' → PJ to (fun k => (st k).toInt) L rank pn tk inp → DB to (fun k => (st k).toInt) L rank (F_X4_digest_64 n h (nI k) (nI L) prd tg pn (nI o) rank below r0 r1 r2 rank' below' r0' r1' r2' st ga ga' wy ce nx tk pl tr bo sp gsp q0 q1 q2 due s0 s1 s2 inp (nI pgn) le) (F_X5_digest_53 n' (nI k) (nI pgn) (nI o) (nI L) prd tg be pt h rows to sa go na ib sb trd inps en' wa pa pg) := by
  intro m
  induction m with
  | zero =>
    intro k n n' h pn wy nx tk pl tr bo sp gsp due s0 s1 s2 inp be pt rows go na ib sb trd inps en' wa pa hk hn hn' hp
    obtain ⟨n, rfl⟩ : ∃ q, n = q + 1 := ⟨n - 1, by omega⟩
    obtain ⟨n', rfl⟩ : ∃ q, n' = q + 1 := ⟨n' - 1, by omega⟩
    rw [F_X4_digest_64, if_pos (nI_le (by omega) (by omega)), F_X5_digest_53, if_pos (nI_le (by omega) (by omega))]
    exact e100 prd tg pgn le pg 5 0 3000 3000 _ _ _ _ _ _ _ _ _ _ _ _ _ _ _ _ _ _ _ _ _ _ _ _ _ _ _ (by omega) (by omega) (by omega) hp
  | succ m ih =>
    intro k n n' h pn wy nx tk pl tr bo sp gsp due s0 s1 s2 inp be pt rows go na ib sb trd inps en' wa pa hk hn hn' hp
    obtain ⟨n, rfl⟩ : ∃ q, n = q + 1 := ⟨n - 1, by omega⟩
    obtain ⟨n', rfl⟩ : ∃ q, n' = q + 1 := ⟨n' - 1, by omega⟩
    have hkp : k < pgn := by omega
    have i46 : ¬ (nI k < 0 ∨ 46 ≤ (nI k).toNatClampNeg) := nI_in (N := 46) (by omega) (by omega)
    have eA : F_X4_digest_64 (n + 1) h (nI k) (nI L) prd tg pn (nI o) rank below r0 r1 r2 rank' below' r0' r1' r2' st ga ga' wy ce nx tk pl tr bo sp gsp q0 q1 q2 due s0 s1 s2 inp (nI pgn) le = F_X4_digest_64 n (31 * h + (le k).toInt64) (nI (k + 1)) (nI L) prd tg pn (nI o) rank below r0 r1 r2 rank' below' r0' r1' r2' st ga ga' wy ce nx tk pl tr bo sp gsp q0 q1 q2 due s0 s1 s2 inp (nI pgn) le := by
      rw [F_X4_digest_64, if_neg (nI_ge hkp (by omega)), if_neg i46, clk (by omega), nI_1]
    have eB : F_X5_digest_53 (n' + 1) (nI k) (nI pgn) (nI o) (nI L) prd tg be pt h rows to sa go na ib sb trd inps en' wa pa pg = F_X5_digest_53 n' (nI (k + 1)) (nI pgn) (nI o) (nI L) prd tg be pt (31 * h + (le k).toInt64) rows to sa go na ib sb trd inps en' wa pa pg := by
      rw [F_X5_digest_53, if_neg (nI_ge hkp (by omega)), if_neg i46, clk (by omega), nI_1, hle k hkp]
      exact b1 (a := 31 * h + (le k).toInt64) rfl rfl
    rw [eA, eB]
    exact ih (k + 1) n n' _ _ _ _ _ _ _ _ _ _ _ _ _ _ _ _ _ _ _ _ _ _ _ _ _ _ _ (by omega) (by omega) (by omega) hp
theorem e6 {o : Nat} {ce to : Nat → Int32} {st sa : Nat → Int64} {L : Nat} {rank rank' : Int32} {below below' : Int64} {r0 r1 r2 ga q0 q1 q2 r0' r1' r2' ga' q0' q1' q2' : Nat → Int64} (hD : DX0 o ce to st sa L rank rank' below below' r0 r1 r2 ga q0 q1 q2 r0' r1' r2' ga' q0' q1' q2') (prd tg : Int32) {pgn : Nat} (hpg : pgn ≤ 46) {le pg : Nat → Int32} (hle : ∀ j, j < pgn → pg j = le j) : ∀ (m k n n' : Nat) (h : Int64) (pn : Int32) (wy nx : Nat → Int64) (tk pl tr bo : Int32) (sp gsp due s0 s1 s2 : Nat → Int64) (inp : Nat → Int32) (be : Int64) (pt : Int32) (rows go na ib sb trd : Nat → Int64) (inps : Nat → Int32) (en' wa : Nat → Int64) (pa : Nat → Int32), k + m = 15 → m < n → m < n' → PJ to (fun k => (st k).toInt) L rank pn tk inp → DB to (fun k => (st k).toInt) L rank (F_X4_digest_6 n h (nI k) (nI L) prd tg pn (nI o) rank below r0 r1 r2 rank' below' r0' r1' r2' st ga ga' wy ce nx tk pl tr bo sp gsp q0 q1 q2 due s0 s1 s2 inp (nI pgn) le) (F_X5_digest_9 n' (nI k) (nI pgn) (nI o) (nI L) prd tg be pt h rows to sa go na ib sb trd inps en' wa pa pg) := by
  obtain ⟨ho, hT, hS, hL1, hL, hC⟩ := hD
  intro m
  induction m with
  | zero =>
    intro k n n' h pn wy nx tk pl tr bo sp gsp due s0 s1 s2 inp be pt rows go na ib sb trd inps en' wa pa hk hn hn' hp
    obtain ⟨n, rfl⟩ : ∃ q, n = q + 1 := ⟨n - 1, by omega⟩
    obtain ⟨n', rfl⟩ : ∃ q, n' = q + 1 := ⟨n' - 1, by omega⟩
    have ek : k = 15 := by omega
    subst ek
    rw [F_X4_digest_6, if_pos (show (15 : Int32) ≤ nI 15 from nI_le (a := 15) (by omega) (by omega)), F_X5_digest_9, if_pos (show (15 : Int32) ≤ nI 15 from nI_le (a := 15) (by omega) (by omega))]
    by_cases c : o = 0
    · rw [if_pos (by rw [c]; decide), if_pos (by rw [c]; decide)]
      unfold F_X4_digest_62 F_X5_digest_51
      exact e64 prd tg hpg hle pgn 0 3000 3000 _ _ _ _ _ _ _ _ _ _ _ _ _ _ _ _ _ _ _ _ _ _ _ _ _ _ _ (by omega) (by omega) (by omega) hp
    · obtain ⟨c1, c2⟩ := hC c
      rw [if_neg (nI_nle (by omega) (by omega)), if_neg (nI_nle (by omega) (by omega))]
      obtain ⟨hx, pnx, wyx, nxx, tkx, plx, trx, box, spx, gspx, duex, s0x, s1x, s2x, inpx, bex, ptx, rowsx, gox, nax, ibx, sbx, trdx, inpsx, en'x, wax, pax, eA, eB, hpx⟩ := d2 (show DX o ce to st sa L rank rank' below below' r0 r1 r2 ga q0 q1 q2 r0' r1' r2' ga' q0' q1' q2' from ⟨by omega, ho, hT, hS, hL1, hL, c1, c2⟩) o 0 3000 3000 h pn wy nx tk pl tr bo sp gsp due s0 s1 s2 inp be pt rows go na ib sb trd inps en' wa pa (by omega) (by omega) (by omega) hp
      have eA' : F_X4_withPlant h (nI L) pn (nI o) rank below r0 r1 r2 rank' below' r0' r1' r2' st ga ga' wy ce nx tk pl tr bo sp gsp q0 q1 q2 due s0 s1 s2 inp = some (hx, pnx, wyx, nxx, tkx, plx, trx, box, spx, gspx, duex, s0x, s1x, s2x, inpx) := eA
      have eB' : F_X5_mixPlant (nI o) (nI L) be pt h rows to sa go na ib sb trd inps en' wa pa = some (bex, ptx, hx, rowsx, gox, nax, ibx, sbx, trdx, inpsx, en'x, wax, pax) := eB
      rw [b15 eA' rfl, b13 eB' rfl]
      unfold F_X4_digest_62 F_X5_digest_51
      exact e64 prd tg hpg hle pgn 0 3000 3000 _ _ _ _ _ _ _ _ _ _ _ _ _ _ _ _ _ _ _ _ _ _ _ _ _ _ _ (by omega) (by omega) (by omega) hpx
  | succ m ih =>
    intro k n n' h pn wy nx tk pl tr bo sp gsp due s0 s1 s2 inp be pt rows go na ib sb trd inps en' wa pa hk hn hn' hp
    obtain ⟨n, rfl⟩ : ∃ q, n = q + 1 := ⟨n - 1, by omega⟩
    obtain ⟨n', rfl⟩ : ∃ q, n' = q + 1 := ⟨n' - 1, by omega⟩
    obtain ⟨t4, t5⟩ := there_tab o (by omega) k (by omega)
    have ec : to k = ce k := hT.eq k (by omega)
    by_cases c : k % 3 < o ∧ (9 ≤ k ∨ k / 3 < o)
    · rw [if_pos c] at t4 t5
      have eA : F_X4_digest_6 (n + 1) h (nI k) (nI L) prd tg pn (nI o) rank below r0 r1 r2 rank' below' r0' r1' r2' st ga ga' wy ce nx tk pl tr bo sp gsp q0 q1 q2 due s0 s1 s2 inp (nI pgn) le = F_X4_digest_6 n (31 * h + (ce k).toInt64) (nI (k + 1)) (nI L) prd tg pn (nI o) rank below r0 r1 r2 rank' below' r0' r1' r2' st ga ga' wy ce nx tk pl tr bo sp gsp q0 q1 q2 due s0 s1 s2 inp (nI pgn) le := by
        rw [F_X4_digest_6, if_neg (show ¬ (15 : Int32) ≤ nI k from nI_ge (b := 15) (by omega) (by omega))]
        refine b1 t4 ?_
        rw [ie1, if_neg (in15 (by omega)), clk (by omega)]
        unfold F_X4_digest_40
        rw [nI_1]
      have eB : F_X5_digest_9 (n' + 1) (nI k) (nI pgn) (nI o) (nI L) prd tg be pt h rows to sa go na ib sb trd inps en' wa pa pg = F_X5_digest_9 n' (nI (k + 1)) (nI pgn) (nI o) (nI L) prd tg be pt (31 * h + (ce k).toInt64) rows to sa go na ib sb trd inps en' wa pa pg := by
        rw [F_X5_digest_9, if_neg (show ¬ (15 : Int32) ≤ nI k from nI_ge (b := 15) (by omega) (by omega))]
        refine b1 t5 ?_
        rw [ie1, if_neg (in15 (by omega)), clk (by omega), ec]
        refine b1 (a := 31 * h + (ce k).toInt64) rfl ?_
        unfold F_X5_digest_34
        rw [nI_1]
      rw [eA, eB]
      exact ih (k + 1) n n' _ _ _ _ _ _ _ _ _ _ _ _ _ _ _ _ _ _ _ _ _ _ _ _ _ _ _ (by omega) (by omega) (by omega) hp
    · rw [if_neg c] at t4 t5
      have eA : F_X4_digest_6 (n + 1) h (nI k) (nI L) prd tg pn (nI o) rank below r0 r1 r2 rank' below' r0' r1' r2' st ga ga' wy ce nx tk pl tr bo sp gsp q0 q1 q2 due s0 s1 s2 inp (nI pgn) le = F_X4_digest_6 n h (nI (k + 1)) (nI L) prd tg pn (nI o) rank below r0 r1 r2 rank' below' r0' r1' r2' st ga ga' wy ce nx tk pl tr bo sp gsp q0 q1 q2 due s0 s1 s2 inp (nI pgn) le := by
        rw [F_X4_digest_6, if_neg (show ¬ (15 : Int32) ≤ nI k from nI_ge (b := 15) (by omega) (by omega))]
        refine b1 t4 ?_
        rw [ie0]
        unfold F_X4_digest_40
        rw [nI_1]
      have eB : F_X5_digest_9 (n' + 1) (nI k) (nI pgn) (nI o) (nI L) prd tg be pt h rows to sa go na ib sb trd inps en' wa pa pg = F_X5_digest_9 n' (nI (k + 1)) (nI pgn) (nI o) (nI L) prd tg be pt h rows to sa go na ib sb trd inps en' wa pa pg := by
        rw [F_X5_digest_9, if_neg (show ¬ (15 : Int32) ≤ nI k from nI_ge (b := 15) (by omega) (by omega))]
        refine b1 t5 ?_
        rw [ie0]
        unfold F_X5_digest_34
        rw [nI_1]
      rw [eA, eB]
      exact ih (k + 1) n n' _ _ _ _ _ _ _ _ _ _ _ _ _ _ _ _ _ _ _ _ _ _ _ _ _ _ _ (by omega) (by omega) (by omega) hp
theorem m_digest {o : Nat} {ce to : Nat → Int32} {st sa : Nat → Int64} {L : Nat} {rank rank' : Int32} {below below' : Int64} {r0 r1 r2 ga q0 q1 q2 r0' r1' r2' ga' q0' q1' q2' : Nat → Int64} (hD : DX0 o ce to st sa L rank rank' below below' r0 r1 r2 ga q0 q1 q2 r0' r1' r2' ga' q0' q1' q2') (prd tg : Int32) {pgn : Nat} (hpg : pgn ≤ 46) {le pg : Nat → Int32} (hle : ∀ j, j < pgn → pg j = le j) (h : Int64) (pn : Int32) (wy nx : Nat → Int64) (tk pl tr bo : Int32) (sp gsp due s0 s1 s2 : Nat → Int64) (inp : Nat → Int32) (be : Int64) (pt : Int32) (rows go na ib sb trd : Nat → Int64) (inps : Nat → Int32) (en' wa : Nat → Int64) (pa : Nat → Int32) (hp : PJ to (fun k => (st k).toInt) L rank pn tk inp) : DB to (fun k => (st k).toInt) L rank (F_X4_digest (nI L) prd tg pn (nI o) rank below r0 r1 r2 rank' below' r0' r1' r2' st ga ga' wy ce nx tk pl tr bo sp gsp q0 q1 q2 due s0 s1 s2 inp (nI pgn) le) (F_X5_digest (nI pgn) (nI o) (nI L) prd tg be pt h rows to sa go na ib sb trd inps en' wa pa pg) :=
  e6 hD prd tg hpg hle 15 0 3000 3000 1721 pn wy nx tk pl tr bo sp gsp due s0 s1 s2 inp be pt rows go na ib sb trd inps en' wa pa (by omega) (by omega) (by omega) hp
