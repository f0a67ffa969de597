/-! digest: what is told of a plant -/
def WB (to : Nat → Int32) (S : Nat → Int) (L : Nat) (rank : Int32) (A : Option (Int64 × Int32 × (Nat → Int64) × (Nat → Int64) × Int32 × Int32 × Int32 × Int32 × (Nat → Int64) × (Nat → Int64) × (Nat → Int64) × (Nat → Int64) × (Nat → Int64) × (Nat → Int64) × (Nat → Int32))) (B : Option (Int64 × Int32 × Int64 × (Nat → Int64) × (Nat → Int64) × (Nat → Int64) × (Nat → Int64) × (Nat → Int64) × (Nat → Int64) × (Nat → Int32) × (Nat → Int64) × (Nat → Int64) × (Nat → Int32))) : Prop := ∃ h pn wy nx tk pl tr bo sp gsp due s0 s1 s2 inp be pt rows go na ib sb trd inps en' wa pa, A = some (h, pn, wy, nx, tk, pl, tr, bo, sp, gsp, due, s0, s1, s2, inp) ∧ B = some (be, pt, h, rows, go, na, ib, sb, trd, inps, en', wa, pa) ∧ PJ to S L rank pn tk inp
def DX (o : Nat) (ce to : Nat → Int32) (st sa : Nat → Int64) (L : Nat) (rank rank' : Int32) (below below' : Int64) (r0 r1 r2 ga q0 q1 q2 r0' r1' r2' ga' q0' q1' q2' : Nat → Int64) : Prop := 1 ≤ o ∧ o ≤ 3 ∧ JT o ce to ∧ JS o st sa ∧ 1 ≤ L ∧ L ≤ 5 ∧ ChainIs false ce o rank below r0 r1 r2 ga q0 q1 q2 ∧ ChainIs true ce o rank' below' r0' r1' r2' ga' q0' q1' q2'
theorem plan_now {to : Nat → Int32} {rk : Nat} {B : Nat → Nat → Int} (hB : Bs to rk B) {S : Nat → Int} {L : Nat} {l tk pt : Int32} {inp pa : Nat → Int32} (hl : PW l) (h1 : PlanIs to S L rk tk inp) (h2 : PlanIs to S L rk pt pa) {r : Int64} (e : F_X5_planNow l tk inp = some r) : F_X5_planNow l pt pa = some r := by
  obtain ⟨et, hc⟩ := plan_one hB h1 h2
  subst et
  obtain ⟨r', e1, e2⟩ := pn_eq hl hc
  rw [e2]
  exact e1.symm.trans e
theorem wg_k {o : Nat} (h1 : 1 ≤ o) (ho : o ≤ 3) {ce to : Nat → Int32} (hT : JT o ce to) {st sa : Nat → Int64} (hS : JS o st sa) {rk rk' : Nat} {be4 be4' : Int64} {ga ga' : Nat → Int64} (hC : Ch o ce to rk rk' be4 be4' ga ga') (x : Bool) (h : Int64) (wy nx4 : Nat → Int64) (be : Int64) (rows go na ib sb : Nat → Int64) : ∃ h2 wy2 nx2 be2 rows2 go2 na2 ib2 sb2, F_X4_withGains h (xI x) (nI rk) be4 (nI rk') be4' (nI o) ga ga' wy st ce nx4 = some (h2, wy2, nx2) ∧ ∀ {R : Type} (G : Int64 → Int64 → (Nat → Int64) → (Nat → Int64) → (Nat → Int64) → (Nat → Int64) → (Nat → Int64) → Option R), bd2 (F_X5_isFull (xI x) (nI o) rows to) (fun c f => if c = 0 then G be h f go na ib sb else bd7 (F_X5_mixRest (xI x) (nI o) be h f to go na ib sb sa) G) = G be2 h2 rows2 go2 na2 ib2 sb2 := by
  obtain ⟨f, c⟩ := wg_both h1 ho hT hS hC x h wy nx4 be rows go na ib sb
  rcases c with ⟨-, e5, h2, wy2, nx2, be2, rows2, go2, na2, ib2, sb2, eA, eB⟩ | ⟨e5, eA⟩
  · exact ⟨h2, wy2, nx2, be2, rows2, go2, na2, ib2, sb2, eA, fun G => b2 e5 (ie1.trans (b7 eB rfl))⟩
  · exact ⟨h, wy, nx4, be, f, go, na, ib, sb, eA, fun G => b2 e5 ie0⟩
theorem d107 {o : Nat} {ce to : Nat → Int32} {st sa : Nat → Int64} {L : Nat} {rank rank' : Int32} {below below' : Int64} {r0 r1 r2 ga q0 q1 q2 r0' r1' r2' ga' q0' q1' q2' : Nat → Int64} (hD : DX o ce to st sa L rank rank' below below' r0 r1 r2 ga q0 q1 q2 r0' r1' r2' ga' q0' q1' q2') : ∀ (m j n n' : Nat) (h : Int64) (pn : Int32) (wy nx : Nat → Int64) (tk pl tr bo : Int32) (sp gsp due s0 s1 s2 : Nat → Int64) (inp : Nat → Int32) (be : Int64) (pt : Int32) (rows go na ib sb trd : Nat → Int64) (inps : Nat → Int32) (en' wa : Nat → Int64) (pa : Nat → Int32), j + m = 6 → m < n → m < n' → PJ to (fun k => (st k).toInt) L rank pn tk inp → (∃ rk, rk ≤ 3 ∧ rank = nI rk ∧ PlanIs to (fun k => (st k).toInt) L rk pt pa) → WB to (fun k => (st k).toInt) L rank (F_X4_withPlant_107 n h (nI (10 + j)) (nI L) pn (nI o) rank below r0 r1 r2 rank' below' r0' r1' r2' st ga ga' wy ce nx tk pl tr bo sp gsp q0 q1 q2 due s0 s1 s2 inp) (F_X5_mixPlant_101 n' (nI (10 + j)) (nI o) (nI L) be pt h rows to sa go na ib sb trd inps en' wa pa) := by
  obtain ⟨h1, ho, hT, hS, hL1, hL, hC, -⟩ := hD
  obtain ⟨rk, B, hrk, rfl, hB, hr0, hr1, hr2, hs0, hs1, hs2, rfl, hga⟩ := hC
  intro m
  induction m with
  | zero =>
    intro j n n' h pn wy nx tk pl tr bo sp gsp due s0 s1 s2 inp be pt rows go na ib sb trd inps en' wa pa hj hn hn' hp hq
    obtain ⟨n, rfl⟩ : ∃ q, n = q + 1 := ⟨n - 1, by omega⟩
    obtain ⟨n', rfl⟩ : ∃ q, n' = q + 1 := ⟨n' - 1, by omega⟩
    have ej : j = 6 := by omega
    subst ej
    refine ⟨h, pn, wy, nx, tk, pl, tr, bo, sp, gsp, due, s0, s1, s2, inp, be, pt, rows, go, na, ib, sb, trd, inps, en', wa, pa, ?_, ?_, hp⟩
    · rw [F_X4_withPlant_107, if_pos (show (16 : Int32) ≤ nI (10 + 6) from nI_le (a := 16) (by omega) (by omega))]
    · rw [F_X5_mixPlant_101, if_pos (show (16 : Int32) ≤ nI (10 + 6) from nI_le (a := 16) (by omega) (by omega))]
  | succ m ih =>
    intro j n n' h pn wy nx tk pl tr bo sp gsp due s0 s1 s2 inp be pt rows go na ib sb trd inps en' wa pa hj hn hn' hp hq
    obtain ⟨n, rfl⟩ : ∃ q, n = q + 1 := ⟨n - 1, by omega⟩
    obtain ⟨n', rfl⟩ : ∃ q, n' = q + 1 := ⟨n' - 1, by omega⟩
    have hw : PW (nI (10 + j)) := Or.inr ⟨j, by omega, rfl⟩
    obtain ⟨r, pn2, tk2, pl2, tr2, bo2, sp2, gsp2, due2, s02, s12, s22, inp2, e4, hP4, er⟩ := plan4 h1 ho hT hS hL hB hs0 hs1 hs2 hr0 hw hp pl tr bo sp gsp due r1 r2 s0 s1 s2
    obtain ⟨rk2, hk2, ek2, hP5⟩ := id hq
    have ek3 : rk = rk2 := (nI_eq (by omega) (by omega)).mp ek2
    subst ek3
    have er5 := plan_now (bs_of hT.eq hB) hw hP4 hP5 er
    have eA : F_X4_withPlant_107 (n + 1) h (nI (10 + j)) (nI L) pn (nI o) (nI rk) (Int64.ofInt (DT (B 0) (B 1) (B 2))) r0 r1 r2 rank' below' r0' r1' r2' st ga ga' wy ce nx tk pl tr bo sp gsp q0 q1 q2 due s0 s1 s2 inp = F_X4_withPlant_107 n (31 * h + r) (nI (10 + (j + 1))) (nI L) pn2 (nI o) (nI rk) (Int64.ofInt (DT (B 0) (B 1) (B 2))) r0 r1 r2 rank' below' r0' r1' r2' st ga ga' wy ce nx tk2 pl2 tr2 bo2 sp2 gsp2 q0 q1 q2 due2 s02 s12 s22 inp2 := by
      rw [F_X4_withPlant_107, if_neg (show ¬ (16 : Int32) ≤ nI (10 + j) from nI_ge (b := 16) (by omega) (by omega)), nI_1]
      exact b13 e4 rfl
    have eB : F_X5_mixPlant_101 (n' + 1) (nI (10 + j)) (nI o) (nI L) be pt h rows to sa go na ib sb trd inps en' wa pa = F_X5_mixPlant_101 n' (nI (10 + (j + 1))) (nI o) (nI L) be pt (31 * h + r) rows to sa go na ib sb trd inps en' wa pa := by
      rw [F_X5_mixPlant_101, if_neg (show ¬ (16 : Int32) ≤ nI (10 + j) from nI_ge (b := 16) (by omega) (by omega)), nI_1]
      exact b1 er5 (b1 (a := 31 * h + r) rfl rfl)
    rw [eA, eB]
    exact ih (j + 1) n n' _ _ _ _ _ _ _ _ _ _ _ _ _ _ _ _ _ _ _ _ _ _ _ _ _ _ _ (by omega) (by omega) (by omega) (Or.inr ⟨rk, hrk, rfl, hP4⟩) hq
theorem d85 {o : Nat} {ce to : Nat → Int32} {st sa : Nat → Int64} {L : Nat} {rank rank' : Int32} {below below' : Int64} {r0 r1 r2 ga q0 q1 q2 r0' r1' r2' ga' q0' q1' q2' : Nat → Int64} (hD : DX o ce to st sa L rank rank' below below' r0 r1 r2 ga q0 q1 q2 r0' r1' r2' ga' q0' q1' q2') (h : Int64) (pn : Int32) (wy nx : Nat → Int64) (tk pl tr bo : Int32) (sp gsp due s0 s1 s2 : Nat → Int64) (inp : Nat → Int32) (be : Int64) (pt : Int32) (rows go na ib sb trd : Nat → Int64) (inps : Nat → Int32) (en' wa : Nat → Int64) (pa : Nat → Int32) (hp : PJ to (fun k => (st k).toInt) L rank pn tk inp) : WB to (fun k => (st k).toInt) L rank (bd13 (F_X4_plan (0 : Int32) (nI L) pn (nI o) tk pl tr bo rank below st sp gsp ce q0 q1 q2 due r0 r1 r2 s0 s1 s2 inp) (fun r_3 x3_pn x3_tk x3_pl x3_tr x3_bo x3_sp x3_gsp x3_due x3_s0 x3_s1 x3_s2 x3_inp => F_X4_withPlant_107 3000 (31 * h + r_3) (10 : Int32) (nI L) x3_pn (nI o) rank below r0 r1 r2 rank' below' r0' r1' r2' st ga ga' wy ce nx x3_tk x3_pl x3_tr x3_bo x3_sp x3_gsp q0 q1 q2 x3_due x3_s0 x3_s1 x3_s2 x3_inp)) (F_X5_mixPlant_85 (nI o) (nI L) be pt h rows to sa go na ib sb trd inps en' wa pa) := by
  have hD' := hD
  obtain ⟨h1, ho, hT, hS, hL1, hL, hC, -⟩ := hD
  obtain ⟨rk, B, hrk, rfl, hB, hr0, hr1, hr2, hs0, hs1, hs2, rfl, hga⟩ := hC
  have hw : PW (0 : Int32) := Or.inl rfl
  obtain ⟨r, pn2, tk2, pl2, tr2, bo2, sp2, gsp2, due2, s02, s12, s22, inp2, e4, hP4, er⟩ := plan4 h1 ho hT hS hL hB hs0 hs1 hs2 hr0 hw hp pl tr bo sp gsp due r1 r2 s0 s1 s2
  obtain ⟨pt2, rows2, inps2, trd2, na2, go2, en2, wa2, pa2, e5, hP5⟩ := lay_plan h1 ho hT hS hL1 hL hB pt rows inps trd na go en' wa pa
  have er5 := plan_now (bs_of hT.eq hB) hw hP4 hP5 er
  have eB : F_X5_mixPlant_85 (nI o) (nI L) be pt h rows to sa go na ib sb trd inps en' wa pa = F_X5_mixPlant_101 3000 (nI (10 + 0)) (nI o) (nI L) be pt2 (31 * h + r) rows2 to sa go2 na2 ib sb trd2 inps2 en2 wa2 pa2 := by
    unfold F_X5_mixPlant_85
    exact b9 e5 (b1 er5 (b1 (a := 31 * h + r) rfl rfl))
  rw [eB, b13 e4 rfl]
  exact d107 hD' 6 0 3000 3000 _ _ _ _ _ _ _ _ _ _ _ _ _ _ _ _ _ _ _ _ _ _ _ _ _ _ _ (by omega) (by omega) (by omega) (Or.inr ⟨rk, hrk, rfl, hP4⟩) ⟨rk, hrk, rfl, hP5⟩
theorem d54 {o : Nat} {ce to : Nat → Int32} {st sa : Nat → Int64} {L : Nat} {rank rank' : Int32} {below below' : Int64} {r0 r1 r2 ga q0 q1 q2 r0' r1' r2' ga' q0' q1' q2' : Nat → Int64} (hD : DX o ce to st sa L rank rank' below below' r0 r1 r2 ga q0 q1 q2 r0' r1' r2' ga' q0' q1' q2') : ∀ (m k n n' : Nat) (h : Int64) (pn : Int32) (wy nx : Nat → Int64) (tk pl tr bo : Int32) (sp gsp due s0 s1 s2 : Nat → Int64) (inp : Nat → Int32) (be : Int64) (pt : Int32) (rows go na ib sb trd : Nat → Int64) (inps : Nat → Int32) (en' wa : Nat → Int64) (pa : Nat → Int32), k + m = 6 → m < n → m < n' → PJ to (fun k => (st k).toInt) L rank pn tk inp → WB to (fun k => (st k).toInt) L rank (F_X4_withPlant_54 n h (nI k) (nI L) pn (nI o) rank below r0 r1 r2 rank' below' r0' r1' r2' st ga ga' wy ce nx tk pl tr bo sp gsp q0 q1 q2 due s0 s1 s2 inp) (F_X5_mixPlant_38 n' (nI k) (nI o) (nI L) be pt h rows to sa go na ib sb trd inps en' wa pa) := by
  have hD' := hD
  obtain ⟨h1, ho, hT, hS, hL1, hL, hC, hC'⟩ := hD
  intro m
  induction m with
  | zero =>
    intro k n n' h pn wy nx tk pl tr bo sp gsp due s0 s1 s2 inp be pt rows go na ib sb trd inps en' wa pa hk hn hn' hp
    obtain ⟨n, rfl⟩ : ∃ q, n = q + 1 := ⟨n - 1, by omega⟩
    obtain ⟨n', rfl⟩ : ∃ q, n' = q + 1 := ⟨n' - 1, by omega⟩
    have ek : k = 6 := by omega
    subst ek
    obtain ⟨rk, rk', rfl, rfl, hCh⟩ := ch_of h1 ho hT hC hC'
    obtain ⟨h2, wy2, nx2, be2, rows2, go2, na2, ib2, sb2, eA, hk⟩ := wg_k h1 ho hT hS hCh false h wy nx be rows go na ib sb
    obtain ⟨h3, wy3, nx3, be3, rows3, go3, na3, ib3, sb3, eA3, hk3⟩ := wg_k h1 ho hT hS hCh true h2 wy2 nx2 be2 rows2 go2 na2 ib2 sb2
    have eB : F_X5_mixPlant_38 (n' + 1) (nI 6) (nI o) (nI L) be pt h rows to sa go na ib sb trd inps en' wa pa = F_X5_mixPlant_72 (nI o) (nI L) be2 pt h2 rows2 to sa go2 na2 ib2 sb2 trd inps en' wa pa := by
      rw [F_X5_mixPlant_38, if_pos (show (6 : Int32) ≤ nI 6 from nI_le (a := 6) (by omega) (by omega))]
      exact hk (fun be h rows go na ib sb => F_X5_mixPlant_72 (nI o) (nI L) be pt h rows to sa go na ib sb trd inps en' wa pa)
    have eB3 : F_X5_mixPlant_72 (nI o) (nI L) be2 pt h2 rows2 to sa go2 na2 ib2 sb2 trd inps en' wa pa = F_X5_mixPlant_85 (nI o) (nI L) be3 pt h3 rows3 to sa go3 na3 ib3 sb3 trd inps en' wa pa := by
      unfold F_X5_mixPlant_72
      exact hk3 (fun be h rows go na ib sb => F_X5_mixPlant_85 (nI o) (nI L) be pt h rows to sa go na ib sb trd inps en' wa pa)
    have eA' : F_X4_withGains h (0 : Int32) (nI rk) below (nI rk') below' (nI o) ga ga' wy st ce nx = some (h2, wy2, nx2) := eA
    have eA3' : F_X4_withGains h2 (1 : Int32) (nI rk) below (nI rk') below' (nI o) ga ga' wy2 st ce nx2 = some (h3, wy3, nx3) := eA3
    rw [eB, eB3, F_X4_withPlant_54, if_pos (show (6 : Int32) ≤ nI 6 from nI_le (a := 6) (by omega) (by omega)), b3 eA' rfl, b3 eA3' rfl]
    exact d85 hD' _ _ _ _ _ _ _ _ _ _ _ _ _ _ _ _ _ _ _ _ _ _ _ _ _ _ _ hp
  | succ m ih =>
    intro k n n' h pn wy nx tk pl tr bo sp gsp due s0 s1 s2 inp be pt rows go na ib sb trd inps en' wa pa hk hn hn' hp
    obtain ⟨n, rfl⟩ : ∃ q, n = q + 1 := ⟨n - 1, by omega⟩
    obtain ⟨n', rfl⟩ : ∃ q, n' = q + 1 := ⟨n' - 1, by omega⟩
    obtain ⟨r, wy2, gsp2, rows2, trd2, na2, e4, e5⟩ := about_now h1 ho hT hS hC hC' wy gsp rows trd na k (by omega)
    have eA : F_X4_withPlant_54 (n + 1) h (nI k) (nI L) pn (nI o) rank below r0 r1 r2 rank' below' r0' r1' r2' st ga ga' wy ce nx tk pl tr bo sp gsp q0 q1 q2 due s0 s1 s2 inp = F_X4_withPlant_54 n (31 * h + r) (nI (k + 1)) (nI L) pn (nI o) rank below r0 r1 r2 rank' below' r0' r1' r2' st ga ga' wy2 ce nx tk pl tr bo sp gsp2 q0 q1 q2 due s0 s1 s2 inp := by
      rw [F_X4_withPlant_54, if_neg (show ¬ (6 : Int32) ≤ nI k from nI_ge (b := 6) (by omega) (by omega)), nI_1]
      exact b3 e4 rfl
    have eB : F_X5_mixPlant_38 (n' + 1) (nI k) (nI o) (nI L) be pt h rows to sa go na ib sb trd inps en' wa pa = F_X5_mixPlant_38 n' (nI (k + 1)) (nI o) (nI L) be pt (31 * h + r) rows2 to sa go na2 ib sb trd2 inps en' wa pa := by
      rw [F_X5_mixPlant_38, if_neg (show ¬ (6 : Int32) ≤ nI k from nI_ge (b := 6) (by omega) (by omega)), nI_1]
      exact b4 e5 (b1 (a := 31 * h + r) rfl rfl)
    rw [eA, eB]
    exact ih (k + 1) n n' _ _ _ _ _ _ _ _ _ _ _ _ _ _ _ _ _ _ _ _ _ _ _ _ _ _ _ (by omega) (by omega) (by omega) hp
theorem d2 {o : Nat} {ce to : Nat → Int32} {st sa : Nat → Int64} {L : Nat} {rank rank' : Int32} {below below' : Int64} {r0 r1 r2 ga q0 q1 q2 r0' r1' r2' ga' q0' q1' q2' : Nat → Int64} (hD : DX o ce to st sa L rank rank' below below' r0 r1 r2 ga q0 q1 q2 r0' r1' r2' ga' q0' q1' q2') : ∀ (m k n n' : Nat) (h : Int64) (pn : Int32) (wy nx : Nat → Int64) (tk pl tr bo : Int32) (sp gsp due s0 s1 s2 : Nat → Int64) (inp : Nat → Int32) (be : Int64) (pt : Int32) (rows go na ib sb trd : Nat → Int64) (inps : Nat → Int32) (en' wa : Nat → Int64) (pa : Nat → Int32), k + m = o → m < n → m < n' → PJ to (fun k => (st k).toInt) L rank pn tk inp → WB to (fun k => (st k).toInt) L rank (F_X4_withPlant_2 n h (nI k) (nI L) pn (nI o) rank below r0 r1 r2 rank' below' r0' r1' r2' st ga ga' wy ce nx tk pl tr bo sp gsp q0 q1 q2 due s0 s1 s2 inp) (F_X5_mixPlant_2 n' (nI k) (nI o) (nI L) be pt h rows to sa go na ib sb trd inps en' wa pa) := by
  have hD' := hD
  obtain ⟨h1, ho, hT, hS, hL1, hL, hC, hC'⟩ := hD
  intro m
  induction m with
  | zero =>
    intro k n n' h pn wy nx tk pl tr bo sp gsp due s0 s1 s2 inp be pt rows go na ib sb trd inps en' wa pa hk hn hn' hp
    obtain ⟨n, rfl⟩ : ∃ q, n = q + 1 := ⟨n - 1, by omega⟩
    obtain ⟨n', rfl⟩ : ∃ q, n' = q + 1 := ⟨n' - 1, by omega⟩
    obtain ⟨_, _, _, _, _, t0, t1, t2, _⟩ := hC
    obtain ⟨_, _, _, _, _, t0', t1', t2', _⟩ := hC'
    obtain ⟨h2, f, eA, eB⟩ := rows_both false h1 ho hT t0 t1 t2 h rows
    obtain ⟨h3, f3, eA3, eB3⟩ := rows_both true h1 ho hT t0' t1' t2' h2 f
    have e1 : F_X4_withPlant_2 (n + 1) h (nI k) (nI L) pn (nI o) rank below r0 r1 r2 rank' below' r0' r1' r2' st ga ga' wy ce nx tk pl tr bo sp gsp q0 q1 q2 due s0 s1 s2 inp = F_X4_withPlant_54 3000 h3 (nI 0) (nI L) pn (nI o) rank below r0 r1 r2 rank' below' r0' r1' r2' st ga ga' wy ce nx tk pl tr bo sp gsp q0 q1 q2 due s0 s1 s2 inp := by
      rw [F_X4_withPlant_2, if_pos (nI_le (by omega) (by omega))]
      exact b1 eA (b1 eA3 rfl)
    have e2 : F_X5_mixPlant_2 (n' + 1) (nI k) (nI o) (nI L) be pt h rows to sa go na ib sb trd inps en' wa pa = F_X5_mixPlant_38 3000 (nI 0) (nI o) (nI L) be pt h3 f3 to sa go na ib sb trd inps en' wa pa := by
      rw [F_X5_mixPlant_2, if_pos (nI_le (by omega) (by omega))]
      exact b2 eB (b2 eB3 rfl)
    rw [e1, e2]
    exact d54 hD' 6 0 3000 3000 _ _ _ _ _ _ _ _ _ _ _ _ _ _ _ _ _ _ _ _ _ _ _ _ _ _ _ (by omega) (by omega) (by omega) hp
  | succ m ih =>
    intro k n n' h pn wy nx tk pl tr bo sp gsp due s0 s1 s2 inp be pt rows go na ib sb trd inps en' wa pa hk hn hn' hp
    obtain ⟨n, rfl⟩ : ∃ q, n = q + 1 := ⟨n - 1, by omega⟩
    obtain ⟨n', rfl⟩ : ∃ q, n' = q + 1 := ⟨n' - 1, by omega⟩
    have hko : k < o := by omega
    have es : sa k = st k := (hS k (by omega)).1
    have eA : F_X4_withPlant_2 (n + 1) h (nI k) (nI L) pn (nI o) rank below r0 r1 r2 rank' below' r0' r1' r2' st ga ga' wy ce nx tk pl tr bo sp gsp q0 q1 q2 due s0 s1 s2 inp = F_X4_withPlant_2 n (31 * h + st k) (nI (k + 1)) (nI L) pn (nI o) rank below r0 r1 r2 rank' below' r0' r1' r2' st ga ga' wy ce nx tk pl tr bo sp gsp q0 q1 q2 due s0 s1 s2 inp := by
      rw [F_X4_withPlant_2, if_neg (nI_ge hko (by omega)), if_neg (in3 (by omega)), clk (by omega), nI_1]
    have eB : F_X5_mixPlant_2 (n' + 1) (nI k) (nI o) (nI L) be pt h rows to sa go na ib sb trd inps en' wa pa = F_X5_mixPlant_2 n' (nI (k + 1)) (nI o) (nI L) be pt (31 * h + st k) rows to sa go na ib sb trd inps en' wa pa := by
      rw [F_X5_mixPlant_2, if_neg (nI_ge hko (by omega)), if_neg (in3 (by omega)), clk (by omega), nI_1, es]
      exact b1 (a := 31 * h + st k) rfl rfl
    rw [eA, eB]
    exact ih (k + 1) n n' _ _ _ _ _ _ _ _ _ _ _ _ _ _ _ _ _ _ _ _ _ _ _ _ _ _ _ (by omega) (by omega) (by omega) hp
