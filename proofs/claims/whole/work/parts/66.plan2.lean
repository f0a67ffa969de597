/-! plan: one answer on both sides -/
theorem fit_no {to : Nat → Int32} {S : Nat → Int} {L n t : Nat} {inp : Nat → Int32} (h : HasFit to S L n t inp) (hn : NoFit to S L n t) : False := by
  obtain ⟨M, q, hM, hg, -, -⟩ := h
  exact hn M hM ⟨q, hg⟩
theorem fit_one {to : Nat → Int32} {rk : Nat} {B : Nat → Nat → Int} (hB : Bs to rk B) {S : Nat → Int} {L n : Nat} {i1 i2 : Nat → Int32} (h1 : HasFit to S L n (n - min n rk) i1) (h2 : HasFit to S L n (n - min n rk) i2) : ∀ i, i < n → i1 i = i2 i := by
  obtain ⟨M, q, hM, hg, hl, he⟩ := h1
  obtain ⟨M', q', hM', hg', hl', he'⟩ := h2
  have hMM : M = M' := by
    rcases Nat.lt_trichotomy M M' with c | c | c
    · exact absurd ⟨q, hg⟩ (hl' M c)
    · exact c
    · exact absurd ⟨q', hg'⟩ (hl M' c)
  subst hMM
  intro i hi
  rw [he i hi, he' i hi]
  by_cases c : i < n - min n rk
  · rw [mx_lt c, mx_lt c]
  · rw [mx_ge (by omega), mx_ge (by omega), good_one hB (b := min n rk) (by omega) (by omega) hg hg' i (by omega) hi]
theorem plan_one {to : Nat → Int32} {rk : Nat} {B : Nat → Nat → Int} (hB : Bs to rk B) {S : Nat → Int} {L : Nat} {t1 t2 : Int32} {i1 i2 : Nat → Int32} (h1 : PlanIs to S L rk t1 i1) (h2 : PlanIs to S L rk t2 i2) : t2 = t1 ∧ (t1 = -1 ∨ ∃ n, n ≤ 6 ∧ t1 = nI n ∧ ∀ i, i < n → i1 i = i2 i) := by
  have hrk := hB.1
  rcases h1 with ⟨n, hn, rfl, hno, hf⟩ | ⟨rfl, hno⟩
  · rcases h2 with ⟨n', hn', rfl, hno', hf'⟩ | ⟨rfl, hno'⟩
    · have e : n = n' := by
        rcases Nat.lt_trichotomy n n' with c | c | c
        · exact (fit_no hf (hno' n c)).elim
        · exact c
        · exact (fit_no hf' (hno n' c)).elim
      subst e
      exact ⟨rfl, Or.inr ⟨n, by omega, rfl, fit_one hB hf hf'⟩⟩
    · exact (fit_no hf (hno' n hn)).elim
  · rcases h2 with ⟨n', hn', rfl, hno', hf'⟩ | ⟨rfl, hno'⟩
    · exact (fit_no hf' (hno n' hn')).elim
    · exact ⟨rfl, Or.inl rfl⟩
def PW (l : Int32) : Prop := l = 0 ∨ ∃ j, j < 6 ∧ l = nI (10 + j)
theorem pn_eq {l1 tk : Int32} {i1 i2 : Nat → Int32} (hl : PW l1) (h : tk = -1 ∨ ∃ n, n ≤ 6 ∧ tk = nI n ∧ ∀ i, i < n → i1 i = i2 i) : ∃ r, F_X5_planNow l1 tk i1 = some r ∧ F_X5_planNow l1 tk i2 = some r := by
  rcases hl with rfl | ⟨j, hj, rfl⟩
  · by_cases c : 0 ≤ tk
    · exact ⟨tk.toInt64, by unfold F_X5_planNow; rw [if_pos rfl, if_pos c], by unfold F_X5_planNow; rw [if_pos rfl, if_pos c]⟩
    · exact ⟨-10000000000001, by unfold F_X5_planNow; rw [if_pos rfl, if_neg c], by unfold F_X5_planNow; rw [if_pos rfl, if_neg c]⟩
  · have e10 : nI (10 + j) - 10 = nI j := by
      rw [show (10 : Int32) = nI 10 from rfl, nIs (by omega), show 10 + j - 10 = j by omega]
    have hn0 : ¬ nI (10 + j) = 0 := nI_ne0 (by omega) (by omega)
    by_cases c : tk ≤ nI j
    · exact ⟨-10000000000001, by unfold F_X5_planNow; rw [if_neg hn0, e10, if_pos c], by unfold F_X5_planNow; rw [if_neg hn0, e10, if_pos c]⟩
    · rcases h with rfl | ⟨n, hn, rfl, he⟩
      · refine absurd ?_ c
        rw [i_le, nI_toInt (by omega)]
        have e1 : (-1 : Int32).toInt = -1 := rfl
        omega
      · have hjn : j < n := by
          rcases Nat.lt_or_ge j n with q | q
          · exact q
          · exact absurd (nI_le q (by omega)) c
        refine ⟨(i2 j).toInt64, ?_, ?_⟩
        · unfold F_X5_planNow
          rw [if_neg hn0, e10, if_neg c, if_neg (in6 hj), clk (by omega), he j hjn]
        · unfold F_X5_planNow
          rw [if_neg hn0, e10, if_neg c, if_neg (in6 hj), clk (by omega)]
theorem p69 (l1 li pn or_ tk pl tr bo rk : Int32) (be : Int64) (st sp gsp : Nat → Int64) (ce : Nat → Int32) (q0 q1 q2 due r0 r1 r2 s0 s1 s2 : Nat → Int64) (inp : Nat → Int32) {r : Int64} (h : F_X5_planNow l1 tk inp = some r) : F_X4_plan_69 l1 li pn or_ tk pl tr bo rk be st sp gsp ce q0 q1 q2 due r0 r1 r2 s0 s1 s2 inp = some (r, pn, tk, pl, tr, bo, sp, gsp, due, s0, s1, s2, inp) := by
  unfold F_X5_planNow at h
  unfold F_X4_plan_69
  by_cases c : l1 = 0
  · rw [if_pos c] at h ⊢
    by_cases d : 0 ≤ tk
    · rw [if_pos d] at h ⊢
      cases h; rfl
    · rw [if_neg d] at h ⊢
      cases h; rfl
  · rw [if_neg c] at h ⊢
    by_cases d : tk ≤ l1 - 10
    · rw [if_pos d] at h ⊢
      cases h; rfl
    · rw [if_neg d] at h ⊢
      by_cases f : (l1 - 10) < 0 ∨ 6 ≤ (l1 - 10).toNatClampNeg
      · rw [if_pos f] at h
        cases h
      · rw [if_neg f] at h ⊢
        cases h; rfl
theorem pw_in {l1 : Int32} (h : PW l1) (c : ¬ l1 = 0) : ¬ l1 < 10 ∧ l1 < 16 ∧ F_X5_within l1 10 15 = some 1 := by
  rcases h with rfl | ⟨j, hj, rfl⟩
  · exact absurd rfl c
  · refine ⟨?_, nI_lt (b := 16) (by omega) (by omega), within_1 (nI_le (a := 10) (by omega) (by omega)) (nI_le (b := 15) (by omega) (by omega))⟩
    intro q
    rw [i_lt, nI_toInt (by omega)] at q
    have e1 : (10 : Int32).toInt = 10 := rfl
    omega
theorem pw_ex {l1 : Int32} (h1 : ¬ l1 < 10) (h2 : l1 < 16) : PW l1 := by
  rw [i_lt] at h1 h2
  have e1 : (10 : Int32).toInt = 10 := rfl
  have e2 : (16 : Int32).toInt = 16 := rfl
  refine Or.inr ⟨(l1.toInt - 10).toNat, by omega, ?_⟩
  rw [i_eq, nI_toInt (by omega)]
  omega
theorem pb_of {o : Nat} {ce to : Nat → Int32} (hT : JT o ce to) {st sa : Nat → Int64} (hS : JS o st sa) {rk : Nat} {B : Nat → Nat → Int} (hB : BaseIs (Rw false ce) rk B) : PB to B rk (fun k => (st k).toInt) := by
  obtain ⟨d0, d1, d2⟩ := B_bd false hT.cb hB
  have := DT_bd d0 d1 d2
  exact ⟨bs_of hT.eq hB, hS.bd, hT.zt.1, sq_bd false hT.cb hB, by omega, by omega⟩
theorem DT_to {ce to : Nat → Int32} (h : ∀ k, k < 15 → to k = ce k) : DT (Rw false to 0) (Rw false to 1) (Rw false to 2) = DT (Rw false ce 0) (Rw false ce 1) (Rw false ce 2) := by
  unfold DT
  rw [Rw_cg h false 0 (i := 0) (by omega), Rw_cg h false 0 (i := 1) (by omega), Rw_cg h false 0 (i := 2) (by omega), Rw_cg h false 1 (i := 0) (by omega), Rw_cg h false 1 (i := 1) (by omega), Rw_cg h false 1 (i := 2) (by omega), Rw_cg h false 2 (i := 0) (by omega), Rw_cg h false 2 (i := 1) (by omega), Rw_cg h false 2 (i := 2) (by omega)]
theorem lay_plan {o : Nat} (h1 : 1 ≤ o) (ho : o ≤ 3) {ce to : Nat → Int32} (hT : JT o ce to) {st sa : Nat → Int64} (hS : JS o st sa) {L : Nat} (hL1 : 1 ≤ L) (hL : L ≤ 5) {rk : Nat} {B : Nat → Nat → Int} (hB : BaseIs (Rw false ce) rk B) (tk : Int32) (rows : Nat → Int64) (inp : Nat → Int32) (tr nx go en' wa : Nat → Int64) (pa : Nat → Int32) : ∃ tk2 rows2 inp2 tr2 nx2 go2 en2 wa2 pa2, F_X5_layPlan (nI o) (nI L) tk rows to inp tr sa nx go en' wa pa = some (tk2, rows2, inp2, tr2, nx2, go2, en2, wa2, pa2) ∧ PlanIs to (fun k => (st k).toInt) L rk tk2 pa2 := by
  have hrk := base_rk hB
  obtain ⟨f, e, hm⟩ := rank5 false h1 ho hT hB rows
  obtain ⟨rk2, f', hk2, -, -, -⟩ := rankNow_ev false h1 ho hT.zt rows
  obtain ⟨-, hro, -⟩ := rk_eq false h1 ho hT.zc hT.eq hB hk2
  have hY : PY to o rk (fun k => (st k).toInt) sa f := by
    refine ⟨ho, hT.zt, hro, ?_, fun k hk h => hS.z hk h, hS.rpo ho, hm⟩
    intro h3
    rw [DT_to hT.eq]
    rcases hB with ⟨-, hd, -⟩ | ⟨q, -⟩ | ⟨q, -⟩ | ⟨q, -⟩
    · exact hd
    · omega
    · omega
    · omega
  obtain ⟨tk2, inp2, tr2, nx2, go2, en2, wa2, pa2, e2, hp⟩ := lp_13 (pb_of hT hS hB) hY hL1 hL (rk + 4) 0 3000 inp pa tr nx go en' wa (by omega) (by omega) (fun k hk => by omega)
  refine ⟨tk2, f, inp2, tr2, nx2, go2, en2, wa2, pa2, ?_, hp⟩
  unfold F_X5_layPlan
  exact b2 e e2
theorem plan_self {to : Nat → Int32} {S : Nat → Int} {L rk : Nat} (hrk : rk ≤ 3) {tk : Int32} {inp : Nat → Int32} (h : PlanIs to S L rk tk inp) : tk = -1 ∨ ∃ n, n ≤ 6 ∧ tk = nI n ∧ ∀ i, i < n → inp i = inp i := by
  rcases h with ⟨n, hn, rfl, -, -⟩ | ⟨rfl, -⟩
  · exact Or.inr ⟨n, by omega, rfl, fun _ _ => rfl⟩
  · exact Or.inl rfl
theorem plan34 {o : Nat} (h1 : 1 ≤ o) (ho : o ≤ 3) {l1 : Int32} (hl : PW l1) (li pn tk pl tr bo rk : Int32) (be : Int64) (st sp gsp : Nat → Int64) (ce : Nat → Int32) (q0 q1 q2 due r0 r1 r2 s0 s1 s2 : Nat → Int64) (inp : Nat → Int32) : F_X4_plan l1 li pn (nI o) tk pl tr bo rk be st sp gsp ce q0 q1 q2 due r0 r1 r2 s0 s1 s2 inp = F_X4_plan_34 l1 li pn (nI o) tk pl tr bo rk be st sp gsp ce q0 q1 q2 due r0 r1 r2 s0 s1 s2 inp := by
  unfold F_X4_plan
  rw [if_neg (nI_ne0 h1 (by omega))]
  by_cases c : l1 = 0
  · rw [if_pos c]
  · obtain ⟨a, b, -⟩ := pw_in hl c
    rw [if_neg c, if_neg a, if_pos b]
def PJ (to : Nat → Int32) (S : Nat → Int) (L : Nat) (rank pn tk : Int32) (inp : Nat → Int32) : Prop := pn = 0 ∨ ∃ rk, rk ≤ 3 ∧ rank = nI rk ∧ PlanIs to S L rk tk inp
theorem plan4 {o : Nat} (h1 : 1 ≤ o) (ho : o ≤ 3) {ce to : Nat → Int32} (hT : JT o ce to) {st sa : Nat → Int64} (hS : JS o st sa) {L : Nat} (hL : L ≤ 5) {rk : Nat} {B : Nat → Nat → Int} (hB : BaseIs (Rw false ce) rk B) {q0 q1 q2 r0 : Nat → Int64} (h0 : rp q0 (cr (B 1) (B 2))) (hq1 : rp q1 (cr (B 2) (B 0))) (hq2 : rp q2 (cr (B 0) (B 1))) (hr0 : rp r0 (Rw false ce 0)) {l1 : Int32} (hl : PW l1) {pn tk : Int32} {inp : Nat → Int32} (hp : PJ to (fun k => (st k).toInt) L (nI rk) pn tk inp) (pl tr bo : Int32) (sp gsp due r1 r2 s0 s1 s2 : Nat → Int64) : ∃ r pn' tk' pl' tr' bo' sp' gsp' due' s0' s1' s2' inp', F_X4_plan l1 (nI L) pn (nI o) tk pl tr bo (nI rk) (Int64.ofInt (DT (B 0) (B 1) (B 2))) st sp gsp ce q0 q1 q2 due r0 r1 r2 s0 s1 s2 inp = some (r, pn', tk', pl', tr', bo', sp', gsp', due', s0', s1', s2', inp') ∧ PlanIs to (fun k => (st k).toInt) L rk tk' inp' ∧ F_X5_planNow l1 tk' inp' = some r := by
  have hrk := base_rk hB
  rw [plan34 h1 ho hl]
  unfold F_X4_plan_34
  by_cases c : pn = 0
  · rw [if_pos c]
    obtain ⟨tk2, tr2, bo2, sp2, gsp2, due2, s0', s1', s2', inp2, e, hP⟩ := seek_go hT.eq h0 hq1 hq2 hr0 (pb_of hT hS hB) hL hS.rp r1 r2 (rk + 4) 0 3000 tr bo sp gsp due s0 s1 s2 inp (by omega) (by omega) (fun k hk => by omega)
    obtain ⟨r, er, -⟩ := pn_eq hl (plan_self hrk hP)
    refine ⟨r, 1, tk2, nI L, tr2, bo2, sp2, gsp2, due2, s0', s1', s2', inp2, ?_, hP, er⟩
    refine b11 e ?_
    exact p69 _ _ _ _ _ _ _ _ _ _ _ _ _ _ _ _ _ _ _ _ _ _ _ _ _ er
  · rw [if_neg c]
    rcases hp with hp | ⟨rk2, hr2, e2, hP⟩
    · exact absurd hp c
    · have e3 : rk = rk2 := (nI_eq (by omega) (by omega)).mp e2
      subst e3
      obtain ⟨r, er, -⟩ := pn_eq hl (plan_self hrk hP)
      exact ⟨r, pn, tk, pl, tr, bo, sp, gsp, due, s0, s1, s2, inp, p69 _ _ _ _ _ _ _ _ _ _ _ _ _ _ _ _ _ _ _ _ _ _ _ _ _ er, hP, er⟩
theorem JL.nat {li li2 : Int32} (h : JL li li2) : ∃ L : Nat, 1 ≤ L ∧ L ≤ 5 ∧ li = nI L ∧ li2 = nI L ∧ li.toInt.toNat = L := by
  obtain ⟨e, h1, h5⟩ := h
  have eL : li = nI li.toInt.toNat := by
    rw [i_eq, nI_toInt (by omega)]
    omega
  exact ⟨li.toInt.toNat, by omega, by omega, eL, e.trans eL, rfl⟩
theorem plan30 {o : Nat} (h1 : 1 ≤ o) (ho : o ≤ 3) {l1 : Int32} (hl : PW l1) (li pt : Int32) (rows : Nat → Int64) (to inps : Nat → Int32) (trd sa nx go en' wa : Nat → Int64) (pa : Nat → Int32) : F_X5_plan l1 (nI o) li pt rows to inps trd sa nx go en' wa pa = F_X5_plan_30 l1 (nI o) li pt rows to inps trd sa nx go en' wa pa := by
  unfold F_X5_plan
  rw [if_neg (nI_ne0 h1 (by omega))]
  by_cases c : l1 = 0
  · rw [if_pos c]
  · obtain ⟨-, -, a⟩ := pw_in hl c
    rw [if_neg c]
    exact b1 a ie1
theorem m_plan {o : Nat} (ho : o ≤ 3) {ce to : Nat → Int32} (hT : JT o ce to) {st sa : Nat → Int64} (hS : JS o st sa) {L : Nat} (hL1 : 1 ≤ L) (hL : L ≤ 5) {rank : Int32} {below : Int64} {r0 r1 r2 ga q0 q1 q2 : Nat → Int64} (hC : o ≠ 0 → ChainIs false ce o rank below r0 r1 r2 ga q0 q1 q2) {pn tk : Int32} {inp : Nat → Int32} (hp : PJ to (fun k => (st k).toInt) L rank pn tk inp) (l1 pl tr bo : Int32) (sp gsp due s0 s1 s2 : Nat → Int64) (pt : Int32) (rows : Nat → Int64) (inps : Nat → Int32) (trd nx go en' wa : Nat → Int64) (pa : Nat → Int32) : ∃ r pn' tk' pl' tr' bo' sp' gsp' due' s0' s1' s2' inp' pt2 rows2 inps2 trd2 nx2 go2 en2 wa2 pa2, F_X4_plan l1 (nI L) pn (nI o) tk pl tr bo rank below st sp gsp ce q0 q1 q2 due r0 r1 r2 s0 s1 s2 inp = some (r, pn', tk', pl', tr', bo', sp', gsp', due', s0', s1', s2', inp') ∧ F_X5_plan l1 (nI o) (nI L) pt rows to inps trd sa nx go en' wa pa = some (r, pt2, rows2, inps2, trd2, nx2, go2, en2, wa2, pa2) ∧ PJ to (fun k => (st k).toInt) L rank pn' tk' inp' := by
  by_cases h0 : o = 0
  · subst h0
    exact ⟨-10000000000004, pn, tk, pl, tr, bo, sp, gsp, due, s0, s1, s2, inp, pt, rows, inps, trd, nx, go, en', wa, pa, rfl, rfl, hp⟩
  have h1 : 1 ≤ o := by omega
  have hn0 := nI_ne0 h1 (by omega)
  by_cases c : PW l1
  · obtain ⟨rk, B, hrk, rfl, hB, hr0, -, -, hs0, hs1, hs2, rfl, -⟩ := hC h0
    obtain ⟨r, pn', tk', pl', tr', bo', sp', gsp', due', s0', s1', s2', inp', e4, hP4, er⟩ := plan4 h1 ho hT hS hL hB hs0 hs1 hs2 hr0 c hp pl tr bo sp gsp due r1 r2 s0 s1 s2
    obtain ⟨tk2, rows2, inp2, tr2, nx2, go2, en2, wa2, pa2, e5, hP5⟩ := lay_plan h1 ho hT hS hL1 hL hB pt rows inps trd nx go en' wa pa
    obtain ⟨et, hcase⟩ := plan_one (bs_of hT.eq hB) hP4 hP5
    subst et
    obtain ⟨r', e1, e2⟩ := pn_eq c hcase
    have er' : r' = r := Option.some.inj (e1.symm.trans er)
    subst er'
    refine ⟨r', pn', tk2, pl', tr', bo', sp', gsp', due', s0', s1', s2', inp', tk2, rows2, inp2, tr2, nx2, go2, en2, wa2, pa2, e4, ?_, Or.inr ⟨rk, hrk, rfl, hP4⟩⟩
    rw [plan30 h1 ho c]
    unfold F_X5_plan_30
    exact b9 e5 (b1 e2 rfl)
  · have cn : ¬ l1 = 0 := fun q => c (Or.inl q)
    refine ⟨-10000000000003, pn, tk, pl, tr, bo, sp, gsp, due, s0, s1, s2, inp, pt, rows, inps, trd, nx, go, en', wa, pa, ?_, ?_, hp⟩
    · unfold F_X4_plan
      rw [if_neg hn0, if_neg cn]
      by_cases d : l1 < 10
      · rw [if_pos d]
      · rw [if_neg d, if_neg (fun q => c (pw_ex d q))]
    · unfold F_X5_plan
      rw [if_neg hn0, if_neg cn]
      refine b1 (within_0 ?_) ie0
      by_cases d : l1 < 10
      · exact Or.inl d
      · refine Or.inr ?_
        have e2 : ¬ l1 < 16 := fun q => c (pw_ex d q)
        rw [i_lt] at e2 ⊢
        have e1 : (15 : Int32).toInt = 15 := rfl
        have e3 : (16 : Int32).toInt = 16 := rfl
        omega
