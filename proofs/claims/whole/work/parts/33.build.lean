def sq (B : Nat → Nat → Int) (j : Nat) : Nat → Int := if j = 0 then cr (B 1) (B 2) else if j = 1 then cr (B 2) (B 0) else cr (B 0) (B 1)
def Gn (x : Bool) (ce : Nat → Int32) (o rk : Nat) (B : Nat → Nat → Int) (k : Nat) : Int := if 1 ≤ o ∧ rk = o then dotI (sq B (o - 1)) (gn x ce o (un k)) else 0
theorem sq_rp {B : Nat → Nat → Int} {s0 s1 s2 : Nat → Int64} (h0 : rp s0 (cr (B 1) (B 2))) (h1 : rp s1 (cr (B 2) (B 0))) (h2 : rp s2 (cr (B 0) (B 1))) {k : Nat} (hk : k < 3) {g : Nat → Int64} {v : Nat → Int} (hg : rp g v) : F_X0_share (nI k) s0 s1 s2 g = some (Int64.ofInt (dotI (sq B k) v)) :=
  share_rp (S := sq B) k hk h0 h1 h2 hg
theorem fg_step (x : Bool) (ce : Nat → Int32) {o rk : Nat} (ho : o ≤ 3) (hrk : rk ≤ 3) {B : Nat → Nat → Int} {s0 s1 s2 : Nat → Int64} (h0 : rp s0 (cr (B 1) (B 2))) (h1 : rp s1 (cr (B 2) (B 0))) (h2 : rp s2 (cr (B 0) (B 1))) (n k : Nat) (hk : k < 3) (sp gsp ga : Nat → Int64) :
    ∃ sp2 gsp2, F_X0_findGains_2 (n + 1) (nI k) (nI rk) (xI x) sp (nI o) gsp ce ga s0 s1 s2 = F_X0_findGains_2 n (nI (k + 1)) (nI rk) (xI x) sp2 (nI o) gsp2 ce (vp_updL ga k (Int64.ofInt (Gn x ce o rk B k))) s0 s1 s2 := by
  obtain ⟨u, hu, hur⟩ := unit_rp k hk sp
  obtain ⟨q, r, hc, hr⟩ := carry_rp x ce o (by omega) gsp hur
  refine ⟨r, q, ?_⟩
  have g : ¬ (nI k < 0 ∨ 3 ≤ (nI k).toNatClampNeg) := nI_in hk (by omega)
  rw [F_X0_findGains_2, if_neg (show ¬ (3 : Int32) ≤ nI k from nI_ge (b := 3) hk (by omega))]
  refine b1 hu (b2 hc ?_)
  by_cases h : o = 0
  · subst h
    rw [if_pos (show nI 0 ≤ 0 by decide)]
    unfold F_X0_findGains_53 F_X0_findGains_54
    rw [ie0]
    unfold F_X0_findGains_82
    rw [if_neg g, nI_clamp (by omega), nI_1]
    have e : Gn x ce 0 rk B k = 0 := if_neg (by omega)
    rw [e]; rfl
  · rw [if_neg (nI_nle (by omega) (by omega))]
    by_cases e2 : rk = o
    · rw [if_pos (by rw [e2])]
      unfold F_X0_findGains_54
      rw [ie1]
      have e3 : nI o - 1 = nI (o - 1) := pk_sub (a := o) (b := 1) (by omega)
      rw [e3]
      refine b1 (sq_rp h0 h1 h2 (by omega) hr) ?_
      unfold F_X0_findGains_82
      rw [if_neg g, nI_clamp (by omega), nI_1]
      have e : Gn x ce o rk B k = dotI (sq B (o - 1)) (gn x ce o (un k)) := if_pos ⟨by omega, e2⟩
      rw [e]
    · rw [if_neg (fun q => e2 ((nI_eq (by omega) (by omega)).mp q))]
      unfold F_X0_findGains_53 F_X0_findGains_54
      rw [ie0]
      unfold F_X0_findGains_82
      rw [if_neg g, nI_clamp (by omega), nI_1]
      have e : Gn x ce o rk B k = 0 := if_neg (by omega)
      rw [e]; rfl
theorem fg_rp (x : Bool) (ce : Nat → Int32) {o rk : Nat} (ho : o ≤ 3) (hrk : rk ≤ 3) {B : Nat → Nat → Int} {s0 s1 s2 : Nat → Int64} (h0 : rp s0 (cr (B 1) (B 2))) (h1 : rp s1 (cr (B 2) (B 0))) (h2 : rp s2 (cr (B 0) (B 1))) (sp gsp ga : Nat → Int64) :
    ∃ sp2 gsp2 ga2, F_X0_findGains (nI rk) (xI x) sp (nI o) gsp ce ga s0 s1 s2 = some (sp2, gsp2, ga2) ∧ rp ga2 (Gn x ce o rk B) := by
  obtain ⟨a1, a2, e1⟩ := fg_step x ce ho hrk h0 h1 h2 2999 0 (by omega) sp gsp ga
  obtain ⟨a3, a4, e2⟩ := fg_step x ce ho hrk h0 h1 h2 2998 1 (by omega) a1 a2 (vp_updL ga 0 (Int64.ofInt (Gn x ce o rk B 0)))
  obtain ⟨a5, a6, e3⟩ := fg_step x ce ho hrk h0 h1 h2 2997 2 (by omega) a3 a4 (vp_updL (vp_updL ga 0 (Int64.ofInt (Gn x ce o rk B 0))) 1 (Int64.ofInt (Gn x ce o rk B 1)))
  refine ⟨a5, a6, vp_updL (vp_updL (vp_updL ga 0 (Int64.ofInt (Gn x ce o rk B 0))) 1 (Int64.ofInt (Gn x ce o rk B 1))) 2 (Int64.ofInt (Gn x ce o rk B 2)), ?_, rfl, rfl, rfl⟩
  unfold F_X0_findGains
  refine e1.trans (e2.trans (e3.trans ?_))
  show F_X0_findGains_2 (2996 + 1) _ _ _ _ _ _ _ _ _ _ _ = _
  rw [F_X0_findGains_2, if_pos (by decide)]
def ChainIs (x : Bool) (ce : Nat → Int32) (o : Nat) (rank : Int32) (below : Int64) (r0 r1 r2 ga s0 s1 s2 : Nat → Int64) : Prop :=
  ∃ (rk : Nat) (B : Nat → Nat → Int), rk ≤ 3 ∧ rank = nI rk ∧ BaseIs (Rw x ce) rk B ∧ rp r0 (Rw x ce 0) ∧ rp r1 (Rw x ce 1) ∧ rp r2 (Rw x ce 2) ∧ rp s0 (cr (B 1) (B 2)) ∧ rp s1 (cr (B 2) (B 0)) ∧ rp s2 (cr (B 0) (B 1)) ∧ below = Int64.ofInt (DT (B 0) (B 1) (B 2)) ∧ rp ga (Gn x ce o rk B)
theorem dot_DT {b0 s0 : Nat → Int64} {u v w : Nat → Int} (h0 : rp b0 u) (h1 : rp s0 (cr v w)) : F_X4_dot b0 s0 = some (Int64.ofInt (DT u v w)) := by
  rw [dot_rp h0 h1]
  congr 2
theorem bld_step0 (ce : Nat → Int32) (n : Nat) (rank : Int32) (below : Int64) (r0 r1 r2 sp b0 b1' b2' s0 s1 s2 gsp ga : Nat → Int64) (or_ : Int32) :
    ∃ q0, rp q0 (pu false ce) ∧ F_X0_build_2 (n + 1 + 1 + 1) 0 rank below 0 r0 r1 r2 or_ ce sp b0 b1' b2' s0 s1 s2 gsp ga = F_X0_build_2 n 3 rank below 0 q0 r1 r2 or_ ce sp b0 b1' b2' s0 s1 s2 gsp ga :=
  ⟨vp_updL (vp_updL (vp_updL r0 0 (ce 9).toInt64) 1 (ce 10).toInt64) 2 (ce 11).toInt64, ⟨t64 _, t64 _, t64 _⟩, rfl⟩
theorem bld_step1 (ce : Nat → Int32) (n : Nat) (rank : Int32) (below : Int64) (r0 r1 r2 sp b0 b1' b2' s0 s1 s2 gsp ga : Nat → Int64) (or_ : Int32) :
    ∃ q0, rp q0 (pu true ce) ∧ F_X0_build_2 (n + 1 + 1 + 1) 0 rank below 1 r0 r1 r2 or_ ce sp b0 b1' b2' s0 s1 s2 gsp ga = F_X0_build_2 n 3 rank below 1 q0 r1 r2 or_ ce sp b0 b1' b2' s0 s1 s2 gsp ga :=
  ⟨vp_updL (vp_updL (vp_updL r0 0 (ce 12).toInt64) 1 (ce 13).toInt64) 2 (ce 14).toInt64, ⟨t64 _, t64 _, t64 _⟩, rfl⟩
theorem bld_step (x : Bool) (ce : Nat → Int32) (n : Nat) (rank : Int32) (below : Int64) (r0 r1 r2 sp b0 b1' b2' s0 s1 s2 gsp ga : Nat → Int64) (or_ : Int32) :
    ∃ q0, rp q0 (pu x ce) ∧ F_X0_build_2 (n + 1 + 1 + 1) 0 rank below (xI x) r0 r1 r2 or_ ce sp b0 b1' b2' s0 s1 s2 gsp ga = F_X0_build_2 n 3 rank below (xI x) q0 r1 r2 or_ ce sp b0 b1' b2' s0 s1 s2 gsp ga := by
  cases x
  · exact bld_step0 ce n rank below r0 r1 r2 sp b0 b1' b2' s0 s1 s2 gsp ga or_
  · exact bld_step1 ce n rank below r0 r1 r2 sp b0 b1' b2' s0 s1 s2 gsp ga or_
theorem build_rp (x : Bool) {ce : Nat → Int32} (hc : CB ce) {o : Nat} (ho : o ≤ 3) (rank : Int32) (below : Int64) (r0 r1 r2 sp b0 b1' b2' s0 s1 s2 gsp ga : Nat → Int64) :
    ∃ (q_rank : Int32) (q_below : Int64) (q0 q1 q2 qsp c0 c1 c2 t0 t1 t2 qg qga : Nat → Int64), F_X0_build rank below (xI x) r0 r1 r2 (nI o) ce sp b0 b1' b2' s0 s1 s2 gsp ga = some (q_rank, q_below, q0, q1, q2, qsp, c0, c1, c2, t0, t1, t2, qg, qga) ∧ ChainIs x ce o q_rank q_below q0 q1 q2 qga t0 t1 t2 := by
  obtain ⟨q0, hq0, e0⟩ := bld_step x ce 2997 rank below r0 r1 r2 sp b0 b1' b2' s0 s1 s2 gsp ga (nI o)
  obtain ⟨q1, hg1, hq1⟩ := goOn_rp x ce r1 hq0
  obtain ⟨q2, hg2, hq2⟩ := goOn_rp x ce r2 hq1
  obtain ⟨rk, B, sp2, c0, c1, c2, hf, hB, hrk, hc0, hc1, hc2⟩ := fill_rp (Rw x ce) rank (r0 := q0) (r1 := q1) (r2 := q2) hq0 hq1 hq2 (R0_bd hc x) (R1_bd hc x) (R2_bd hc x) sp b0 b1' b2'
  obtain ⟨t0, ht0, hr0⟩ := cross_rp s0 hc1 hc2
  obtain ⟨t1, ht1, hr1⟩ := cross_rp s1 hc2 hc0
  obtain ⟨t2, ht2, hr2⟩ := cross_rp s2 hc0 hc1
  obtain ⟨a1, a2, a3, hfg, hga⟩ := fg_rp x ce ho hrk hr0 hr1 hr2 sp2 gsp ga
  refine ⟨nI rk, Int64.ofInt (DT (B 0) (B 1) (B 2)), q0, q1, q2, a1, c0, c1, c2, t0, t1, t2, a2, a3, ?_, rk, B, hrk, rfl, hB, hq0, hq1, hq2, hr0, hr1, hr2, rfl, hga⟩
  unfold F_X0_build
  refine e0.trans ?_
  show F_X0_build_2 (2996 + 1) _ _ _ _ _ _ _ _ _ _ _ _ _ _ _ _ _ _ = _
  rw [F_X0_build_2, if_pos (by decide)]
  exact b1 hg1 (b1 hg2 (b5 hf (b1 ht0 (b1 ht1 (b1 ht2 (b1 (dot_DT hc0 hr0) (b3 hfg rfl)))))))
