/-! after, input -/
theorem tick_spec (a : Int32) : ((a < 0 ∨ (¬ a < 0 ∧ (4 : Int32) < a)) ∧ F_X5_within a 0 4 = some 0) ∨ ∃ T, T < 5 ∧ a = nI T ∧ ¬ nI T < 0 ∧ ¬ (4 : Int32) < nI T ∧ F_X5_within (nI T) 0 4 = some 1 := by
  rcases pl_cases a 5 (by decide) with h | ⟨k, hk, rfl⟩
  · left
    have h' : a < 0 ∨ (4 : Int32) < a := by
      rcases h with h | h
      · exact Or.inl h
      · right
        rw [i_lt]; rw [i_le] at h
        have e5 : (nI 5).toInt = 5 := by decide
        have e4 : (4 : Int32).toInt = 4 := by decide
        omega
    refine ⟨?_, within_0 h'⟩
    by_cases c : a < 0
    · exact Or.inl c
    · exact Or.inr ⟨c, h'.resolve_left c⟩
  · right
    refine ⟨k, hk, rfl, fun q => in9 (k := k) (by omega) (Or.inl q), ?_, within_1 (nI_le (a := 0) (by omega) (by omega)) (nI_le (b := 4) (by omega) (by omega))⟩
    intro q
    have hle : nI k ≤ (4 : Int32) := nI_le (b := 4) (by omega) (by omega)
    rw [i_lt] at q; rw [i_le] at hle
    omega
theorem after_both {o : Nat} (h1 : 1 ≤ o) (ho : o ≤ 3) {ce to : Nat → Int32} (hT : JT o ce to) {st sa : Nat → Int64} (hS : JS o st sa) {rk rk' : Nat} {be4 be4' : Int64} {ga ga' : Nat → Int64} (hC : Ch o ce to rk rk' be4 be4' ga ga') (x : Bool) (hf : (if x then rk' else rk) = o) {k T : Nat} (hk : k < o) (hT5 : T < 5) {w : Int32} (hw : F_X4_isPart w = some 1) (wy nx4 : Nat → Int64) (be : Int64) (rows g nx ib sb : Nat → Int64) : ∃ r wy2 nx42 be2 rows2 g2 nx2 ib2 sb2, F_X4_after (xI x) (nI T) (nI k) w (nI o) (nI rk) be4 (nI rk') be4' wy st ga' ce nx4 ga = some (r, wy2, nx42) ∧ F_X5_afterNow (xI x) (nI T) (nI k) w (nI o) be rows to g nx ib sb sa = some (r, be2, rows2, g2, nx2, ib2, sb2) := by
  obtain ⟨hrk, hrk', -, -, hF, hF'⟩ := hC
  have hp : F_X3_hasPlace (nI k) (nI o) = some 1 := by
    rcases place_spec ho (nI k) with ⟨a, b⟩ | ⟨j, -, -, a, -⟩
    · have := isP ho (show k < 1000 by omega)
      rw [if_pos hk] at this
      rw [this] at b; cases b
    · exact a
  have ht1 : ¬ nI T < 0 := fun q => in9 (k := T) (by omega) (Or.inl q)
  have ht2 : ¬ (4 : Int32) < nI T := by
    intro q
    have hle : nI T ≤ (4 : Int32) := nI_le (b := 4) (by omega) (by omega)
    rw [i_lt] at q; rw [i_le] at hle
    omega
  cases x
  · have hf' : rk = o := hf
    obtain ⟨hd, rfl, hg⟩ := hF hf'
    obtain ⟨wy2, nx2', ew, hw2⟩ := way_f h1 ho hT hS hd be4' ga' hg (show T ≤ 4 by omega) wy nx4
    obtain ⟨r, be2, rows2, g2, nx2, ib2, sb2, e4, e5⟩ := after_full false h1 ho hT hS hd hT5 hk (wy := wy2) hw2 w be rows g nx ib sb
    refine ⟨r, wy2, nx2', be2, rows2, g2, nx2, ib2, sb2, ?_, e5⟩
    unfold F_X4_after
    refine b1 hp ?_
    rw [ie1, if_neg ht1, if_neg ht2]
    refine b1 hw ?_
    rw [ie1]
    refine b1 (show F_X4_chain (xI false) = some 0 from rfl) ?_
    rw [if_pos rfl]
    refine b1 (full4' h1 ho hrk) ?_
    rw [if_pos hf', ie1]
    refine b2 ew ?_
    rw [if_neg (in3 (by omega)), clk (by omega)]
    exact b1 e4 rfl
  · have hf' : rk' = o := hf
    obtain ⟨hd, rfl, hg⟩ := hF' hf'
    obtain ⟨wy2, nx2', ew, hw2⟩ := way_t h1 ho hT hS hd be4 ga hg (show T ≤ 4 by omega) wy nx4
    obtain ⟨r, be2, rows2, g2, nx2, ib2, sb2, e4, e5⟩ := after_full true h1 ho hT hS hd hT5 hk (wy := wy2) hw2 w be rows g nx ib sb
    refine ⟨r, wy2, nx2', be2, rows2, g2, nx2, ib2, sb2, ?_, e5⟩
    unfold F_X4_after
    refine b1 hp ?_
    rw [ie1, if_neg ht1, if_neg ht2]
    refine b1 hw ?_
    rw [ie1]
    refine b1 (show F_X4_chain (xI true) = some 1 from rfl) ?_
    rw [if_neg (by decide)]
    refine b1 (full4' h1 ho hrk') ?_
    rw [if_pos hf', ie1]
    refine b2 ew ?_
    rw [if_neg (in3 (by omega)), clk (by omega)]
    exact b1 e4 rfl
theorem m_after {o : Nat} (ho : o ≤ 3) {ce to : Nat → Int32} (hT : JT o ce to) {st sa : Nat → Int64} (hS : JS o st sa) {rank : Int32} {below : Int64} {r0 r1 r2 ga s0 s1 s2 : Nat → Int64} {rank' : Int32} {below' : Int64} {r0' r1' r2' ga' s0' s1' s2' : Nat → Int64} (hC : o ≠ 0 → ChainIs false ce o rank below r0 r1 r2 ga s0 s1 s2 ∧ ChainIs true ce o rank' below' r0' r1' r2' ga' s0' s1' s2') (x : Bool) (t a w : Int32) (wy nx4 : Nat → Int64) (be : Int64) (rows g nx ib sb : Nat → Int64) : ∃ r wy2 nx42 be2 rows2 g2 nx2 ib2 sb2, F_X4_after (xI x) t a w (nI o) rank below rank' below' wy st ga' ce nx4 ga = some (r, wy2, nx42) ∧ F_X5_after (xI x) t a w (nI o) be rows to g nx ib sb sa = some (r, be2, rows2, g2, nx2, ib2, sb2) := by
  rcases place_spec ho a with ⟨e4, e5⟩ | ⟨k, hk, rfl, e4, e5⟩
  · refine ⟨-10000000000002, wy, nx4, be, rows, g, nx, ib, sb, ?_, ?_⟩
    · unfold F_X4_after; exact b1 e4 ie0
    · unfold F_X5_after; exact b1 e5 ie0
  · have h1 : 1 ≤ o := by omega
    obtain ⟨c1, c2⟩ := hC (by omega)
    obtain ⟨rk, rk', rfl, rfl, hCh⟩ := ch_of h1 ho hT c1 c2
    rcases tick_spec t with ⟨hh, ew⟩ | ⟨T, hT5, rfl, ht1, ht2, ew⟩
    · refine ⟨-10000000000003, wy, nx4, be, rows, g, nx, ib, sb, ?_, ?_⟩
      · unfold F_X4_after
        refine b1 e4 ?_
        rw [ie1]
        rcases hh with h | ⟨h, h'⟩
        · rw [if_pos h]
        · rw [if_neg h, if_pos h']
      · unfold F_X5_after
        refine b1 e5 ?_
        rw [ie1]
        exact b1 ew ie0
    · rcases part_spec w with ⟨p4, p5⟩ | ⟨p4, p5⟩
      · refine ⟨-10000000000003, wy, nx4, be, rows, g, nx, ib, sb, ?_, ?_⟩
        · unfold F_X4_after
          refine b1 e4 ?_
          rw [ie1, if_neg ht1, if_neg ht2]
          exact b1 p4 ie0
        · unfold F_X5_after
          refine b1 e5 ?_
          rw [ie1]
          refine b1 ew ?_
          rw [ie1]
          exact b1 p5 ie0
      · obtain ⟨f, ef⟩ := full5' h1 ho hT hCh x rows
        by_cases c : (if x then rk' else rk) = o
        · rw [if_pos c] at ef
          obtain ⟨r, wy2, nx42, be2, rows2, g2, nx2, ib2, sb2, q4, q5⟩ := after_both h1 ho hT hS hCh x c hk hT5 p4 wy nx4 be f g nx ib sb
          refine ⟨r, wy2, nx42, be2, rows2, g2, nx2, ib2, sb2, q4, ?_⟩
          unfold F_X5_after
          refine b1 e5 ?_
          rw [ie1]
          refine b1 ew ?_
          rw [ie1]
          refine b1 p5 ?_
          rw [ie1]
          refine b2 ef ?_
          rw [ie1]
          exact b7 q5 rfl
        · rw [if_neg c] at ef
          refine ⟨-10000000000004, wy, nx4, be, f, g, nx, ib, sb, ?_, ?_⟩
          · unfold F_X4_after
            refine b1 e4 ?_
            rw [ie1, if_neg ht1, if_neg ht2]
            refine b1 p4 ?_
            rw [ie1]
            cases x
            · refine b1 (show F_X4_chain (xI false) = some 0 from rfl) ?_
              rw [if_pos rfl]
              refine b1 (full4' h1 ho hCh.1) ?_
              rw [if_neg (show ¬ rk = o from c)]
              exact ie0
            · refine b1 (show F_X4_chain (xI true) = some 1 from rfl) ?_
              rw [if_neg (by decide)]
              refine b1 (full4' h1 ho hCh.2.1) ?_
              rw [if_neg (show ¬ rk' = o from c)]
              exact ie0
          · unfold F_X5_after
            refine b1 e5 ?_
            rw [ie1]
            refine b1 ew ?_
            rw [ie1]
            refine b1 p5 ?_
            rw [ie1]
            exact b2 ef ie0
theorem input_both {o : Nat} (h1 : 1 ≤ o) (ho : o ≤ 3) {ce to : Nat → Int32} (hT : JT o ce to) {st sa : Nat → Int64} (hS : JS o st sa) {rk rk' : Nat} {be4 be4' : Int64} {ga ga' : Nat → Int64} (hC : Ch o ce to rk rk' be4 be4' ga ga') (hf : rk = o) {T : Nat} (hT5 : T < 5) {w : Int32} (hw : F_X4_isPart w = some 1) (wy nx4 : Nat → Int64) (be : Int64) (rows g nx ib sb : Nat → Int64) : ∃ r wy2 nx42 be2 rows2 g2 nx2 ib2 sb2, F_X4_input (nI T) w (nI rk) be4 (nI o) be4' wy st ga' ce nx4 ga = some (r, wy2, nx42) ∧ F_X5_inputNow (nI T) w (nI o) be rows to g nx ib sb sa = some (r, be2, rows2, g2, nx2, ib2, sb2) := by
  obtain ⟨hrk, hrk', -, -, hF, hF'⟩ := hC
  have ht1 : ¬ nI T < 0 := fun q => in9 (k := T) (by omega) (Or.inl q)
  have ht2 : ¬ (4 : Int32) < nI T := by
    intro q
    have hle : nI T ≤ (4 : Int32) := nI_le (b := 4) (by omega) (by omega)
    rw [i_lt] at q; rw [i_le] at hle
    omega
  obtain ⟨hd, rfl, hg⟩ := hF hf
  have hz := hT.zt
  have hsz : ∀ k, k < 3 → o ≤ k → (fun k => (st k).toInt) k = 0 := fun k hk h => hS.z hk h
  have hdb := DM_bd hz false
  have hub := UV_S_bd h1 ho hz false hS.bd hsz T
  obtain ⟨wy2, nx2', ew, hw2⟩ := way_f h1 ho hT hS hd be4' ga' hg (show T ≤ 4 by omega) wy nx4
  obtain ⟨r, be2, rows2, g2, nx2, ib2, sb2, e4, e5⟩ := input_full h1 ho hT hS hd hT5 w be rows g nx ib sb
  refine ⟨r, wy2, nx2', be2, rows2, g2, nx2, ib2, sb2, ?_, e5⟩
  have edot := dot_rp hg hw2
  rw [GG_dot, gain_way h1 ho hz false hsz T] at edot
  unfold F_X4_input
  refine b1 (full4' h1 ho hrk) ?_
  rw [if_pos hf, ie1, if_neg ht1, if_neg ht2]
  refine b1 hw ?_
  rw [ie1]
  refine b2 ew (b1 edot ?_)
  have eq : F_X4_quotient (Int64.ofInt (-(DM false to o * UV false to o (fun k => (st k).toInt) T))) (Int64.ofInt (DM false to o)) = some (Int64.ofInt (-(UV false to o (fun k => (st k).toInt) T))) := by
    rw [show -(DM false to o * UV false to o (fun k => (st k).toInt) T) = DM false to o * (-(UV false to o (fun k => (st k).toInt) T)) by grind]
    have := mb hdb.1 hdb.2 (show -3359232000000 ≤ -(UV false to o (fun k => (st k).toInt) T) by omega) (show -(UV false to o (fun k => (st k).toInt) T) ≤ 3359232000000 by omega)
    exact quot_ex hd (by omega) (by omega) (by omega) (by omega)
  refine b1 eq ?_
  rw [o_neg, Int.neg_neg]
  exact b1 e4 rfl
theorem m_input {o : Nat} (ho : o ≤ 3) {ce to : Nat → Int32} (hT : JT o ce to) {st sa : Nat → Int64} (hS : JS o st sa) {rank : Int32} {below : Int64} {r0 r1 r2 ga s0 s1 s2 : Nat → Int64} {rank' : Int32} {below' : Int64} {r0' r1' r2' ga' s0' s1' s2' : Nat → Int64} (hC : o ≠ 0 → ChainIs false ce o rank below r0 r1 r2 ga s0 s1 s2 ∧ ChainIs true ce o rank' below' r0' r1' r2' ga' s0' s1' s2') (t w : Int32) (wy nx4 : Nat → Int64) (be : Int64) (rows g nx ib sb : Nat → Int64) : ∃ r wy2 nx42 be2 rows2 g2 nx2 ib2 sb2, F_X4_input t w rank below (nI o) below' wy st ga' ce nx4 ga = some (r, wy2, nx42) ∧ F_X5_input t w (nI o) be rows to g nx ib sb sa = some (r, be2, rows2, g2, nx2, ib2, sb2) := by
  by_cases h0 : o = 0
  · subst h0
    refine ⟨-10000000000004, wy, nx4, be, rows, g, nx, ib, sb, ?_, ?_⟩
    · unfold F_X4_input
      exact b1 (show F_X4_isFull (nI 0) rank = some 0 from rfl) ie0
    · unfold F_X5_input
      exact b2 (show F_X5_isFull 0 (nI 0) rows to = some (0, rows) by unfold F_X5_isFull; rfl) ie0
  · have h1 : 1 ≤ o := by omega
    obtain ⟨c1, c2⟩ := hC h0
    obtain ⟨rk, rk', rfl, rfl, hCh⟩ := ch_of h1 ho hT c1 c2
    obtain ⟨f, ef⟩ := full5' h1 ho hT hCh false rows
    by_cases c : rk = o
    · rw [if_pos (show (if false = true then rk' else rk) = o from c)] at ef
      rcases tick_spec t with ⟨hh, ew⟩ | ⟨T, hT5, rfl, ht1, ht2, ew⟩
      · refine ⟨-10000000000003, wy, nx4, be, f, g, nx, ib, sb, ?_, ?_⟩
        · unfold F_X4_input
          refine b1 (full4' h1 ho hCh.1) ?_
          rw [if_pos c, ie1]
          rcases hh with h | ⟨h, h'⟩
          · rw [if_pos h]
          · rw [if_neg h, if_pos h']
        · unfold F_X5_input
          refine b2 ef ?_
          rw [ie1]
          exact b1 ew ie0
      · rcases part_spec w with ⟨p4, p5⟩ | ⟨p4, p5⟩
        · refine ⟨-10000000000003, wy, nx4, be, f, g, nx, ib, sb, ?_, ?_⟩
          · unfold F_X4_input
            refine b1 (full4' h1 ho hCh.1) ?_
            rw [if_pos c, ie1, if_neg ht1, if_neg ht2]
            exact b1 p4 ie0
          · unfold F_X5_input
            refine b2 ef ?_
            rw [ie1]
            refine b1 ew ?_
            rw [ie1]
            exact b1 p5 ie0
        · obtain ⟨r, wy2, nx42, be2, rows2, g2, nx2, ib2, sb2, q4, q5⟩ := input_both h1 ho hT hS hCh c hT5 p4 wy nx4 be f g nx ib sb
          refine ⟨r, wy2, nx42, be2, rows2, g2, nx2, ib2, sb2, q4, ?_⟩
          unfold F_X5_input
          refine b2 ef ?_
          rw [ie1]
          refine b1 ew ?_
          rw [ie1]
          refine b1 p5 ?_
          rw [ie1]
          exact b7 q5 rfl
    · rw [if_neg (show ¬ (if false = true then rk' else rk) = o from c)] at ef
      refine ⟨-10000000000004, wy, nx4, be, f, g, nx, ib, sb, ?_, ?_⟩
      · unfold F_X4_input
        refine b1 (full4' h1 ho hCh.1) ?_
        rw [if_neg c]
        exact ie0
      · unfold F_X5_input
        exact b2 ef ie0
