/-! gain, after, input, most -/
theorem part_spec (w : Int32) : (F_X4_isPart w = some 0 ∧ F_X5_isPart w = some 0) ∨ (F_X4_isPart w = some 1 ∧ F_X5_isPart w = some 1) := by
  by_cases h0 : w = 0
  · subst h0; exact Or.inr ⟨rfl, rfl⟩
  · by_cases h1 : w = 1
    · subst h1; exact Or.inr ⟨rfl, rfl⟩
    · left
      constructor
      · unfold F_X4_isPart
        rw [if_neg h0]
        simp [h1]
      · unfold F_X5_isPart
        refine b1 (within_0 ?_) rfl
        rw [i_lt, i_lt]
        rw [i_eq] at h0 h1
        have e0 : (0 : Int32).toInt = 0 := rfl
        have e1 : (1 : Int32).toInt = 1 := rfl
        omega
def Ch (o : Nat) (ce to : Nat → Int32) (rk rk' : Nat) (be be' : Int64) (ga ga' : Nat → Int64) : Prop := rk ≤ 3 ∧ rk' ≤ 3 ∧ (∃ B, BaseIs (Rw false ce) rk B) ∧ (∃ B, BaseIs (Rw true ce) rk' B) ∧ (rk = o → DM false to o ≠ 0 ∧ be = Int64.ofInt (DM false to o) ∧ rp ga (GG false to o)) ∧ (rk' = o → DM true to o ≠ 0 ∧ be' = Int64.ofInt (DM true to o) ∧ rp ga' (GG true to o))
theorem ch_of {o : Nat} (h1 : 1 ≤ o) (ho : o ≤ 3) {ce to : Nat → Int32} (hT : JT o ce to) {rank : Int32} {below : Int64} {r0 r1 r2 ga s0 s1 s2 : Nat → Int64} (hC : ChainIs false ce o rank below r0 r1 r2 ga s0 s1 s2) {rank' : Int32} {below' : Int64} {r0' r1' r2' ga' s0' s1' s2' : Nat → Int64} (hC' : ChainIs true ce o rank' below' r0' r1' r2' ga' s0' s1' s2') : ∃ rk rk', rank = nI rk ∧ rank' = nI rk' ∧ Ch o ce to rk rk' below below' ga ga' := by
  obtain ⟨rk, B, a, b, c, d⟩ := chain_full false h1 ho hT hC
  obtain ⟨rk', B', a', b', c', d'⟩ := chain_full true h1 ho hT hC'
  exact ⟨rk, rk', b, b', a, a', ⟨B, c⟩, ⟨B', c'⟩, d, d'⟩
theorem gain_both {o : Nat} (h1 : 1 ≤ o) (ho : o ≤ 3) {ce to : Nat → Int32} (hT : JT o ce to) {rk rk' : Nat} {be4 be4' : Int64} {ga ga' : Nat → Int64} (hC : Ch o ce to rk rk' be4 be4' ga ga') (x : Bool) (hf : (if x then rk' else rk) = o) {k : Nat} (hk : k < o) {w : Int32} (hw : F_X4_isPart w = some 1) (be : Int64) (rows g nx ib sb : Nat → Int64) : ∃ r be2 rows2 g2 nx2 ib2 sb2, F_X4_gain (xI x) (nI k) w (nI o) (nI rk) be4 (nI rk') be4' ga ga' = some r ∧ F_X5_gainNow (xI x) (nI k) w (nI o) be rows to g nx ib sb = some (r, be2, rows2, g2, nx2, ib2, sb2) := by
  obtain ⟨hrk, hrk', -, -, hF, hF'⟩ := hC
  have hp : F_X3_hasPlace (nI k) (nI o) = some 1 := by
    rcases place_spec ho (nI k) with ⟨a, b⟩ | ⟨j, -, -, a, -⟩
    · have := isP ho (show k < 1000 by omega)
      rw [if_pos hk] at this
      rw [this] at b; cases b
    · exact a
  cases x
  · have hf' : rk = o := hf
    obtain ⟨hd, rfl, hg⟩ := hF hf'
    obtain ⟨r, be2, rows2, g2, nx2, ib2, sb2, e4, e5⟩ := gain_full false h1 ho hT.zt hd hg hk w be rows g nx ib sb
    refine ⟨r, be2, rows2, g2, nx2, ib2, sb2, ?_, e5⟩
    have hfl := full4 ho hrk
    rw [if_pos ⟨h1, hf'⟩] at hfl
    unfold F_X4_gain
    refine b1 hp ?_
    rw [ie1]
    refine b1 hw ?_
    rw [ie1]
    refine b1 (show F_X4_chain (xI false) = some 0 from rfl) ?_
    rw [if_pos rfl]
    refine b1 hfl ?_
    rw [ie1, if_neg (in3 (by omega)), clk (by omega)]
    exact b1 e4 rfl
  · have hf' : rk' = o := hf
    obtain ⟨hd, rfl, hg⟩ := hF' hf'
    obtain ⟨r, be2, rows2, g2, nx2, ib2, sb2, e4, e5⟩ := gain_full true h1 ho hT.zt hd hg hk w be rows g nx ib sb
    refine ⟨r, be2, rows2, g2, nx2, ib2, sb2, ?_, e5⟩
    have hfl := full4 ho hrk'
    rw [if_pos ⟨h1, hf'⟩] at hfl
    unfold F_X4_gain
    refine b1 hp ?_
    rw [ie1]
    refine b1 hw ?_
    rw [ie1]
    refine b1 (show F_X4_chain (xI true) = some 1 from rfl) ?_
    rw [if_neg (by decide)]
    refine b1 hfl ?_
    rw [ie1, if_neg (in3 (by omega)), clk (by omega)]
    exact b1 e4 rfl
theorem full5' {o : Nat} (h1 : 1 ≤ o) (ho : o ≤ 3) {ce to : Nat → Int32} (hT : JT o ce to) {rk rk' : Nat} {be4 be4' : Int64} {ga ga' : Nat → Int64} (hC : Ch o ce to rk rk' be4 be4' ga ga') (x : Bool) (rows : Nat → Int64) : ∃ f, F_X5_isFull (xI x) (nI o) rows to = some (if (if x then rk' else rk) = o then 1 else 0, f) := by
  obtain ⟨hrk, hrk', ⟨B, hB⟩, ⟨B', hB'⟩, -, -⟩ := hC
  cases x
  · obtain ⟨f, e⟩ := full5 false h1 ho hT hrk hB rows
    refine ⟨f, ?_⟩
    rw [e]
    by_cases c : rk = o
    · rw [if_pos ⟨h1, c⟩, if_pos (show (if false = true then rk' else rk) = o from c)]
    · rw [if_neg (fun q => c q.2), if_neg (show ¬ (if false = true then rk' else rk) = o from c)]
  · obtain ⟨f, e⟩ := full5 true h1 ho hT hrk' hB' rows
    refine ⟨f, ?_⟩
    rw [e]
    by_cases c : rk' = o
    · rw [if_pos ⟨h1, c⟩, if_pos (show (if true = true then rk' else rk) = o from c)]
    · rw [if_neg (fun q => c q.2), if_neg (show ¬ (if true = true then rk' else rk) = o from c)]
theorem full4' {o : Nat} (h1 : 1 ≤ o) (ho : o ≤ 3) {rk : Nat} (hrk : rk ≤ 3) : F_X4_isFull (nI o) (nI rk) = some (if rk = o then 1 else 0) := by
  rw [full4 ho hrk]
  by_cases c : rk = o
  · rw [if_pos ⟨h1, c⟩, if_pos c]
  · rw [if_neg (fun q => c q.2), if_neg c]
theorem m_gain {o : Nat} (ho : o ≤ 3) {ce to : Nat → Int32} (hT : JT o ce to) {rank : Int32} {below : Int64} {r0 r1 r2 ga s0 s1 s2 : Nat → Int64} {rank' : Int32} {below' : Int64} {r0' r1' r2' ga' s0' s1' s2' : Nat → Int64} (hC : o ≠ 0 → ChainIs false ce o rank below r0 r1 r2 ga s0 s1 s2 ∧ ChainIs true ce o rank' below' r0' r1' r2' ga' s0' s1' s2') (x : Bool) (a w : Int32) (be : Int64) (rows g nx ib sb : Nat → Int64) : ∃ r be2 rows2 g2 nx2 ib2 sb2, F_X4_gain (xI x) a w (nI o) rank below rank' below' ga ga' = some r ∧ F_X5_gain (xI x) a w (nI o) be rows to g nx ib sb = some (r, be2, rows2, g2, nx2, ib2, sb2) := by
  rcases place_spec ho a with ⟨e4, e5⟩ | ⟨k, hk, rfl, e4, e5⟩
  · refine ⟨-10000000000002, be, rows, g, nx, ib, sb, ?_, ?_⟩
    · unfold F_X4_gain; exact b1 e4 ie0
    · unfold F_X5_gain; exact b1 e5 ie0
  · have h1 : 1 ≤ o := by omega
    obtain ⟨c1, c2⟩ := hC (by omega)
    obtain ⟨rk, rk', rfl, rfl, hCh⟩ := ch_of h1 ho hT c1 c2
    rcases part_spec w with ⟨p4, p5⟩ | ⟨p4, p5⟩
    · refine ⟨-10000000000003, be, rows, g, nx, ib, sb, ?_, ?_⟩
      · unfold F_X4_gain
        refine b1 e4 ?_
        rw [ie1]
        exact b1 p4 ie0
      · unfold F_X5_gain
        refine b1 e5 ?_
        rw [ie1]
        exact b1 p5 ie0
    · obtain ⟨f, ef⟩ := full5' h1 ho hT hCh x rows
      by_cases c : (if x then rk' else rk) = o
      · rw [if_pos c] at ef
        obtain ⟨r, be2, rows2, g2, nx2, ib2, sb2, q4, q5⟩ := gain_both h1 ho hT hCh x c hk p4 be f g nx ib sb
        refine ⟨r, be2, rows2, g2, nx2, ib2, sb2, q4, ?_⟩
        unfold F_X5_gain
        refine b1 e5 ?_
        rw [ie1]
        refine b1 p5 ?_
        rw [ie1]
        refine b2 ef ?_
        rw [ie1]
        exact b7 q5 rfl
      · rw [if_neg c] at ef
        refine ⟨-10000000000004, be, f, g, nx, ib, sb, ?_, ?_⟩
        · unfold F_X4_gain
          refine b1 e4 ?_
          rw [ie1]
          refine b1 p4 ?_
          rw [ie1]
          cases x
          · refine b1 (show F_X4_chain (xI false) = some 0 from rfl) ?_
            rw [if_pos rfl]
            refine b1 (full4' h1 ho hCh.1) ?_
            rw [if_neg (show ¬ rk = o from c)]
            exact ie0
          · refine b1 (show F_X4_chain (xI true) = some 1 from rfl) ?_
            rw [if_neg (by decide)]
            refine b1 (full4' h1 ho hCh.2.1) ?_
            rw [if_neg (show ¬ rk' = o from c)]
            exact ie0
        · unfold F_X5_gain
          refine b1 e5 ?_
          rw [ie1]
          refine b1 p5 ?_
          rw [ie1]
          exact b2 ef ie0
theorem most_both {o : Nat} (h1 : 1 ≤ o) (ho : o ≤ 3) {ce to : Nat → Int32} (hT : JT o ce to) {rk rk' : Nat} {be4 be4' : Int64} {ga ga' : Nat → Int64} (hC : Ch o ce to rk rk' be4 be4' ga ga') (x : Bool) (hf : (if x then rk' else rk) = o) (be : Int64) (rows g nx ib sb : Nat → Int64) : ∃ r be2 rows2 g2 nx2 ib2 sb2, F_X4_most (xI x) (nI rk) (nI rk') (nI o) = some r ∧ F_X5_mostNow (xI x) (nI o) be rows to g nx ib sb = some (r, be2, rows2, g2, nx2, ib2, sb2) := by
  obtain ⟨hrk, hrk', -, -, hF, hF'⟩ := hC
  have hd : DM x to o ≠ 0 := by
    cases x
    · exact (hF hf).1
    · exact (hF' hf).1
  obtain ⟨be2, rows2, g2, nx2, ib2, sb2, e5⟩ := most_full x h1 ho hT.zt hd be rows g nx ib sb
  refine ⟨(nI o).toInt64, be2, rows2, g2, nx2, ib2, sb2, ?_, e5⟩
  unfold F_X4_most
  cases x
  · refine b1 (show F_X4_chain (xI false) = some 0 from rfl) ?_
    rw [if_pos rfl]
    refine b1 (full4' h1 ho hrk) ?_
    rw [if_pos (show rk = o from hf)]
    exact ie1
  · refine b1 (show F_X4_chain (xI true) = some 1 from rfl) ?_
    rw [if_neg (by decide)]
    refine b1 (full4' h1 ho hrk') ?_
    rw [if_pos (show rk' = o from hf)]
    exact ie1
theorem m_most {o : Nat} (ho : o ≤ 3) {ce to : Nat → Int32} (hT : JT o ce to) {rank : Int32} {below : Int64} {r0 r1 r2 ga s0 s1 s2 : Nat → Int64} {rank' : Int32} {below' : Int64} {r0' r1' r2' ga' s0' s1' s2' : Nat → Int64} (hC : o ≠ 0 → ChainIs false ce o rank below r0 r1 r2 ga s0 s1 s2 ∧ ChainIs true ce o rank' below' r0' r1' r2' ga' s0' s1' s2') (x : Bool) (be : Int64) (rows g nx ib sb : Nat → Int64) : ∃ r be2 rows2 g2 nx2 ib2 sb2, F_X4_most (xI x) rank rank' (nI o) = some r ∧ F_X5_most (xI x) (nI o) be rows to g nx ib sb = some (r, be2, rows2, g2, nx2, ib2, sb2) := by
  by_cases h0 : o = 0
  · subst h0
    obtain ⟨f, e⟩ : ∃ f, F_X5_isFull (xI x) (nI 0) rows to = some (0, f) := ⟨rows, by unfold F_X5_isFull; rfl⟩
    refine ⟨-10000000000004, be, f, g, nx, ib, sb, ?_, ?_⟩
    · unfold F_X4_most
      cases x
      · refine b1 (show F_X4_chain (xI false) = some 0 from rfl) ?_
        rw [if_pos rfl]
        exact b1 (show F_X4_isFull (nI 0) rank = some 0 from rfl) ie0
      · refine b1 (show F_X4_chain (xI true) = some 1 from rfl) ?_
        rw [if_neg (by decide)]
        exact b1 (show F_X4_isFull (nI 0) rank' = some 0 from rfl) ie0
    · unfold F_X5_most
      exact b2 e ie0
  · have h1 : 1 ≤ o := by omega
    obtain ⟨c1, c2⟩ := hC h0
    obtain ⟨rk, rk', rfl, rfl, hCh⟩ := ch_of h1 ho hT c1 c2
    obtain ⟨f, ef⟩ := full5' h1 ho hT hCh x rows
    by_cases c : (if x then rk' else rk) = o
    · rw [if_pos c] at ef
      obtain ⟨r, be2, rows2, g2, nx2, ib2, sb2, q4, q5⟩ := most_both h1 ho hT hCh x c be f g nx ib sb
      refine ⟨r, be2, rows2, g2, nx2, ib2, sb2, q4, ?_⟩
      unfold F_X5_most
      refine b2 ef ?_
      rw [ie1]
      exact b7 q5 rfl
    · rw [if_neg c] at ef
      refine ⟨-10000000000004, be, f, g, nx, ib, sb, ?_, ?_⟩
      · unfold F_X4_most
        cases x
        · refine b1 (show F_X4_chain (xI false) = some 0 from rfl) ?_
          rw [if_pos rfl]
          refine b1 (full4' h1 ho hCh.1) ?_
          rw [if_neg (show ¬ rk = o from c)]
          exact ie0
        · refine b1 (show F_X4_chain (xI true) = some 1 from rfl) ?_
          rw [if_neg (by decide)]
          refine b1 (full4' h1 ho hCh.2.1) ?_
          rw [if_neg (show ¬ rk' = o from c)]
          exact ie0
      · unfold F_X5_most
        exact b2 ef ie0
