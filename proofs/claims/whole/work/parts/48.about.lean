/-! about -/
theorem cells_dot {ce to : Nat → Int32} (h : ∀ k, k < 15 → to k = ce k) (x : Bool) (v : Nat → Int) : dotI (pu x to) v = dotI (pu x ce) v := by
  unfold dotI
  rw [pu_cg h x (by omega : 0 < 3), pu_cg h x (by omega : 1 < 3), pu_cg h x (by omega : 2 < 3)]
theorem ab5_0 (o : Int32) (rows tr sa nx : Nat → Int64) (to : Nat → Int32) : F_X5_aboutNow (nI 0) o rows to tr sa nx = bd2 (F_X5_rankNow (xI false) o rows to) (fun r1 x1_rows => some (r1.toInt64, x1_rows, tr, nx)) := rfl
theorem ab5_1 (o : Int32) (rows tr sa nx : Nat → Int64) (to : Nat → Int32) : F_X5_aboutNow (nI 1) o rows to tr sa nx = bd2 (F_X5_rankNow (xI true) o rows to) (fun r1 x1_rows => some (r1.toInt64, x1_rows, tr, nx)) := rfl
theorem ab5_2 (o : Int32) (rows tr sa nx : Nat → Int64) (to : Nat → Int32) : F_X5_aboutNow (nI 2) o rows to tr sa nx = bd2 (F_X5_isFull (xI false) o rows to) (fun r3 x3_rows => if r3 = 0 then (some ((0 : Int64), x3_rows, tr, nx)) else (some ((1 : Int64), x3_rows, tr, nx))) := rfl
theorem ab5_3 (o : Int32) (rows tr sa nx : Nat → Int64) (to : Nat → Int32) : F_X5_aboutNow (nI 3) o rows to tr sa nx = bd2 (F_X5_isFull (xI true) o rows to) (fun r3 x3_rows => if r3 = 0 then (some ((0 : Int64), x3_rows, tr, nx)) else (some ((1 : Int64), x3_rows, tr, nx))) := rfl
theorem ab5_4 (o : Int32) (rows tr sa nx : Nat → Int64) (to : Nat → Int32) : F_X5_aboutNow (nI 4) o rows to tr sa nx = bd4 (F_X5_canRest o rows to tr sa nx) (fun r5 x5_rows x5_tried x5_nextAt => if r5 = 0 then (some ((0 : Int64), x5_rows, x5_tried, x5_nextAt)) else (some ((1 : Int64), x5_rows, x5_tried, x5_nextAt))) := rfl
theorem ab5_5 (o : Int32) (rows tr sa nx : Nat → Int64) (to : Nat → Int32) : F_X5_aboutNow (nI 5) o rows to tr sa nx = bd1 (F_X5_seenNow o to sa) (fun r6 => some (r6, rows, tr, nx)) := rfl
theorem ab4_0 (o rk rk' : Int32) (st wy sp s0 s1 s2 : Nat → Int64) (ce : Nat → Int32) (h : ¬ o = 0) : F_X4_about (nI 0) o rk rk' st wy sp ce s0 s1 s2 = some (rk.toInt64, wy, sp) := by unfold F_X4_about; rw [if_neg h]; rfl
theorem ab4_1 (o rk rk' : Int32) (st wy sp s0 s1 s2 : Nat → Int64) (ce : Nat → Int32) (h : ¬ o = 0) : F_X4_about (nI 1) o rk rk' st wy sp ce s0 s1 s2 = some (rk'.toInt64, wy, sp) := by unfold F_X4_about; rw [if_neg h]; rfl
theorem ab4_2 (o rk rk' : Int32) (st wy sp s0 s1 s2 : Nat → Int64) (ce : Nat → Int32) (h : ¬ o = 0) : F_X4_about (nI 2) o rk rk' st wy sp ce s0 s1 s2 = bd1 (F_X4_isFull o rk) (fun r1 => if r1 = 0 then (some ((0 : Int64), wy, sp)) else (some ((1 : Int64), wy, sp))) := by unfold F_X4_about; rw [if_neg h]; rfl
theorem ab4_3 (o rk rk' : Int32) (st wy sp s0 s1 s2 : Nat → Int64) (ce : Nat → Int32) (h : ¬ o = 0) : F_X4_about (nI 3) o rk rk' st wy sp ce s0 s1 s2 = bd1 (F_X4_isFull o rk') (fun r1 => if r1 = 0 then (some ((0 : Int64), wy, sp)) else (some ((1 : Int64), wy, sp))) := by unfold F_X4_about; rw [if_neg h]; rfl
theorem ab4_4 (o rk rk' : Int32) (st wy sp s0 s1 s2 : Nat → Int64) (ce : Nat → Int32) (h : ¬ o = 0) : F_X4_about (nI 4) o rk rk' st wy sp ce s0 s1 s2 = bd3 (F_X4_canRest st wy o sp ce rk s0 s1 s2) (fun r3 x3_way x3_plant_spare => if r3 = 0 then (some ((0 : Int64), x3_way, x3_plant_spare)) else (some ((1 : Int64), x3_way, x3_plant_spare))) := by unfold F_X4_about; rw [if_neg h]; rfl
theorem ab4_5 (o rk rk' : Int32) (st wy sp s0 s1 s2 : Nat → Int64) (ce : Nat → Int32) (h : ¬ o = 0) : F_X4_about (nI 5) o rk rk' st wy sp ce s0 s1 s2 = bd1 (F_X3_seen ce st) (fun r4 => some (r4, wy, sp)) := by unfold F_X4_about; rw [if_neg h]; rfl
theorem about_now {o : Nat} (h1 : 1 ≤ o) (ho : o ≤ 3) {ce to : Nat → Int32} (hT : JT o ce to) {st sa : Nat → Int64} (hS : JS o st sa) {rank : Int32} {below : Int64} {r0 r1 r2 ga s0 s1 s2 : Nat → Int64} (hC : ChainIs false ce o rank below r0 r1 r2 ga s0 s1 s2) {rank' : Int32} {below' : Int64} {r0' r1' r2' ga' s0' s1' s2' : Nat → Int64} (hC' : ChainIs true ce o rank' below' r0' r1' r2' ga' s0' s1' s2') (wy sp rows tr nx : Nat → Int64) (k : Nat) (hk : k < 6) : ∃ (c : Int64) (wy2 sp2 rows2 tr2 nx2 : Nat → Int64), F_X4_about (nI k) (nI o) rank rank' st wy sp ce s0 s1 s2 = some (c, wy2, sp2) ∧ F_X5_aboutNow (nI k) (nI o) rows to tr sa nx = some (c, rows2, tr2, nx2) := by
  have hcr := canrest_both h1 ho hT hS hC wy sp rows tr nx
  obtain ⟨rk, B, hrk, rfl, hB, -⟩ := hC
  obtain ⟨rk', B', hrk', rfl, hB', -⟩ := hC'
  have h0 := nI_ne0 h1 (by omega)
  match k, hk with
  | 0, _ =>
    obtain ⟨f, e, -⟩ := rank5 false h1 ho hT hB rows
    refine ⟨(nI rk).toInt64, wy, sp, f, tr, nx, ?_, ?_⟩
    · rw [ab4_0 _ _ _ _ _ _ _ _ _ _ h0]
    · rw [ab5_0]; exact b2 e rfl
  | 1, _ =>
    obtain ⟨f, e, -⟩ := rank5 true h1 ho hT hB' rows
    refine ⟨(nI rk').toInt64, wy, sp, f, tr, nx, ?_, ?_⟩
    · rw [ab4_1 _ _ _ _ _ _ _ _ _ _ h0]
    · rw [ab5_1]; exact b2 e rfl
  | 2, _ =>
    have e4 := full4 ho hrk
    obtain ⟨f, e5⟩ := full5 false h1 ho hT hrk hB rows
    by_cases c : 1 ≤ o ∧ rk = o
    · rw [if_pos c] at e4 e5
      refine ⟨1, wy, sp, f, tr, nx, ?_, ?_⟩
      · rw [ab4_2 _ _ _ _ _ _ _ _ _ _ h0]; exact b1 e4 rfl
      · rw [ab5_2]; exact b2 e5 rfl
    · rw [if_neg c] at e4 e5
      refine ⟨0, wy, sp, f, tr, nx, ?_, ?_⟩
      · rw [ab4_2 _ _ _ _ _ _ _ _ _ _ h0]; exact b1 e4 rfl
      · rw [ab5_2]; exact b2 e5 rfl
  | 3, _ =>
    have e4 := full4 ho hrk'
    obtain ⟨f, e5⟩ := full5 true h1 ho hT hrk' hB' rows
    by_cases c : 1 ≤ o ∧ rk' = o
    · rw [if_pos c] at e4 e5
      refine ⟨1, wy, sp, f, tr, nx, ?_, ?_⟩
      · rw [ab4_3 _ _ _ _ _ _ _ _ _ _ h0]; exact b1 e4 rfl
      · rw [ab5_3]; exact b2 e5 rfl
    · rw [if_neg c] at e4 e5
      refine ⟨0, wy, sp, f, tr, nx, ?_, ?_⟩
      · rw [ab4_3 _ _ _ _ _ _ _ _ _ _ h0]; exact b1 e4 rfl
      · rw [ab5_3]; exact b2 e5 rfl
  | 4, _ =>
    obtain ⟨c, wy2, sp2, rows2, tr2, nx2, hc, e4, e5⟩ := hcr
    rcases hc with rfl | rfl
    · refine ⟨0, wy2, sp2, rows2, tr2, nx2, ?_, ?_⟩
      · rw [ab4_4 _ _ _ _ _ _ _ _ _ _ h0]; exact b3 e4 rfl
      · rw [ab5_4]; exact b4 e5 rfl
    · refine ⟨1, wy2, sp2, rows2, tr2, nx2, ?_, ?_⟩
      · rw [ab4_4 _ _ _ _ _ _ _ _ _ _ h0]; exact b3 e4 rfl
      · rw [ab5_4]; exact b4 e5 rfl
  | 5, _ =>
    have e4 := seen_rp (ce := ce) hS.rp
    have e5 := mseen ho hT.zt (hS.rpo ho)
    rw [cells_dot hT.eq] at e5
    refine ⟨Int64.ofInt (dotI (pu true ce) (fun k => (st k).toInt)), wy, sp, rows, tr, nx, ?_, ?_⟩
    · rw [ab4_5 _ _ _ _ _ _ _ _ _ _ h0]; exact b1 e4 rfl
    · rw [ab5_5]; exact b1 e5 rfl
theorem m_about {o : Nat} (ho : o ≤ 3) {ce to : Nat → Int32} (hT : JT o ce to) {st sa : Nat → Int64} (hS : JS o st sa) {rank : Int32} {below : Int64} {r0 r1 r2 ga s0 s1 s2 : Nat → Int64} {rank' : Int32} {below' : Int64} {r0' r1' r2' ga' s0' s1' s2' : Nat → Int64} (hC : o ≠ 0 → ChainIs false ce o rank below r0 r1 r2 ga s0 s1 s2 ∧ ChainIs true ce o rank' below' r0' r1' r2' ga' s0' s1' s2') (wy sp rows tr nx : Nat → Int64) (a : Int32) : ∃ (c : Int64) (wy2 sp2 rows2 tr2 nx2 : Nat → Int64), F_X4_about a (nI o) rank rank' st wy sp ce s0 s1 s2 = some (c, wy2, sp2) ∧ F_X5_about a (nI o) rows to tr sa nx = some (c, rows2, tr2, nx2) := by
  by_cases h0 : o = 0
  · subst h0
    exact ⟨-10000000000004, wy, sp, rows, tr, nx, rfl, rfl⟩
  · obtain ⟨c1, c2⟩ := hC h0
    have h1 : 1 ≤ o := by omega
    have hn0 := nI_ne0 h1 (by omega)
    rcases pl_cases a 6 (by decide) with h | ⟨k, hk, rfl⟩
    · refine ⟨-10000000000003, wy, sp, rows, tr, nx, ?_, ?_⟩
      · unfold F_X4_about
        rw [if_neg hn0]
        have hne : ∀ j : Nat, j < 6 → ¬ a = nI j := by
          rintro j hj rfl
          rcases h with h | h
          · exact absurd h (in9 (k := j) (by omega) ∘ Or.inl)
          · exact nI_ge hj (by omega) h
        rw [if_neg (show ¬ a = (0 : Int32) from hne 0 (by omega)), if_neg (show ¬ a = (1 : Int32) from hne 1 (by omega)), if_neg (show ¬ a = (2 : Int32) from hne 2 (by omega)), if_neg (show ¬ a = (3 : Int32) from hne 3 (by omega)), if_neg (show ¬ a = (4 : Int32) from hne 4 (by omega)), if_neg (show ¬ a = (5 : Int32) from hne 5 (by omega))]
      · unfold F_X5_about
        rw [if_neg hn0]
        refine b1 (within_0 ?_) ie0
        rcases h with h | h
        · exact Or.inl h
        · refine Or.inr ?_
          rw [i_lt]
          rw [i_le] at h
          have e6 : (nI 6).toInt = 6 := by decide
          have e5 : (5 : Int32).toInt = 5 := by decide
          omega
    · obtain ⟨c, wy2, sp2, rows2, tr2, nx2, e4, e5⟩ := about_now h1 ho hT hS c1 c2 wy sp rows tr nx k hk
      refine ⟨c, wy2, sp2, rows2, tr2, nx2, e4, ?_⟩
      unfold F_X5_about
      rw [if_neg hn0]
      refine b1 (within_1 (nI_le (a := 0) (by omega) (by omega)) (nI_le (b := 5) (by omega) (by omega))) ?_
      rw [ie1]
      exact b4 e5 rfl
