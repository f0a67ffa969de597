theorem chain_ev (x : Bool) : F_X4_chain (xI x) = some (if x then 1 else 0) := by cases x <;> rfl
theorem rp.at {f : Nat → Int64} {v : Nat → Int} (h : rp f v) {k : Nat} (hk : k < 3) : f k = Int64.ofInt (v k) := by
  match k, hk with
  | 0, _ => exact h.1
  | 1, _ => exact h.2.1
  | 2, _ => exact h.2.2
theorem sel_row {r0 r1 r2 : Nat → Int64} {R : Nat → Nat → Int} (h0 : rp r0 (R 0)) (h1 : rp r1 (R 1)) (h2 : rp r2 (R 2)) {i j : Nat} (hi : i < 3) (hj : j < 3) : (if nI i = 0 then (if nI j < 0 ∨ 3 ≤ (nI j).toNatClampNeg then none else some (r0 (nI j).toNatClampNeg)) else if nI i = 1 then (if nI j < 0 ∨ 3 ≤ (nI j).toNatClampNeg then none else some (r1 (nI j).toNatClampNeg)) else if nI i = 2 then (if nI j < 0 ∨ 3 ≤ (nI j).toNatClampNeg then none else some (r2 (nI j).toNatClampNeg)) else none) = some (Int64.ofInt (R i j)) := by
  rw [if_neg (in3 hj), if_neg (in3 hj), if_neg (in3 hj), clk (by omega)]
  match i, hi with
  | 0, _ => rw [if_pos (by decide), h0.at hj]
  | 1, _ => rw [if_neg (by decide), if_pos (by decide), h1.at hj]
  | 2, _ => rw [if_neg (by decide), if_neg (by decide), if_pos (by decide), h2.at hj]
theorem m_row {o : Nat} (ho : o ≤ 3) {ce to : Nat → Int32} (hT : JT o ce to) {rr0 rr1 rr2 sr0 sr1 sr2 : Nat → Int64} (hR : o ≠ 0 → (rp rr0 (Rw false ce 0) ∧ rp rr1 (Rw false ce 1) ∧ rp rr2 (Rw false ce 2)) ∧ (rp sr0 (Rw true ce 0) ∧ rp sr1 (Rw true ce 1) ∧ rp sr2 (Rw true ce 2))) (x : Bool) (a b : Int32) (rows : Nat → Int64) : ∃ (r : Int64) (q : Nat → Int64), F_X4_row (xI x) a b (nI o) rr0 rr1 rr2 sr0 sr1 sr2 = some r ∧ F_X5_row (xI x) a b (nI o) rows to = some (r, q) := by
  unfold F_X4_row F_X5_row
  rcases place_spec ho a with ⟨h1, h2⟩ | ⟨i, hi, rfl, h1, h2⟩
  · exact ⟨_, _, b1 h1 ie0, b1 h2 ie0⟩
  rcases place_spec ho b with ⟨h3, h4⟩ | ⟨j, hj, rfl, h3, h4⟩
  · refine ⟨-10000000000002, rows, b1 h1 ?_, b1 h2 ?_⟩
    · rw [ie1]; exact b1 h3 ie0
    · rw [ie1]; exact b1 h4 ie0
  obtain ⟨⟨a0, a1, a2⟩, c0, c1, c2⟩ := hR (by omega)
  obtain ⟨f, hf, hm⟩ := lay_ev x ho hT.zt rows
  have hv : f (3 * i + j) = Int64.ofInt (Rw x ce i j) := by
    rw [hm i j (by omega) (by omega)]
    unfold RM
    rw [if_pos ⟨hi, hj⟩, Rw_cg hT.eq x i (by omega)]
  refine ⟨Int64.ofInt (Rw x ce i j), f, b1 h1 ?_, b1 h2 ?_⟩
  · rw [ie1]
    refine b1 h3 ?_
    rw [ie1]
    refine b1 (chain_ev x) ?_
    cases x
    · show (if (0 : Nat) = 0 then _ else _) = _
      rw [if_pos rfl]
      exact sel_row a0 a1 a2 (by omega) (by omega)
    · show (if (1 : Nat) = 0 then _ else _) = _
      rw [if_neg (by decide)]
      exact sel_row c0 c1 c2 (by omega) (by omega)
  · rw [ie1]
    refine b1 h4 ?_
    rw [ie1]
    refine b1 hf ?_
    rw [ix3, if_neg (in9 (by omega)), clk (by omega), hv]
/-- full rank: what both call so -/
theorem full4 {o rk : Nat} (ho : o ≤ 3) (hk : rk ≤ 3) : F_X4_isFull (nI o) (nI rk) = some (if 1 ≤ o ∧ rk = o then 1 else 0) := by
  unfold F_X4_isFull
  by_cases h : o = 0
  · subst h
    rw [if_pos (by decide), if_neg (by omega)]
  · rw [if_neg (nI_nle (by omega) (by omega))]
    by_cases e : rk = o
    · rw [if_pos (by rw [e]), if_pos ⟨by omega, e⟩]
    · rw [if_neg (fun q => e ((nI_eq (by omega) (by omega)).mp q)), if_neg (by omega)]
theorem rank5 (x : Bool) {ce to : Nat → Int32} {o : Nat} (h1 : 1 ≤ o) (ho : o ≤ 3) (hT : JT o ce to) {rk : Nat} {B : Nat → Nat → Int} (hB : BaseIs (Rw x ce) rk B) (rows : Nat → Int64) : ∃ f, F_X5_rankNow (xI x) (nI o) rows to = some (nI rk, f) ∧ rm9 f (RM (Rw x to) o) := by
  obtain ⟨rk2, f, hk, -, e, hm⟩ := rankNow_ev x h1 ho hT.zt rows
  obtain ⟨rfl, -, -⟩ := rk_eq x h1 ho hT.zc hT.eq hB hk
  exact ⟨f, e, hm⟩
theorem full5 (x : Bool) {ce to : Nat → Int32} {o : Nat} (h1 : 1 ≤ o) (ho : o ≤ 3) (hT : JT o ce to) {rk : Nat} (hk : rk ≤ 3) {B : Nat → Nat → Int} (hB : BaseIs (Rw x ce) rk B) (rows : Nat → Int64) : ∃ f, F_X5_isFull (xI x) (nI o) rows to = some (if 1 ≤ o ∧ rk = o then 1 else 0, f) := by
  obtain ⟨f, e, -⟩ := rank5 x h1 ho hT hB rows
  refine ⟨f, ?_⟩
  unfold F_X5_isFull
  rw [if_neg (nI_nle (by omega) (by omega))]
  refine b2 e ?_
  by_cases c : rk = o
  · rw [if_pos (by rw [c]), if_pos ⟨h1, c⟩]
  · rw [if_neg (fun q => c ((nI_eq (by omega) (by omega)).mp q)), if_neg (by omega)]
