theorem m_tick {o : Nat} (ho : o ≤ 3) {ce to : Nat → Int32} (hT : JT o ce to) {st sa : Nat → Int64} (hS : JS o st sa) (l1 tg pn : Int32) (nx tr na : Nat → Int64) : ∃ (r : Int64) (q1 q2 : Int32) (q3 q4 : Nat → Int64) (n1 : Int32) (n2 n3 n4 : Nat → Int64), F_X4_tick l1 tg pn (nI o) st nx ce = some (r, q1, q2, q3, q4) ∧ F_X5_tick l1 (nI o) tg tr sa na to = some (r, n1, n2, n3, n4) ∧ n1 = q1 ∧ JS o q3 n3 ∧ (q2 = 0 ∨ (q2 = pn ∧ q3 = st)) := by
  unfold F_X4_tick F_X5_tick
  by_cases h0 : o = 0
  · subst h0
    exact ⟨-10000000000004, tg, pn, st, nx, tg, tr, sa, na, if_pos (by decide), if_pos (by decide), rfl, hS, Or.inr ⟨rfl, rfl⟩⟩
  have hno : ¬ nI o = 0 := nI_ne0 (by omega) (by omega)
  rw [if_neg hno, if_neg hno]
  by_cases v1 : l1 < -100
  · exact ⟨-10000000000003, tg, pn, st, nx, tg, tr, sa, na, if_pos v1, b1 (within_0 (Or.inl v1)) ie0, rfl, hS, Or.inr ⟨rfl, rfl⟩⟩
  by_cases v2 : l1 ≤ 100
  · have v1' : (-100 : Int32) ≤ l1 := by rw [i_le]; rw [i_lt] at v1; omega
    have w1 : -100 ≤ l1.toInt := by have := (i_le _ _).mp v1'; have e : (-100 : Int32).toInt = -100 := rfl; omega
    have w2 : l1.toInt ≤ 100 := by have := (i_le _ _).mp v2; have e : (100 : Int32).toInt = 100 := rfl; omega
    rw [if_neg v1, if_pos v2]
    generalize hSd : (fun k => (st k).toInt) = S
    have hrS : rp st S := by rw [← hSd]; exact hS.rp
    have hoS : rpo o sa S := by rw [← hSd]; exact hS.rpo ho
    have hbS : Bd 1000000 S := by rw [← hSd]; exact hS.bd
    obtain ⟨x1, hx1, hrx⟩ := goOn_rp false ce nx hrS
    have hgb := go1_bd hT.cb false hbS
    have hpb := pu_bd hT.cb false
    generalize hZ : (fun k => go1 false ce S k + pu false ce k * l1.toInt) = Z
    have hZk : ∀ k, Z k = go1 false ce S k + pu false ce k * l1.toInt := fun k => by rw [← hZ]
    have hZb : ∀ k, k < 3 → -9000000 ≤ Z k ∧ Z k ≤ 9000000 := by
      intro k hk
      have a1 := hgb k hk
      have a2 := mb (hpb k hk).1 (hpb k hk).2 (show -100 ≤ l1.toInt from w1) w2
      rw [hZk]; omega
    have hZ0 : ∀ k, k < 3 → o ≤ k → Z k = 0 := by
      intro k hk hok
      rw [hZk, go1_z hT.zc false S hk hok, pu_z hT.zc false hk hok]; omega
    obtain ⟨y1, hy1, hry⟩ := try_ev ho tr sa
    obtain ⟨y2, y3, hy2, hr3⟩ := mgo_ev ho hT.zt na (st := y1) (v := S) l1.toInt (fun k hk => by rw [hry k hk]; exact hoS k hk)
    have hW : rpo o y3 Z := by
      intro k hk
      rw [hr3 k hk, hZk]
      show Int64.ofInt (pu false to k * l1.toInt + go1 false to S k) = _
      rw [go1_cg hT.eq false (u := S) (v := S) (fun _ _ => rfl) (show k < 3 by omega), pu_cg hT.eq false (show k < 3 by omega)]
      congr 1; omega
    have hF5 : ∀ {X}, F_X5_tick_42 3000 0 (nI o) tg y3 sa y2 to = X → bd1 (F_X5_within l1 (-100) 100) (fun r1 => if r1 = 0 then some ((-10000000000003 : Int64), tg, tr, sa, na) else bd1 (F_X5_layTried (nI o) tr sa) (fun x2_tried => bd2 (F_X5_goOn l1.toInt64 (nI o) na to x2_tried) (fun x3_nextAt x3_g1 => F_X5_tick_42 3000 0 (nI o) tg x3_g1 sa x3_nextAt to))) = X := by
      intro X hX
      refine b1 (within_1 v1' v2) ?_
      rw [ie1, t64 l1]
      exact b1 hy1 (b2 hy2 hX)
    have h4 := tick4 (ce := ce) l1 tg pn (nI o) (st := st) (nx := x1) (v := go1 false ce S) hrx (fun k hk => by rw [← hZk]; exact hZb k hk)
    rw [hZ] at h4
    have h5 := tick5_go ho tg sa y2 to hW (fun k hk => hZb k (by omega)) o 0 3000 (by omega) (by omega)
    rcases h4 with ⟨⟨k, hk, hf⟩, nx2, e4⟩ | ⟨hall, st2, nx2, e4, hr2⟩
    · rcases h5 with ⟨-, e5⟩ | ⟨hnf, -⟩
      · exact ⟨_, _, _, _, _, _, _, _, _, b1 hx1 e4, hF5 e5, rfl, hS, Or.inr ⟨rfl, rfl⟩⟩
      · exfalso
        rw [← hZk] at hf
        by_cases hko : k < o
        · exact hnf k (by omega) hko hf
        · have := hZ0 k hk (by omega)
          unfold Far at hf; omega
    · rcases h5 with ⟨⟨j, -, j2, j3⟩, -⟩ | ⟨-, e5⟩
      · exact absurd (by rw [← hZk]; exact j3) (hall j (by omega))
      · obtain ⟨sa2, e6, h6⟩ := tick88 ho tg y3 sa y2 hT.zt hW
        have ed : dotI (pu true to) Z = dotI (pu true ce) Z := by
          unfold dotI
          rw [pu_cg hT.eq true (by omega), pu_cg hT.eq true (by omega), pu_cg hT.eq true (by omega)]
        rw [ed] at e6
        refine ⟨_, _, _, _, _, _, _, _, _, b1 hx1 e4, hF5 (e5.trans e6), rfl, ?_, Or.inl rfl⟩
        intro k hk
        have hst2 : st2 k = Int64.ofInt (Z k) := by
          match k, hk with
          | 0, _ => exact hr2.1
          | 1, _ => exact hr2.2.1
          | 2, _ => exact hr2.2.2
        have hnf := hall k hk
        rw [← hZk] at hnf
        unfold Far at hnf
        have hti : (st2 k).toInt = Z k := by rw [hst2]; exact o_toInt (by omega) (by omega)
        refine ⟨?_, by omega, by omega, fun hok => by rw [hst2, hZ0 k hk hok]; rfl⟩
        rw [h6 k]
        by_cases hko : k < o
        · rw [if_pos (by omega), hW k hko, hst2]
        · rw [if_neg (by omega), (hS k hk).1, (hS k hk).2.2.2 (by omega), hst2, hZ0 k hk (by omega)]; rfl
  · rw [if_neg v1, if_neg v2]
    exact ⟨-10000000000003, tg, pn, st, nx, tg, tr, sa, na, rfl, b1 (within_0 (Or.inr (by rw [i_lt]; rw [i_le] at v2; omega))) ie0, rfl, hS, Or.inr ⟨rfl, rfl⟩⟩
