/-! a state goes on, turned about or not (model) -/
theorem lin3a (a b c : Int32) (X Y Z : Int) (hy : Y = 0) (hz : Z = 0) : (0 : Int64) + a.toInt64 * Int64.ofInt X = Int64.ofInt (a.toInt * X + b.toInt * Y + c.toInt * Z) := by
  rw [← lin3, hy, hz, ← o0]; grind
theorem lin3b (a b c : Int32) (X Y Z : Int) (hz : Z = 0) : (0 : Int64) + a.toInt64 * Int64.ofInt X + b.toInt64 * Int64.ofInt Y = Int64.ofInt (a.toInt * X + b.toInt * Y + c.toInt * Z) := by
  rw [← lin3, hz, ← o0]; grind
theorem turn_ev {o : Nat} (h1 : 1 ≤ o) (ho : o ≤ 3) {to : Nat → Int32} (hz : ZT o to) (x : Bool) (nx : Nat → Int64) {g : Nat → Int64} {v : Nat → Int} (hg : rp g v) (hv : ∀ k, k < 3 → o ≤ k → v k = 0) : ∃ nx2 g2, F_X5_turnOn (xI x) (nI o) nx to g = some (nx2, g2) ∧ rp g2 (go1 x to v) := by
  have out : ∀ k, k < 3 → o ≤ k → g k = Int64.ofInt (go1 x to v k) := fun k hk h => by
    rw [go1_z hz x v hk h, ← hv k hk h]; exact hg.at hk
  have h0 := hg.at (show 0 < 3 by omega)
  have h1' := hg.at (show 1 < 3 by omega)
  have h2 := hg.at (show 2 < 3 by omega)
  rcases (show o = 1 ∨ o = 2 ∨ o = 3 by omega) with rfl | rfl | rfl <;> cases x
  · refine ⟨_, _, rfl, ?_, ?_, ?_⟩
    · show (0 : Int64) + (to 0).toInt64 * g 0 = Int64.ofInt ((to 0).toInt * v 0 + (to 1).toInt * v 1 + (to 2).toInt * v 2)
      rw [h0]; exact lin3a _ _ _ _ _ _ (hv 1 (by omega) (by omega)) (hv 2 (by omega) (by omega))
    · exact out 1 (by omega) (by omega)
    · exact out 2 (by omega) (by omega)
  · refine ⟨_, _, rfl, ?_, ?_, ?_⟩
    · show (0 : Int64) + (to 0).toInt64 * g 0 = Int64.ofInt ((to 0).toInt * v 0 + (to 3).toInt * v 1 + (to 6).toInt * v 2)
      rw [h0]; exact lin3a _ _ _ _ _ _ (hv 1 (by omega) (by omega)) (hv 2 (by omega) (by omega))
    · exact out 1 (by omega) (by omega)
    · exact out 2 (by omega) (by omega)
  · refine ⟨_, _, rfl, ?_, ?_, ?_⟩
    · show (0 : Int64) + (to 0).toInt64 * g 0 + (to 1).toInt64 * g 1 = Int64.ofInt ((to 0).toInt * v 0 + (to 1).toInt * v 1 + (to 2).toInt * v 2)
      rw [h0, h1']; exact lin3b _ _ _ _ _ _ (hv 2 (by omega) (by omega))
    · show (0 : Int64) + (to 3).toInt64 * g 0 + (to 4).toInt64 * g 1 = Int64.ofInt ((to 3).toInt * v 0 + (to 4).toInt * v 1 + (to 5).toInt * v 2)
      rw [h0, h1']; exact lin3b _ _ _ _ _ _ (hv 2 (by omega) (by omega))
    · exact out 2 (by omega) (by omega)
  · refine ⟨_, _, rfl, ?_, ?_, ?_⟩
    · show (0 : Int64) + (to 0).toInt64 * g 0 + (to 3).toInt64 * g 1 = Int64.ofInt ((to 0).toInt * v 0 + (to 3).toInt * v 1 + (to 6).toInt * v 2)
      rw [h0, h1']; exact lin3b _ _ _ _ _ _ (hv 2 (by omega) (by omega))
    · show (0 : Int64) + (to 1).toInt64 * g 0 + (to 4).toInt64 * g 1 = Int64.ofInt ((to 1).toInt * v 0 + (to 4).toInt * v 1 + (to 7).toInt * v 2)
      rw [h0, h1']; exact lin3b _ _ _ _ _ _ (hv 2 (by omega) (by omega))
    · exact out 2 (by omega) (by omega)
  · refine ⟨_, _, rfl, ?_, ?_, ?_⟩
    · show (0 : Int64) + (to 0).toInt64 * g 0 + (to 1).toInt64 * g 1 + (to 2).toInt64 * g 2 = Int64.ofInt ((to 0).toInt * v 0 + (to 1).toInt * v 1 + (to 2).toInt * v 2)
      rw [h0, h1', h2]; exact lin3 _ _ _ _ _ _
    · show (0 : Int64) + (to 3).toInt64 * g 0 + (to 4).toInt64 * g 1 + (to 5).toInt64 * g 2 = Int64.ofInt ((to 3).toInt * v 0 + (to 4).toInt * v 1 + (to 5).toInt * v 2)
      rw [h0, h1', h2]; exact lin3 _ _ _ _ _ _
    · show (0 : Int64) + (to 6).toInt64 * g 0 + (to 7).toInt64 * g 1 + (to 8).toInt64 * g 2 = Int64.ofInt ((to 6).toInt * v 0 + (to 7).toInt * v 1 + (to 8).toInt * v 2)
      rw [h0, h1', h2]; exact lin3 _ _ _ _ _ _
  · refine ⟨_, _, rfl, ?_, ?_, ?_⟩
    · show (0 : Int64) + (to 0).toInt64 * g 0 + (to 3).toInt64 * g 1 + (to 6).toInt64 * g 2 = Int64.ofInt ((to 0).toInt * v 0 + (to 3).toInt * v 1 + (to 6).toInt * v 2)
      rw [h0, h1', h2]; exact lin3 _ _ _ _ _ _
    · show (0 : Int64) + (to 1).toInt64 * g 0 + (to 4).toInt64 * g 1 + (to 7).toInt64 * g 2 = Int64.ofInt ((to 1).toInt * v 0 + (to 4).toInt * v 1 + (to 7).toInt * v 2)
      rw [h0, h1', h2]; exact lin3 _ _ _ _ _ _
    · show (0 : Int64) + (to 2).toInt64 * g 0 + (to 5).toInt64 * g 1 + (to 8).toInt64 * g 2 = Int64.ofInt ((to 2).toInt * v 0 + (to 5).toInt * v 1 + (to 8).toInt * v 2)
      rw [h0, h1', h2]; exact lin3 _ _ _ _ _ _
