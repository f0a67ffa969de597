/-! the reference's own steps, order by order -/
def ZT (o : Nat) (to : Nat → Int32) : Prop := CB to ∧ ∀ k, k < 15 → ¬ There o k → to k = 0
theorem JT.zt {o : Nat} {ce to : Nat → Int32} (h : JT o ce to) : ZT o to := ⟨fun k hk => by rw [(h k hk).1]; exact ⟨(h k hk).2.1, (h k hk).2.2.1⟩, fun k hk ht => by rw [(h k hk).1]; exact (h k hk).2.2.2 ht⟩
theorem JT.zc {o : Nat} {ce to : Nat → Int32} (h : JT o ce to) : ZT o ce := ⟨fun k hk => ⟨(h k hk).2.1, (h k hk).2.2.1⟩, fun k hk ht => (h k hk).2.2.2 ht⟩
theorem en_z {o : Nat} {to : Nat → Int32} (h : ZT o to) (x : Bool) {i j : Nat} (hi : i < 3) (hj : j < 3) (hz : o ≤ i ∨ o ≤ j) : en x to i j = 0 := by
  have key : ∀ a b, a < 3 → b < 3 → (o ≤ a ∨ o ≤ b) → (to (3 * a + b)).toInt = 0 := by
    intro a b ha hb hab
    rw [h.2 (3 * a + b) (by omega) (fun q => by unfold There at q; omega)]; rfl
  unfold en
  cases x
  · exact key i j hi hj hz
  · exact key j i hj hi (by omega)
theorem pu_z {o : Nat} {to : Nat → Int32} (h : ZT o to) (x : Bool) {i : Nat} (hi : i < 3) (hz : o ≤ i) : pu x to i = 0 := by
  unfold pu
  cases x
  · show (to (9 + i)).toInt = 0
    rw [h.2 (9 + i) (by omega) (fun q => by unfold There at q; omega)]; rfl
  · show (to (12 + i)).toInt = 0
    rw [h.2 (12 + i) (by omega) (fun q => by unfold There at q; omega)]; rfl
theorem go1_z {o : Nat} {to : Nat → Int32} (h : ZT o to) (x : Bool) (v : Nat → Int) {i : Nat} (hi : i < 3) (hz : o ≤ i) : go1 x to v i = 0 := by
  unfold go1
  rw [en_z h x hi (by omega) (Or.inl hz), en_z h x hi (by omega) (Or.inl hz), en_z h x hi (by omega) (Or.inl hz)]
  simp
theorem Rw_z {o : Nat} {to : Nat → Int32} (h : ZT o to) (x : Bool) (r : Nat) {i : Nat} (hi : i < 3) (hz : o ≤ i) : Rw x to r i = 0 := by
  unfold Rw
  cases r with
  | zero => exact pu_z h x hi hz
  | succ r => exact go1_z h x _ hi hz
theorem en_cg {ce to : Nat → Int32} (h : ∀ k, k < 15 → to k = ce k) (x : Bool) {i j : Nat} (hi : i < 3) (hj : j < 3) : en x to i j = en x ce i j := by
  unfold en
  cases x
  · show (to (3 * i + j)).toInt = (ce (3 * i + j)).toInt
    rw [h _ (by omega)]
  · show (to (3 * j + i)).toInt = (ce (3 * j + i)).toInt
    rw [h _ (by omega)]
theorem pu_cg {ce to : Nat → Int32} (h : ∀ k, k < 15 → to k = ce k) (x : Bool) {i : Nat} (hi : i < 3) : pu x to i = pu x ce i := by
  unfold pu
  cases x
  · show (to (9 + i)).toInt = (ce (9 + i)).toInt
    rw [h _ (by omega)]
  · show (to (12 + i)).toInt = (ce (12 + i)).toInt
    rw [h _ (by omega)]
theorem go1_cg {ce to : Nat → Int32} (h : ∀ k, k < 15 → to k = ce k) (x : Bool) {u v : Nat → Int} (huv : ∀ k, k < 3 → u k = v k) {i : Nat} (hi : i < 3) : go1 x to u i = go1 x ce v i := by
  unfold go1
  rw [en_cg h x hi (by omega), en_cg h x hi (by omega), en_cg h x hi (by omega), huv 0 (by omega), huv 1 (by omega), huv 2 (by omega)]
theorem gn_cg {ce to : Nat → Int32} (h : ∀ k, k < 15 → to k = ce k) (x : Bool) {u v : Nat → Int} (huv : ∀ k, k < 3 → u k = v k) : ∀ (t : Nat) {i : Nat}, i < 3 → gn x to t u i = gn x ce t v i
  | 0, i, hi => huv i hi
  | t + 1, i, hi => go1_cg h x (fun k hk => gn_cg h x huv t hk) hi
theorem Rw_cg {ce to : Nat → Int32} (h : ∀ k, k < 15 → to k = ce k) (x : Bool) (r : Nat) {i : Nat} (hi : i < 3) : Rw x to r i = Rw x ce r i := gn_cg h x (fun k hk => pu_cg h x hk) r hi
theorem JT.eq {o : Nat} {ce to : Nat → Int32} (h : JT o ce to) : ∀ k, k < 15 → to k = ce k := fun k hk => (h k hk).1
/-- the first o places of a row hold a vector -/
def rpo (o : Nat) (f : Nat → Int64) (v : Nat → Int) : Prop := ∀ k, k < o → f k = Int64.ofInt (v k)
theorem lin1 (a : Int32) (x : Int) : a.toInt64 * Int64.ofInt x = Int64.ofInt (a.toInt * x) := by rw [t64, Int64.ofInt_mul]
theorem try_ev {o : Nat} (ho : o ≤ 3) (tr sa : Nat → Int64) : ∃ r, F_X5_layTried (nI o) tr sa = some r ∧ ∀ k, k < o → r k = sa k := by
  rcases (show o = 0 ∨ o = 1 ∨ o = 2 ∨ o = 3 by omega) with rfl | rfl | rfl | rfl
  · exact ⟨_, rfl, fun k hk => absurd hk (Nat.not_lt_zero k)⟩
  · exact ⟨_, rfl, fun k hk => match k, hk with | 0, _ => rfl⟩
  · exact ⟨_, rfl, fun k hk => match k, hk with | 0, _ => rfl | 1, _ => rfl⟩
  · exact ⟨_, rfl, fun k hk => match k, hk with | 0, _ => rfl | 1, _ => rfl | 2, _ => rfl⟩
/-- a state goes on with an input, in place -/
theorem mgo_ev {o : Nat} (ho : o ≤ 3) {to : Nat → Int32} (hz : ZT o to) (nx : Nat → Int64) {st : Nat → Int64} {v : Nat → Int} (u : Int) (hs : rpo o st v) : ∃ r1 r2, F_X5_goOn (Int64.ofInt u) (nI o) nx to st = some (r1, r2) ∧ rpo o r2 (fun k => pu false to k * u + go1 false to v k) := by
  have z : ∀ i j, i < 3 → j < 3 → (o ≤ i ∨ o ≤ j) → en false to i j = 0 := fun i j hi hj h => en_z hz false hi hj h
  rcases (show o = 0 ∨ o = 1 ∨ o = 2 ∨ o = 3 by omega) with rfl | rfl | rfl | rfl
  · exact ⟨_, _, rfl, fun k hk => absurd hk (Nat.not_lt_zero k)⟩
  · refine ⟨_, _, rfl, fun k hk => ?_⟩
    match k, hk with
    | 0, _ =>
      show (to 9).toInt64 * Int64.ofInt u + (to 0).toInt64 * st 0 = Int64.ofInt (pu false to 0 * u + go1 false to v 0)
      rw [hs 0 (by omega), lin1, lin1, ← Int64.ofInt_add]
      unfold go1
      rw [z 0 1 (by omega) (by omega) (by omega), z 0 2 (by omega) (by omega) (by omega)]
      congr 1
      show _ = (to 9).toInt * u + ((to 0).toInt * v 0 + 0 * v 1 + 0 * v 2)
      omega
  · refine ⟨_, _, rfl, fun k hk => ?_⟩
    match k, hk with
    | 0, _ =>
      show (to 9).toInt64 * Int64.ofInt u + (to 0).toInt64 * st 0 + (to 1).toInt64 * st 1 = Int64.ofInt (pu false to 0 * u + go1 false to v 0)
      rw [hs 0 (by omega), hs 1 (by omega), lin1, lin1, lin1, ← Int64.ofInt_add, ← Int64.ofInt_add]
      unfold go1
      rw [z 0 2 (by omega) (by omega) (by omega)]
      congr 1
      show _ = (to 9).toInt * u + ((to 0).toInt * v 0 + (to 1).toInt * v 1 + 0 * v 2)
      omega
    | 1, _ =>
      show (to 10).toInt64 * Int64.ofInt u + (to 3).toInt64 * st 0 + (to 4).toInt64 * st 1 = Int64.ofInt (pu false to 1 * u + go1 false to v 1)
      rw [hs 0 (by omega), hs 1 (by omega), lin1, lin1, lin1, ← Int64.ofInt_add, ← Int64.ofInt_add]
      unfold go1
      rw [z 1 2 (by omega) (by omega) (by omega)]
      congr 1
      show _ = (to 10).toInt * u + ((to 3).toInt * v 0 + (to 4).toInt * v 1 + 0 * v 2)
      omega
  · refine ⟨_, _, rfl, fun k hk => ?_⟩
    match k, hk with
    | 0, _ =>
      show (to 9).toInt64 * Int64.ofInt u + (to 0).toInt64 * st 0 + (to 1).toInt64 * st 1 + (to 2).toInt64 * st 2 = Int64.ofInt (pu false to 0 * u + go1 false to v 0)
      rw [hs 0 (by omega), hs 1 (by omega), hs 2 (by omega), lin1, lin1, lin1, lin1, ← Int64.ofInt_add, ← Int64.ofInt_add, ← Int64.ofInt_add]
      congr 1
      show _ = (to 9).toInt * u + ((to 0).toInt * v 0 + (to 1).toInt * v 1 + (to 2).toInt * v 2)
      omega
    | 1, _ =>
      show (to 10).toInt64 * Int64.ofInt u + (to 3).toInt64 * st 0 + (to 4).toInt64 * st 1 + (to 5).toInt64 * st 2 = Int64.ofInt (pu false to 1 * u + go1 false to v 1)
      rw [hs 0 (by omega), hs 1 (by omega), hs 2 (by omega), lin1, lin1, lin1, lin1, ← Int64.ofInt_add, ← Int64.ofInt_add, ← Int64.ofInt_add]
      congr 1
      show _ = (to 10).toInt * u + ((to 3).toInt * v 0 + (to 4).toInt * v 1 + (to 5).toInt * v 2)
      omega
    | 2, _ =>
      show (to 11).toInt64 * Int64.ofInt u + (to 6).toInt64 * st 0 + (to 7).toInt64 * st 1 + (to 8).toInt64 * st 2 = Int64.ofInt (pu false to 2 * u + go1 false to v 2)
      rw [hs 0 (by omega), hs 1 (by omega), hs 2 (by omega), lin1, lin1, lin1, lin1, ← Int64.ofInt_add, ← Int64.ofInt_add, ← Int64.ofInt_add]
      congr 1
      show _ = (to 11).toInt * u + ((to 6).toInt * v 0 + (to 7).toInt * v 1 + (to 8).toInt * v 2)
      omega
