theorem o_id (x : Int64) : Int64.ofInt x.toInt = x := Int64.ofInt_toInt x
theorem JS.rp {o : Nat} {st sa : Nat → Int64} (_ : JS o st sa) : rp st (fun k => (st k).toInt) := ⟨(o_id _).symm, (o_id _).symm, (o_id _).symm⟩
theorem JS.rpo {o : Nat} (ho : o ≤ 3) {st sa : Nat → Int64} (h : JS o st sa) : rpo o sa (fun k => (st k).toInt) := fun k hk => by
  rw [(h k (by omega)).1]; exact (o_id _).symm
theorem JS.bd {o : Nat} {st sa : Nat → Int64} (h : JS o st sa) : Bd 1000000 (fun k => (st k).toInt) := fun k hk => ⟨(h k hk).2.1, (h k hk).2.2.1⟩
theorem JS.z {o : Nat} {st sa : Nat → Int64} (h : JS o st sa) {k : Nat} (hk : k < 3) (ho : o ≤ k) : (st k).toInt = 0 := by rw [(h k hk).2.2.2 ho]; rfl
theorem seen_rp {ce : Nat → Int32} {st : Nat → Int64} {v : Nat → Int} (h : rp st v) : F_X3_seen ce st = some (Int64.ofInt (dotI (pu true ce) v)) := by
  show some ((ce 12).toInt64 * st 0 + (ce 13).toInt64 * st 1 + (ce 14).toInt64 * st 2) = _
  rw [h.1, h.2.1, h.2.2, lin1, lin1, lin1, ← Int64.ofInt_add, ← Int64.ofInt_add]
  rfl
theorem mseen {o : Nat} (ho : o ≤ 3) {to : Nat → Int32} (hz : ZT o to) {sa : Nat → Int64} {v : Nat → Int} (h : rpo o sa v) : F_X5_seenNow (nI o) to sa = some (Int64.ofInt (dotI (pu true to) v)) := by
  have z : ∀ i, i < 3 → o ≤ i → pu true to i = 0 := fun i hi h => pu_z hz true hi h
  unfold dotI
  rcases (show o = 0 ∨ o = 1 ∨ o = 2 ∨ o = 3 by omega) with rfl | rfl | rfl | rfl
  · rw [z 0 (by omega) (by omega), z 1 (by omega) (by omega), z 2 (by omega) (by omega)]
    simp only [Int.zero_mul]
    rfl
  · rw [z 1 (by omega) (by omega), z 2 (by omega) (by omega)]
    show some ((0 : Int64) + (to 12).toInt64 * sa 0) = _
    rw [h 0 (by omega), lin1, Int64.zero_add]
    congr 2
    show _ = (to 12).toInt * v 0 + 0 * v 1 + 0 * v 2
    omega
  · rw [z 2 (by omega) (by omega)]
    show some ((0 : Int64) + (to 12).toInt64 * sa 0 + (to 13).toInt64 * sa 1) = _
    rw [h 0 (by omega), h 1 (by omega), lin1, lin1, Int64.zero_add, ← Int64.ofInt_add]
    congr 2
    show _ = (to 12).toInt * v 0 + (to 13).toInt * v 1 + 0 * v 2
    omega
  · show some ((0 : Int64) + (to 12).toInt64 * sa 0 + (to 13).toInt64 * sa 1 + (to 14).toInt64 * sa 2) = _
    rw [h 0 (by omega), h 1 (by omega), h 2 (by omega), lin1, lin1, lin1, Int64.zero_add, ← Int64.ofInt_add, ← Int64.ofInt_add]
    rfl
theorem cmpl {z c : Int} (h1 : -9000000000000000000 ≤ z) (h2 : z ≤ 9000000000000000000) (c1 : -9000000000000000000 ≤ c) (c2 : c ≤ 9000000000000000000) : lg_cmp (Int64.ofInt z) (Int64.ofInt c) < 0 ↔ z < c := by
  rw [lg_cmp_lt, l_lt, o_toInt h1 h2, o_toInt c1 c2]
theorem cmple {z c : Int} (h1 : -9000000000000000000 ≤ z) (h2 : z ≤ 9000000000000000000) (c1 : -9000000000000000000 ≤ c) (c2 : c ≤ 9000000000000000000) : lg_cmp (Int64.ofInt z) (Int64.ofInt c) ≤ 0 ↔ z ≤ c := by
  rw [lg_cmp_le, l_le, o_toInt h1 h2, o_toInt c1 c2]
def Far (z : Int) : Prop := z < -1000000 ∨ 1000000 < z
theorem kM1 : (-1000000 : Int64) = Int64.ofInt (-1000000) := by decide
theorem kP1 : (1000000 : Int64) = Int64.ofInt 1000000 := by decide
theorem tkk (n : Nat) {k : Nat} (hk : k < 3) (l1 tg pn or_ : Int32) (st nx : Nat → Int64) (ce : Nat → Int32) : F_X4_tick_48 (n + 1) l1 (nI k) tg pn or_ st nx ce = if lg_cmp (nx k + (ce (9 + k)).toInt64 * l1.toInt64) (-1000000) < 0 then some (-10000000000004, tg, pn, st, vp_updL nx k (nx k + (ce (9 + k)).toInt64 * l1.toInt64)) else if lg_cmp (nx k + (ce (9 + k)).toInt64 * l1.toInt64) 1000000 ≤ 0 then F_X4_tick_48 n l1 (nI (k + 1)) tg pn or_ st (vp_updL nx k (nx k + (ce (9 + k)).toInt64 * l1.toInt64)) ce else some (-10000000000004, tg, pn, st, vp_updL nx k (nx k + (ce (9 + k)).toInt64 * l1.toInt64)) := by
  have g : ¬ (nI k < 0 ∨ 3 ≤ (nI k).toNatClampNeg) := nI_in (by omega) (by omega)
  have e9 : (9 : Int32) + nI k = nI (9 + k) := nI_add 9 k
  have g9 : ¬ (nI (9 + k) < 0 ∨ 15 ≤ (nI (9 + k)).toNatClampNeg) := nI_in (by omega) (by omega)
  rw [F_X4_tick_48, if_neg (show ¬ (3 : Int32) ≤ nI k from nI_ge (b := 3) hk (by omega)), e9, if_neg g, if_neg g9, if_neg g, if_neg g, if_neg g, nI_clamp (show k < 2 ^ 31 by omega), nI_clamp (show 9 + k < 2 ^ 31 by omega), pk_uLs, nI_1]
theorem tk3 (n : Nat) (l1 tg pn or_ : Int32) (st nx : Nat → Int64) (ce : Nat → Int32) : F_X4_tick_48 (n + 1) l1 (nI 3) tg pn or_ st nx ce = bd1 (F_X4_copy nx st) (fun x => bd1 (F_X3_seen ce x) (fun r => some (r, tg + 1, 0, x, nx))) := by
  rw [F_X4_tick_48, if_pos (show (3 : Int32) ≤ nI 3 by decide)]
/-- one place of the class's tick: refused, or on -/
theorem tk_pl {α : Type} {T : Int64} {z : Int} (hT : T = Int64.ofInt z) (h1 : -9000000 ≤ z) (h2 : z ≤ 9000000) (a b c : α) : (Far z ∧ (if lg_cmp T (-1000000) < 0 then a else if lg_cmp T 1000000 ≤ 0 then b else c) = (if z < -1000000 then a else c)) ∨ (¬ Far z ∧ (if lg_cmp T (-1000000) < 0 then a else if lg_cmp T 1000000 ≤ 0 then b else c) = b) := by
  have e1 : lg_cmp T (-1000000) < 0 ↔ z < -1000000 := by rw [hT, kM1]; exact cmpl (by omega) (by omega) (by omega) (by omega)
  have e2 : lg_cmp T 1000000 ≤ 0 ↔ z ≤ 1000000 := by rw [hT, kP1]; exact cmple (by omega) (by omega) (by omega) (by omega)
  unfold Far
  by_cases q1 : z < -1000000
  · left; refine ⟨Or.inl q1, ?_⟩; rw [if_pos (e1.mpr q1), if_pos q1]
  · by_cases q2 : z ≤ 1000000
    · right; refine ⟨by omega, ?_⟩; rw [if_neg (fun q => q1 (e1.mp q)), if_pos (e2.mpr q2)]
    · left; refine ⟨Or.inr (by omega), ?_⟩; rw [if_neg (fun q => q1 (e1.mp q)), if_neg (fun q => q2 (e2.mp q)), if_neg q1]
theorem tick4 {ce : Nat → Int32} (l1 tg pn or_ : Int32) {st nx : Nat → Int64} {v : Nat → Int} (hn : rp nx v) (hb : ∀ k, k < 3 → -9000000 ≤ v k + pu false ce k * l1.toInt ∧ v k + pu false ce k * l1.toInt ≤ 9000000) :
    ((∃ k, k < 3 ∧ Far (v k + pu false ce k * l1.toInt)) ∧ ∃ nx2, F_X4_tick_48 3000 l1 0 tg pn or_ st nx ce = some (-10000000000004, tg, pn, st, nx2)) ∨
    ((∀ k, k < 3 → ¬ Far (v k + pu false ce k * l1.toInt)) ∧ ∃ st2 nx2, F_X4_tick_48 3000 l1 0 tg pn or_ st nx ce = some (Int64.ofInt (dotI (pu true ce) (fun k => v k + pu false ce k * l1.toInt)), tg + 1, 0, st2, nx2) ∧ rp st2 (fun k => v k + pu false ce k * l1.toInt)) := by
  have T0 : nx 0 + (ce (9 + 0)).toInt64 * l1.toInt64 = Int64.ofInt (v 0 + pu false ce 0 * l1.toInt) := by rw [hn.1, t64 l1, lin1, ← Int64.ofInt_add]; rfl
  have T1 : nx 1 + (ce (9 + 1)).toInt64 * l1.toInt64 = Int64.ofInt (v 1 + pu false ce 1 * l1.toInt) := by rw [hn.2.1, t64 l1, lin1, ← Int64.ofInt_add]; rfl
  have T2 : nx 2 + (ce (9 + 2)).toInt64 * l1.toInt64 = Int64.ofInt (v 2 + pu false ce 2 * l1.toInt) := by rw [hn.2.2, t64 l1, lin1, ← Int64.ofInt_add]; rfl
  have fin : ∀ {α : Type} {x : Option α} {z : Int} {a : α}, x = (if z < -1000000 then some a else some a) → x = some a := fun h => by rw [h]; split <;> rfl
  rw [show (3000 : Nat) = 2999 + 1 from rfl, show (0 : Int32) = nI 0 from rfl, tkk 2999 (show 0 < 3 by omega)]
  rcases tk_pl T0 (hb 0 (by omega)).1 (hb 0 (by omega)).2 (some (-10000000000004, tg, pn, st, vp_updL nx 0 (nx 0 + (ce (9 + 0)).toInt64 * l1.toInt64))) (F_X4_tick_48 2999 l1 (nI (0 + 1)) tg pn or_ st (vp_updL nx 0 (nx 0 + (ce (9 + 0)).toInt64 * l1.toInt64)) ce) (some (-10000000000004, tg, pn, st, vp_updL nx 0 (nx 0 + (ce (9 + 0)).toInt64 * l1.toInt64))) with ⟨f0, e0⟩ | ⟨f0, e0⟩
  · exact Or.inl ⟨⟨0, by omega, f0⟩, _, fin e0⟩
  · rw [e0]
    generalize hA : vp_updL nx 0 (nx 0 + (ce (9 + 0)).toInt64 * l1.toInt64) = nx1
    have A1 : nx1 1 = nx 1 := by rw [← hA]; rfl
    rw [show (2999 : Nat) = 2998 + 1 from rfl, tkk 2998 (show 1 < 3 by omega), A1]
    rcases tk_pl T1 (hb 1 (by omega)).1 (hb 1 (by omega)).2 (some (-10000000000004, tg, pn, st, vp_updL nx1 1 (nx 1 + (ce (9 + 1)).toInt64 * l1.toInt64))) (F_X4_tick_48 2998 l1 (nI (1 + 1)) tg pn or_ st (vp_updL nx1 1 (nx 1 + (ce (9 + 1)).toInt64 * l1.toInt64)) ce) (some (-10000000000004, tg, pn, st, vp_updL nx1 1 (nx 1 + (ce (9 + 1)).toInt64 * l1.toInt64))) with ⟨f1, e1⟩ | ⟨f1, e1⟩
    · exact Or.inl ⟨⟨1, by omega, f1⟩, _, fin e1⟩
    · rw [e1]
      generalize hB : vp_updL nx1 1 (nx 1 + (ce (9 + 1)).toInt64 * l1.toInt64) = nx2
      have B2 : nx2 2 = nx 2 := by rw [← hB, ← hA]; rfl
      rw [show (2998 : Nat) = 2997 + 1 from rfl, tkk 2997 (show 2 < 3 by omega), B2]
      rcases tk_pl T2 (hb 2 (by omega)).1 (hb 2 (by omega)).2 (some (-10000000000004, tg, pn, st, vp_updL nx2 2 (nx 2 + (ce (9 + 2)).toInt64 * l1.toInt64))) (F_X4_tick_48 2997 l1 (nI (2 + 1)) tg pn or_ st (vp_updL nx2 2 (nx 2 + (ce (9 + 2)).toInt64 * l1.toInt64)) ce) (some (-10000000000004, tg, pn, st, vp_updL nx2 2 (nx 2 + (ce (9 + 2)).toInt64 * l1.toInt64))) with ⟨f2, e2⟩ | ⟨f2, e2⟩
      · exact Or.inl ⟨⟨2, by omega, f2⟩, _, fin e2⟩
      · rw [e2]
        have hr : rp (vp_updL nx2 2 (nx 2 + (ce (9 + 2)).toInt64 * l1.toInt64)) (fun k => v k + pu false ce k * l1.toInt) := by
          rw [← hB, ← hA]
          exact ⟨T0, T1, T2⟩
        obtain ⟨st2, hc, hr2⟩ := copy_rp st hr
        refine Or.inr ⟨fun k hk => ?_, st2, vp_updL nx2 2 (nx 2 + (ce (9 + 2)).toInt64 * l1.toInt64), ?_, hr2⟩
        · match k, hk with
          | 0, _ => exact f0
          | 1, _ => exact f1
          | 2, _ => exact f2
        · rw [show (2997 : Nat) = 2996 + 1 from rfl, tk3]
          exact b1 hc (b1 (seen_rp hr2) rfl)
theorem tick5_go {o : Nat} (ho : o ≤ 3) (te : Int32) {tr : Nat → Int64} (sa na : Nat → Int64) (to : Nat → Int32) {w : Nat → Int} (hw : rpo o tr w) (hb : ∀ k, k < o → -9000000 ≤ w k ∧ w k ≤ 9000000) : ∀ (m k n : Nat), k + m = o → m < n →
    ((∃ j, k ≤ j ∧ j < o ∧ Far (w j)) ∧ F_X5_tick_42 n (nI k) (nI o) te tr sa na to = some (-10000000000004, te, tr, sa, na)) ∨ ((∀ j, k ≤ j → j < o → ¬ Far (w j)) ∧ F_X5_tick_42 n (nI k) (nI o) te tr sa na to = F_X5_tick_88 3000 0 (nI o) te tr sa na to) := by
  intro m
  induction m with
  | zero =>
    intro k n hk hn
    match n, hn with
    | n + 1, _ =>
      right
      refine ⟨fun j h1 h2 => by omega, ?_⟩
      rw [F_X5_tick_42, if_pos (nI_le (by omega) (by omega))]
  | succ m ih =>
    intro k n hk hn
    match n, hn with
    | n + 1, hn =>
      have g : ¬ (nI k < 0 ∨ 3 ≤ (nI k).toNatClampNeg) := nI_in (by omega) (by omega)
      have ek : (nI k).toNatClampNeg = k := nI_clamp (by omega)
      have hbk := hb k (by omega)
      rw [F_X5_tick_42, if_neg (nI_ge (by omega) (by omega)), if_neg g, if_neg g, ek, nI_1]
      rcases tk_pl (hw k (by omega)) hbk.1 hbk.2 (some (-10000000000004, te, tr, sa, na)) (F_X5_tick_42 n (nI (k + 1)) (nI o) te tr sa na to) (some (-10000000000004, te, tr, sa, na)) with ⟨f0, e0⟩ | ⟨f0, e0⟩
      · left
        refine ⟨⟨k, by omega, by omega, f0⟩, e0.trans ?_⟩
        split <;> rfl
      · rcases ih (k + 1) n (by omega) (by omega) with ⟨⟨j, j1, j2, j3⟩, e⟩ | ⟨hj, e⟩
        · exact Or.inl ⟨⟨j, by omega, j2, j3⟩, e0.trans e⟩
        · refine Or.inr ⟨fun j j1 j2 => ?_, e0.trans e⟩
          by_cases ej : j = k
          · subst ej; exact f0
          · exact hj j (by omega) j2
theorem tick88_go {o : Nat} (ho : o ≤ 3) (te : Int32) (tr na : Nat → Int64) (to : Nat → Int32) : ∀ (m k n : Nat) (sa : Nat → Int64), k + m = o → m < n → ∃ sa2, F_X5_tick_88 n (nI k) (nI o) te tr sa na to = bd1 (F_X5_seenNow (nI o) to sa2) (fun r1 => some (r1, te + 1, tr, sa2, na)) ∧ ∀ j, sa2 j = if k ≤ j ∧ j < o then tr j else sa j := by
  intro m
  induction m with
  | zero =>
    intro k n sa hk hn
    match n, hn with
    | n + 1, _ =>
      refine ⟨sa, ?_, fun j => (if_neg (by omega)).symm⟩
      rw [F_X5_tick_88, if_pos (nI_le (by omega) (by omega))]
  | succ m ih =>
    intro k n sa hk hn
    match n, hn with
    | n + 1, hn =>
      have g : ¬ (nI k < 0 ∨ 3 ≤ (nI k).toNatClampNeg) := nI_in (by omega) (by omega)
      obtain ⟨sa2, e, h⟩ := ih (k + 1) n (vp_updL sa k (tr k)) (by omega) (by omega)
      refine ⟨sa2, ?_, fun j => ?_⟩
      · rw [F_X5_tick_88, if_neg (nI_ge (by omega) (by omega)), if_neg g, if_neg g, nI_clamp (by omega), nI_1]
        exact e
      · rw [h j]
        by_cases c1 : k + 1 ≤ j ∧ j < o
        · rw [if_pos c1, if_pos (by omega)]
        · rw [if_neg c1]
          by_cases c2 : j = k
          · subst c2; rw [pk_uLs, if_pos (by omega)]
          · rw [pk_uLn c2, if_neg (by omega)]
theorem tick88 {o : Nat} (ho : o ≤ 3) (te : Int32) (tr sa na : Nat → Int64) {to : Nat → Int32} (hz : ZT o to) {w : Nat → Int} (hw : rpo o tr w) : ∃ sa2, F_X5_tick_88 3000 0 (nI o) te tr sa na to = some (Int64.ofInt (dotI (pu true to) w), te + 1, tr, sa2, na) ∧ ∀ k, sa2 k = if 0 ≤ k ∧ k < o then tr k else sa k := by
  obtain ⟨sa2, e, h⟩ := tick88_go ho te tr na to o 0 3000 sa (by omega) (by omega)
  refine ⟨sa2, e.trans (b1 (mseen ho hz (fun k hk => ?_)) rfl), h⟩
  rw [h k, if_pos (by omega)]; exact hw k hk
