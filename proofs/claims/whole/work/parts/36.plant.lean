theorem walk_pr {le pg : Nat → Int32} {len : Nat} (hlen : len ≤ 46) (hj : ∀ j, j < len → pg j = le j) : ∀ (k i n : Nat) {o d due : Nat} {nu : Nat → Int32} {no pa nm iw ib : Int32} {nt : Nat → Int32}, i + k = len → k < n → PR o d due nu no pa nm iw ib nt →
    ∃ (p : Nat) (a b c : Int32) (e : Nat → Int32) (f g h q r : Int32) (s : Nat → Int32), p ≤ len ∧ F_X1_wellBegun_17 n (nI i) (nI len) (nI o) (nI d) (nI due) le nu = some (nI p, a, b, c, e) ∧ F_X5_goAlong_27 n (nI i) (nI len) no pa nm iw ib pg nt = some (nI p, f, g, h, q, r, s) ∧ (p = len → ∃ o d due : Nat, a = nI o ∧ b = nI d ∧ PR o d due e f g h q r s) := by
  intro k
  induction k with
  | zero =>
    intro i n o d due nu no pa nm iw ib nt hi hn h
    match n, hn with
    | n + 1, _ =>
      refine ⟨i, nI o, nI d, nI due, nu, no, pa, nm, iw, ib, nt, by omega, ?_, ?_, fun _ => ⟨o, d, due, rfl, rfl, h⟩⟩
      · rw [F_X1_wellBegun_17, if_pos (nI_le (by omega) (by omega))]
      · rw [F_X5_goAlong_27, if_pos (nI_le (by omega) (by omega))]
  | succ k ih =>
    intro i n o d due nu no pa nm iw ib nt hi hn h
    match n, hn with
    | n + 1, hn =>
      have g : ¬ (nI i < 0 ∨ 46 ≤ (nI i).toNatClampNeg) := nI_in (by omega) (by omega)
      have c1 : ¬ nI len ≤ nI i := nI_ge (by omega) (by omega)
      have ei : (nI i).toNatClampNeg = i := nI_clamp (by omega)
      rcases step_pr h (le i) with ⟨a1, a2, a3, a4, b1', b2', b3', b4', b5', b6', e4, e5⟩ | ⟨o2, d2, due2, nu2, no2, pa2, nm2, iw2, ib2, nt2, e4, e5, h2⟩
      · refine ⟨i, a1, a2, a3, a4, b1', b2', b3', b4', b5', b6', by omega, ?_, ?_, fun q => by omega⟩
        · rw [F_X1_wellBegun_17, if_neg c1, if_neg g, ei]
          exact b5 e4 ie0
        · rw [F_X5_goAlong_27, if_neg c1, if_neg g, ei, hj i (by omega)]
          exact b7 e5 ie0
      · obtain ⟨p, a, b, c, e, f, g2, h3, q, r, s, hp, f4, f5, hl⟩ := ih (i + 1) n (by omega) (by omega) h2
        refine ⟨p, a, b, c, e, f, g2, h3, q, r, s, hp, ?_, ?_, hl⟩
        · rw [F_X1_wellBegun_17, if_neg c1, if_neg g, ei]
          refine b5 e4 ?_
          rw [ie1, nI_1]; exact f4
        · rw [F_X5_goAlong_27, if_neg c1, if_neg g, ei, hj i (by omega)]
          refine b7 e5 ?_
          rw [ie1, nI_1]; exact f5
theorem PR.start (nu nt : Nat → Int32) : PR 0 0 0 nu 0 0 0 0 0 nt := ⟨Or.inl ⟨rfl, rfl, rfl, rfl, rfl, rfl, rfl, rfl⟩, fun j hj => absurd hj (Nat.not_lt_zero j)⟩
theorem m_fault {pl pl2 : Int32} {le pa : Nat → Int32} (h : JP pl le pl2 pa) (x1 x2 x3 : Int32) (nu : Nat → Int32) (y1 y2 y3 y4 y5 : Int32) (nt : Nat → Int32) : ∃ (r : Int64) (a b c : Int32) (e : Nat → Int32) (f g h q k : Int32) (s : Nat → Int32), F_X4_fault pl x1 x2 x3 le nu = some (r, a, b, c, e) ∧ F_X5_fault pl2 y1 y2 y3 y4 y5 pa nt = some (r, f, g, h, q, k, s) := by
  obtain ⟨n, hn, rfl, rfl, hj⟩ := h
  obtain ⟨p, a, b, c, e, f, g, h, q, r, s, hp, f4, f5, -⟩ := walk_pr hn hj n 0 3000 (by omega) (by omega) (PR.start nu nt)
  exact ⟨(nI p).toInt64, a, b, c, e, f, g, h, q, r, s, b5 f4 rfl, b7 f5 rfl⟩
theorem full_pr : ∀ o, o < 4 → ∀ d, d < 16 → 1 ≤ o → d ≤ o * o + 2 * o → ((pt o d = 3 ∧ nmb o d = o) ↔ d = o * o + 2 * o) := by decide
theorem need_ev (o : Nat) (ho : o ≤ 3) : F_X1_needed (nI o) = some (nI (o * o + 2 * o)) := by
  rcases (show o = 0 ∨ o = 1 ∨ o = 2 ∨ o = 3 by omega) with rfl | rfl | rfl | rfl <;> rfl
theorem pt_le (o d : Nat) : pt o d ≤ 3 := by unfold pt; split <;> (try omega); split <;> (try omega); split <;> omega
theorem nd16 {o d : Nat} (h2 : o ≤ 3) (h3 : d ≤ o * o + 2 * o) : d < 16 := by
  rcases (show o = 0 ∨ o = 1 ∨ o = 2 ∨ o = 3 by omega) with rfl | rfl | rfl | rfl <;> omega
theorem nmb_le {o d : Nat} (h2 : o ≤ 3) (h3 : d ≤ o * o + 2 * o) : nmb o d ≤ 15 := by
  have := nd16 h2 h3
  unfold nmb; split <;> (try omega); split <;> (try omega); split <;> omega
/-- is THE PAGE a plant: both say so, or both don't -/
theorem isPlant_spec {pl pl2 : Int32} {le pg : Nat → Int32} (h : JP pl le pl2 pg) (x1 x2 x3 : Int32) (nu : Nat → Int32) (or_ pr y1 y2 y3 y4 y5 : Int32) (nt told : Nat → Int32) (sa : Nat → Int64) :
    (∃ (a b c : Int32) (e : Nat → Int32) (f g h q k : Int32) (s : Nat → Int32), F_X1_isPlant pl x1 x2 x3 le nu = some (0, a, b, c, e) ∧ F_X5_plant pl2 or_ pr y1 y2 y3 y4 y5 pg nt told sa = some (-10000000000004, pl2, or_, pr, f, g, h, q, k, s, told, sa)) ∨
    ∃ (o : Nat) (b c : Int32) (e : Nat → Int32) (g h q k : Int32) (s : Nat → Int32), 1 ≤ o ∧ o ≤ 3 ∧ F_X1_isPlant pl x1 x2 x3 le nu = some (1, nI o, b, c, e) ∧ F_X5_plant pl2 or_ pr y1 y2 y3 y4 y5 pg nt told sa = F_X5_plant_51 3000 0 pl2 (nI o) pr (nI o) g h q k pg s told sa ∧ NT o (o * o + 2 * o) e s := by
  obtain ⟨n, hn, rfl, rfl, hj⟩ := h
  obtain ⟨p, a, b, c, e, f, g, h, q, r, s, hp, f4, f5, hl⟩ := walk_pr hn hj n 0 3000 (by omega) (by omega) (PR.start nu nt)
  have g4 : ∀ {X}, (if nI p = nI n then (if a ≤ 0 then some ((0 : Int32), a, b, c, e) else bd1 (F_X1_needed a) (fun r2 => if b = r2 then some ((1 : Int32), a, b, c, e) else some ((0 : Int32), a, b, c, e))) else some ((0 : Int32), a, b, c, e)) = X → F_X1_isPlant (nI n) x1 x2 x3 le nu = X := by
    intro X hX
    unfold F_X1_isPlant
    exact b5 f4 hX
  have g5 : ∀ {X}, (if nI p < nI n then some ((-10000000000004 : Int64), nI n, or_, pr, f, g, h, q, r, s, told, sa) else (if g = 3 then (if h = f then (if q = 0 then some ((-10000000000004 : Int64), nI n, or_, pr, f, g, h, q, r, s, told, sa) else F_X5_plant_51 3000 0 (nI n) f pr f g h q r pg s told sa) else some ((-10000000000004 : Int64), nI n, or_, pr, f, g, h, q, r, s, told, sa)) else some ((-10000000000004 : Int64), nI n, or_, pr, f, g, h, q, r, s, told, sa))) = X → F_X5_plant (nI n) or_ pr y1 y2 y3 y4 y5 pg nt told sa = X := by
    intro X hX
    unfold F_X5_plant
    exact b7 f5 hX
  by_cases hpn : p = n
  · obtain ⟨o, d, due, rfl, rfl, hpr, hnt⟩ := hl hpn
    subst hpn
    rw [if_pos rfl] at g4
    rw [if_neg (nI_nlt (Nat.le_refl _) (by omega))] at g5
    rcases hpr with ⟨rfl, rfl, rfl, rfl, rfl, rfl, rfl, rfl⟩ | ⟨h1, h2, rfl, hpr⟩
    · exact Or.inl ⟨_, _, _, _, _, _, _, _, _, _, g4 (if_pos (by decide)), g5 (if_neg (by decide))⟩
    · rw [if_neg (nI_nle (by omega) (by omega))] at g4
      rcases hpr with ⟨rfl, h3, rfl, rfl, rfl, rfl⟩ | ⟨rfl, h3, rfl, rfl, rfl, rfl⟩ | ⟨rfl, h3, rfl, rfl, rfl, rfl⟩
      · have h16 := nd16 h2 h3
        have hf := full_pr o (by omega) d h16 h1 h3
        have hn16 := nmb_le h2 h3
        have hp3 := pt_le o d
        by_cases e3 : d = o * o + 2 * o
        · right
          obtain ⟨u1, u2⟩ := hf.mpr e3
          refine ⟨o, nI d, c, e, nI (pt o d), nI (nmb o d), 1, 0, s, h1, h2, g4 (b1 (need_ev o h2) (if_pos (by rw [e3]))), g5 ?_, by rw [← e3]; exact hnt⟩
          rw [if_pos (by rw [u1]; rfl), if_pos (by rw [u2]), ie1]
        · left
          refine ⟨_, _, _, _, nI o, nI (pt o d), nI (nmb o d), 1, 0, s, g4 (b1 (need_ev o h2) (if_neg (fun z => e3 ((nI_eq (by omega) (by have := nd16 h2 (Nat.le_refl _); omega)).mp z)))), g5 ?_⟩
          by_cases u1 : pt o d = 3
          · rw [if_pos (by rw [u1]; rfl), if_neg (fun z => e3 (hf.mp ⟨u1, (nI_eq (by omega) (by omega)).mp z⟩))]
          · rw [if_neg (show ¬ nI (pt o d) = 3 from fun z => u1 ((nI_eq (b := 3) (by omega) (by omega)).mp z))]
      · left
        refine ⟨_, _, _, _, nI o, nI (pn o d), nI (nn o d), 0, 0, s, g4 (b1 (need_ev o h2) (if_neg (fun z => by have := (nI_eq (by have := nd15 h2 h3; omega) (by have := nd16 h2 (Nat.le_refl _); omega)).mp z; omega))), g5 ?_⟩
        by_cases u1 : nI (pn o d) = 3
        · rw [if_pos u1]
          by_cases u2 : nI (nn o d) = nI o
          · rw [if_pos u2, ie0]
          · rw [if_neg u2]
        · rw [if_neg u1]
      · left
        refine ⟨_, _, _, _, nI o, nI (pn o d), nI (nn o d), 0, 1, s, g4 (b1 (need_ev o h2) (if_neg (fun z => by have := (nI_eq (by have := nd15 h2 h3; omega) (by have := nd16 h2 (Nat.le_refl _); omega)).mp z; omega))), g5 ?_⟩
        by_cases u1 : nI (pn o d) = 3
        · rw [if_pos u1]
          by_cases u2 : nI (nn o d) = nI o
          · rw [if_pos u2, ie0]
          · rw [if_neg u2]
        · rw [if_neg u1]
  · exact Or.inl ⟨_, _, _, _, _, _, _, _, _, _, g4 (if_neg (fun z => hpn ((nI_eq (by omega) (by omega)).mp z))), g5 (if_pos (nI_lt (by omega) (by omega)))⟩
/-- the number of a place among those that are there -/
def ix (o k : Nat) : Nat := if k < 9 then o * (k / 3) + k % 3 else if k < 12 then o * o + (k - 9) else o * o + o + (k - 12)
theorem ix_ps : ∀ o, o < 4 → ∀ k, k < 15 → 1 ≤ o → (k % 3 < o ∧ (9 ≤ k ∨ k / 3 < o)) → (ix o k < o * o + 2 * o ∧ ps o (ix o k) = k) := by decide
def thv (o k : Nat) (v : Int32) : Int32 := if k % 3 < o ∧ (9 ≤ k ∨ k / 3 < o) then v else 0
theorem cp_1 (go : Int32) (gc nu : Nat → Int32) : ∃ ce, F_X1_copyTo (nI 1) go gc nu = some (nI 1, ce) ∧ ∀ k, k < 15 → ce k = thv 1 k (nu (ix 1 k)) := ⟨_, rfl, fun k hk => match k, hk with
  | 0, _ => rfl
  | 1, _ => rfl
  | 2, _ => rfl
  | 3, _ => rfl
  | 4, _ => rfl
  | 5, _ => rfl
  | 6, _ => rfl
  | 7, _ => rfl
  | 8, _ => rfl
  | 9, _ => rfl
  | 10, _ => rfl
  | 11, _ => rfl
  | 12, _ => rfl
  | 13, _ => rfl
  | 14, _ => rfl⟩
theorem mp_1 (pl pr no g h q k : Int32) (pg s told : Nat → Int32) (sa : Nat → Int64) : ∃ to sa2, F_X5_plant_51 3000 0 pl (nI 1) pr no g h q k pg s told sa = some ((nI 1).toInt64, 0, nI 1, pr + 1, no, g, h, q, k, s, to, sa2) ∧ (∀ k, k < 15 → to k = thv 1 k (s k)) ∧ (∀ k, k < 3 → sa2 k = 0) := ⟨_, _, rfl, fun k hk => match k, hk with
  | 0, _ => rfl
  | 1, _ => rfl
  | 2, _ => rfl
  | 3, _ => rfl
  | 4, _ => rfl
  | 5, _ => rfl
  | 6, _ => rfl
  | 7, _ => rfl
  | 8, _ => rfl
  | 9, _ => rfl
  | 10, _ => rfl
  | 11, _ => rfl
  | 12, _ => rfl
  | 13, _ => rfl
  | 14, _ => rfl, fun k hk => match k, hk with
  | 0, _ => rfl
  | 1, _ => rfl
  | 2, _ => rfl⟩
theorem cp_2 (go : Int32) (gc nu : Nat → Int32) : ∃ ce, F_X1_copyTo (nI 2) go gc nu = some (nI 2, ce) ∧ ∀ k, k < 15 → ce k = thv 2 k (nu (ix 2 k)) := ⟨_, rfl, fun k hk => match k, hk with
  | 0, _ => rfl
  | 1, _ => rfl
  | 2, _ => rfl
  | 3, _ => rfl
  | 4, _ => rfl
  | 5, _ => rfl
  | 6, _ => rfl
  | 7, _ => rfl
  | 8, _ => rfl
  | 9, _ => rfl
  | 10, _ => rfl
  | 11, _ => rfl
  | 12, _ => rfl
  | 13, _ => rfl
  | 14, _ => rfl⟩
theorem mp_2 (pl pr no g h q k : Int32) (pg s told : Nat → Int32) (sa : Nat → Int64) : ∃ to sa2, F_X5_plant_51 3000 0 pl (nI 2) pr no g h q k pg s told sa = some ((nI 2).toInt64, 0, nI 2, pr + 1, no, g, h, q, k, s, to, sa2) ∧ (∀ k, k < 15 → to k = thv 2 k (s k)) ∧ (∀ k, k < 3 → sa2 k = 0) := ⟨_, _, rfl, fun k hk => match k, hk with
  | 0, _ => rfl
  | 1, _ => rfl
  | 2, _ => rfl
  | 3, _ => rfl
  | 4, _ => rfl
  | 5, _ => rfl
  | 6, _ => rfl
  | 7, _ => rfl
  | 8, _ => rfl
  | 9, _ => rfl
  | 10, _ => rfl
  | 11, _ => rfl
  | 12, _ => rfl
  | 13, _ => rfl
  | 14, _ => rfl, fun k hk => match k, hk with
  | 0, _ => rfl
  | 1, _ => rfl
  | 2, _ => rfl⟩
theorem cp_3 (go : Int32) (gc nu : Nat → Int32) : ∃ ce, F_X1_copyTo (nI 3) go gc nu = some (nI 3, ce) ∧ ∀ k, k < 15 → ce k = thv 3 k (nu (ix 3 k)) := ⟨_, rfl, fun k hk => match k, hk with
  | 0, _ => rfl
  | 1, _ => rfl
  | 2, _ => rfl
  | 3, _ => rfl
  | 4, _ => rfl
  | 5, _ => rfl
  | 6, _ => rfl
  | 7, _ => rfl
  | 8, _ => rfl
  | 9, _ => rfl
  | 10, _ => rfl
  | 11, _ => rfl
  | 12, _ => rfl
  | 13, _ => rfl
  | 14, _ => rfl⟩
theorem mp_3 (pl pr no g h q k : Int32) (pg s told : Nat → Int32) (sa : Nat → Int64) : ∃ to sa2, F_X5_plant_51 3000 0 pl (nI 3) pr no g h q k pg s told sa = some ((nI 3).toInt64, 0, nI 3, pr + 1, no, g, h, q, k, s, to, sa2) ∧ (∀ k, k < 15 → to k = thv 3 k (s k)) ∧ (∀ k, k < 3 → sa2 k = 0) := ⟨_, _, rfl, fun k hk => match k, hk with
  | 0, _ => rfl
  | 1, _ => rfl
  | 2, _ => rfl
  | 3, _ => rfl
  | 4, _ => rfl
  | 5, _ => rfl
  | 6, _ => rfl
  | 7, _ => rfl
  | 8, _ => rfl
  | 9, _ => rfl
  | 10, _ => rfl
  | 11, _ => rfl
  | 12, _ => rfl
  | 13, _ => rfl
  | 14, _ => rfl, fun k hk => match k, hk with
  | 0, _ => rfl
  | 1, _ => rfl
  | 2, _ => rfl⟩
