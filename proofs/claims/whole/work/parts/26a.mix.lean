theorem lg_rr (r : Int64) : lg_cmp r r = 0 := by simp [lg_cmp]
/-- the world ws, with w's cells at the places that the mask names -/
def mix (w : va_W) : va_W → List (Option Nat) → va_W
  | [], _ => []
  | a :: ws, [] => a :: ws
  | a :: ws, none :: ms => a :: mix w ws ms
  | a :: ws, some j :: ms => (w[j]?).getD a :: mix w ws ms
theorem mix_get (w : va_W) : ∀ (ws : va_W) (ms : List (Option Nat)) (k : Nat), (mix w ws ms)[k]? = (ws[k]?).map (fun a => match ms[k]? with | some (some j) => (w[j]?).getD a | _ => a)
  | [], ms, k => by simp [mix]
  | a :: ws, [], k => by
    cases h : (a :: ws)[k]? with
    | none => simp [mix, h]
    | some q => simp [mix, h]
  | a :: ws, none :: ms, 0 => by simp [mix]
  | a :: ws, none :: ms, k + 1 => by
    show (mix w ws ms)[k]? = _
    rw [mix_get w ws ms k]; rfl
  | a :: ws, some j :: ms, 0 => by simp [mix]
  | a :: ws, some j :: ms, k + 1 => by
    show (mix w ws ms)[k]? = _
    rw [mix_get w ws ms k]; rfl
def mixOk (n : Nat) (ms : List (Option Nat)) : Bool := (List.range n).all (fun j => ms.contains (some j)) && ms.all (fun o => match o with | some j => decide (j < n) | none => true)
theorem mixOk_at {n : Nat} {ms : List (Option Nat)} (h : mixOk n ms = true) {j : Nat} (hj : j < n) : ∃ k : Nat, ms[k]? = some (some j) := by
  have h1 := List.all_eq_true.mp (Bool.and_eq_true_iff.mp h).1 j (List.mem_range.mpr hj)
  have h2 : some j ∈ ms := by simpa using h1
  obtain ⟨k, hk⟩ := List.getElem?_of_mem h2
  exact ⟨k, hk⟩
theorem mixOk_lt {n : Nat} {ms : List (Option Nat)} (h : mixOk n ms = true) {j k : Nat} (hk : ms[k]? = some (some j)) : j < n := by
  have h1 := List.all_eq_true.mp (Bool.and_eq_true_iff.mp h).2 (some j) (List.mem_of_getElem? hk)
  simpa using h1
theorem mix_place {ws wc : va_W} {ms : List (Option Nat)} (h1 : mix wc ws ms = ws) (hl : ms.length = ws.length) {j k : Nat} {c : Nat × va_E} (hk : ms[k]? = some (some j)) (hj : wc[j]? = some c) : ws[k]? = some c := by
  have hkl : k < ws.length := by rw [← hl]; exact (List.getElem?_eq_some_iff.mp hk).1
  have h2 := mix_get wc ws ms k
  rw [h1, hk] at h2
  obtain ⟨a, ha⟩ : ∃ a, ws[k]? = some a := ⟨ws[k], List.getElem?_eq_getElem hkl⟩
  rw [ha] at h2 ⊢
  simp only [Option.map_some, hj, Option.getD_some] at h2
  exact h2
theorem mix_D {A : Nat → Prop} {ws ws2 : va_W} (h : ws2.map Prod.fst = ws.map Prod.fst) (hD : va_D A ws) : va_D A ws2 := by
  have key : ∀ (k : Nat) (q : Nat × va_E), ws2[k]? = some q → ∃ p, ws[k]? = some p ∧ p.1 = q.1 := by
    intro k q hk
    have h2 : (ws2.map Prod.fst)[k]? = some q.1 := by rw [List.getElem?_map, hk]; rfl
    rw [h, List.getElem?_map] at h2
    cases hp : ws[k]? with
    | none => rw [hp] at h2; cases h2
    | some p => rw [hp] at h2; exact ⟨p, rfl, Option.some.inj h2⟩
  refine ⟨fun i j p q hi hj e => ?_, fun k q hk => ?_⟩
  · obtain ⟨p1, h1, e1⟩ := key i p hi
    obtain ⟨q1, h2, e2⟩ := key j q hj
    exact hD.1 i j p1 q1 h1 h2 (e1.trans (e.trans e2.symm))
  · obtain ⟨p1, h1, e1⟩ := key k q hk
    rw [← e1]; exact hD.2 k p1 h1
section MX
variable {p : Program} {l : Launch} {e : Env} {R : Room} {s : State} {m : MethodId} {args : Array Value} {below : List Frame} {meth : Method} {c : Code} {H : Heap} {locs : List Loc} {cells slots : Nat} {Q : State → Prop}
variable {cc : ByteArray} {pc : Nat} {ls : Array Slot} {rest st0 : List Value} {D : va_G} {A : Nat → Prop} {a : Nat} {ws ws2 wc wc2 : va_W} {H0 : Heap} {cyI cyJ cyA : ClassId} {av : Array Value} {ms : List (Option Nat)}
theorem mix_P (h1 : mix wc ws ms = ws) (hl : ms.length = ws.length) (ho : mixOk wc.length ms = true) (hP : va_P D vwCl ws H) : va_P D vwCl wc H := fun j q hj => by
  obtain ⟨k, hk⟩ := mixOk_at ho (List.getElem?_eq_some_iff.mp hj).1
  exact hP k q (mix_place h1 hl hk hj)
theorem mix_Dc (h1 : mix wc ws ms = ws) (hl : ms.length = ws.length) (ho : mixOk wc.length ms = true) (hD : va_D A ws) : va_D A wc := by
  refine ⟨fun i j p q hi hj e => ?_, fun j q hj => ?_⟩
  · obtain ⟨k1, hk1⟩ := mixOk_at ho (List.getElem?_eq_some_iff.mp hi).1
    obtain ⟨k2, hk2⟩ := mixOk_at ho (List.getElem?_eq_some_iff.mp hj).1
    have e2 := hD.1 k1 k2 p q (mix_place h1 hl hk1 hi) (mix_place h1 hl hk2 hj) e
    subst e2
    rw [hk1] at hk2
    exact Option.some.inj (Option.some.inj hk2)
  · obtain ⟨k, hk⟩ := mixOk_at ho (List.getElem?_eq_some_iff.mp hj).1
    exact hD.2 k q (mix_place h1 hl hk hj)
theorem mix_free (h1 : mix wc ws ms = ws) (hl : ms.length = ws.length) (ho : mixOk wc.length ms = true) (hD : va_D A ws) (hS : va_S A H0 H locs) (hA : ∀ q, H0.size ≤ q → A q) : ∀ q, va_A wc H.size q → A q := by
  intro q h
  rcases h with ⟨j, e, h⟩ | h
  · exact (mix_Dc h1 hl ho hD).2 j (q, e) h
  · exact hA q (Nat.le_trans hS.1 h)
theorem mix_back (h1 : mix wc ws ms = ws) (h2 : mix wc2 ws ms = ws2) (hl : ms.length = ws.length) (hlc : wc2.length = wc.length) (ho : mixOk wc.length ms = true) (hP : va_P D vwCl ws H) (hD : va_D A ws) {H1 : Heap} (hk : ∀ q : Nat, q < H.size → ¬ va_A wc H.size q → H1[q]? = H[q]?) (hP1 : va_P D vwCl wc2 H1) : va_P D vwCl ws2 H1 := by
  intro k q hq
  rw [← h2, mix_get] at hq
  cases ha : ws[k]? with
  | none => rw [ha] at hq; cases hq
  | some x =>
    rw [ha] at hq
    have keep : (∀ j, ms[k]? ≠ some (some j)) → x = q → va_at D vwCl q H1 := fun hm hxq => by
      subst hxq
      refine (hP k x ha).kept (hk x.1 (hP k x ha).lt fun hA9 => ?_)
      rcases hA9 with ⟨j, e9, hj⟩ | hj
      · obtain ⟨k2, hk2⟩ := mixOk_at ho (List.getElem?_eq_some_iff.mp hj).1
        have e2 := hD.1 k k2 x (x.1, e9) ha (mix_place h1 hl hk2 hj) rfl
        subst e2
        exact hm j hk2
      · exact absurd (hP k x ha).lt (Nat.not_lt.mpr hj)
    cases hm : ms[k]? with
    | none =>
      rw [hm] at hq
      exact keep (fun j h => by rw [hm] at h; cases h) (Option.some.inj hq)
    | some o =>
      cases o with
      | none =>
        rw [hm] at hq
        exact keep (fun j h => by rw [hm] at h; cases h) (Option.some.inj hq)
      | some j =>
        rw [hm] at hq
        have hj : j < wc2.length := by rw [hlc]; exact mixOk_lt ho hm
        have hj2 : wc2[j]? = some wc2[j] := List.getElem?_eq_getElem hj
        simp only [Option.map_some, hj2, Option.getD_some] at hq
        exact hP1 j q (by rw [hj2]; exact hq)
theorem pre_M {As : List Value} {b : Nat} {C : String} {T : u_T} {N ci : Nat} {fs : List Value} (hKK : KK D cyI cyJ cyA s) (hP : va_P D vwCl ws H) (hD : va_D A ws) (q0 : Nat) (he : ws[q0]? = some (b, .inr (ci, fs))) (hc : vwCl[ci]? = some (C, T, N)) (h1 : mix wc ws ms = ws) (hl : ms.length = ws.length) (n9 : Nat) (hn9 : wc.length = n9) (ho9 : mixOk n9 ms = true) : PreV s H C b (va_Pc (.ref b :: As) (PC D cyI cyJ cyA wc H.size)) As :=
  have ho : mixOk wc.length ms = true := by rw [hn9]; exact ho9
  ⟨PC.blind, va_recv hKK.1 hP hc he, fun U hU hW => ⟨rfl, by rw [hU], by rw [hU]; exact mix_P h1 hl ho hP, hKK.warm hW, (mix_Dc h1 hl ho hD).weaken (fun _ _ _ _ => trivial)⟩⟩
theorem kc_M {r : Int64} (hr : va_Run p l e R s m args below meth c H locs cells slots 0 0 (F0 m pc ls st0) rest (QL D (va_A wc H.size) wc2 r av) (va_A wc H.size)) (hP : va_P D vwCl ws H) (hD : va_D A ws) (hS : va_S A H0 H locs) (hA : ∀ q, H0.size ≤ q → A q) (h1 : mix wc ws ms = ws) (h2 : mix wc2 ws ms = ws2) (hl : ms.length = ws.length) (hlc : wc2.length = wc.length) (n9 : Nat) (hn9 : wc.length = n9) (ho9 : mixOk n9 ms = true) (hmf : ws2.map Prod.fst = ws.map Prod.fst)
    (kk : ∀ (H1 : Heap) (locs1 : List Loc), va_P D vwCl ws2 H1 → va_D A ws2 → va_S A H0 H1 locs1 → W p l e R s m args below meth c H1 locs1 cells slots Q (F0 m (pc + 3) ls (.long r :: rest))) : W p l e R s m args below meth c H locs cells slots Q (F0 m pc ls st0) := by
  have ho : mixOk wc.length ms = true := by rw [hn9]; exact ho9
  have hF := mix_free h1 hl ho hD hS hA
  refine va_calll hr hS (fun q _ h => hF q h) hF (fun r2 u t H1 locs1 ht hvm hw hB hz hk hS1 => ?_)
  obtain ⟨hP1, hD1⟩ := hB
  subst hw
  rw [ht] at hP1
  exact kk H1 locs1 (mix_back h1 h2 hl hlc ho hP hD hk hP1) (mix_D hmf hD) hS1
end MX
def WLaw (cyI cyJ cyA : ClassId) (xq mq : Nat) (xa ma : Nat → Nat) (xv_limit : Int32) (xv_plantsRead : Int32) (xv_ticksGone : Int32) (xv_planned : Int32) (xv_page_length : Int32) (xv_page_order : Int32) (xv_page_done : Int32) (xv_page_due : Int32) (xv_page_letters : Nat → Int32) (xv_page_numbers : Nat → Int32) (xv_plant_order : Int32) (xv_plant_cells : Nat → Int32) (xv_plant_spare : Nat → Int64) (xv_reach_rank : Int32) (xv_reach_below : Int64) (xv_reach_across : Int32) (xv_reach_rows_r0 : Nat → Int64) (xv_reach_rows_r1 : Nat → Int64) (xv_reach_rows_r2 : Nat → Int64) (xv_reach_gains : Nat → Int64) (xv_reach_base_r0 : Nat → Int64) (xv_reach_base_r1 : Nat → Int64) (xv_reach_base_r2 : Nat → Int64) (xv_reach_square_r0 : Nat → Int64) (xv_reach_square_r1 : Nat → Int64) (xv_reach_square_r2 : Nat → Int64) (xv_reach_spare : Nat → Int64) (xv_sight_rank : Int32) (xv_sight_below : Int64) (xv_sight_across : Int32) (xv_sight_rows_r0 : Nat → Int64) (xv_sight_rows_r1 : Nat → Int64) (xv_sight_rows_r2 : Nat → Int64) (xv_sight_gains : Nat → Int64) (xv_sight_base_r0 : Nat → Int64) (xv_sight_base_r1 : Nat → Int64) (xv_sight_base_r2 : Nat → Int64) (xv_sight_square_r0 : Nat → Int64) (xv_sight_square_r1 : Nat → Int64) (xv_sight_square_r2 : Nat → Int64) (xv_sight_spare : Nat → Int64) (xv_planner_ticks : Int32) (xv_planner_limit : Int32) (xv_planner_tried : Int32) (xv_planner_bound : Int32) (xv_planner_inputs : Nat → Int32) (xv_planner_due : Nat → Int64) (xv_planner_shares_r0 : Nat → Int64) (xv_planner_shares_r1 : Nat → Int64) (xv_planner_shares_r2 : Nat → Int64) (xv_planner_spare : Nat → Int64) (xv_start : Nat → Int64) (xv_way : Nat → Int64) (xv_next : Nat → Int64) (mv_pageLength : Int32) (mv_order : Int32) (mv_limit : Int32) (mv_plantsRead : Int32) (mv_ticksEver : Int32) (mv_newOrder : Int32) (mv_part : Int32) (mv_numbers : Int32) (mv_isWhole : Int32) (mv_isBelow : Int32) (mv_below : Int64) (mv_planTicks : Int32) (mv_h : Int64) (mv_page : Nat → Int32) (mv_told : Nat → Int32) (mv_startAt : Nat → Int64) (mv_newTold : Nat → Int32) (mv_nextAt : Nat → Int64) (mv_tried : Nat → Int64) (mv_rows : Nat → Int64) (mv_inputBy : Nat → Int64) (mv_stateBy : Nat → Int64) (mv_goal : Nat → Int64) (mv_planAt : Nat → Int32) (mv_inputs : Nat → Int32) (mv_ends : Nat → Int64) (mv_wanted : Nat → Int64) : va_W := [(xq, .inr (4, [.ref (xa 0), .ref (xa 3), .ref (xa 6), .ref (xa 21), .ref (xa 36), .ref (xa 44), .ref (xa 45), .ref (xa 46), .int xv_limit, .int xv_plantsRead, .int xv_ticksGone, .int xv_planned])), ((xa 0), .inr (1, [.ref (xa 1), .int xv_page_length, .ref (xa 2), .int xv_page_order, .int xv_page_done, .int xv_page_due])), ((xa 1), .inl (cyI, 46, .inl xv_page_letters)), ((xa 2), .inl (cyI, 15, .inl xv_page_numbers)), ((xa 3), .inr (3, [.ref (xa 4), .int xv_plant_order, .ref (xa 5)])), ((xa 4), .inl (cyI, 15, .inl xv_plant_cells)), ((xa 5), .inl (cyJ, 3, .inr (.inl xv_plant_spare))), ((xa 6), .inr (0, [.ref (xa 7), .ref (xa 11), .int xv_reach_rank, .long xv_reach_below, .int xv_reach_across, .ref (xa 12), .ref (xa 16), .ref (xa 20)])), ((xa 7), .inl (cyA, 3, .inr (.inr (.inr (.inr (fn3 (xa 8) (xa 9) (xa 10))))))), ((xa 8), .inl (cyJ, 3, .inr (.inl xv_reach_rows_r0))), ((xa 9), .inl (cyJ, 3, .inr (.inl xv_reach_rows_r1))), ((xa 10), .inl (cyJ, 3, .inr (.inl xv_reach_rows_r2))), ((xa 11), .inl (cyJ, 3, .inr (.inl xv_reach_gains))), ((xa 12), .inl (cyA, 3, .inr (.inr (.inr (.inr (fn3 (xa 13) (xa 14) (xa 15))))))), ((xa 13), .inl (cyJ, 3, .inr (.inl xv_reach_base_r0))), ((xa 14), .inl (cyJ, 3, .inr (.inl xv_reach_base_r1))), ((xa 15), .inl (cyJ, 3, .inr (.inl xv_reach_base_r2))), ((xa 16), .inl (cyA, 3, .inr (.inr (.inr (.inr (fn3 (xa 17) (xa 18) (xa 19))))))), ((xa 17), .inl (cyJ, 3, .inr (.inl xv_reach_square_r0))), ((xa 18), .inl (cyJ, 3, .inr (.inl xv_reach_square_r1))), ((xa 19), .inl (cyJ, 3, .inr (.inl xv_reach_square_r2))), ((xa 20), .inl (cyJ, 3, .inr (.inl xv_reach_spare))), ((xa 21), .inr (0, [.ref (xa 22), .ref (xa 26), .int xv_sight_rank, .long xv_sight_below, .int xv_sight_across, .ref (xa 27), .ref (xa 31), .ref (xa 35)])), ((xa 22), .inl (cyA, 3, .inr (.inr (.inr (.inr (fn3 (xa 23) (xa 24) (xa 25))))))), ((xa 23), .inl (cyJ, 3, .inr (.inl xv_sight_rows_r0))), ((xa 24), .inl (cyJ, 3, .inr (.inl xv_sight_rows_r1))), ((xa 25), .inl (cyJ, 3, .inr (.inl xv_sight_rows_r2))), ((xa 26), .inl (cyJ, 3, .inr (.inl xv_sight_gains))), ((xa 27), .inl (cyA, 3, .inr (.inr (.inr (.inr (fn3 (xa 28) (xa 29) (xa 30))))))), ((xa 28), .inl (cyJ, 3, .inr (.inl xv_sight_base_r0))), ((xa 29), .inl (cyJ, 3, .inr (.inl xv_sight_base_r1))), ((xa 30), .inl (cyJ, 3, .inr (.inl xv_sight_base_r2))), ((xa 31), .inl (cyA, 3, .inr (.inr (.inr (.inr (fn3 (xa 32) (xa 33) (xa 34))))))), ((xa 32), .inl (cyJ, 3, .inr (.inl xv_sight_square_r0))), ((xa 33), .inl (cyJ, 3, .inr (.inl xv_sight_square_r1))), ((xa 34), .inl (cyJ, 3, .inr (.inl xv_sight_square_r2))), ((xa 35), .inl (cyJ, 3, .inr (.inl xv_sight_spare))), ((xa 36), .inr (2, [.ref (xa 37), .int xv_planner_ticks, .ref (xa 38), .ref (xa 39), .ref (xa 43), .int xv_planner_limit, .int xv_planner_tried, .int xv_planner_bound])), ((xa 37), .inl (cyI, 6, .inl xv_planner_inputs)), ((xa 38), .inl (cyJ, 3, .inr (.inl xv_planner_due))), ((xa 39), .inl (cyA, 3, .inr (.inr (.inr (.inr (fn3 (xa 40) (xa 41) (xa 42))))))), ((xa 40), .inl (cyJ, 3, .inr (.inl xv_planner_shares_r0))), ((xa 41), .inl (cyJ, 3, .inr (.inl xv_planner_shares_r1))), ((xa 42), .inl (cyJ, 3, .inr (.inl xv_planner_shares_r2))), ((xa 43), .inl (cyJ, 3, .inr (.inl xv_planner_spare))), ((xa 44), .inl (cyJ, 3, .inr (.inl xv_start))), ((xa 45), .inl (cyJ, 3, .inr (.inl xv_way))), ((xa 46), .inl (cyJ, 3, .inr (.inl xv_next))), (mq, .inr (5, [.int mv_pageLength, .ref (ma 0), .int mv_order, .ref (ma 1), .ref (ma 2), .int mv_limit, .int mv_plantsRead, .int mv_ticksEver, .int mv_newOrder, .int mv_part, .int mv_numbers, .int mv_isWhole, .int mv_isBelow, .ref (ma 3), .ref (ma 4), .ref (ma 5), .ref (ma 6), .long mv_below, .ref (ma 7), .ref (ma 8), .ref (ma 9), .int mv_planTicks, .ref (ma 10), .ref (ma 11), .ref (ma 12), .ref (ma 13), .long mv_h])), ((ma 0), .inl (cyI, 46, .inl mv_page)), ((ma 1), .inl (cyI, 15, .inl mv_told)), ((ma 2), .inl (cyJ, 3, .inr (.inl mv_startAt))), ((ma 3), .inl (cyI, 15, .inl mv_newTold)), ((ma 4), .inl (cyJ, 3, .inr (.inl mv_nextAt))), ((ma 5), .inl (cyJ, 3, .inr (.inl mv_tried))), ((ma 6), .inl (cyJ, 9, .inr (.inl mv_rows))), ((ma 7), .inl (cyJ, 15, .inr (.inl mv_inputBy))), ((ma 8), .inl (cyJ, 45, .inr (.inl mv_stateBy))), ((ma 9), .inl (cyJ, 3, .inr (.inl mv_goal))), ((ma 10), .inl (cyI, 6, .inl mv_planAt)), ((ma 11), .inl (cyI, 6, .inl mv_inputs)), ((ma 12), .inl (cyJ, 9, .inr (.inl mv_ends))), ((ma 13), .inl (cyJ, 3, .inr (.inl mv_wanted)))]
