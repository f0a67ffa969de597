/-! RestGainsModel.plant ()J -/
def rmX5_plant : Room := { frames := 4, cells := 0, slots := 0, locals := 86 }
def F_X5_plant_89  : Nat → Int32 → Int32 → Int32 → Int32 → Int32 → Int32 → Int32 → Int32 → Int32 → (Nat → Int32) → (Nat → Int32) → (Nat → Int32) → (Nat → Int64) → Option (Int64 × Int32 × Int32 × Int32 × Int32 × Int32 × Int32 × Int32 × Int32 × (Nat → Int32) × (Nat → Int32) × (Nat → Int64))
  | 0, _, _, _, _, _, _, _, _, _, _, _, _, _ => none
  | n + 1, l1, v_pageLength, v_order, v_plantsRead, v_newOrder, v_part, v_numbers, v_isWhole, v_isBelow, v_page, v_newTold, v_told, v_startAt => if (3 : Int32) ≤ l1 then (some (v_order.toInt64, (0 : Int32), v_order, (v_plantsRead + (1 : Int32)), v_newOrder, v_part, v_numbers, v_isWhole, v_isBelow, v_newTold, v_told, v_startAt)) else (if l1 < 0 ∨ 3 ≤ l1.toNatClampNeg then none else F_X5_plant_89  n (l1 + (1 : Int32)) v_pageLength v_order v_plantsRead v_newOrder v_part v_numbers v_isWhole v_isBelow v_page v_newTold v_told (vp_updL v_startAt l1.toNatClampNeg (0 : Int64)))
def F_X5_plant_80 (k_51 : Int32 → Int32 → Int32 → Int32 → Int32 → Int32 → Int32 → Int32 → Int32 → (Nat → Int32) → (Nat → Int32) → (Nat → Int32) → (Nat → Int64) → Option (Int64 × Int32 × Int32 × Int32 × Int32 × Int32 × Int32 × Int32 × Int32 × (Nat → Int32) × (Nat → Int32) × (Nat → Int64))) (s1 : Int32) (s2 : Int32) (l1 : Int32) (v_pageLength : Int32) (v_order : Int32) (v_plantsRead : Int32) (v_newOrder : Int32) (v_part : Int32) (v_numbers : Int32) (v_isWhole : Int32) (v_isBelow : Int32) (v_page : Nat → Int32) (v_newTold : Nat → Int32) (v_told : Nat → Int32) (v_startAt : Nat → Int64) : Option (Int64 × Int32 × Int32 × Int32 × Int32 × Int32 × Int32 × Int32 × Int32 × (Nat → Int32) × (Nat → Int32) × (Nat → Int64)) :=
  if s1 < 0 ∨ 15 ≤ s1.toNatClampNeg then none else k_51 (l1 + (1 : Int32)) v_pageLength v_order v_plantsRead v_newOrder v_part v_numbers v_isWhole v_isBelow v_page v_newTold (upd v_told s1.toNatClampNeg s2) v_startAt
def F_X5_plant_51  : Nat → Int32 → Int32 → Int32 → Int32 → Int32 → Int32 → Int32 → Int32 → Int32 → (Nat → Int32) → (Nat → Int32) → (Nat → Int32) → (Nat → Int64) → Option (Int64 × Int32 × Int32 × Int32 × Int32 × Int32 × Int32 × Int32 × Int32 × (Nat → Int32) × (Nat → Int32) × (Nat → Int64))
  | 0, _, _, _, _, _, _, _, _, _, _, _, _, _ => none
  | n + 1, l1, v_pageLength, v_order, v_plantsRead, v_newOrder, v_part, v_numbers, v_isWhole, v_isBelow, v_page, v_newTold, v_told, v_startAt => if (15 : Int32) ≤ l1 then (F_X5_plant_89  3000 (0 : Int32) v_pageLength v_order v_plantsRead v_newOrder v_part v_numbers v_isWhole v_isBelow v_page v_newTold v_told v_startAt) else (bd1 (F_X5_isThere l1 v_order) (fun r1 => if r1 = 0 then (F_X5_plant_80 (fun l1 v_pageLength v_order v_plantsRead v_newOrder v_part v_numbers v_isWhole v_isBelow v_page v_newTold v_told v_startAt => F_X5_plant_51  n l1 v_pageLength v_order v_plantsRead v_newOrder v_part v_numbers v_isWhole v_isBelow v_page v_newTold v_told v_startAt) l1 (0 : Int32) l1 v_pageLength v_order v_plantsRead v_newOrder v_part v_numbers v_isWhole v_isBelow v_page v_newTold v_told v_startAt) else (if l1 < 0 ∨ 15 ≤ l1.toNatClampNeg then none else F_X5_plant_80 (fun l1 v_pageLength v_order v_plantsRead v_newOrder v_part v_numbers v_isWhole v_isBelow v_page v_newTold v_told v_startAt => F_X5_plant_51  n l1 v_pageLength v_order v_plantsRead v_newOrder v_part v_numbers v_isWhole v_isBelow v_page v_newTold v_told v_startAt) l1 (v_newTold l1.toNatClampNeg) l1 v_pageLength v_order v_plantsRead v_newOrder v_part v_numbers v_isWhole v_isBelow v_page v_newTold v_told v_startAt)))
def F_X5_plant (v_pageLength : Int32) (v_order : Int32) (v_plantsRead : Int32) (v_newOrder : Int32) (v_part : Int32) (v_numbers : Int32) (v_isWhole : Int32) (v_isBelow : Int32) (v_page : Nat → Int32) (v_newTold : Nat → Int32) (v_told : Nat → Int32) (v_startAt : Nat → Int64) : Option (Int64 × Int32 × Int32 × Int32 × Int32 × Int32 × Int32 × Int32 × Int32 × (Nat → Int32) × (Nat → Int32) × (Nat → Int64)) :=
  bd7 (F_X5_goAlong v_pageLength v_newOrder v_part v_numbers v_isWhole v_isBelow v_page v_newTold) (fun r1 x1_newOrder x1_part x1_numbers x1_isWhole x1_isBelow x1_newTold => if r1 < v_pageLength then (some ((-10000000000004 : Int64), v_pageLength, v_order, v_plantsRead, x1_newOrder, x1_part, x1_numbers, x1_isWhole, x1_isBelow, x1_newTold, v_told, v_startAt)) else (if x1_part = (3 : Int32) then (if x1_numbers = x1_newOrder then (if x1_isWhole = 0 then (some ((-10000000000004 : Int64), v_pageLength, v_order, v_plantsRead, x1_newOrder, x1_part, x1_numbers, x1_isWhole, x1_isBelow, x1_newTold, v_told, v_startAt)) else (F_X5_plant_51  3000 (0 : Int32) v_pageLength x1_newOrder v_plantsRead x1_newOrder x1_part x1_numbers x1_isWhole x1_isBelow v_page x1_newTold v_told v_startAt)) else (some ((-10000000000004 : Int64), v_pageLength, v_order, v_plantsRead, x1_newOrder, x1_part, x1_numbers, x1_isWhole, x1_isBelow, x1_newTold, v_told, v_startAt))) else (some ((-10000000000004 : Int64), v_pageLength, v_order, v_plantsRead, x1_newOrder, x1_part, x1_numbers, x1_isWhole, x1_isBelow, x1_newTold, v_told, v_startAt))))
set_option maxHeartbeats 4000000 in
set_option maxRecDepth 100000 in
theorem t_X5_plant_89 {p : Program} {l : Launch} {e : Env} {s : State} {m : MethodId} {args : Array Value} {below : List Frame} {meth : Method} {c : Code} {dC : Nat → ClassId} {dI : Nat → Nat → Nat} {cyI cyJ cyA : ClassId} {A : Nat → Prop} {h_me h_page h_newTold h_told h_startAt : Nat} {z_limit z_ticksEver z_nextAt z_tried z_rows z_below z_inputBy z_stateBy z_goal z_planTicks z_planAt z_inputs z_ends z_wanted z_h : Value} {r : Int64} {q_pageLength : Int32} {q_order : Int32} {q_plantsRead : Int32} {q_newOrder : Int32} {q_part : Int32} {q_numbers : Int32} {q_isWhole : Int32} {q_isBelow : Int32} {q_newTold : Nat → Int32} {q_told : Nat → Int32} {q_startAt : Nat → Int64} (C0 : Cx p s m args meth c cX5_plant 2 (some .long) wsX5_plant RX5 (dC, dI) cyI cyJ cyA) (hA : ∀ q : Nat, s.heap.size ≤ q → A q)  : ∀ (n : Nat) (l1 : Int32) (v_pageLength : Int32) (v_order : Int32) (v_plantsRead : Int32) (v_newOrder : Int32) (v_part : Int32) (v_numbers : Int32) (v_isWhole : Int32) (v_isBelow : Int32) (v_page : Nat → Int32) (v_newTold : Nat → Int32) (v_told : Nat → Int32) (v_startAt : Nat → Int64), F_X5_plant_89  n l1 v_pageLength v_order v_plantsRead v_newOrder v_part v_numbers v_isWhole v_isBelow v_page v_newTold v_told v_startAt = some (r, q_pageLength, q_order, q_plantsRead, q_newOrder, q_part, q_numbers, q_isWhole, q_isBelow, q_newTold, q_told, q_startAt) → ∀ {H : Heap} {locs : List Loc} {ls : Array Slot}, va_P (dC, dI) vwCl [(h_me, .inr (5, [.int v_pageLength, .ref h_page, .int v_order, .ref h_told, .ref h_startAt, z_limit, .int v_plantsRead, z_ticksEver, .int v_newOrder, .int v_part, .int v_numbers, .int v_isWhole, .int v_isBelow, .ref h_newTold, z_nextAt, z_tried, z_rows, z_below, z_inputBy, z_stateBy, z_goal, z_planTicks, z_planAt, z_inputs, z_ends, z_wanted, z_h])), (h_page, .inl (cyI, 46, .inl v_page)), (h_newTold, .inl (cyI, 15, .inl v_newTold)), (h_told, .inl (cyI, 15, .inl v_told)), (h_startAt, .inl (cyJ, 3, .inr (.inl v_startAt)))] H → va_D A [(h_me, .inr (5, [.int v_pageLength, .ref h_page, .int v_order, .ref h_told, .ref h_startAt, z_limit, .int v_plantsRead, z_ticksEver, .int v_newOrder, .int v_part, .int v_numbers, .int v_isWhole, .int v_isBelow, .ref h_newTold, z_nextAt, z_tried, z_rows, z_below, z_inputBy, z_stateBy, z_goal, z_planTicks, z_planAt, z_inputs, z_ends, z_wanted, z_h])), (h_page, .inl (cyI, 46, .inl v_page)), (h_newTold, .inl (cyI, 15, .inl v_newTold)), (h_told, .inl (cyI, 15, .inl v_told)), (h_startAt, .inl (cyJ, 3, .inr (.inl v_startAt)))] → va_S A s.heap H locs → lv_has ls 2 [(0, .ref h_me), (1, .int l1)] → W p l e rmX5_plant s m args below meth c H locs 0 0 (MQ below (QL (dC, dI) A [(h_me, .inr (5, [.int q_pageLength, .ref h_page, .int q_order, .ref h_told, .ref h_startAt, z_limit, .int q_plantsRead, z_ticksEver, .int q_newOrder, .int q_part, .int q_numbers, .int q_isWhole, .int q_isBelow, .ref h_newTold, z_nextAt, z_tried, z_rows, z_below, z_inputBy, z_stateBy, z_goal, z_planTicks, z_planAt, z_inputs, z_ends, z_wanted, z_h])), (h_page, .inl (cyI, 46, .inl v_page)), (h_newTold, .inl (cyI, 15, .inl q_newTold)), (h_told, .inl (cyI, 15, .inl q_told)), (h_startAt, .inl (cyJ, 3, .inr (.inl q_startAt)))] r) args s 0 0 A) (F0 m 89 ls []) := by
  obtain ⟨hx, hb, hr, hml, hown, hts, hKK, hlocks⟩ := id C0
  have hK := hKK.1
  intro n
  induction n with
  | zero => intro l1 v_pageLength v_order v_plantsRead v_newOrder v_part v_numbers v_isWhole v_isBelow v_page v_newTold v_told v_startAt hF; rw [F_X5_plant_89] at hF; cases hF
  | succ n ih =>
      intro l1 v_pageLength v_order v_plantsRead v_newOrder v_part v_numbers v_isWhole v_isBelow v_page v_newTold v_told v_startAt hF H locs ls hP hD hS hl
      rw [F_X5_plant_89] at hF
      refine lv_iload_n hx hb dX5_plant_89 rfl (lv_at hl 1 rfl) ?_
      refine lv_iconst (v := (3 : Int32)) hx hb dX5_plant_90 (by decide) ?_
      refine lv_icmp_ge (tgt := 107) hx hb dX5_plant_91 (by decide) (fun c_ => ?_) (fun c_ => ?_)
      · have hF := gif c_ hF
        refine lv_aload_n hx hb dX5_plant_107 rfl (lv_at hl 0 rfl) ?_
        refine lv_dup hx hb dX5_plant_108 rfl ?_
        refine my_get (D := (dC, dI)) (ci := 5) (v := .int v_plantsRead) (C := RX5) (T := TX5) (N := 27) hx hb hts iX5_plant_X5 hown hK hP 0 rfl rfl 6 (by decide) (hts _ mX5_plant_11) rfl rfl dX5_plant_109 ?_
        refine lv_iconst (v := (1 : Int32)) hx hb dX5_plant_112 (by decide) ?_
        refine lv_iadd hx hb dX5_plant_113 ?_
        refine my_put (D := (dC, dI)) (ci := 5) (v := .int (v_plantsRead + (1 : Int32))) (ty := .int) (C := RX5) (T := TX5) (N := 27) (ws' := [(h_me, .inr (5, [.int v_pageLength, .ref h_page, .int v_order, .ref h_told, .ref h_startAt, z_limit, .int (v_plantsRead + (1 : Int32)), z_ticksEver, .int v_newOrder, .int v_part, .int v_numbers, .int v_isWhole, .int v_isBelow, .ref h_newTold, z_nextAt, z_tried, z_rows, z_below, z_inputBy, z_stateBy, z_goal, z_planTicks, z_planAt, z_inputs, z_ends, z_wanted, z_h])), (h_page, .inl (cyI, 46, .inl v_page)), (h_newTold, .inl (cyI, 15, .inl v_newTold)), (h_told, .inl (cyI, 15, .inl v_told)), (h_startAt, .inl (cyJ, 3, .inr (.inl v_startAt)))]) hx hb hts iX5_plant_X5 tyX5 tyX5_ok nmX5 hown hK hP hD hS 0 rfl rfl 6 (by decide) (hts _ mX5_plant_11) rfl rfl rfl rfl rfl (Nat.le_of_ble_eq_true rfl) dX5_plant_114 rfl (fun H locs hP hD hS => ?_)
        refine lv_aload_n hx hb dX5_plant_117 rfl (lv_at hl 0 rfl) ?_
        refine lv_iconst (v := (0 : Int32)) hx hb dX5_plant_118 (by decide) ?_
        refine my_put (D := (dC, dI)) (ci := 5) (v := .int (0 : Int32)) (ty := .int) (C := RX5) (T := TX5) (N := 27) (ws' := [(h_me, .inr (5, [.int (0 : Int32), .ref h_page, .int v_order, .ref h_told, .ref h_startAt, z_limit, .int (v_plantsRead + (1 : Int32)), z_ticksEver, .int v_newOrder, .int v_part, .int v_numbers, .int v_isWhole, .int v_isBelow, .ref h_newTold, z_nextAt, z_tried, z_rows, z_below, z_inputBy, z_stateBy, z_goal, z_planTicks, z_planAt, z_inputs, z_ends, z_wanted, z_h])), (h_page, .inl (cyI, 46, .inl v_page)), (h_newTold, .inl (cyI, 15, .inl v_newTold)), (h_told, .inl (cyI, 15, .inl v_told)), (h_startAt, .inl (cyJ, 3, .inr (.inl v_startAt)))]) hx hb hts iX5_plant_X5 tyX5 tyX5_ok nmX5 hown hK hP hD hS 0 rfl rfl 0 (by decide) (hts _ mX5_plant_1) rfl rfl rfl rfl rfl (Nat.le_of_ble_eq_true rfl) dX5_plant_119 rfl (fun H locs hP hD hS => ?_)
        refine lv_aload_n hx hb dX5_plant_122 rfl (lv_at hl 0 rfl) ?_
        refine my_get (D := (dC, dI)) (ci := 5) (v := .int v_order) (C := RX5) (T := TX5) (N := 27) hx hb hts iX5_plant_X5 hown hK hP 0 rfl rfl 2 (by decide) (hts _ mX5_plant_7) rfl rfl dX5_plant_123 ?_
        refine lv_i2l hx hb dX5_plant_126 rfl ?_
        cases hF
        exact W.lret hx hb hr (fun t ht hW => ⟨⟨_, (), rfl, rfl, by rw [ht]; exact hP, hD⟩, hS.F ht⟩) hS.2.2 dX5_plant_127
      · have hF := gel c_ hF
        refine lv_aload_n hx hb dX5_plant_94 rfl (lv_at hl 0 rfl) ?_
        refine my_get (D := (dC, dI)) (ci := 5) (v := .ref h_startAt) (C := RX5) (T := TX5) (N := 27) hx hb hts iX5_plant_X5 hown hK hP 0 rfl rfl 4 (by decide) (hts _ mX5_plant_10) rfl rfl dX5_plant_95 ?_
        refine lv_iload_n hx hb dX5_plant_98 rfl (lv_at hl 1 rfl) ?_
        refine lv_lconst (v := (0 : Int64)) hx hb dX5_plant_99 (by decide) ?_
        obtain ⟨g_1, hF⟩ := gno hF
        refine my_last (ws' := [(h_me, .inr (5, [.int v_pageLength, .ref h_page, .int v_order, .ref h_told, .ref h_startAt, z_limit, .int v_plantsRead, z_ticksEver, .int v_newOrder, .int v_part, .int v_numbers, .int v_isWhole, .int v_isBelow, .ref h_newTold, z_nextAt, z_tried, z_rows, z_below, z_inputBy, z_stateBy, z_goal, z_planTicks, z_planAt, z_inputs, z_ends, z_wanted, z_h])), (h_page, .inl (cyI, 46, .inl v_page)), (h_newTold, .inl (cyI, 15, .inl v_newTold)), (h_told, .inl (cyI, 15, .inl v_told)), (h_startAt, .inl (cyJ, 3, .inr (.inl (vp_updL v_startAt l1.toNatClampNeg (0 : Int64)))))]) hx hb hK hP hD hS 4 1 rfl rfl g_1 dX5_plant_100 rfl (fun H locs hP hD hS => ?_)
        refine lv_iinc (v := (l1 + (1 : Int32))) (lv' := [(1, .int (l1 + (1 : Int32))), (0, .ref h_me)]) hx hb dX5_plant_101 hl (k := 1) rfl (by rfl) (by decide) rfl (fun ls hl => ?_)
        refine lv_goto (tgt := 89) hx hb dX5_plant_104 (by decide) ?_
        exact ih (l1 + (1 : Int32)) v_pageLength v_order v_plantsRead v_newOrder v_part v_numbers v_isWhole v_isBelow v_page v_newTold v_told (vp_updL v_startAt l1.toNatClampNeg (0 : Int64)) hF hP hD hS (lv_sub hl [1, 0] rfl)
set_option maxHeartbeats 4000000 in
set_option maxRecDepth 100000 in
theorem t_X5_plant_80 {p : Program} {l : Launch} {e : Env} {s : State} {m : MethodId} {args : Array Value} {below : List Frame} {meth : Method} {c : Code} {dC : Nat → ClassId} {dI : Nat → Nat → Nat} {cyI cyJ cyA : ClassId} {A : Nat → Prop} {h_me h_page h_newTold h_told h_startAt : Nat} {z_limit z_ticksEver z_nextAt z_tried z_rows z_below z_inputBy z_stateBy z_goal z_planTicks z_planAt z_inputs z_ends z_wanted z_h : Value} {r : Int64} {q_pageLength : Int32} {q_order : Int32} {q_plantsRead : Int32} {q_newOrder : Int32} {q_part : Int32} {q_numbers : Int32} {q_isWhole : Int32} {q_isBelow : Int32} {q_newTold : Nat → Int32} {q_told : Nat → Int32} {q_startAt : Nat → Int64} (C0 : Cx p s m args meth c cX5_plant 2 (some .long) wsX5_plant RX5 (dC, dI) cyI cyJ cyA) (hA : ∀ q : Nat, s.heap.size ≤ q → A q) (k_51 : Int32 → Int32 → Int32 → Int32 → Int32 → Int32 → Int32 → Int32 → Int32 → (Nat → Int32) → (Nat → Int32) → (Nat → Int32) → (Nat → Int64) → Option (Int64 × Int32 × Int32 × Int32 × Int32 × Int32 × Int32 × Int32 × Int32 × (Nat → Int32) × (Nat → Int32) × (Nat → Int64))) (hk_51 : ∀ (l1 : Int32) (v_pageLength : Int32) (v_order : Int32) (v_plantsRead : Int32) (v_newOrder : Int32) (v_part : Int32) (v_numbers : Int32) (v_isWhole : Int32) (v_isBelow : Int32) (v_page : Nat → Int32) (v_newTold : Nat → Int32) (v_told : Nat → Int32) (v_startAt : Nat → Int64), k_51 l1 v_pageLength v_order v_plantsRead v_newOrder v_part v_numbers v_isWhole v_isBelow v_page v_newTold v_told v_startAt = some (r, q_pageLength, q_order, q_plantsRead, q_newOrder, q_part, q_numbers, q_isWhole, q_isBelow, q_newTold, q_told, q_startAt) → ∀ {H : Heap} {locs : List Loc} {ls : Array Slot}, va_P (dC, dI) vwCl [(h_me, .inr (5, [.int v_pageLength, .ref h_page, .int v_order, .ref h_told, .ref h_startAt, z_limit, .int v_plantsRead, z_ticksEver, .int v_newOrder, .int v_part, .int v_numbers, .int v_isWhole, .int v_isBelow, .ref h_newTold, z_nextAt, z_tried, z_rows, z_below, z_inputBy, z_stateBy, z_goal, z_planTicks, z_planAt, z_inputs, z_ends, z_wanted, z_h])), (h_page, .inl (cyI, 46, .inl v_page)), (h_newTold, .inl (cyI, 15, .inl v_newTold)), (h_told, .inl (cyI, 15, .inl v_told)), (h_startAt, .inl (cyJ, 3, .inr (.inl v_startAt)))] H → va_D A [(h_me, .inr (5, [.int v_pageLength, .ref h_page, .int v_order, .ref h_told, .ref h_startAt, z_limit, .int v_plantsRead, z_ticksEver, .int v_newOrder, .int v_part, .int v_numbers, .int v_isWhole, .int v_isBelow, .ref h_newTold, z_nextAt, z_tried, z_rows, z_below, z_inputBy, z_stateBy, z_goal, z_planTicks, z_planAt, z_inputs, z_ends, z_wanted, z_h])), (h_page, .inl (cyI, 46, .inl v_page)), (h_newTold, .inl (cyI, 15, .inl v_newTold)), (h_told, .inl (cyI, 15, .inl v_told)), (h_startAt, .inl (cyJ, 3, .inr (.inl v_startAt)))] → va_S A s.heap H locs → lv_has ls 2 [(0, .ref h_me), (1, .int l1)] → W p l e rmX5_plant s m args below meth c H locs 0 0 (MQ below (QL (dC, dI) A [(h_me, .inr (5, [.int q_pageLength, .ref h_page, .int q_order, .ref h_told, .ref h_startAt, z_limit, .int q_plantsRead, z_ticksEver, .int q_newOrder, .int q_part, .int q_numbers, .int q_isWhole, .int q_isBelow, .ref h_newTold, z_nextAt, z_tried, z_rows, z_below, z_inputBy, z_stateBy, z_goal, z_planTicks, z_planAt, z_inputs, z_ends, z_wanted, z_h])), (h_page, .inl (cyI, 46, .inl v_page)), (h_newTold, .inl (cyI, 15, .inl q_newTold)), (h_told, .inl (cyI, 15, .inl q_told)), (h_startAt, .inl (cyJ, 3, .inr (.inl q_startAt)))] r) args s 0 0 A) (F0 m 51 ls [])) : ∀ (s1 : Int32) (s2 : Int32) (l1 : Int32) (v_pageLength : Int32) (v_order : Int32) (v_plantsRead : Int32) (v_newOrder : Int32) (v_part : Int32) (v_numbers : Int32) (v_isWhole : Int32) (v_isBelow : Int32) (v_page : Nat → Int32) (v_newTold : Nat → Int32) (v_told : Nat → Int32) (v_startAt : Nat → Int64), F_X5_plant_80 k_51 s1 s2 l1 v_pageLength v_order v_plantsRead v_newOrder v_part v_numbers v_isWhole v_isBelow v_page v_newTold v_told v_startAt = some (r, q_pageLength, q_order, q_plantsRead, q_newOrder, q_part, q_numbers, q_isWhole, q_isBelow, q_newTold, q_told, q_startAt) → ∀ {H : Heap} {locs : List Loc} {ls : Array Slot}, va_P (dC, dI) vwCl [(h_me, .inr (5, [.int v_pageLength, .ref h_page, .int v_order, .ref h_told, .ref h_startAt, z_limit, .int v_plantsRead, z_ticksEver, .int v_newOrder, .int v_part, .int v_numbers, .int v_isWhole, .int v_isBelow, .ref h_newTold, z_nextAt, z_tried, z_rows, z_below, z_inputBy, z_stateBy, z_goal, z_planTicks, z_planAt, z_inputs, z_ends, z_wanted, z_h])), (h_page, .inl (cyI, 46, .inl v_page)), (h_newTold, .inl (cyI, 15, .inl v_newTold)), (h_told, .inl (cyI, 15, .inl v_told)), (h_startAt, .inl (cyJ, 3, .inr (.inl v_startAt)))] H → va_D A [(h_me, .inr (5, [.int v_pageLength, .ref h_page, .int v_order, .ref h_told, .ref h_startAt, z_limit, .int v_plantsRead, z_ticksEver, .int v_newOrder, .int v_part, .int v_numbers, .int v_isWhole, .int v_isBelow, .ref h_newTold, z_nextAt, z_tried, z_rows, z_below, z_inputBy, z_stateBy, z_goal, z_planTicks, z_planAt, z_inputs, z_ends, z_wanted, z_h])), (h_page, .inl (cyI, 46, .inl v_page)), (h_newTold, .inl (cyI, 15, .inl v_newTold)), (h_told, .inl (cyI, 15, .inl v_told)), (h_startAt, .inl (cyJ, 3, .inr (.inl v_startAt)))] → va_S A s.heap H locs → lv_has ls 2 [(0, .ref h_me), (1, .int l1)] → W p l e rmX5_plant s m args below meth c H locs 0 0 (MQ below (QL (dC, dI) A [(h_me, .inr (5, [.int q_pageLength, .ref h_page, .int q_order, .ref h_told, .ref h_startAt, z_limit, .int q_plantsRead, z_ticksEver, .int q_newOrder, .int q_part, .int q_numbers, .int q_isWhole, .int q_isBelow, .ref h_newTold, z_nextAt, z_tried, z_rows, z_below, z_inputBy, z_stateBy, z_goal, z_planTicks, z_planAt, z_inputs, z_ends, z_wanted, z_h])), (h_page, .inl (cyI, 46, .inl v_page)), (h_newTold, .inl (cyI, 15, .inl q_newTold)), (h_told, .inl (cyI, 15, .inl q_told)), (h_startAt, .inl (cyJ, 3, .inr (.inl q_startAt)))] r) args s 0 0 A) (F0 m 80 ls [.int s2, .int s1, .ref h_told]) := by
  obtain ⟨hx, hb, hr, hml, hown, hts, hKK, hlocks⟩ := id C0
  have hK := hKK.1
  intro s1 s2 l1 v_pageLength v_order v_plantsRead v_newOrder v_part v_numbers v_isWhole v_isBelow v_page v_newTold v_told v_startAt hF H locs ls hP hD hS hl
  unfold F_X5_plant_80 at hF
  obtain ⟨g_1, hF⟩ := gno hF
  refine my_iast (ws' := [(h_me, .inr (5, [.int v_pageLength, .ref h_page, .int v_order, .ref h_told, .ref h_startAt, z_limit, .int v_plantsRead, z_ticksEver, .int v_newOrder, .int v_part, .int v_numbers, .int v_isWhole, .int v_isBelow, .ref h_newTold, z_nextAt, z_tried, z_rows, z_below, z_inputBy, z_stateBy, z_goal, z_planTicks, z_planAt, z_inputs, z_ends, z_wanted, z_h])), (h_page, .inl (cyI, 46, .inl v_page)), (h_newTold, .inl (cyI, 15, .inl v_newTold)), (h_told, .inl (cyI, 15, .inl (upd v_told s1.toNatClampNeg s2))), (h_startAt, .inl (cyJ, 3, .inr (.inl v_startAt)))]) hx hb hK hP hD hS 3 0 rfl rfl g_1 dX5_plant_80 rfl (fun H locs hP hD hS => ?_)
  refine lv_iinc (v := (l1 + (1 : Int32))) (lv' := [(1, .int (l1 + (1 : Int32))), (0, .ref h_me)]) hx hb dX5_plant_81 hl (k := 1) rfl (by rfl) (by decide) rfl (fun ls hl => ?_)
  refine lv_goto (tgt := 51) hx hb dX5_plant_84 (by decide) ?_
  exact hk_51 (l1 + (1 : Int32)) v_pageLength v_order v_plantsRead v_newOrder v_part v_numbers v_isWhole v_isBelow v_page v_newTold (upd v_told s1.toNatClampNeg s2) v_startAt hF hP hD hS (lv_sub hl [1, 0] rfl)
set_option maxHeartbeats 4000000 in
set_option maxRecDepth 100000 in
theorem t_X5_plant_51 {p : Program} {l : Launch} {e : Env} {s : State} {m : MethodId} {args : Array Value} {below : List Frame} {meth : Method} {c : Code} {dC : Nat → ClassId} {dI : Nat → Nat → Nat} {cyI cyJ cyA : ClassId} {A : Nat → Prop} {h_me h_page h_newTold h_told h_startAt : Nat} {z_limit z_ticksEver z_nextAt z_tried z_rows z_below z_inputBy z_stateBy z_goal z_planTicks z_planAt z_inputs z_ends z_wanted z_h : Value} {r : Int64} {q_pageLength : Int32} {q_order : Int32} {q_plantsRead : Int32} {q_newOrder : Int32} {q_part : Int32} {q_numbers : Int32} {q_isWhole : Int32} {q_isBelow : Int32} {q_newTold : Nat → Int32} {q_told : Nat → Int32} {q_startAt : Nat → Int64} (C0 : Cx p s m args meth c cX5_plant 2 (some .long) wsX5_plant RX5 (dC, dI) cyI cyJ cyA) (hA : ∀ q : Nat, s.heap.size ≤ q → A q)  : ∀ (n : Nat) (l1 : Int32) (v_pageLength : Int32) (v_order : Int32) (v_plantsRead : Int32) (v_newOrder : Int32) (v_part : Int32) (v_numbers : Int32) (v_isWhole : Int32) (v_isBelow : Int32) (v_page : Nat → Int32) (v_newTold : Nat → Int32) (v_told : Nat → Int32) (v_startAt : Nat → Int64), F_X5_plant_51  n l1 v_pageLength v_order v_plantsRead v_newOrder v_part v_numbers v_isWhole v_isBelow v_page v_newTold v_told v_startAt = some (r, q_pageLength, q_order, q_plantsRead, q_newOrder, q_part, q_numbers, q_isWhole, q_isBelow, q_newTold, q_told, q_startAt) → ∀ {H : Heap} {locs : List Loc} {ls : Array Slot}, va_P (dC, dI) vwCl [(h_me, .inr (5, [.int v_pageLength, .ref h_page, .int v_order, .ref h_told, .ref h_startAt, z_limit, .int v_plantsRead, z_ticksEver, .int v_newOrder, .int v_part, .int v_numbers, .int v_isWhole, .int v_isBelow, .ref h_newTold, z_nextAt, z_tried, z_rows, z_below, z_inputBy, z_stateBy, z_goal, z_planTicks, z_planAt, z_inputs, z_ends, z_wanted, z_h])), (h_page, .inl (cyI, 46, .inl v_page)), (h_newTold, .inl (cyI, 15, .inl v_newTold)), (h_told, .inl (cyI, 15, .inl v_told)), (h_startAt, .inl (cyJ, 3, .inr (.inl v_startAt)))] H → va_D A [(h_me, .inr (5, [.int v_pageLength, .ref h_page, .int v_order, .ref h_told, .ref h_startAt, z_limit, .int v_plantsRead, z_ticksEver, .int v_newOrder, .int v_part, .int v_numbers, .int v_isWhole, .int v_isBelow, .ref h_newTold, z_nextAt, z_tried, z_rows, z_below, z_inputBy, z_stateBy, z_goal, z_planTicks, z_planAt, z_inputs, z_ends, z_wanted, z_h])), (h_page, .inl (cyI, 46, .inl v_page)), (h_newTold, .inl (cyI, 15, .inl v_newTold)), (h_told, .inl (cyI, 15, .inl v_told)), (h_startAt, .inl (cyJ, 3, .inr (.inl v_startAt)))] → va_S A s.heap H locs → lv_has ls 2 [(0, .ref h_me), (1, .int l1)] → W p l e rmX5_plant s m args below meth c H locs 0 0 (MQ below (QL (dC, dI) A [(h_me, .inr (5, [.int q_pageLength, .ref h_page, .int q_order, .ref h_told, .ref h_startAt, z_limit, .int q_plantsRead, z_ticksEver, .int q_newOrder, .int q_part, .int q_numbers, .int q_isWhole, .int q_isBelow, .ref h_newTold, z_nextAt, z_tried, z_rows, z_below, z_inputBy, z_stateBy, z_goal, z_planTicks, z_planAt, z_inputs, z_ends, z_wanted, z_h])), (h_page, .inl (cyI, 46, .inl v_page)), (h_newTold, .inl (cyI, 15, .inl q_newTold)), (h_told, .inl (cyI, 15, .inl q_told)), (h_startAt, .inl (cyJ, 3, .inr (.inl q_startAt)))] r) args s 0 0 A) (F0 m 51 ls []) := by
  obtain ⟨hx, hb, hr, hml, hown, hts, hKK, hlocks⟩ := id C0
  have hK := hKK.1
  intro n
  induction n with
  | zero => intro l1 v_pageLength v_order v_plantsRead v_newOrder v_part v_numbers v_isWhole v_isBelow v_page v_newTold v_told v_startAt hF; rw [F_X5_plant_51] at hF; cases hF
  | succ n ih =>
      intro l1 v_pageLength v_order v_plantsRead v_newOrder v_part v_numbers v_isWhole v_isBelow v_page v_newTold v_told v_startAt hF H locs ls hP hD hS hl
      rw [F_X5_plant_51] at hF
      refine lv_iload_n hx hb dX5_plant_51 rfl (lv_at hl 1 rfl) ?_
      refine lv_bipush (v := (15 : Int32)) hx hb dX5_plant_52 (by decide) ?_
      refine lv_icmp_ge (tgt := 87) hx hb dX5_plant_54 (by decide) (fun c_ => ?_) (fun c_ => ?_)
      · have hF := gif c_ hF
        refine lv_iconst (v := (0 : Int32)) hx hb dX5_plant_87 (by decide) ?_
        refine lv_istore_n (lv' := [(1, .int (0 : Int32)), (0, .ref h_me)]) hx hb dX5_plant_88 rfl hl (by decide) rfl (fun ls hl => ?_)
        exact t_X5_plant_89 C0 hA   3000 (0 : Int32) v_pageLength v_order v_plantsRead v_newOrder v_part v_numbers v_isWhole v_isBelow v_page v_newTold v_told v_startAt hF hP hD hS (lv_sub hl [1, 0] rfl)
      · have hF := gel c_ hF
        refine lv_aload_n hx hb dX5_plant_57 rfl (lv_at hl 0 rfl) ?_
        refine my_get (D := (dC, dI)) (ci := 5) (v := .ref h_told) (C := RX5) (T := TX5) (N := 27) hx hb hts iX5_plant_X5 hown hK hP 0 rfl rfl 3 (by decide) (hts _ mX5_plant_8) rfl rfl dX5_plant_58 ?_
        refine lv_iload_n hx hb dX5_plant_61 rfl (lv_at hl 1 rfl) ?_
        refine lv_aload_n hx hb dX5_plant_62 rfl (lv_at hl 0 rfl) ?_
        refine lv_iload_n hx hb dX5_plant_63 rfl (lv_at hl 1 rfl) ?_
        obtain ⟨r1, hz1, hF⟩ := bd1_e hF
        refine kc_i (wr := [(h_page, .inl (cyI, 46, .inl v_page)), (h_newTold, .inl (cyI, 15, .inl v_newTold)), (h_told, .inl (cyI, 15, .inl v_told)), (h_startAt, .inl (cyJ, 3, .inr (.inl v_startAt)))]) (ws' := [(h_me, .inr (5, [.int v_pageLength, .ref h_page, .int v_order, .ref h_told, .ref h_startAt, z_limit, .int v_plantsRead, z_ticksEver, .int v_newOrder, .int v_part, .int v_numbers, .int v_isWhole, .int v_isBelow, .ref h_newTold, z_nextAt, z_tried, z_rows, z_below, z_inputBy, z_stateBy, z_goal, z_planTicks, z_planAt, z_inputs, z_ends, z_wanted, z_h])), (h_page, .inl (cyI, 46, .inl v_page)), (h_newTold, .inl (cyI, 15, .inl v_newTold)), (h_told, .inl (cyI, 15, .inl v_told)), (h_startAt, .inl (cyJ, 3, .inr (.inl v_startAt)))]) (va_runV (As := [.int l1]) (rest := [.int l1, .ref h_told]) ⟨hx, hb, hml, hown, hts⟩ (c_X5_isThere l dC dI cyI cyJ cyA h_me (.int v_pageLength) (.ref h_page) (.ref h_told) (.ref h_startAt) z_limit (.int v_plantsRead) z_ticksEver (.int v_newOrder) (.int v_part) (.int v_numbers) (.int v_isWhole) (.int v_isBelow) (.ref h_newTold) z_nextAt z_tried z_rows z_below z_inputBy z_stateBy z_goal z_planTicks z_planAt z_inputs z_ends z_wanted z_h v_order l1 hz1 _) (cwV 1 hts gX5_plant_X5_isThere rfl rfl rfl ndX5_isThere ⟨Nat.le_of_ble_eq_true rfl, Nat.le_of_ble_eq_true rfl⟩) (pre_V hKK hP hD 0 rfl rfl [0] (by decide) rfl rfl) rfl rfl hl.1 rfl (lv_room (Nat.le_of_ble_eq_true rfl)) dX5_plant_64 ⟨Nat.le_of_ble_eq_true rfl, Nat.le_of_ble_eq_true rfl⟩) hP hD hS hA [0] [1, 2, 3, 4] [4, 0, 1, 2, 3] rfl rfl (by decide) (by decide) (by decide) rfl rfl (fun H locs hP hD hS => ?_)
        refine lv_if_eq (tgt := 79) hx hb dX5_plant_67 (by decide) (fun c_ => ?_) (fun c_ => ?_)
        · have hF := gif c_ hF
          refine lv_iconst (v := (0 : Int32)) hx hb dX5_plant_79 (by decide) ?_
          exact t_X5_plant_80 C0 hA (fun l1 v_pageLength v_order v_plantsRead v_newOrder v_part v_numbers v_isWhole v_isBelow v_page v_newTold v_told v_startAt => F_X5_plant_51  n l1 v_pageLength v_order v_plantsRead v_newOrder v_part v_numbers v_isWhole v_isBelow v_page v_newTold v_told v_startAt) ih l1 (0 : Int32) l1 v_pageLength v_order v_plantsRead v_newOrder v_part v_numbers v_isWhole v_isBelow v_page v_newTold v_told v_startAt hF hP hD hS (lv_sub hl [0, 1] rfl)
        · have hF := gel c_ hF
          refine lv_aload_n hx hb dX5_plant_70 rfl (lv_at hl 0 rfl) ?_
          refine my_get (D := (dC, dI)) (ci := 5) (v := .ref h_newTold) (C := RX5) (T := TX5) (N := 27) hx hb hts iX5_plant_X5 hown hK hP 0 rfl rfl 13 (by decide) (hts _ mX5_plant_9) rfl rfl dX5_plant_71 ?_
          refine lv_iload_n hx hb dX5_plant_74 rfl (lv_at hl 1 rfl) ?_
          obtain ⟨g_2, hF⟩ := gno hF
          refine va_iald hx hb hK hP 2 0 rfl rfl g_2 dX5_plant_75 ?_
          refine lv_goto (tgt := 80) hx hb dX5_plant_76 (by decide) ?_
          exact t_X5_plant_80 C0 hA (fun l1 v_pageLength v_order v_plantsRead v_newOrder v_part v_numbers v_isWhole v_isBelow v_page v_newTold v_told v_startAt => F_X5_plant_51  n l1 v_pageLength v_order v_plantsRead v_newOrder v_part v_numbers v_isWhole v_isBelow v_page v_newTold v_told v_startAt) ih l1 (v_newTold l1.toNatClampNeg) l1 v_pageLength v_order v_plantsRead v_newOrder v_part v_numbers v_isWhole v_isBelow v_page v_newTold v_told v_startAt hF hP hD hS (lv_sub hl [0, 1] rfl)
set_option maxHeartbeats 4000000 in
set_option maxRecDepth 100000 in
theorem c_X5_plant (l : Launch) (dC : Nat → ClassId) (dI : Nat → Nat → Nat) (cyI cyJ cyA : ClassId) (h_me h_page h_newTold h_told h_startAt : Nat) (z_limit z_ticksEver z_nextAt z_tried z_rows z_below z_inputBy z_stateBy z_goal z_planTicks z_planAt z_inputs z_ends z_wanted z_h : Value) (v_pageLength : Int32) (v_order : Int32) (v_plantsRead : Int32) (v_newOrder : Int32) (v_part : Int32) (v_numbers : Int32) (v_isWhole : Int32) (v_isBelow : Int32) (v_page : Nat → Int32) (v_newTold : Nat → Int32) (v_told : Nat → Int32) (v_startAt : Nat → Int64)  {r : Int64} {q_pageLength : Int32} {q_order : Int32} {q_plantsRead : Int32} {q_newOrder : Int32} {q_part : Int32} {q_numbers : Int32} {q_isWhole : Int32} {q_isBelow : Int32} {q_newTold : Nat → Int32} {q_told : Nat → Int32} {q_startAt : Nat → Int64} (hF : F_X5_plant v_pageLength v_order v_plantsRead v_newOrder v_part v_numbers v_isWhole v_isBelow v_page v_newTold v_told v_startAt = some (r, q_pageLength, q_order, q_plantsRead, q_newOrder, q_part, q_numbers, q_isWhole, q_isBelow, q_newTold, q_told, q_startAt)) (sz : Nat) : Met l yX5_plant wsX5_plant rmX5_plant (va_Pc [.ref h_me] (PC (dC, dI) cyI cyJ cyA [(h_me, .inr (5, [.int v_pageLength, .ref h_page, .int v_order, .ref h_told, .ref h_startAt, z_limit, .int v_plantsRead, z_ticksEver, .int v_newOrder, .int v_part, .int v_numbers, .int v_isWhole, .int v_isBelow, .ref h_newTold, z_nextAt, z_tried, z_rows, z_below, z_inputBy, z_stateBy, z_goal, z_planTicks, z_planAt, z_inputs, z_ends, z_wanted, z_h])), (h_page, .inl (cyI, 46, .inl v_page)), (h_newTold, .inl (cyI, 15, .inl v_newTold)), (h_told, .inl (cyI, 15, .inl v_told)), (h_startAt, .inl (cyJ, 3, .inr (.inl v_startAt)))] sz)) (QL (dC, dI) (va_A [(h_me, .inr (5, [.int v_pageLength, .ref h_page, .int v_order, .ref h_told, .ref h_startAt, z_limit, .int v_plantsRead, z_ticksEver, .int v_newOrder, .int v_part, .int v_numbers, .int v_isWhole, .int v_isBelow, .ref h_newTold, z_nextAt, z_tried, z_rows, z_below, z_inputBy, z_stateBy, z_goal, z_planTicks, z_planAt, z_inputs, z_ends, z_wanted, z_h])), (h_page, .inl (cyI, 46, .inl v_page)), (h_newTold, .inl (cyI, 15, .inl v_newTold)), (h_told, .inl (cyI, 15, .inl v_told)), (h_startAt, .inl (cyJ, 3, .inr (.inl v_startAt)))] sz) [(h_me, .inr (5, [.int q_pageLength, .ref h_page, .int q_order, .ref h_told, .ref h_startAt, z_limit, .int q_plantsRead, z_ticksEver, .int q_newOrder, .int q_part, .int q_numbers, .int q_isWhole, .int q_isBelow, .ref h_newTold, z_nextAt, z_tried, z_rows, z_below, z_inputBy, z_stateBy, z_goal, z_planTicks, z_planAt, z_inputs, z_ends, z_wanted, z_h])), (h_page, .inl (cyI, 46, .inl v_page)), (h_newTold, .inl (cyI, 15, .inl q_newTold)), (h_told, .inl (cyI, 15, .inl q_told)), (h_startAt, .inl (cyJ, 3, .inr (.inl q_startAt)))] r) 0 0 (va_A [(h_me, .inr (5, [.int v_pageLength, .ref h_page, .int v_order, .ref h_told, .ref h_startAt, z_limit, .int v_plantsRead, z_ticksEver, .int v_newOrder, .int v_part, .int v_numbers, .int v_isWhole, .int v_isBelow, .ref h_newTold, z_nextAt, z_tried, z_rows, z_below, z_inputBy, z_stateBy, z_goal, z_planTicks, z_planAt, z_inputs, z_ends, z_wanted, z_h])), (h_page, .inl (cyI, 46, .inl v_page)), (h_newTold, .inl (cyI, 15, .inl v_newTold)), (h_told, .inl (cyI, 15, .inl v_told)), (h_startAt, .inl (cyJ, 3, .inr (.inl v_startAt)))] sz) := by
  refine Met.ofW (cc := cX5_plant) (maxL := 2) (ret := (some .long)) (by decide) rfl ?_
  intro p e s m args below meth c s₁ B hml hv
  obtain ⟨rfl, hsz, hP, hKK, hD0⟩ := hv
  have hx := B.exec
  have hb := B.bytes
  have hr := B.returns
  have hts := atoms_spec (ws := wsX5_plant) B.pre
  have hown : s.vm.findClass RX5 = some m.cls := findClass_of_methodNamed B.named
  have hlocks := B.notSynchronized
  have C0 : Cx p s m ([.ref h_me] : List Value).toArray meth c cX5_plant 2 (some .long) wsX5_plant RX5 (dC, dI) cyI cyJ cyA := ⟨hx, hb, hr, hml, hown, hts, hKK, hlocks⟩
  have hK := hKK.1
  subst hsz
  have hD := hD0.self (sz := s.heap.size)
  generalize hAe : va_A [(h_me, .inr (5, [.int v_pageLength, .ref h_page, .int v_order, .ref h_told, .ref h_startAt, z_limit, .int v_plantsRead, z_ticksEver, .int v_newOrder, .int v_part, .int v_numbers, .int v_isWhole, .int v_isBelow, .ref h_newTold, z_nextAt, z_tried, z_rows, z_below, z_inputBy, z_stateBy, z_goal, z_planTicks, z_planAt, z_inputs, z_ends, z_wanted, z_h])), (h_page, .inl (cyI, 46, .inl v_page)), (h_newTold, .inl (cyI, 15, .inl v_newTold)), (h_told, .inl (cyI, 15, .inl v_told)), (h_startAt, .inl (cyJ, 3, .inr (.inl v_startAt)))] s.heap.size = A at hD ⊢
  have hA : ∀ q : Nat, s.heap.size ≤ q → A q := fun q h => by rw [← hAe]; exact Or.inr h
  have hS : va_S A s.heap s.heap [] := va_S.rf
  have hl := lv_entry ([.ref h_me]) (n := 2) (Nat.le_of_ble_eq_true rfl)
  rw [lg_entry_eq]
  generalize (lg_sl ([.ref h_me]) ++ List.replicate (2 - (lg_sl ([.ref h_me])).length) Slot.unset).toArray = ls at hl ⊢
  have hl : lv_has ls 2 [(0, .ref h_me)] := hl
  unfold F_X5_plant at hF
  refine lv_aload_n hx hb dX5_plant_0 rfl (lv_at hl 0 rfl) ?_
  obtain ⟨r1, x1_newOrder, x1_part, x1_numbers, x1_isWhole, x1_isBelow, x1_newTold, hz1, hF⟩ := bd7_e hF
  refine kc_i (wr := [(h_told, .inl (cyI, 15, .inl v_told)), (h_startAt, .inl (cyJ, 3, .inr (.inl v_startAt)))]) (ws' := [(h_me, .inr (5, [.int v_pageLength, .ref h_page, .int v_order, .ref h_told, .ref h_startAt, z_limit, .int v_plantsRead, z_ticksEver, .int x1_newOrder, .int x1_part, .int x1_numbers, .int x1_isWhole, .int x1_isBelow, .ref h_newTold, z_nextAt, z_tried, z_rows, z_below, z_inputBy, z_stateBy, z_goal, z_planTicks, z_planAt, z_inputs, z_ends, z_wanted, z_h])), (h_page, .inl (cyI, 46, .inl v_page)), (h_newTold, .inl (cyI, 15, .inl x1_newTold)), (h_told, .inl (cyI, 15, .inl v_told)), (h_startAt, .inl (cyJ, 3, .inr (.inl v_startAt)))]) (va_runV (As := []) (rest := []) ⟨hx, hb, hml, hown, hts⟩ (c_X5_goAlong l dC dI cyI cyJ cyA h_me h_page h_newTold (.int v_order) (.ref h_told) (.ref h_startAt) z_limit (.int v_plantsRead) z_ticksEver z_nextAt z_tried z_rows z_below z_inputBy z_stateBy z_goal z_planTicks z_planAt z_inputs z_ends z_wanted z_h v_pageLength v_newOrder v_part v_numbers v_isWhole v_isBelow v_page v_newTold  hz1 _) (cwV 0 hts gX5_plant_X5_goAlong rfl rfl rfl ndX5_goAlong ⟨Nat.le_of_ble_eq_true rfl, Nat.le_of_ble_eq_true rfl⟩) (pre_V hKK hP hD 0 rfl rfl [0, 1, 2] (by decide) rfl rfl) rfl rfl hl.1 rfl (lv_room (Nat.le_of_ble_eq_true rfl)) dX5_plant_1 ⟨Nat.le_of_ble_eq_true rfl, Nat.le_of_ble_eq_true rfl⟩) hP hD hS hA [0, 1, 2] [3, 4] [2, 3, 4, 0, 1] rfl rfl (by decide) (by decide) (by decide) rfl rfl (fun H locs hP hD hS => ?_)
  refine lv_aload_n hx hb dX5_plant_4 rfl (lv_at hl 0 rfl) ?_
  refine my_get (D := (dC, dI)) (ci := 5) (v := .int v_pageLength) (C := RX5) (T := TX5) (N := 27) hx hb hts iX5_plant_X5 hown hK hP 0 rfl rfl 0 (by decide) (hts _ mX5_plant_1) rfl rfl dX5_plant_5 ?_
  refine lv_icmp_lt (tgt := 37) hx hb dX5_plant_8 (by decide) (fun c_ => ?_) (fun c_ => ?_)
  · have hF := gif c_ hF
    refine lv_ldc2 hx hb hown (hts _ mX5_plant_6) dX5_plant_37 ?_
    cases hF
    exact W.lret hx hb hr (fun t ht hW => ⟨⟨_, (), rfl, rfl, by rw [ht]; exact hP, hD⟩, hS.F ht⟩) hS.2.2 dX5_plant_40
  · have hF := gel c_ hF
    refine lv_aload_n hx hb dX5_plant_11 rfl (lv_at hl 0 rfl) ?_
    refine my_get (D := (dC, dI)) (ci := 5) (v := .int x1_part) (C := RX5) (T := TX5) (N := 27) hx hb hts iX5_plant_X5 hown hK hP 0 rfl rfl 9 (by decide) (hts _ mX5_plant_2) rfl rfl dX5_plant_12 ?_
    refine lv_iconst (v := (3 : Int32)) hx hb dX5_plant_15 (by decide) ?_
    refine lv_icmp_ne (tgt := 37) hx hb dX5_plant_16 (by decide) (fun c_ => ?_) (fun c_ => ?_)
    · have hF := gel c_ hF
      refine lv_ldc2 hx hb hown (hts _ mX5_plant_6) dX5_plant_37 ?_
      cases hF
      exact W.lret hx hb hr (fun t ht hW => ⟨⟨_, (), rfl, rfl, by rw [ht]; exact hP, hD⟩, hS.F ht⟩) hS.2.2 dX5_plant_40
    · have hF := gif c_ hF
      refine lv_aload_n hx hb dX5_plant_19 rfl (lv_at hl 0 rfl) ?_
      refine my_get (D := (dC, dI)) (ci := 5) (v := .int x1_numbers) (C := RX5) (T := TX5) (N := 27) hx hb hts iX5_plant_X5 hown hK hP 0 rfl rfl 10 (by decide) (hts _ mX5_plant_3) rfl rfl dX5_plant_20 ?_
      refine lv_aload_n hx hb dX5_plant_23 rfl (lv_at hl 0 rfl) ?_
      refine my_get (D := (dC, dI)) (ci := 5) (v := .int x1_newOrder) (C := RX5) (T := TX5) (N := 27) hx hb hts iX5_plant_X5 hown hK hP 0 rfl rfl 8 (by decide) (hts _ mX5_plant_4) rfl rfl dX5_plant_24 ?_
      refine lv_icmp_ne (tgt := 37) hx hb dX5_plant_27 (by decide) (fun c_ => ?_) (fun c_ => ?_)
      · have hF := gel c_ hF
        refine lv_ldc2 hx hb hown (hts _ mX5_plant_6) dX5_plant_37 ?_
        cases hF
        exact W.lret hx hb hr (fun t ht hW => ⟨⟨_, (), rfl, rfl, by rw [ht]; exact hP, hD⟩, hS.F ht⟩) hS.2.2 dX5_plant_40
      · have hF := gif c_ hF
        refine lv_aload_n hx hb dX5_plant_30 rfl (lv_at hl 0 rfl) ?_
        refine my_get (D := (dC, dI)) (ci := 5) (v := .int x1_isWhole) (C := RX5) (T := TX5) (N := 27) hx hb hts iX5_plant_X5 hown hK hP 0 rfl rfl 11 (by decide) (hts _ mX5_plant_5) rfl rfl dX5_plant_31 ?_
        refine lv_if_ne (tgt := 41) hx hb dX5_plant_34 (by decide) (fun c_ => ?_) (fun c_ => ?_)
        · have hF := gel c_ hF
          refine lv_aload_n hx hb dX5_plant_41 rfl (lv_at hl 0 rfl) ?_
          refine lv_aload_n hx hb dX5_plant_42 rfl (lv_at hl 0 rfl) ?_
          refine my_get (D := (dC, dI)) (ci := 5) (v := .int x1_newOrder) (C := RX5) (T := TX5) (N := 27) hx hb hts iX5_plant_X5 hown hK hP 0 rfl rfl 8 (by decide) (hts _ mX5_plant_4) rfl rfl dX5_plant_43 ?_
          refine my_put (D := (dC, dI)) (ci := 5) (v := .int x1_newOrder) (ty := .int) (C := RX5) (T := TX5) (N := 27) (ws' := [(h_me, .inr (5, [.int v_pageLength, .ref h_page, .int x1_newOrder, .ref h_told, .ref h_startAt, z_limit, .int v_plantsRead, z_ticksEver, .int x1_newOrder, .int x1_part, .int x1_numbers, .int x1_isWhole, .int x1_isBelow, .ref h_newTold, z_nextAt, z_tried, z_rows, z_below, z_inputBy, z_stateBy, z_goal, z_planTicks, z_planAt, z_inputs, z_ends, z_wanted, z_h])), (h_page, .inl (cyI, 46, .inl v_page)), (h_newTold, .inl (cyI, 15, .inl x1_newTold)), (h_told, .inl (cyI, 15, .inl v_told)), (h_startAt, .inl (cyJ, 3, .inr (.inl v_startAt)))]) hx hb hts iX5_plant_X5 tyX5 tyX5_ok nmX5 hown hK hP hD hS 0 rfl rfl 2 (by decide) (hts _ mX5_plant_7) rfl rfl rfl rfl rfl (Nat.le_of_ble_eq_true rfl) dX5_plant_46 rfl (fun H locs hP hD hS => ?_)
          refine lv_iconst (v := (0 : Int32)) hx hb dX5_plant_49 (by decide) ?_
          refine lv_istore_n (lv' := [(1, .int (0 : Int32)), (0, .ref h_me)]) hx hb dX5_plant_50 rfl hl (by decide) rfl (fun ls hl => ?_)
          exact t_X5_plant_51 C0 hA   3000 (0 : Int32) v_pageLength x1_newOrder v_plantsRead x1_newOrder x1_part x1_numbers x1_isWhole x1_isBelow v_page x1_newTold v_told v_startAt hF hP hD hS (lv_sub hl [1, 0] rfl)
        · have hF := gif c_ hF
          refine lv_ldc2 hx hb hown (hts _ mX5_plant_6) dX5_plant_37 ?_
          cases hF
          exact W.lret hx hb hr (fun t ht hW => ⟨⟨_, (), rfl, rfl, by rw [ht]; exact hP, hD⟩, hS.F ht⟩) hS.2.2 dX5_plant_40
/-! RestGainsModel.alter (II)J -/
def rmX5_alter : Room := { frames := 3, cells := 0, slots := 0, locals := 64 }
def F_X5_alter (l1 : Int32) (l2 : Int32) (v_order : Int32) (v_told : Nat → Int32) : Option (Int64 × (Nat → Int32)) :=
  bd1 (F_X5_isThere l1 v_order) (fun r1 => if r1 = 0 then (some ((-10000000000002 : Int64), v_told)) else (bd1 (F_X5_within l2 (-2 : Int32) (2 : Int32)) (fun r2 => if r2 = 0 then (some ((-10000000000003 : Int64), v_told)) else (if l1 < 0 ∨ 15 ≤ l1.toNatClampNeg then none else if l1 < 0 ∨ 15 ≤ l1.toNatClampNeg then none else some ((v_told l1.toNatClampNeg).toInt64, (upd v_told l1.toNatClampNeg l2))))))
set_option maxHeartbeats 4000000 in
set_option maxRecDepth 100000 in
theorem c_X5_alter (l : Launch) (dC : Nat → ClassId) (dI : Nat → Nat → Nat) (cyI cyJ cyA : ClassId) (h_me h_told : Nat) (z_pageLength z_page z_startAt z_limit z_plantsRead z_ticksEver z_newOrder z_part z_numbers z_isWhole z_isBelow z_newTold z_nextAt z_tried z_rows z_below z_inputBy z_stateBy z_goal z_planTicks z_planAt z_inputs z_ends z_wanted z_h : Value) (v_order : Int32) (v_told : Nat → Int32) (l1 : Int32) (l2 : Int32) {r : Int64} {q_told : Nat → Int32} (hF : F_X5_alter l1 l2 v_order v_told = some (r, q_told)) (sz : Nat) : Met l yX5_alter wsX5_alter rmX5_alter (va_Pc [.ref h_me, .int l1, .int l2] (PC (dC, dI) cyI cyJ cyA [(h_me, .inr (5, [z_pageLength, z_page, .int v_order, .ref h_told, z_startAt, z_limit, z_plantsRead, z_ticksEver, z_newOrder, z_part, z_numbers, z_isWhole, z_isBelow, z_newTold, z_nextAt, z_tried, z_rows, z_below, z_inputBy, z_stateBy, z_goal, z_planTicks, z_planAt, z_inputs, z_ends, z_wanted, z_h])), (h_told, .inl (cyI, 15, .inl v_told))] sz)) (QL (dC, dI) (va_A [(h_me, .inr (5, [z_pageLength, z_page, .int v_order, .ref h_told, z_startAt, z_limit, z_plantsRead, z_ticksEver, z_newOrder, z_part, z_numbers, z_isWhole, z_isBelow, z_newTold, z_nextAt, z_tried, z_rows, z_below, z_inputBy, z_stateBy, z_goal, z_planTicks, z_planAt, z_inputs, z_ends, z_wanted, z_h])), (h_told, .inl (cyI, 15, .inl v_told))] sz) [(h_me, .inr (5, [z_pageLength, z_page, .int v_order, .ref h_told, z_startAt, z_limit, z_plantsRead, z_ticksEver, z_newOrder, z_part, z_numbers, z_isWhole, z_isBelow, z_newTold, z_nextAt, z_tried, z_rows, z_below, z_inputBy, z_stateBy, z_goal, z_planTicks, z_planAt, z_inputs, z_ends, z_wanted, z_h])), (h_told, .inl (cyI, 15, .inl q_told))] r) 0 0 (va_A [(h_me, .inr (5, [z_pageLength, z_page, .int v_order, .ref h_told, z_startAt, z_limit, z_plantsRead, z_ticksEver, z_newOrder, z_part, z_numbers, z_isWhole, z_isBelow, z_newTold, z_nextAt, z_tried, z_rows, z_below, z_inputBy, z_stateBy, z_goal, z_planTicks, z_planAt, z_inputs, z_ends, z_wanted, z_h])), (h_told, .inl (cyI, 15, .inl v_told))] sz) := by
  refine Met.ofW (cc := cX5_alter) (maxL := 4) (ret := (some .long)) (by decide) rfl ?_
  intro p e s m args below meth c s₁ B hml hv
  obtain ⟨rfl, hsz, hP, hKK, hD0⟩ := hv
  have hx := B.exec
  have hb := B.bytes
  have hr := B.returns
  have hts := atoms_spec (ws := wsX5_alter) B.pre
  have hown : s.vm.findClass RX5 = some m.cls := findClass_of_methodNamed B.named
  have hlocks := B.notSynchronized
  have C0 : Cx p s m ([.ref h_me, .int l1, .int l2] : List Value).toArray meth c cX5_alter 4 (some .long) wsX5_alter RX5 (dC, dI) cyI cyJ cyA := ⟨hx, hb, hr, hml, hown, hts, hKK, hlocks⟩
  have hK := hKK.1
  subst hsz
  have hD := hD0.self (sz := s.heap.size)
  generalize hAe : va_A [(h_me, .inr (5, [z_pageLength, z_page, .int v_order, .ref h_told, z_startAt, z_limit, z_plantsRead, z_ticksEver, z_newOrder, z_part, z_numbers, z_isWhole, z_isBelow, z_newTold, z_nextAt, z_tried, z_rows, z_below, z_inputBy, z_stateBy, z_goal, z_planTicks, z_planAt, z_inputs, z_ends, z_wanted, z_h])), (h_told, .inl (cyI, 15, .inl v_told))] s.heap.size = A at hD ⊢
  have hA : ∀ q : Nat, s.heap.size ≤ q → A q := fun q h => by rw [← hAe]; exact Or.inr h
  have hS : va_S A s.heap s.heap [] := va_S.rf
  have hl := lv_entry ([.ref h_me, .int l1, .int l2]) (n := 4) (Nat.le_of_ble_eq_true rfl)
  rw [lg_entry_eq]
  generalize (lg_sl ([.ref h_me, .int l1, .int l2]) ++ List.replicate (4 - (lg_sl ([.ref h_me, .int l1, .int l2])).length) Slot.unset).toArray = ls at hl ⊢
  have hl : lv_has ls 4 [(0, .ref h_me), (1, .int l1), (2, .int l2)] := hl
  unfold F_X5_alter at hF
  refine lv_aload_n hx hb dX5_alter_0 rfl (lv_at hl 0 rfl) ?_
  refine lv_iload_n hx hb dX5_alter_1 rfl (lv_at hl 1 rfl) ?_
  obtain ⟨r1, hz1, hF⟩ := bd1_e hF
  refine kc_i (wr := [(h_told, .inl (cyI, 15, .inl v_told))]) (ws' := [(h_me, .inr (5, [z_pageLength, z_page, .int v_order, .ref h_told, z_startAt, z_limit, z_plantsRead, z_ticksEver, z_newOrder, z_part, z_numbers, z_isWhole, z_isBelow, z_newTold, z_nextAt, z_tried, z_rows, z_below, z_inputBy, z_stateBy, z_goal, z_planTicks, z_planAt, z_inputs, z_ends, z_wanted, z_h])), (h_told, .inl (cyI, 15, .inl v_told))]) (va_runV (As := [.int l1]) (rest := []) ⟨hx, hb, hml, hown, hts⟩ (c_X5_isThere l dC dI cyI cyJ cyA h_me z_pageLength z_page (.ref h_told) z_startAt z_limit z_plantsRead z_ticksEver z_newOrder z_part z_numbers z_isWhole z_isBelow z_newTold z_nextAt z_tried z_rows z_below z_inputBy z_stateBy z_goal z_planTicks z_planAt z_inputs z_ends z_wanted z_h v_order l1 hz1 _) (cwV 1 hts gX5_alter_X5_isThere rfl rfl rfl ndX5_isThere ⟨Nat.le_of_ble_eq_true rfl, Nat.le_of_ble_eq_true rfl⟩) (pre_V hKK hP hD 0 rfl rfl [0] (by decide) rfl rfl) rfl rfl hl.1 rfl (lv_room (Nat.le_of_ble_eq_true rfl)) dX5_alter_2 ⟨Nat.le_of_ble_eq_true rfl, Nat.le_of_ble_eq_true rfl⟩) hP hD hS hA [0] [1] [1, 0] rfl rfl (by decide) (by decide) (by decide) rfl rfl (fun H locs hP hD hS => ?_)
  refine lv_if_ne (tgt := 12) hx hb dX5_alter_5 (by decide) (fun c_ => ?_) (fun c_ => ?_)
  · have hF := gel c_ hF
    refine lv_iload_n hx hb dX5_alter_12 rfl (lv_at hl 2 rfl) ?_
    refine lv_bipush (v := (-2 : Int32)) hx hb dX5_alter_13 (by decide) ?_
    refine lv_iconst (v := (2 : Int32)) hx hb dX5_alter_15 (by decide) ?_
    obtain ⟨r2, hz2, hF⟩ := bd1_e hF
    refine kc_i (wr := [(h_me, .inr (5, [z_pageLength, z_page, .int v_order, .ref h_told, z_startAt, z_limit, z_plantsRead, z_ticksEver, z_newOrder, z_part, z_numbers, z_isWhole, z_isBelow, z_newTold, z_nextAt, z_tried, z_rows, z_below, z_inputBy, z_stateBy, z_goal, z_planTicks, z_planAt, z_inputs, z_ends, z_wanted, z_h])), (h_told, .inl (cyI, 15, .inl v_told))]) (ws' := [(h_me, .inr (5, [z_pageLength, z_page, .int v_order, .ref h_told, z_startAt, z_limit, z_plantsRead, z_ticksEver, z_newOrder, z_part, z_numbers, z_isWhole, z_isBelow, z_newTold, z_nextAt, z_tried, z_rows, z_below, z_inputBy, z_stateBy, z_goal, z_planTicks, z_planAt, z_inputs, z_ends, z_wanted, z_h])), (h_told, .inl (cyI, 15, .inl v_told))]) (va_runS (As := [.int l2, .int (-2 : Int32), .int (2 : Int32)]) (rest := []) ⟨hx, hb, hml, hown, hts⟩ (c_X5_within l dC dI cyI cyJ cyA    l2 (-2 : Int32) (2 : Int32) hz2 _) (va_cwS 3 hts gX5_alter_X5_within rfl rfl rfl ndX5_within.2 ⟨Nat.le_of_ble_eq_true rfl, Nat.le_of_ble_eq_true rfl⟩) (pre_S hKK hP hD [] (by decide) rfl rfl) rfl rfl hl.1 rfl (lv_room (Nat.le_of_ble_eq_true rfl)) dX5_alter_16 ⟨Nat.le_of_ble_eq_true rfl, Nat.le_of_ble_eq_true rfl⟩) hP hD hS hA [] [0, 1] [0, 1] rfl rfl (by decide) (by decide) (by decide) rfl rfl (fun H locs hP hD hS => ?_)
    refine lv_if_ne (tgt := 26) hx hb dX5_alter_19 (by decide) (fun c_ => ?_) (fun c_ => ?_)
    · have hF := gel c_ hF
      refine lv_aload_n hx hb dX5_alter_26 rfl (lv_at hl 0 rfl) ?_
      refine my_get (D := (dC, dI)) (ci := 5) (v := .ref h_told) (C := RX5) (T := TX5) (N := 27) hx hb hts iX5_alter_X5 hown hK hP 0 rfl rfl 3 (by decide) (hts _ mX5_alter_3) rfl rfl dX5_alter_27 ?_
      refine lv_iload_n hx hb dX5_alter_30 rfl (lv_at hl 1 rfl) ?_
      obtain ⟨g_3, hF⟩ := gno hF
      refine va_iald hx hb hK hP 1 0 rfl rfl g_3 dX5_alter_31 ?_
      refine lv_istore_n (lv' := [(3, .int (v_told l1.toNatClampNeg)), (0, .ref h_me), (1, .int l1), (2, .int l2)]) hx hb dX5_alter_32 rfl hl (by decide) rfl (fun ls hl => ?_)
      refine lv_aload_n hx hb dX5_alter_33 rfl (lv_at hl 1 rfl) ?_
      refine my_get (D := (dC, dI)) (ci := 5) (v := .ref h_told) (C := RX5) (T := TX5) (N := 27) hx hb hts iX5_alter_X5 hown hK hP 0 rfl rfl 3 (by decide) (hts _ mX5_alter_3) rfl rfl dX5_alter_34 ?_
      refine lv_iload_n hx hb dX5_alter_37 rfl (lv_at hl 2 rfl) ?_
      refine lv_iload_n hx hb dX5_alter_38 rfl (lv_at hl 3 rfl) ?_
      obtain ⟨g_4, hF⟩ := gno hF
      refine my_iast (ws' := [(h_me, .inr (5, [z_pageLength, z_page, .int v_order, .ref h_told, z_startAt, z_limit, z_plantsRead, z_ticksEver, z_newOrder, z_part, z_numbers, z_isWhole, z_isBelow, z_newTold, z_nextAt, z_tried, z_rows, z_below, z_inputBy, z_stateBy, z_goal, z_planTicks, z_planAt, z_inputs, z_ends, z_wanted, z_h])), (h_told, .inl (cyI, 15, .inl (upd v_told l1.toNatClampNeg l2)))]) hx hb hK hP hD hS 1 0 rfl rfl g_4 dX5_alter_39 rfl (fun H locs hP hD hS => ?_)
      refine lv_iload_n hx hb dX5_alter_40 rfl (lv_at hl 0 rfl) ?_
      refine lv_i2l hx hb dX5_alter_41 rfl ?_
      cases hF
      exact W.lret hx hb hr (fun t ht hW => ⟨⟨_, (), rfl, rfl, by rw [ht]; exact hP, hD⟩, hS.F ht⟩) hS.2.2 dX5_alter_42
    · have hF := gif c_ hF
      refine lv_ldc2 hx hb hown (hts _ mX5_alter_2) dX5_alter_22 ?_
      cases hF
      exact W.lret hx hb hr (fun t ht hW => ⟨⟨_, (), rfl, rfl, by rw [ht]; exact hP, hD⟩, hS.F ht⟩) hS.2.2 dX5_alter_25
  · have hF := gif c_ hF
    refine lv_ldc2 hx hb hown (hts _ mX5_alter_1) dX5_alter_8 ?_
    cases hF
    exact W.lret hx hb hr (fun t ht hW => ⟨⟨_, (), rfl, rfl, by rw [ht]; exact hP, hD⟩, hS.F ht⟩) hS.2.2 dX5_alter_11
/-! RestGainsModel.has (I)J -/
def rmX5_has : Room := { frames := 3, cells := 0, slots := 0, locals := 64 }
def F_X5_has (l1 : Int32) (v_order : Int32) (v_told : Nat → Int32) : Option (Int64) :=
  bd1 (F_X5_isThere l1 v_order) (fun r1 => if r1 = 0 then (some (-10000000000002 : Int64)) else (if l1 < 0 ∨ 15 ≤ l1.toNatClampNeg then none else some ((v_told l1.toNatClampNeg).toInt64)))
set_option maxHeartbeats 4000000 in
set_option maxRecDepth 100000 in
theorem c_X5_has (l : Launch) (dC : Nat → ClassId) (dI : Nat → Nat → Nat) (cyI cyJ cyA : ClassId) (h_me h_told : Nat) (z_pageLength z_page z_startAt z_limit z_plantsRead z_ticksEver z_newOrder z_part z_numbers z_isWhole z_isBelow z_newTold z_nextAt z_tried z_rows z_below z_inputBy z_stateBy z_goal z_planTicks z_planAt z_inputs z_ends z_wanted z_h : Value) (v_order : Int32) (v_told : Nat → Int32) (l1 : Int32) {r : Int64} (hF : F_X5_has l1 v_order v_told = some r) (sz : Nat) : Met l yX5_has wsX5_has rmX5_has (va_Pc [.ref h_me, .int l1] (PC (dC, dI) cyI cyJ cyA [(h_me, .inr (5, [z_pageLength, z_page, .int v_order, .ref h_told, z_startAt, z_limit, z_plantsRead, z_ticksEver, z_newOrder, z_part, z_numbers, z_isWhole, z_isBelow, z_newTold, z_nextAt, z_tried, z_rows, z_below, z_inputBy, z_stateBy, z_goal, z_planTicks, z_planAt, z_inputs, z_ends, z_wanted, z_h])), (h_told, .inl (cyI, 15, .inl v_told))] sz)) (QL (dC, dI) (va_A [(h_me, .inr (5, [z_pageLength, z_page, .int v_order, .ref h_told, z_startAt, z_limit, z_plantsRead, z_ticksEver, z_newOrder, z_part, z_numbers, z_isWhole, z_isBelow, z_newTold, z_nextAt, z_tried, z_rows, z_below, z_inputBy, z_stateBy, z_goal, z_planTicks, z_planAt, z_inputs, z_ends, z_wanted, z_h])), (h_told, .inl (cyI, 15, .inl v_told))] sz) [(h_me, .inr (5, [z_pageLength, z_page, .int v_order, .ref h_told, z_startAt, z_limit, z_plantsRead, z_ticksEver, z_newOrder, z_part, z_numbers, z_isWhole, z_isBelow, z_newTold, z_nextAt, z_tried, z_rows, z_below, z_inputBy, z_stateBy, z_goal, z_planTicks, z_planAt, z_inputs, z_ends, z_wanted, z_h])), (h_told, .inl (cyI, 15, .inl v_told))] r) 0 0 (va_A [(h_me, .inr (5, [z_pageLength, z_page, .int v_order, .ref h_told, z_startAt, z_limit, z_plantsRead, z_ticksEver, z_newOrder, z_part, z_numbers, z_isWhole, z_isBelow, z_newTold, z_nextAt, z_tried, z_rows, z_below, z_inputBy, z_stateBy, z_goal, z_planTicks, z_planAt, z_inputs, z_ends, z_wanted, z_h])), (h_told, .inl (cyI, 15, .inl v_told))] sz) := by
  refine Met.ofW (cc := cX5_has) (maxL := 2) (ret := (some .long)) (by decide) rfl ?_
  intro p e s m args below meth c s₁ B hml hv
  obtain ⟨rfl, hsz, hP, hKK, hD0⟩ := hv
  have hx := B.exec
  have hb := B.bytes
  have hr := B.returns
  have hts := atoms_spec (ws := wsX5_has) B.pre
  have hown : s.vm.findClass RX5 = some m.cls := findClass_of_methodNamed B.named
  have hlocks := B.notSynchronized
  have C0 : Cx p s m ([.ref h_me, .int l1] : List Value).toArray meth c cX5_has 2 (some .long) wsX5_has RX5 (dC, dI) cyI cyJ cyA := ⟨hx, hb, hr, hml, hown, hts, hKK, hlocks⟩
  have hK := hKK.1
  subst hsz
  have hD := hD0.self (sz := s.heap.size)
  generalize hAe : va_A [(h_me, .inr (5, [z_pageLength, z_page, .int v_order, .ref h_told, z_startAt, z_limit, z_plantsRead, z_ticksEver, z_newOrder, z_part, z_numbers, z_isWhole, z_isBelow, z_newTold, z_nextAt, z_tried, z_rows, z_below, z_inputBy, z_stateBy, z_goal, z_planTicks, z_planAt, z_inputs, z_ends, z_wanted, z_h])), (h_told, .inl (cyI, 15, .inl v_told))] s.heap.size = A at hD ⊢
  have hA : ∀ q : Nat, s.heap.size ≤ q → A q := fun q h => by rw [← hAe]; exact Or.inr h
  have hS : va_S A s.heap s.heap [] := va_S.rf
  have hl := lv_entry ([.ref h_me, .int l1]) (n := 2) (Nat.le_of_ble_eq_true rfl)
  rw [lg_entry_eq]
  generalize (lg_sl ([.ref h_me, .int l1]) ++ List.replicate (2 - (lg_sl ([.ref h_me, .int l1])).length) Slot.unset).toArray = ls at hl ⊢
  have hl : lv_has ls 2 [(0, .ref h_me), (1, .int l1)] := hl
  unfold F_X5_has at hF
  refine lv_aload_n hx hb dX5_has_0 rfl (lv_at hl 0 rfl) ?_
  refine lv_iload_n hx hb dX5_has_1 rfl (lv_at hl 1 rfl) ?_
  obtain ⟨r1, hz1, hF⟩ := bd1_e hF
  refine kc_i (wr := [(h_told, .inl (cyI, 15, .inl v_told))]) (ws' := [(h_me, .inr (5, [z_pageLength, z_page, .int v_order, .ref h_told, z_startAt, z_limit, z_plantsRead, z_ticksEver, z_newOrder, z_part, z_numbers, z_isWhole, z_isBelow, z_newTold, z_nextAt, z_tried, z_rows, z_below, z_inputBy, z_stateBy, z_goal, z_planTicks, z_planAt, z_inputs, z_ends, z_wanted, z_h])), (h_told, .inl (cyI, 15, .inl v_told))]) (va_runV (As := [.int l1]) (rest := []) ⟨hx, hb, hml, hown, hts⟩ (c_X5_isThere l dC dI cyI cyJ cyA h_me z_pageLength z_page (.ref h_told) z_startAt z_limit z_plantsRead z_ticksEver z_newOrder z_part z_numbers z_isWhole z_isBelow z_newTold z_nextAt z_tried z_rows z_below z_inputBy z_stateBy z_goal z_planTicks z_planAt z_inputs z_ends z_wanted z_h v_order l1 hz1 _) (cwV 1 hts gX5_has_X5_isThere rfl rfl rfl ndX5_isThere ⟨Nat.le_of_ble_eq_true rfl, Nat.le_of_ble_eq_true rfl⟩) (pre_V hKK hP hD 0 rfl rfl [0] (by decide) rfl rfl) rfl rfl hl.1 rfl (lv_room (Nat.le_of_ble_eq_true rfl)) dX5_has_2 ⟨Nat.le_of_ble_eq_true rfl, Nat.le_of_ble_eq_true rfl⟩) hP hD hS hA [0] [1] [1, 0] rfl rfl (by decide) (by decide) (by decide) rfl rfl (fun H locs hP hD hS => ?_)
  refine lv_if_eq (tgt := 18) hx hb dX5_has_5 (by decide) (fun c_ => ?_) (fun c_ => ?_)
  · have hF := gif c_ hF
    refine lv_ldc2 hx hb hown (hts _ mX5_has_2) dX5_has_18 ?_
    cases hF
    exact W.lret hx hb hr (fun t ht hW => ⟨⟨_, (), rfl, rfl, by rw [ht]; exact hP, hD⟩, hS.F ht⟩) hS.2.2 dX5_has_21
  · have hF := gel c_ hF
    refine lv_aload_n hx hb dX5_has_8 rfl (lv_at hl 0 rfl) ?_
    refine my_get (D := (dC, dI)) (ci := 5) (v := .ref h_told) (C := RX5) (T := TX5) (N := 27) hx hb hts iX5_has_X5 hown hK hP 0 rfl rfl 3 (by decide) (hts _ mX5_has_1) rfl rfl dX5_has_9 ?_
    refine lv_iload_n hx hb dX5_has_12 rfl (lv_at hl 1 rfl) ?_
    obtain ⟨g_2, hF⟩ := gno hF
    refine va_iald hx hb hK hP 1 0 rfl rfl g_2 dX5_has_13 ?_
    refine lv_i2l hx hb dX5_has_14 rfl ?_
    refine lv_goto (tgt := 21) hx hb dX5_has_15 (by decide) ?_
    cases hF
    exact W.lret hx hb hr (fun t ht hW => ⟨⟨_, (), rfl, rfl, by rw [ht]; exact hP, hD⟩, hS.F ht⟩) hS.2.2 dX5_has_21
/-! RestGainsModel.start (II)J -/
def rmX5_start : Room := { frames := 2, cells := 0, slots := 0, locals := 43 }
def F_X5_start (l1 : Int32) (l2 : Int32) (v_order : Int32) (v_startAt : Nat → Int64) : Option (Int64 × (Nat → Int64)) :=
  bd1 (F_X5_isPlace l1 v_order) (fun r1 => if r1 = 0 then (some ((-10000000000002 : Int64), v_startAt)) else (bd1 (F_X5_within l2 (-20 : Int32) (20 : Int32)) (fun r2 => if r2 = 0 then (some ((-10000000000003 : Int64), v_startAt)) else (if l1 < 0 ∨ 3 ≤ l1.toNatClampNeg then none else if l1 < 0 ∨ 3 ≤ l1.toNatClampNeg then none else some ((v_startAt l1.toNatClampNeg), (vp_updL v_startAt l1.toNatClampNeg l2.toInt64))))))
set_option maxHeartbeats 4000000 in
set_option maxRecDepth 100000 in
theorem c_X5_start (l : Launch) (dC : Nat → ClassId) (dI : Nat → Nat → Nat) (cyI cyJ cyA : ClassId) (h_me h_startAt : Nat) (z_pageLength z_page z_told z_limit z_plantsRead z_ticksEver z_newOrder z_part z_numbers z_isWhole z_isBelow z_newTold z_nextAt z_tried z_rows z_below z_inputBy z_stateBy z_goal z_planTicks z_planAt z_inputs z_ends z_wanted z_h : Value) (v_order : Int32) (v_startAt : Nat → Int64) (l1 : Int32) (l2 : Int32) {r : Int64} {q_startAt : Nat → Int64} (hF : F_X5_start l1 l2 v_order v_startAt = some (r, q_startAt)) (sz : Nat) : Met l yX5_start wsX5_start rmX5_start (va_Pc [.ref h_me, .int l1, .int l2] (PC (dC, dI) cyI cyJ cyA [(h_me, .inr (5, [z_pageLength, z_page, .int v_order, z_told, .ref h_startAt, z_limit, z_plantsRead, z_ticksEver, z_newOrder, z_part, z_numbers, z_isWhole, z_isBelow, z_newTold, z_nextAt, z_tried, z_rows, z_below, z_inputBy, z_stateBy, z_goal, z_planTicks, z_planAt, z_inputs, z_ends, z_wanted, z_h])), (h_startAt, .inl (cyJ, 3, .inr (.inl v_startAt)))] sz)) (QL (dC, dI) (va_A [(h_me, .inr (5, [z_pageLength, z_page, .int v_order, z_told, .ref h_startAt, z_limit, z_plantsRead, z_ticksEver, z_newOrder, z_part, z_numbers, z_isWhole, z_isBelow, z_newTold, z_nextAt, z_tried, z_rows, z_below, z_inputBy, z_stateBy, z_goal, z_planTicks, z_planAt, z_inputs, z_ends, z_wanted, z_h])), (h_startAt, .inl (cyJ, 3, .inr (.inl v_startAt)))] sz) [(h_me, .inr (5, [z_pageLength, z_page, .int v_order, z_told, .ref h_startAt, z_limit, z_plantsRead, z_ticksEver, z_newOrder, z_part, z_numbers, z_isWhole, z_isBelow, z_newTold, z_nextAt, z_tried, z_rows, z_below, z_inputBy, z_stateBy, z_goal, z_planTicks, z_planAt, z_inputs, z_ends, z_wanted, z_h])), (h_startAt, .inl (cyJ, 3, .inr (.inl q_startAt)))] r) 0 0 (va_A [(h_me, .inr (5, [z_pageLength, z_page, .int v_order, z_told, .ref h_startAt, z_limit, z_plantsRead, z_ticksEver, z_newOrder, z_part, z_numbers, z_isWhole, z_isBelow, z_newTold, z_nextAt, z_tried, z_rows, z_below, z_inputBy, z_stateBy, z_goal, z_planTicks, z_planAt, z_inputs, z_ends, z_wanted, z_h])), (h_startAt, .inl (cyJ, 3, .inr (.inl v_startAt)))] sz) := by
  refine Met.ofW (cc := cX5_start) (maxL := 5) (ret := (some .long)) (by decide) rfl ?_
  intro p e s m args below meth c s₁ B hml hv
  obtain ⟨rfl, hsz, hP, hKK, hD0⟩ := hv
  have hx := B.exec
  have hb := B.bytes
  have hr := B.returns
  have hts := atoms_spec (ws := wsX5_start) B.pre
  have hown : s.vm.findClass RX5 = some m.cls := findClass_of_methodNamed B.named
  have hlocks := B.notSynchronized
  have C0 : Cx p s m ([.ref h_me, .int l1, .int l2] : List Value).toArray meth c cX5_start 5 (some .long) wsX5_start RX5 (dC, dI) cyI cyJ cyA := ⟨hx, hb, hr, hml, hown, hts, hKK, hlocks⟩
  have hK := hKK.1
  subst hsz
  have hD := hD0.self (sz := s.heap.size)
  generalize hAe : va_A [(h_me, .inr (5, [z_pageLength, z_page, .int v_order, z_told, .ref h_startAt, z_limit, z_plantsRead, z_ticksEver, z_newOrder, z_part, z_numbers, z_isWhole, z_isBelow, z_newTold, z_nextAt, z_tried, z_rows, z_below, z_inputBy, z_stateBy, z_goal, z_planTicks, z_planAt, z_inputs, z_ends, z_wanted, z_h])), (h_startAt, .inl (cyJ, 3, .inr (.inl v_startAt)))] s.heap.size = A at hD ⊢
  have hA : ∀ q : Nat, s.heap.size ≤ q → A q := fun q h => by rw [← hAe]; exact Or.inr h
  have hS : va_S A s.heap s.heap [] := va_S.rf
  have hl := lv_entry ([.ref h_me, .int l1, .int l2]) (n := 5) (Nat.le_of_ble_eq_true rfl)
  rw [lg_entry_eq]
  generalize (lg_sl ([.ref h_me, .int l1, .int l2]) ++ List.replicate (5 - (lg_sl ([.ref h_me, .int l1, .int l2])).length) Slot.unset).toArray = ls at hl ⊢
  have hl : lv_has ls 5 [(0, .ref h_me), (1, .int l1), (2, .int l2)] := hl
  unfold F_X5_start at hF
  refine lv_aload_n hx hb dX5_start_0 rfl (lv_at hl 0 rfl) ?_
  refine lv_iload_n hx hb dX5_start_1 rfl (lv_at hl 1 rfl) ?_
  obtain ⟨r1, hz1, hF⟩ := bd1_e hF
  refine kc_i (wr := [(h_startAt, .inl (cyJ, 3, .inr (.inl v_startAt)))]) (ws' := [(h_me, .inr (5, [z_pageLength, z_page, .int v_order, z_told, .ref h_startAt, z_limit, z_plantsRead, z_ticksEver, z_newOrder, z_part, z_numbers, z_isWhole, z_isBelow, z_newTold, z_nextAt, z_tried, z_rows, z_below, z_inputBy, z_stateBy, z_goal, z_planTicks, z_planAt, z_inputs, z_ends, z_wanted, z_h])), (h_startAt, .inl (cyJ, 3, .inr (.inl v_startAt)))]) (va_runV (As := [.int l1]) (rest := []) ⟨hx, hb, hml, hown, hts⟩ (c_X5_isPlace l dC dI cyI cyJ cyA h_me z_pageLength z_page z_told (.ref h_startAt) z_limit z_plantsRead z_ticksEver z_newOrder z_part z_numbers z_isWhole z_isBelow z_newTold z_nextAt z_tried z_rows z_below z_inputBy z_stateBy z_goal z_planTicks z_planAt z_inputs z_ends z_wanted z_h v_order l1 hz1 _) (cwV 1 hts gX5_start_X5_isPlace rfl rfl rfl ndX5_isPlace ⟨Nat.le_of_ble_eq_true rfl, Nat.le_of_ble_eq_true rfl⟩) (pre_V hKK hP hD 0 rfl rfl [0] (by decide) rfl rfl) rfl rfl hl.1 rfl (lv_room (Nat.le_of_ble_eq_true rfl)) dX5_start_2 ⟨Nat.le_of_ble_eq_true rfl, Nat.le_of_ble_eq_true rfl⟩) hP hD hS hA [0] [1] [1, 0] rfl rfl (by decide) (by decide) (by decide) rfl rfl (fun H locs hP hD hS => ?_)
  refine lv_if_ne (tgt := 12) hx hb dX5_start_5 (by decide) (fun c_ => ?_) (fun c_ => ?_)
  · have hF := gel c_ hF
    refine lv_iload_n hx hb dX5_start_12 rfl (lv_at hl 2 rfl) ?_
    refine lv_bipush (v := (-20 : Int32)) hx hb dX5_start_13 (by decide) ?_
    refine lv_bipush (v := (20 : Int32)) hx hb dX5_start_15 (by decide) ?_
    obtain ⟨r2, hz2, hF⟩ := bd1_e hF
    refine kc_i (wr := [(h_me, .inr (5, [z_pageLength, z_page, .int v_order, z_told, .ref h_startAt, z_limit, z_plantsRead, z_ticksEver, z_newOrder, z_part, z_numbers, z_isWhole, z_isBelow, z_newTold, z_nextAt, z_tried, z_rows, z_below, z_inputBy, z_stateBy, z_goal, z_planTicks, z_planAt, z_inputs, z_ends, z_wanted, z_h])), (h_startAt, .inl (cyJ, 3, .inr (.inl v_startAt)))]) (ws' := [(h_me, .inr (5, [z_pageLength, z_page, .int v_order, z_told, .ref h_startAt, z_limit, z_plantsRead, z_ticksEver, z_newOrder, z_part, z_numbers, z_isWhole, z_isBelow, z_newTold, z_nextAt, z_tried, z_rows, z_below, z_inputBy, z_stateBy, z_goal, z_planTicks, z_planAt, z_inputs, z_ends, z_wanted, z_h])), (h_startAt, .inl (cyJ, 3, .inr (.inl v_startAt)))]) (va_runS (As := [.int l2, .int (-20 : Int32), .int (20 : Int32)]) (rest := []) ⟨hx, hb, hml, hown, hts⟩ (c_X5_within l dC dI cyI cyJ cyA    l2 (-20 : Int32) (20 : Int32) hz2 _) (va_cwS 3 hts gX5_start_X5_within rfl rfl rfl ndX5_within.2 ⟨Nat.le_of_ble_eq_true rfl, Nat.le_of_ble_eq_true rfl⟩) (pre_S hKK hP hD [] (by decide) rfl rfl) rfl rfl hl.1 rfl (lv_room (Nat.le_of_ble_eq_true rfl)) dX5_start_17 ⟨Nat.le_of_ble_eq_true rfl, Nat.le_of_ble_eq_true rfl⟩) hP hD hS hA [] [0, 1] [0, 1] rfl rfl (by decide) (by decide) (by decide) rfl rfl (fun H locs hP hD hS => ?_)
    refine lv_if_ne (tgt := 27) hx hb dX5_start_20 (by decide) (fun c_ => ?_) (fun c_ => ?_)
    · have hF := gel c_ hF
      refine lv_aload_n hx hb dX5_start_27 rfl (lv_at hl 0 rfl) ?_
      refine my_get (D := (dC, dI)) (ci := 5) (v := .ref h_startAt) (C := RX5) (T := TX5) (N := 27) hx hb hts iX5_start_X5 hown hK hP 0 rfl rfl 4 (by decide) (hts _ mX5_start_3) rfl rfl dX5_start_28 ?_
      refine lv_iload_n hx hb dX5_start_31 rfl (lv_at hl 1 rfl) ?_
      obtain ⟨g_3, hF⟩ := gno hF
      refine va_lald hx hb hK hP 1 1 rfl rfl g_3 dX5_start_32 ?_
      refine lv_lstore_n (lv' := [(3, .long (v_startAt l1.toNatClampNeg)), (0, .ref h_me), (1, .int l1), (2, .int l2)]) hx hb dX5_start_33 rfl hl (by decide) rfl (fun ls hl => ?_)
      refine lv_aload_n hx hb dX5_start_34 rfl (lv_at hl 1 rfl) ?_
      refine my_get (D := (dC, dI)) (ci := 5) (v := .ref h_startAt) (C := RX5) (T := TX5) (N := 27) hx hb hts iX5_start_X5 hown hK hP 0 rfl rfl 4 (by decide) (hts _ mX5_start_3) rfl rfl dX5_start_35 ?_
      refine lv_iload_n hx hb dX5_start_38 rfl (lv_at hl 2 rfl) ?_
      refine lv_iload_n hx hb dX5_start_39 rfl (lv_at hl 3 rfl) ?_
      refine lv_i2l hx hb dX5_start_40 rfl ?_
      obtain ⟨g_4, hF⟩ := gno hF
      refine my_last (ws' := [(h_me, .inr (5, [z_pageLength, z_page, .int v_order, z_told, .ref h_startAt, z_limit, z_plantsRead, z_ticksEver, z_newOrder, z_part, z_numbers, z_isWhole, z_isBelow, z_newTold, z_nextAt, z_tried, z_rows, z_below, z_inputBy, z_stateBy, z_goal, z_planTicks, z_planAt, z_inputs, z_ends, z_wanted, z_h])), (h_startAt, .inl (cyJ, 3, .inr (.inl (vp_updL v_startAt l1.toNatClampNeg l2.toInt64))))]) hx hb hK hP hD hS 1 1 rfl rfl g_4 dX5_start_41 rfl (fun H locs hP hD hS => ?_)
      refine lv_lload_n hx hb dX5_start_42 rfl (lv_at hl 0 rfl) ?_
      cases hF
      exact W.lret hx hb hr (fun t ht hW => ⟨⟨_, (), rfl, rfl, by rw [ht]; exact hP, hD⟩, hS.F ht⟩) hS.2.2 dX5_start_43
    · have hF := gif c_ hF
      refine lv_ldc2 hx hb hown (hts _ mX5_start_2) dX5_start_23 ?_
      cases hF
      exact W.lret hx hb hr (fun t ht hW => ⟨⟨_, (), rfl, rfl, by rw [ht]; exact hP, hD⟩, hS.F ht⟩) hS.2.2 dX5_start_26
  · have hF := gif c_ hF
    refine lv_ldc2 hx hb hown (hts _ mX5_start_1) dX5_start_8 ?_
    cases hF
    exact W.lret hx hb hr (fun t ht hW => ⟨⟨_, (), rfl, rfl, by rw [ht]; exact hP, hD⟩, hS.F ht⟩) hS.2.2 dX5_start_11
/-! RestGainsModel.limit (I)J -/
def rmX5_limit : Room := { frames := 1, cells := 0, slots := 0, locals := 22 }
def F_X5_limit (l1 : Int32) (v_limit : Int32) : Option (Int64 × Int32) :=
  bd1 (F_X5_within l1 (1 : Int32) (5 : Int32)) (fun r1 => if r1 = 0 then (some ((-10000000000003 : Int64), v_limit)) else (some (v_limit.toInt64, l1)))
set_option maxHeartbeats 4000000 in
set_option maxRecDepth 100000 in
theorem c_X5_limit (l : Launch) (dC : Nat → ClassId) (dI : Nat → Nat → Nat) (cyI cyJ cyA : ClassId) (h_me : Nat) (z_pageLength z_page z_order z_told z_startAt z_plantsRead z_ticksEver z_newOrder z_part z_numbers z_isWhole z_isBelow z_newTold z_nextAt z_tried z_rows z_below z_inputBy z_stateBy z_goal z_planTicks z_planAt z_inputs z_ends z_wanted z_h : Value) (v_limit : Int32) (l1 : Int32) {r : Int64} {q_limit : Int32} (hF : F_X5_limit l1 v_limit = some (r, q_limit)) (sz : Nat) : Met l yX5_limit wsX5_limit rmX5_limit (va_Pc [.ref h_me, .int l1] (PC (dC, dI) cyI cyJ cyA [(h_me, .inr (5, [z_pageLength, z_page, z_order, z_told, z_startAt, .int v_limit, z_plantsRead, z_ticksEver, z_newOrder, z_part, z_numbers, z_isWhole, z_isBelow, z_newTold, z_nextAt, z_tried, z_rows, z_below, z_inputBy, z_stateBy, z_goal, z_planTicks, z_planAt, z_inputs, z_ends, z_wanted, z_h]))] sz)) (QL (dC, dI) (va_A [(h_me, .inr (5, [z_pageLength, z_page, z_order, z_told, z_startAt, .int v_limit, z_plantsRead, z_ticksEver, z_newOrder, z_part, z_numbers, z_isWhole, z_isBelow, z_newTold, z_nextAt, z_tried, z_rows, z_below, z_inputBy, z_stateBy, z_goal, z_planTicks, z_planAt, z_inputs, z_ends, z_wanted, z_h]))] sz) [(h_me, .inr (5, [z_pageLength, z_page, z_order, z_told, z_startAt, .int q_limit, z_plantsRead, z_ticksEver, z_newOrder, z_part, z_numbers, z_isWhole, z_isBelow, z_newTold, z_nextAt, z_tried, z_rows, z_below, z_inputBy, z_stateBy, z_goal, z_planTicks, z_planAt, z_inputs, z_ends, z_wanted, z_h]))] r) 0 0 (va_A [(h_me, .inr (5, [z_pageLength, z_page, z_order, z_told, z_startAt, .int v_limit, z_plantsRead, z_ticksEver, z_newOrder, z_part, z_numbers, z_isWhole, z_isBelow, z_newTold, z_nextAt, z_tried, z_rows, z_below, z_inputBy, z_stateBy, z_goal, z_planTicks, z_planAt, z_inputs, z_ends, z_wanted, z_h]))] sz) := by
  refine Met.ofW (cc := cX5_limit) (maxL := 3) (ret := (some .long)) (by decide) rfl ?_
  intro p e s m args below meth c s₁ B hml hv
  obtain ⟨rfl, hsz, hP, hKK, hD0⟩ := hv
  have hx := B.exec
  have hb := B.bytes
  have hr := B.returns
  have hts := atoms_spec (ws := wsX5_limit) B.pre
  have hown : s.vm.findClass RX5 = some m.cls := findClass_of_methodNamed B.named
  have hlocks := B.notSynchronized
  have C0 : Cx p s m ([.ref h_me, .int l1] : List Value).toArray meth c cX5_limit 3 (some .long) wsX5_limit RX5 (dC, dI) cyI cyJ cyA := ⟨hx, hb, hr, hml, hown, hts, hKK, hlocks⟩
  have hK := hKK.1
  subst hsz
  have hD := hD0.self (sz := s.heap.size)
  generalize hAe : va_A [(h_me, .inr (5, [z_pageLength, z_page, z_order, z_told, z_startAt, .int v_limit, z_plantsRead, z_ticksEver, z_newOrder, z_part, z_numbers, z_isWhole, z_isBelow, z_newTold, z_nextAt, z_tried, z_rows, z_below, z_inputBy, z_stateBy, z_goal, z_planTicks, z_planAt, z_inputs, z_ends, z_wanted, z_h]))] s.heap.size = A at hD ⊢
  have hA : ∀ q : Nat, s.heap.size ≤ q → A q := fun q h => by rw [← hAe]; exact Or.inr h
  have hS : va_S A s.heap s.heap [] := va_S.rf
  have hl := lv_entry ([.ref h_me, .int l1]) (n := 3) (Nat.le_of_ble_eq_true rfl)
  rw [lg_entry_eq]
  generalize (lg_sl ([.ref h_me, .int l1]) ++ List.replicate (3 - (lg_sl ([.ref h_me, .int l1])).length) Slot.unset).toArray = ls at hl ⊢
  have hl : lv_has ls 3 [(0, .ref h_me), (1, .int l1)] := hl
  unfold F_X5_limit at hF
  refine lv_iload_n hx hb dX5_limit_0 rfl (lv_at hl 1 rfl) ?_
  refine lv_iconst (v := (1 : Int32)) hx hb dX5_limit_1 (by decide) ?_
  refine lv_iconst (v := (5 : Int32)) hx hb dX5_limit_2 (by decide) ?_
  obtain ⟨r1, hz1, hF⟩ := bd1_e hF
  refine kc_i (wr := [(h_me, .inr (5, [z_pageLength, z_page, z_order, z_told, z_startAt, .int v_limit, z_plantsRead, z_ticksEver, z_newOrder, z_part, z_numbers, z_isWhole, z_isBelow, z_newTold, z_nextAt, z_tried, z_rows, z_below, z_inputBy, z_stateBy, z_goal, z_planTicks, z_planAt, z_inputs, z_ends, z_wanted, z_h]))]) (ws' := [(h_me, .inr (5, [z_pageLength, z_page, z_order, z_told, z_startAt, .int v_limit, z_plantsRead, z_ticksEver, z_newOrder, z_part, z_numbers, z_isWhole, z_isBelow, z_newTold, z_nextAt, z_tried, z_rows, z_below, z_inputBy, z_stateBy, z_goal, z_planTicks, z_planAt, z_inputs, z_ends, z_wanted, z_h]))]) (va_runS (As := [.int l1, .int (1 : Int32), .int (5 : Int32)]) (rest := []) ⟨hx, hb, hml, hown, hts⟩ (c_X5_within l dC dI cyI cyJ cyA    l1 (1 : Int32) (5 : Int32) hz1 _) (va_cwS 3 hts gX5_limit_X5_within rfl rfl rfl ndX5_within.2 ⟨Nat.le_of_ble_eq_true rfl, Nat.le_of_ble_eq_true rfl⟩) (pre_S hKK hP hD [] (by decide) rfl rfl) rfl rfl hl.1 rfl (lv_room (Nat.le_of_ble_eq_true rfl)) dX5_limit_3 ⟨Nat.le_of_ble_eq_true rfl, Nat.le_of_ble_eq_true rfl⟩) hP hD hS hA [] [0] [0] rfl rfl (by decide) (by decide) (by decide) rfl rfl (fun H locs hP hD hS => ?_)
  refine lv_if_ne (tgt := 13) hx hb dX5_limit_6 (by decide) (fun c_ => ?_) (fun c_ => ?_)
  · have hF := gel c_ hF
    refine lv_aload_n hx hb dX5_limit_13 rfl (lv_at hl 0 rfl) ?_
    refine my_get (D := (dC, dI)) (ci := 5) (v := .int v_limit) (C := RX5) (T := TX5) (N := 27) hx hb hts iX5_limit_X5 hown hK hP 0 rfl rfl 5 (by decide) (hts _ mX5_limit_2) rfl rfl dX5_limit_14 ?_
    refine lv_istore_n (lv' := [(2, .int v_limit), (0, .ref h_me), (1, .int l1)]) hx hb dX5_limit_17 rfl hl (by decide) rfl (fun ls hl => ?_)
    refine lv_aload_n hx hb dX5_limit_18 rfl (lv_at hl 1 rfl) ?_
    refine lv_iload_n hx hb dX5_limit_19 rfl (lv_at hl 2 rfl) ?_
    refine my_put (D := (dC, dI)) (ci := 5) (v := .int l1) (ty := .int) (C := RX5) (T := TX5) (N := 27) (ws' := [(h_me, .inr (5, [z_pageLength, z_page, z_order, z_told, z_startAt, .int l1, z_plantsRead, z_ticksEver, z_newOrder, z_part, z_numbers, z_isWhole, z_isBelow, z_newTold, z_nextAt, z_tried, z_rows, z_below, z_inputBy, z_stateBy, z_goal, z_planTicks, z_planAt, z_inputs, z_ends, z_wanted, z_h]))]) hx hb hts iX5_limit_X5 tyX5 tyX5_ok nmX5 hown hK hP hD hS 0 rfl rfl 5 (by decide) (hts _ mX5_limit_2) rfl rfl rfl rfl rfl (Nat.le_of_ble_eq_true rfl) dX5_limit_20 rfl (fun H locs hP hD hS => ?_)
    refine lv_iload_n hx hb dX5_limit_23 rfl (lv_at hl 0 rfl) ?_
    refine lv_i2l hx hb dX5_limit_24 rfl ?_
    cases hF
    exact W.lret hx hb hr (fun t ht hW => ⟨⟨_, (), rfl, rfl, by rw [ht]; exact hP, hD⟩, hS.F ht⟩) hS.2.2 dX5_limit_25
  · have hF := gif c_ hF
    refine lv_ldc2 hx hb hown (hts _ mX5_limit_1) dX5_limit_9 ?_
    cases hF
    exact W.lret hx hb hr (fun t ht hW => ⟨⟨_, (), rfl, rfl, by rw [ht]; exact hP, hD⟩, hS.F ht⟩) hS.2.2 dX5_limit_12
/-! RestGainsModel.goOn ([JJ)V -/
def rmX5_goOn : Room := { frames := 0, cells := 0, slots := 0, locals := 0 }
def F_X5_goOn_87  : Nat → Int32 → Int32 → (Nat → Int64) → (Nat → Int32) → (Nat → Int64) → Option ((Nat → Int64) × (Nat → Int64))
  | 0, _, _, _, _, _ => none
  | n + 1, l4, v_order, v_nextAt, v_told, v_g1 => if v_order ≤ l4 then (some (v_nextAt, v_g1)) else (if l4 < 0 ∨ 3 ≤ l4.toNatClampNeg then none else if l4 < 0 ∨ 3 ≤ l4.toNatClampNeg then none else F_X5_goOn_87  n (l4 + (1 : Int32)) v_order v_nextAt v_told (vp_updL v_g1 l4.toNatClampNeg (v_nextAt l4.toNatClampNeg)))
def F_X5_goOn_35 (k_3 : Int64 → Int32 → Int32 → (Nat → Int64) → (Nat → Int32) → (Nat → Int64) → Option ((Nat → Int64) × (Nat → Int64))) : Nat → Int64 → Int32 → Int32 → Int32 → (Nat → Int64) → (Nat → Int32) → (Nat → Int64) → Option ((Nat → Int64) × (Nat → Int64))
  | 0, _, _, _, _, _, _, _ => none
  | n + 1, l2, l4, l5, v_order, v_nextAt, v_told, v_g1 => if v_order ≤ l5 then (k_3 l2 (l4 + (1 : Int32)) v_order v_nextAt v_told v_g1) else (if l4 < 0 ∨ 3 ≤ l4.toNatClampNeg then none else if (((3 : Int32) * l4) + l5) < 0 ∨ 15 ≤ (((3 : Int32) * l4) + l5).toNatClampNeg then none else if l5 < 0 ∨ 3 ≤ l5.toNatClampNeg then none else if l4 < 0 ∨ 3 ≤ l4.toNatClampNeg then none else F_X5_goOn_35 k_3 n l2 l4 (l5 + (1 : Int32)) v_order (vp_updL v_nextAt l4.toNatClampNeg ((v_nextAt l4.toNatClampNeg) + ((v_told (((3 : Int32) * l4) + l5).toNatClampNeg).toInt64 * (v_g1 l5.toNatClampNeg)))) v_told v_g1)
def F_X5_goOn_3  : Nat → Int64 → Int32 → Int32 → (Nat → Int64) → (Nat → Int32) → (Nat → Int64) → Option ((Nat → Int64) × (Nat → Int64))
  | 0, _, _, _, _, _, _ => none
  | n + 1, l2, l4, v_order, v_nextAt, v_told, v_g1 => if v_order ≤ l4 then (F_X5_goOn_87  3000 (0 : Int32) v_order v_nextAt v_told v_g1) else (if ((9 : Int32) + l4) < 0 ∨ 15 ≤ ((9 : Int32) + l4).toNatClampNeg then none else if l4 < 0 ∨ 3 ≤ l4.toNatClampNeg then none else F_X5_goOn_35 (fun l2 l4 v_order v_nextAt v_told v_g1 => F_X5_goOn_3  n l2 l4 v_order v_nextAt v_told v_g1) 3000 l2 l4 (0 : Int32) v_order (vp_updL v_nextAt l4.toNatClampNeg ((v_told ((9 : Int32) + l4).toNatClampNeg).toInt64 * l2)) v_told v_g1)
def F_X5_goOn (l2 : Int64) (v_order : Int32) (v_nextAt : Nat → Int64) (v_told : Nat → Int32) (v_g1 : Nat → Int64) : Option ((Nat → Int64) × (Nat → Int64)) :=
  F_X5_goOn_3  3000 l2 (0 : Int32) v_order v_nextAt v_told v_g1
set_option maxHeartbeats 4000000 in
set_option maxRecDepth 100000 in
theorem t_X5_goOn_87 {p : Program} {l : Launch} {e : Env} {s : State} {m : MethodId} {args : Array Value} {below : List Frame} {meth : Method} {c : Code} {dC : Nat → ClassId} {dI : Nat → Nat → Nat} {cyI cyJ cyA : ClassId} {A : Nat → Prop} {h_me h_nextAt h_told h_g1 : Nat} {z_pageLength z_page z_startAt z_limit z_plantsRead z_ticksEver z_newOrder z_part z_numbers z_isWhole z_isBelow z_newTold z_tried z_rows z_below z_inputBy z_stateBy z_goal z_planTicks z_planAt z_inputs z_ends z_wanted z_h : Value} {q_nextAt : Nat → Int64} {q_g1 : Nat → Int64} (C0 : Cx p s m args meth c cX5_goOn 6 none wsX5_goOn RX5 (dC, dI) cyI cyJ cyA) (hA : ∀ q : Nat, s.heap.size ≤ q → A q)  : ∀ (n : Nat) (l4 : Int32) (v_order : Int32) (v_nextAt : Nat → Int64) (v_told : Nat → Int32) (v_g1 : Nat → Int64), F_X5_goOn_87  n l4 v_order v_nextAt v_told v_g1 = some (q_nextAt, q_g1) → ∀ {H : Heap} {locs : List Loc} {ls : Array Slot}, va_P (dC, dI) vwCl [(h_me, .inr (5, [z_pageLength, z_page, .int v_order, .ref h_told, z_startAt, z_limit, z_plantsRead, z_ticksEver, z_newOrder, z_part, z_numbers, z_isWhole, z_isBelow, z_newTold, .ref h_nextAt, z_tried, z_rows, z_below, z_inputBy, z_stateBy, z_goal, z_planTicks, z_planAt, z_inputs, z_ends, z_wanted, z_h])), (h_nextAt, .inl (cyJ, 3, .inr (.inl v_nextAt))), (h_told, .inl (cyI, 15, .inl v_told)), (h_g1, .inl (cyJ, 3, .inr (.inl v_g1)))] H → va_D A [(h_me, .inr (5, [z_pageLength, z_page, .int v_order, .ref h_told, z_startAt, z_limit, z_plantsRead, z_ticksEver, z_newOrder, z_part, z_numbers, z_isWhole, z_isBelow, z_newTold, .ref h_nextAt, z_tried, z_rows, z_below, z_inputBy, z_stateBy, z_goal, z_planTicks, z_planAt, z_inputs, z_ends, z_wanted, z_h])), (h_nextAt, .inl (cyJ, 3, .inr (.inl v_nextAt))), (h_told, .inl (cyI, 15, .inl v_told)), (h_g1, .inl (cyJ, 3, .inr (.inl v_g1)))] → va_S A s.heap H locs → lv_has ls 6 [(0, .ref h_me), (1, .ref h_g1), (4, .int l4)] → W p l e rmX5_goOn s m args below meth c H locs 0 0 (MQ below (QV (dC, dI) A [(h_me, .inr (5, [z_pageLength, z_page, .int v_order, .ref h_told, z_startAt, z_limit, z_plantsRead, z_ticksEver, z_newOrder, z_part, z_numbers, z_isWhole, z_isBelow, z_newTold, .ref h_nextAt, z_tried, z_rows, z_below, z_inputBy, z_stateBy, z_goal, z_planTicks, z_planAt, z_inputs, z_ends, z_wanted, z_h])), (h_nextAt, .inl (cyJ, 3, .inr (.inl q_nextAt))), (h_told, .inl (cyI, 15, .inl v_told)), (h_g1, .inl (cyJ, 3, .inr (.inl q_g1)))]) args s 0 0 A) (F0 m 87 ls []) := by
  obtain ⟨hx, hb, hr, hml, hown, hts, hKK, hlocks⟩ := id C0
  have hK := hKK.1
  intro n
  induction n with
  | zero => intro l4 v_order v_nextAt v_told v_g1 hF; rw [F_X5_goOn_87] at hF; cases hF
  | succ n ih =>
      intro l4 v_order v_nextAt v_told v_g1 hF H locs ls hP hD hS hl
      rw [F_X5_goOn_87] at hF
      refine lv_iload hx hb dX5_goOn_87 (lv_at hl 2 rfl) ?_
      refine lv_aload_n hx hb dX5_goOn_89 rfl (lv_at hl 0 rfl) ?_
      refine my_get (D := (dC, dI)) (ci := 5) (v := .int v_order) (C := RX5) (T := TX5) (N := 27) hx hb hts iX5_goOn_X5 hown hK hP 0 rfl rfl 2 (by decide) (hts _ mX5_goOn_1) rfl rfl dX5_goOn_90 ?_
      refine lv_icmp_ge (tgt := 113) hx hb dX5_goOn_93 (by decide) (fun c_ => ?_) (fun c_ => ?_)
      · have hF := gif c_ hF
        cases hF
        exact W.vret hx hb hr (fun t ht hW => ⟨⟨(), rfl, trivial, by rw [ht]; exact hP, hD⟩, hS.F ht⟩) hS.2.2 dX5_goOn_113
      · have hF := gel c_ hF
        refine lv_aload_n hx hb dX5_goOn_96 rfl (lv_at hl 1 rfl) ?_
        refine lv_iload hx hb dX5_goOn_97 (lv_at hl 2 rfl) ?_
        refine lv_aload_n hx hb dX5_goOn_99 rfl (lv_at hl 0 rfl) ?_
        refine my_get (D := (dC, dI)) (ci := 5) (v := .ref h_nextAt) (C := RX5) (T := TX5) (N := 27) hx hb hts iX5_goOn_X5 hown hK hP 0 rfl rfl 14 (by decide) (hts _ mX5_goOn_2) rfl rfl dX5_goOn_100 ?_
        refine lv_iload hx hb dX5_goOn_103 (lv_at hl 2 rfl) ?_
        obtain ⟨g_1, hF⟩ := gno hF
        refine va_lald hx hb hK hP 1 1 rfl rfl g_1 dX5_goOn_105 ?_
        obtain ⟨g_2, hF⟩ := gno hF
        refine my_last (ws' := [(h_me, .inr (5, [z_pageLength, z_page, .int v_order, .ref h_told, z_startAt, z_limit, z_plantsRead, z_ticksEver, z_newOrder, z_part, z_numbers, z_isWhole, z_isBelow, z_newTold, .ref h_nextAt, z_tried, z_rows, z_below, z_inputBy, z_stateBy, z_goal, z_planTicks, z_planAt, z_inputs, z_ends, z_wanted, z_h])), (h_nextAt, .inl (cyJ, 3, .inr (.inl v_nextAt))), (h_told, .inl (cyI, 15, .inl v_told)), (h_g1, .inl (cyJ, 3, .inr (.inl (vp_updL v_g1 l4.toNatClampNeg (v_nextAt l4.toNatClampNeg)))))]) hx hb hK hP hD hS 3 1 rfl rfl g_2 dX5_goOn_106 rfl (fun H locs hP hD hS => ?_)
        refine lv_iinc (v := (l4 + (1 : Int32))) (lv' := [(4, .int (l4 + (1 : Int32))), (0, .ref h_me), (1, .ref h_g1)]) hx hb dX5_goOn_107 hl (k := 2) rfl (by rfl) (by decide) rfl (fun ls hl => ?_)
        refine lv_goto (tgt := 87) hx hb dX5_goOn_110 (by decide) ?_
        exact ih (l4 + (1 : Int32)) v_order v_nextAt v_told (vp_updL v_g1 l4.toNatClampNeg (v_nextAt l4.toNatClampNeg)) hF hP hD hS (lv_sub hl [1, 2, 0] rfl)
set_option maxHeartbeats 4000000 in
set_option maxRecDepth 100000 in
theorem t_X5_goOn_35 {p : Program} {l : Launch} {e : Env} {s : State} {m : MethodId} {args : Array Value} {below : List Frame} {meth : Method} {c : Code} {dC : Nat → ClassId} {dI : Nat → Nat → Nat} {cyI cyJ cyA : ClassId} {A : Nat → Prop} {h_me h_nextAt h_told h_g1 : Nat} {z_pageLength z_page z_startAt z_limit z_plantsRead z_ticksEver z_newOrder z_part z_numbers z_isWhole z_isBelow z_newTold z_tried z_rows z_below z_inputBy z_stateBy z_goal z_planTicks z_planAt z_inputs z_ends z_wanted z_h : Value} {q_nextAt : Nat → Int64} {q_g1 : Nat → Int64} (C0 : Cx p s m args meth c cX5_goOn 6 none wsX5_goOn RX5 (dC, dI) cyI cyJ cyA) (hA : ∀ q : Nat, s.heap.size ≤ q → A q) (k_3 : Int64 → Int32 → Int32 → (Nat → Int64) → (Nat → Int32) → (Nat → Int64) → Option ((Nat → Int64) × (Nat → Int64))) (hk_3 : ∀ (l2 : Int64) (l4 : Int32) (v_order : Int32) (v_nextAt : Nat → Int64) (v_told : Nat → Int32) (v_g1 : Nat → Int64), k_3 l2 l4 v_order v_nextAt v_told v_g1 = some (q_nextAt, q_g1) → ∀ {H : Heap} {locs : List Loc} {ls : Array Slot}, va_P (dC, dI) vwCl [(h_me, .inr (5, [z_pageLength, z_page, .int v_order, .ref h_told, z_startAt, z_limit, z_plantsRead, z_ticksEver, z_newOrder, z_part, z_numbers, z_isWhole, z_isBelow, z_newTold, .ref h_nextAt, z_tried, z_rows, z_below, z_inputBy, z_stateBy, z_goal, z_planTicks, z_planAt, z_inputs, z_ends, z_wanted, z_h])), (h_nextAt, .inl (cyJ, 3, .inr (.inl v_nextAt))), (h_told, .inl (cyI, 15, .inl v_told)), (h_g1, .inl (cyJ, 3, .inr (.inl v_g1)))] H → va_D A [(h_me, .inr (5, [z_pageLength, z_page, .int v_order, .ref h_told, z_startAt, z_limit, z_plantsRead, z_ticksEver, z_newOrder, z_part, z_numbers, z_isWhole, z_isBelow, z_newTold, .ref h_nextAt, z_tried, z_rows, z_below, z_inputBy, z_stateBy, z_goal, z_planTicks, z_planAt, z_inputs, z_ends, z_wanted, z_h])), (h_nextAt, .inl (cyJ, 3, .inr (.inl v_nextAt))), (h_told, .inl (cyI, 15, .inl v_told)), (h_g1, .inl (cyJ, 3, .inr (.inl v_g1)))] → va_S A s.heap H locs → lv_has ls 6 [(0, .ref h_me), (1, .ref h_g1), (2, .long l2), (4, .int l4)] → W p l e rmX5_goOn s m args below meth c H locs 0 0 (MQ below (QV (dC, dI) A [(h_me, .inr (5, [z_pageLength, z_page, .int v_order, .ref h_told, z_startAt, z_limit, z_plantsRead, z_ticksEver, z_newOrder, z_part, z_numbers, z_isWhole, z_isBelow, z_newTold, .ref h_nextAt, z_tried, z_rows, z_below, z_inputBy, z_stateBy, z_goal, z_planTicks, z_planAt, z_inputs, z_ends, z_wanted, z_h])), (h_nextAt, .inl (cyJ, 3, .inr (.inl q_nextAt))), (h_told, .inl (cyI, 15, .inl v_told)), (h_g1, .inl (cyJ, 3, .inr (.inl q_g1)))]) args s 0 0 A) (F0 m 3 ls [])) : ∀ (n : Nat) (l2 : Int64) (l4 : Int32) (l5 : Int32) (v_order : Int32) (v_nextAt : Nat → Int64) (v_told : Nat → Int32) (v_g1 : Nat → Int64), F_X5_goOn_35 k_3 n l2 l4 l5 v_order v_nextAt v_told v_g1 = some (q_nextAt, q_g1) → ∀ {H : Heap} {locs : List Loc} {ls : Array Slot}, va_P (dC, dI) vwCl [(h_me, .inr (5, [z_pageLength, z_page, .int v_order, .ref h_told, z_startAt, z_limit, z_plantsRead, z_ticksEver, z_newOrder, z_part, z_numbers, z_isWhole, z_isBelow, z_newTold, .ref h_nextAt, z_tried, z_rows, z_below, z_inputBy, z_stateBy, z_goal, z_planTicks, z_planAt, z_inputs, z_ends, z_wanted, z_h])), (h_nextAt, .inl (cyJ, 3, .inr (.inl v_nextAt))), (h_told, .inl (cyI, 15, .inl v_told)), (h_g1, .inl (cyJ, 3, .inr (.inl v_g1)))] H → va_D A [(h_me, .inr (5, [z_pageLength, z_page, .int v_order, .ref h_told, z_startAt, z_limit, z_plantsRead, z_ticksEver, z_newOrder, z_part, z_numbers, z_isWhole, z_isBelow, z_newTold, .ref h_nextAt, z_tried, z_rows, z_below, z_inputBy, z_stateBy, z_goal, z_planTicks, z_planAt, z_inputs, z_ends, z_wanted, z_h])), (h_nextAt, .inl (cyJ, 3, .inr (.inl v_nextAt))), (h_told, .inl (cyI, 15, .inl v_told)), (h_g1, .inl (cyJ, 3, .inr (.inl v_g1)))] → va_S A s.heap H locs → lv_has ls 6 [(0, .ref h_me), (1, .ref h_g1), (2, .long l2), (4, .int l4), (5, .int l5)] → W p l e rmX5_goOn s m args below meth c H locs 0 0 (MQ below (QV (dC, dI) A [(h_me, .inr (5, [z_pageLength, z_page, .int v_order, .ref h_told, z_startAt, z_limit, z_plantsRead, z_ticksEver, z_newOrder, z_part, z_numbers, z_isWhole, z_isBelow, z_newTold, .ref h_nextAt, z_tried, z_rows, z_below, z_inputBy, z_stateBy, z_goal, z_planTicks, z_planAt, z_inputs, z_ends, z_wanted, z_h])), (h_nextAt, .inl (cyJ, 3, .inr (.inl q_nextAt))), (h_told, .inl (cyI, 15, .inl v_told)), (h_g1, .inl (cyJ, 3, .inr (.inl q_g1)))]) args s 0 0 A) (F0 m 35 ls []) := by
  obtain ⟨hx, hb, hr, hml, hown, hts, hKK, hlocks⟩ := id C0
  have hK := hKK.1
  intro n
  induction n with
  | zero => intro l2 l4 l5 v_order v_nextAt v_told v_g1 hF; rw [F_X5_goOn_35] at hF; cases hF
  | succ n ih =>
      intro l2 l4 l5 v_order v_nextAt v_told v_g1 hF H locs ls hP hD hS hl
      rw [F_X5_goOn_35] at hF
      refine lv_iload hx hb dX5_goOn_35 (lv_at hl 4 rfl) ?_
      refine lv_aload_n hx hb dX5_goOn_37 rfl (lv_at hl 0 rfl) ?_
      refine my_get (D := (dC, dI)) (ci := 5) (v := .int v_order) (C := RX5) (T := TX5) (N := 27) hx hb hts iX5_goOn_X5 hown hK hP 0 rfl rfl 2 (by decide) (hts _ mX5_goOn_1) rfl rfl dX5_goOn_38 ?_
      refine lv_icmp_ge (tgt := 78) hx hb dX5_goOn_41 (by decide) (fun c_ => ?_) (fun c_ => ?_)
      · have hF := gif c_ hF
        refine lv_iinc (v := (l4 + (1 : Int32))) (lv' := [(4, .int (l4 + (1 : Int32))), (0, .ref h_me), (1, .ref h_g1), (2, .long l2), (5, .int l5)]) hx hb dX5_goOn_78 hl (k := 3) rfl (by rfl) (by decide) rfl (fun ls hl => ?_)
        refine lv_goto (tgt := 3) hx hb dX5_goOn_81 (by decide) ?_
        exact hk_3 l2 (l4 + (1 : Int32)) v_order v_nextAt v_told v_g1 hF hP hD hS (lv_sub hl [1, 2, 3, 0] rfl)
      · have hF := gel c_ hF
        refine lv_aload_n hx hb dX5_goOn_44 rfl (lv_at hl 0 rfl) ?_
        refine my_get (D := (dC, dI)) (ci := 5) (v := .ref h_nextAt) (C := RX5) (T := TX5) (N := 27) hx hb hts iX5_goOn_X5 hown hK hP 0 rfl rfl 14 (by decide) (hts _ mX5_goOn_2) rfl rfl dX5_goOn_45 ?_
        refine lv_iload hx hb dX5_goOn_48 (lv_at hl 3 rfl) ?_
        refine lv_dup2_11 hx hb dX5_goOn_50 rfl rfl ?_
        obtain ⟨g_1, hF⟩ := gno hF
        refine va_lald hx hb hK hP 1 1 rfl rfl g_1 dX5_goOn_51 ?_
        refine lv_aload_n hx hb dX5_goOn_52 rfl (lv_at hl 0 rfl) ?_
        refine my_get (D := (dC, dI)) (ci := 5) (v := .ref h_told) (C := RX5) (T := TX5) (N := 27) hx hb hts iX5_goOn_X5 hown hK hP 0 rfl rfl 3 (by decide) (hts _ mX5_goOn_3) rfl rfl dX5_goOn_53 ?_
        refine lv_iconst (v := (3 : Int32)) hx hb dX5_goOn_56 (by decide) ?_
        refine lv_iload hx hb dX5_goOn_57 (lv_at hl 3 rfl) ?_
        refine lv_imul hx hb dX5_goOn_59 ?_
        refine lv_iload hx hb dX5_goOn_60 (lv_at hl 4 rfl) ?_
        refine lv_iadd hx hb dX5_goOn_62 ?_
        obtain ⟨g_2, hF⟩ := gno hF
        refine va_iald hx hb hK hP 2 0 rfl rfl g_2 dX5_goOn_63 ?_
        refine lv_i2l hx hb dX5_goOn_64 rfl ?_
        refine lv_aload_n hx hb dX5_goOn_65 rfl (lv_at hl 1 rfl) ?_
        refine lv_iload hx hb dX5_goOn_66 (lv_at hl 4 rfl) ?_
        obtain ⟨g_3, hF⟩ := gno hF
        refine va_lald hx hb hK hP 3 1 rfl rfl g_3 dX5_goOn_68 ?_
        refine lv_lmul hx hb dX5_goOn_69 ?_
        refine lv_ladd hx hb dX5_goOn_70 ?_
        obtain ⟨g_4, hF⟩ := gno hF
        refine my_last (ws' := [(h_me, .inr (5, [z_pageLength, z_page, .int v_order, .ref h_told, z_startAt, z_limit, z_plantsRead, z_ticksEver, z_newOrder, z_part, z_numbers, z_isWhole, z_isBelow, z_newTold, .ref h_nextAt, z_tried, z_rows, z_below, z_inputBy, z_stateBy, z_goal, z_planTicks, z_planAt, z_inputs, z_ends, z_wanted, z_h])), (h_nextAt, .inl (cyJ, 3, .inr (.inl (vp_updL v_nextAt l4.toNatClampNeg ((v_nextAt l4.toNatClampNeg) + ((v_told (((3 : Int32) * l4) + l5).toNatClampNeg).toInt64 * (v_g1 l5.toNatClampNeg))))))), (h_told, .inl (cyI, 15, .inl v_told)), (h_g1, .inl (cyJ, 3, .inr (.inl v_g1)))]) hx hb hK hP hD hS 1 1 rfl rfl g_4 dX5_goOn_71 rfl (fun H locs hP hD hS => ?_)
        refine lv_iinc (v := (l5 + (1 : Int32))) (lv' := [(5, .int (l5 + (1 : Int32))), (0, .ref h_me), (1, .ref h_g1), (2, .long l2), (4, .int l4)]) hx hb dX5_goOn_72 hl (k := 4) rfl (by rfl) (by decide) rfl (fun ls hl => ?_)
        refine lv_goto (tgt := 35) hx hb dX5_goOn_75 (by decide) ?_
        exact ih l2 l4 (l5 + (1 : Int32)) v_order (vp_updL v_nextAt l4.toNatClampNeg ((v_nextAt l4.toNatClampNeg) + ((v_told (((3 : Int32) * l4) + l5).toNatClampNeg).toInt64 * (v_g1 l5.toNatClampNeg)))) v_told v_g1 hF hP hD hS (lv_sub hl [1, 2, 3, 4, 0] rfl)
set_option maxHeartbeats 4000000 in
set_option maxRecDepth 100000 in
theorem t_X5_goOn_3 {p : Program} {l : Launch} {e : Env} {s : State} {m : MethodId} {args : Array Value} {below : List Frame} {meth : Method} {c : Code} {dC : Nat → ClassId} {dI : Nat → Nat → Nat} {cyI cyJ cyA : ClassId} {A : Nat → Prop} {h_me h_nextAt h_told h_g1 : Nat} {z_pageLength z_page z_startAt z_limit z_plantsRead z_ticksEver z_newOrder z_part z_numbers z_isWhole z_isBelow z_newTold z_tried z_rows z_below z_inputBy z_stateBy z_goal z_planTicks z_planAt z_inputs z_ends z_wanted z_h : Value} {q_nextAt : Nat → Int64} {q_g1 : Nat → Int64} (C0 : Cx p s m args meth c cX5_goOn 6 none wsX5_goOn RX5 (dC, dI) cyI cyJ cyA) (hA : ∀ q : Nat, s.heap.size ≤ q → A q)  : ∀ (n : Nat) (l2 : Int64) (l4 : Int32) (v_order : Int32) (v_nextAt : Nat → Int64) (v_told : Nat → Int32) (v_g1 : Nat → Int64), F_X5_goOn_3  n l2 l4 v_order v_nextAt v_told v_g1 = some (q_nextAt, q_g1) → ∀ {H : Heap} {locs : List Loc} {ls : Array Slot}, va_P (dC, dI) vwCl [(h_me, .inr (5, [z_pageLength, z_page, .int v_order, .ref h_told, z_startAt, z_limit, z_plantsRead, z_ticksEver, z_newOrder, z_part, z_numbers, z_isWhole, z_isBelow, z_newTold, .ref h_nextAt, z_tried, z_rows, z_below, z_inputBy, z_stateBy, z_goal, z_planTicks, z_planAt, z_inputs, z_ends, z_wanted, z_h])), (h_nextAt, .inl (cyJ, 3, .inr (.inl v_nextAt))), (h_told, .inl (cyI, 15, .inl v_told)), (h_g1, .inl (cyJ, 3, .inr (.inl v_g1)))] H → va_D A [(h_me, .inr (5, [z_pageLength, z_page, .int v_order, .ref h_told, z_startAt, z_limit, z_plantsRead, z_ticksEver, z_newOrder, z_part, z_numbers, z_isWhole, z_isBelow, z_newTold, .ref h_nextAt, z_tried, z_rows, z_below, z_inputBy, z_stateBy, z_goal, z_planTicks, z_planAt, z_inputs, z_ends, z_wanted, z_h])), (h_nextAt, .inl (cyJ, 3, .inr (.inl v_nextAt))), (h_told, .inl (cyI, 15, .inl v_told)), (h_g1, .inl (cyJ, 3, .inr (.inl v_g1)))] → va_S A s.heap H locs → lv_has ls 6 [(0, .ref h_me), (1, .ref h_g1), (2, .long l2), (4, .int l4)] → W p l e rmX5_goOn s m args below meth c H locs 0 0 (MQ below (QV (dC, dI) A [(h_me, .inr (5, [z_pageLength, z_page, .int v_order, .ref h_told, z_startAt, z_limit, z_plantsRead, z_ticksEver, z_newOrder, z_part, z_numbers, z_isWhole, z_isBelow, z_newTold, .ref h_nextAt, z_tried, z_rows, z_below, z_inputBy, z_stateBy, z_goal, z_planTicks, z_planAt, z_inputs, z_ends, z_wanted, z_h])), (h_nextAt, .inl (cyJ, 3, .inr (.inl q_nextAt))), (h_told, .inl (cyI, 15, .inl v_told)), (h_g1, .inl (cyJ, 3, .inr (.inl q_g1)))]) args s 0 0 A) (F0 m 3 ls []) := by
  obtain ⟨hx, hb, hr, hml, hown, hts, hKK, hlocks⟩ := id C0
  have hK := hKK.1
  intro n
  induction n with
  | zero => intro l2 l4 v_order v_nextAt v_told v_g1 hF; rw [F_X5_goOn_3] at hF; cases hF
  | succ n ih =>
      intro l2 l4 v_order v_nextAt v_told v_g1 hF H locs ls hP hD hS hl
      rw [F_X5_goOn_3] at hF
      refine lv_iload hx hb dX5_goOn_3 (lv_at hl 3 rfl) ?_
      refine lv_aload_n hx hb dX5_goOn_5 rfl (lv_at hl 0 rfl) ?_
      refine my_get (D := (dC, dI)) (ci := 5) (v := .int v_order) (C := RX5) (T := TX5) (N := 27) hx hb hts iX5_goOn_X5 hown hK hP 0 rfl rfl 2 (by decide) (hts _ mX5_goOn_1) rfl rfl dX5_goOn_6 ?_
      refine lv_icmp_ge (tgt := 84) hx hb dX5_goOn_9 (by decide) (fun c_ => ?_) (fun c_ => ?_)
      · have hF := gif c_ hF
        refine lv_iconst (v := (0 : Int32)) hx hb dX5_goOn_84 (by decide) ?_
        refine lv_istore (lv' := [(4, .int (0 : Int32)), (0, .ref h_me), (1, .ref h_g1), (2, .long l2)]) hx hb dX5_goOn_85 hl (by decide) rfl (fun ls hl => ?_)
        exact t_X5_goOn_87 C0 hA   3000 (0 : Int32) v_order v_nextAt v_told v_g1 hF hP hD hS (lv_sub hl [1, 2, 0] rfl)
      · have hF := gel c_ hF
        refine lv_aload_n hx hb dX5_goOn_12 rfl (lv_at hl 0 rfl) ?_
        refine my_get (D := (dC, dI)) (ci := 5) (v := .ref h_nextAt) (C := RX5) (T := TX5) (N := 27) hx hb hts iX5_goOn_X5 hown hK hP 0 rfl rfl 14 (by decide) (hts _ mX5_goOn_2) rfl rfl dX5_goOn_13 ?_
        refine lv_iload hx hb dX5_goOn_16 (lv_at hl 3 rfl) ?_
        refine lv_aload_n hx hb dX5_goOn_18 rfl (lv_at hl 0 rfl) ?_
        refine my_get (D := (dC, dI)) (ci := 5) (v := .ref h_told) (C := RX5) (T := TX5) (N := 27) hx hb hts iX5_goOn_X5 hown hK hP 0 rfl rfl 3 (by decide) (hts _ mX5_goOn_3) rfl rfl dX5_goOn_19 ?_
        refine lv_bipush (v := (9 : Int32)) hx hb dX5_goOn_22 (by decide) ?_
        refine lv_iload hx hb dX5_goOn_24 (lv_at hl 3 rfl) ?_
        refine lv_iadd hx hb dX5_goOn_26 ?_
        obtain ⟨g_1, hF⟩ := gno hF
        refine va_iald hx hb hK hP 2 0 rfl rfl g_1 dX5_goOn_27 ?_
        refine lv_i2l hx hb dX5_goOn_28 rfl ?_
        refine lv_lload_n hx hb dX5_goOn_29 rfl (lv_at hl 2 rfl) ?_
        refine lv_lmul hx hb dX5_goOn_30 ?_
        obtain ⟨g_2, hF⟩ := gno hF
        refine my_last (ws' := [(h_me, .inr (5, [z_pageLength, z_page, .int v_order, .ref h_told, z_startAt, z_limit, z_plantsRead, z_ticksEver, z_newOrder, z_part, z_numbers, z_isWhole, z_isBelow, z_newTold, .ref h_nextAt, z_tried, z_rows, z_below, z_inputBy, z_stateBy, z_goal, z_planTicks, z_planAt, z_inputs, z_ends, z_wanted, z_h])), (h_nextAt, .inl (cyJ, 3, .inr (.inl (vp_updL v_nextAt l4.toNatClampNeg ((v_told ((9 : Int32) + l4).toNatClampNeg).toInt64 * l2))))), (h_told, .inl (cyI, 15, .inl v_told)), (h_g1, .inl (cyJ, 3, .inr (.inl v_g1)))]) hx hb hK hP hD hS 1 1 rfl rfl g_2 dX5_goOn_31 rfl (fun H locs hP hD hS => ?_)
        refine lv_iconst (v := (0 : Int32)) hx hb dX5_goOn_32 (by decide) ?_
        refine lv_istore (lv' := [(5, .int (0 : Int32)), (0, .ref h_me), (1, .ref h_g1), (2, .long l2), (4, .int l4)]) hx hb dX5_goOn_33 hl (by decide) rfl (fun ls hl => ?_)
        exact t_X5_goOn_35 C0 hA (fun l2 l4 v_order v_nextAt v_told v_g1 => F_X5_goOn_3  n l2 l4 v_order v_nextAt v_told v_g1) ih 3000 l2 l4 (0 : Int32) v_order (vp_updL v_nextAt l4.toNatClampNeg ((v_told ((9 : Int32) + l4).toNatClampNeg).toInt64 * l2)) v_told v_g1 hF hP hD hS (lv_sub hl [1, 2, 3, 4, 0] rfl)
set_option maxHeartbeats 4000000 in
set_option maxRecDepth 100000 in
theorem c_X5_goOn (l : Launch) (dC : Nat → ClassId) (dI : Nat → Nat → Nat) (cyI cyJ cyA : ClassId) (h_me h_nextAt h_told h_g1 : Nat) (z_pageLength z_page z_startAt z_limit z_plantsRead z_ticksEver z_newOrder z_part z_numbers z_isWhole z_isBelow z_newTold z_tried z_rows z_below z_inputBy z_stateBy z_goal z_planTicks z_planAt z_inputs z_ends z_wanted z_h : Value) (v_order : Int32) (v_nextAt : Nat → Int64) (v_told : Nat → Int32) (v_g1 : Nat → Int64) (l2 : Int64) {q_nextAt : Nat → Int64} {q_g1 : Nat → Int64} (hF : F_X5_goOn l2 v_order v_nextAt v_told v_g1 = some (q_nextAt, q_g1)) (sz : Nat) : Met l yX5_goOn wsX5_goOn rmX5_goOn (va_Pc [.ref h_me, .ref h_g1, .long l2] (PC (dC, dI) cyI cyJ cyA [(h_me, .inr (5, [z_pageLength, z_page, .int v_order, .ref h_told, z_startAt, z_limit, z_plantsRead, z_ticksEver, z_newOrder, z_part, z_numbers, z_isWhole, z_isBelow, z_newTold, .ref h_nextAt, z_tried, z_rows, z_below, z_inputBy, z_stateBy, z_goal, z_planTicks, z_planAt, z_inputs, z_ends, z_wanted, z_h])), (h_nextAt, .inl (cyJ, 3, .inr (.inl v_nextAt))), (h_told, .inl (cyI, 15, .inl v_told)), (h_g1, .inl (cyJ, 3, .inr (.inl v_g1)))] sz)) (QV (dC, dI) (va_A [(h_me, .inr (5, [z_pageLength, z_page, .int v_order, .ref h_told, z_startAt, z_limit, z_plantsRead, z_ticksEver, z_newOrder, z_part, z_numbers, z_isWhole, z_isBelow, z_newTold, .ref h_nextAt, z_tried, z_rows, z_below, z_inputBy, z_stateBy, z_goal, z_planTicks, z_planAt, z_inputs, z_ends, z_wanted, z_h])), (h_nextAt, .inl (cyJ, 3, .inr (.inl v_nextAt))), (h_told, .inl (cyI, 15, .inl v_told)), (h_g1, .inl (cyJ, 3, .inr (.inl v_g1)))] sz) [(h_me, .inr (5, [z_pageLength, z_page, .int v_order, .ref h_told, z_startAt, z_limit, z_plantsRead, z_ticksEver, z_newOrder, z_part, z_numbers, z_isWhole, z_isBelow, z_newTold, .ref h_nextAt, z_tried, z_rows, z_below, z_inputBy, z_stateBy, z_goal, z_planTicks, z_planAt, z_inputs, z_ends, z_wanted, z_h])), (h_nextAt, .inl (cyJ, 3, .inr (.inl q_nextAt))), (h_told, .inl (cyI, 15, .inl v_told)), (h_g1, .inl (cyJ, 3, .inr (.inl q_g1)))]) 0 0 (va_A [(h_me, .inr (5, [z_pageLength, z_page, .int v_order, .ref h_told, z_startAt, z_limit, z_plantsRead, z_ticksEver, z_newOrder, z_part, z_numbers, z_isWhole, z_isBelow, z_newTold, .ref h_nextAt, z_tried, z_rows, z_below, z_inputBy, z_stateBy, z_goal, z_planTicks, z_planAt, z_inputs, z_ends, z_wanted, z_h])), (h_nextAt, .inl (cyJ, 3, .inr (.inl v_nextAt))), (h_told, .inl (cyI, 15, .inl v_told)), (h_g1, .inl (cyJ, 3, .inr (.inl v_g1)))] sz) := by
  refine Met.ofW (cc := cX5_goOn) (maxL := 6) (ret := none) (by decide) rfl ?_
  intro p e s m args below meth c s₁ B hml hv
  obtain ⟨rfl, hsz, hP, hKK, hD0⟩ := hv
  have hx := B.exec
  have hb := B.bytes
  have hr := B.returns
  have hts := atoms_spec (ws := wsX5_goOn) B.pre
  have hown : s.vm.findClass RX5 = some m.cls := findClass_of_methodNamed B.named
  have hlocks := B.notSynchronized
  have C0 : Cx p s m ([.ref h_me, .ref h_g1, .long l2] : List Value).toArray meth c cX5_goOn 6 none wsX5_goOn RX5 (dC, dI) cyI cyJ cyA := ⟨hx, hb, hr, hml, hown, hts, hKK, hlocks⟩
  have hK := hKK.1
  subst hsz
  have hD := hD0.self (sz := s.heap.size)
  generalize hAe : va_A [(h_me, .inr (5, [z_pageLength, z_page, .int v_order, .ref h_told, z_startAt, z_limit, z_plantsRead, z_ticksEver, z_newOrder, z_part, z_numbers, z_isWhole, z_isBelow, z_newTold, .ref h_nextAt, z_tried, z_rows, z_below, z_inputBy, z_stateBy, z_goal, z_planTicks, z_planAt, z_inputs, z_ends, z_wanted, z_h])), (h_nextAt, .inl (cyJ, 3, .inr (.inl v_nextAt))), (h_told, .inl (cyI, 15, .inl v_told)), (h_g1, .inl (cyJ, 3, .inr (.inl v_g1)))] s.heap.size = A at hD ⊢
  have hA : ∀ q : Nat, s.heap.size ≤ q → A q := fun q h => by rw [← hAe]; exact Or.inr h
  have hS : va_S A s.heap s.heap [] := va_S.rf
  have hl := lv_entry ([.ref h_me, .ref h_g1, .long l2]) (n := 6) (Nat.le_of_ble_eq_true rfl)
  rw [lg_entry_eq]
  generalize (lg_sl ([.ref h_me, .ref h_g1, .long l2]) ++ List.replicate (6 - (lg_sl ([.ref h_me, .ref h_g1, .long l2])).length) Slot.unset).toArray = ls at hl ⊢
  have hl : lv_has ls 6 [(0, .ref h_me), (1, .ref h_g1), (2, .long l2)] := hl
  unfold F_X5_goOn at hF
  refine lv_iconst (v := (0 : Int32)) hx hb dX5_goOn_0 (by decide) ?_
  refine lv_istore (lv' := [(4, .int (0 : Int32)), (0, .ref h_me), (1, .ref h_g1), (2, .long l2)]) hx hb dX5_goOn_1 hl (by decide) rfl (fun ls hl => ?_)
  exact t_X5_goOn_3 C0 hA   3000 l2 (0 : Int32) v_order v_nextAt v_told v_g1 hF hP hD hS (lv_sub hl [1, 2, 3, 0] rfl)
/-! RestGainsModel.seenNow ()J -/
def rmX5_seenNow : Room := { frames := 0, cells := 0, slots := 0, locals := 0 }
def F_X5_seenNow_4  : Nat → Int64 → Int32 → Int32 → (Nat → Int32) → (Nat → Int64) → Option (Int64)
  | 0, _, _, _, _, _ => none
  | n + 1, l1, l3, v_order, v_told, v_startAt => if v_order ≤ l3 then (some l1) else (if ((12 : Int32) + l3) < 0 ∨ 15 ≤ ((12 : Int32) + l3).toNatClampNeg then none else if l3 < 0 ∨ 3 ≤ l3.toNatClampNeg then none else F_X5_seenNow_4  n (l1 + ((v_told ((12 : Int32) + l3).toNatClampNeg).toInt64 * (v_startAt l3.toNatClampNeg))) (l3 + (1 : Int32)) v_order v_told v_startAt)
def F_X5_seenNow (v_order : Int32) (v_told : Nat → Int32) (v_startAt : Nat → Int64) : Option (Int64) :=
  F_X5_seenNow_4  3000 (0 : Int64) (0 : Int32) v_order v_told v_startAt
set_option maxHeartbeats 4000000 in
set_option maxRecDepth 100000 in
theorem t_X5_seenNow_4 {p : Program} {l : Launch} {e : Env} {s : State} {m : MethodId} {args : Array Value} {below : List Frame} {meth : Method} {c : Code} {dC : Nat → ClassId} {dI : Nat → Nat → Nat} {cyI cyJ cyA : ClassId} {A : Nat → Prop} {h_me h_told h_startAt : Nat} {z_pageLength z_page z_limit z_plantsRead z_ticksEver z_newOrder z_part z_numbers z_isWhole z_isBelow z_newTold z_nextAt z_tried z_rows z_below z_inputBy z_stateBy z_goal z_planTicks z_planAt z_inputs z_ends z_wanted z_h : Value} {r : Int64} (C0 : Cx p s m args meth c cX5_seenNow 4 (some .long) wsX5_seenNow RX5 (dC, dI) cyI cyJ cyA) (hA : ∀ q : Nat, s.heap.size ≤ q → A q)  : ∀ (n : Nat) (l1 : Int64) (l3 : Int32) (v_order : Int32) (v_told : Nat → Int32) (v_startAt : Nat → Int64), F_X5_seenNow_4  n l1 l3 v_order v_told v_startAt = some r → ∀ {H : Heap} {locs : List Loc} {ls : Array Slot}, va_P (dC, dI) vwCl [(h_me, .inr (5, [z_pageLength, z_page, .int v_order, .ref h_told, .ref h_startAt, z_limit, z_plantsRead, z_ticksEver, z_newOrder, z_part, z_numbers, z_isWhole, z_isBelow, z_newTold, z_nextAt, z_tried, z_rows, z_below, z_inputBy, z_stateBy, z_goal, z_planTicks, z_planAt, z_inputs, z_ends, z_wanted, z_h])), (h_told, .inl (cyI, 15, .inl v_told)), (h_startAt, .inl (cyJ, 3, .inr (.inl v_startAt)))] H → va_D A [(h_me, .inr (5, [z_pageLength, z_page, .int v_order, .ref h_told, .ref h_startAt, z_limit, z_plantsRead, z_ticksEver, z_newOrder, z_part, z_numbers, z_isWhole, z_isBelow, z_newTold, z_nextAt, z_tried, z_rows, z_below, z_inputBy, z_stateBy, z_goal, z_planTicks, z_planAt, z_inputs, z_ends, z_wanted, z_h])), (h_told, .inl (cyI, 15, .inl v_told)), (h_startAt, .inl (cyJ, 3, .inr (.inl v_startAt)))] → va_S A s.heap H locs → lv_has ls 4 [(0, .ref h_me), (1, .long l1), (3, .int l3)] → W p l e rmX5_seenNow s m args below meth c H locs 0 0 (MQ below (QL (dC, dI) A [(h_me, .inr (5, [z_pageLength, z_page, .int v_order, .ref h_told, .ref h_startAt, z_limit, z_plantsRead, z_ticksEver, z_newOrder, z_part, z_numbers, z_isWhole, z_isBelow, z_newTold, z_nextAt, z_tried, z_rows, z_below, z_inputBy, z_stateBy, z_goal, z_planTicks, z_planAt, z_inputs, z_ends, z_wanted, z_h])), (h_told, .inl (cyI, 15, .inl v_told)), (h_startAt, .inl (cyJ, 3, .inr (.inl v_startAt)))] r) args s 0 0 A) (F0 m 4 ls []) := by
  obtain ⟨hx, hb, hr, hml, hown, hts, hKK, hlocks⟩ := id C0
  have hK := hKK.1
  intro n
  induction n with
  | zero => intro l1 l3 v_order v_told v_startAt hF; rw [F_X5_seenNow_4] at hF; cases hF
  | succ n ih =>
      intro l1 l3 v_order v_told v_startAt hF H locs ls hP hD hS hl
      rw [F_X5_seenNow_4] at hF
      refine lv_iload_n hx hb dX5_seenNow_4 rfl (lv_at hl 2 rfl) ?_
      refine lv_aload_n hx hb dX5_seenNow_5 rfl (lv_at hl 0 rfl) ?_
      refine my_get (D := (dC, dI)) (ci := 5) (v := .int v_order) (C := RX5) (T := TX5) (N := 27) hx hb hts iX5_seenNow_X5 hown hK hP 0 rfl rfl 2 (by decide) (hts _ mX5_seenNow_1) rfl rfl dX5_seenNow_6 ?_
      refine lv_icmp_ge (tgt := 38) hx hb dX5_seenNow_9 (by decide) (fun c_ => ?_) (fun c_ => ?_)
      · have hF := gif c_ hF
        refine lv_lload_n hx hb dX5_seenNow_38 rfl (lv_at hl 1 rfl) ?_
        cases hF
        exact W.lret hx hb hr (fun t ht hW => ⟨⟨_, (), rfl, rfl, by rw [ht]; exact hP, hD⟩, hS.F ht⟩) hS.2.2 dX5_seenNow_39
      · have hF := gel c_ hF
        refine lv_lload_n hx hb dX5_seenNow_12 rfl (lv_at hl 1 rfl) ?_
        refine lv_aload_n hx hb dX5_seenNow_13 rfl (lv_at hl 0 rfl) ?_
        refine my_get (D := (dC, dI)) (ci := 5) (v := .ref h_told) (C := RX5) (T := TX5) (N := 27) hx hb hts iX5_seenNow_X5 hown hK hP 0 rfl rfl 3 (by decide) (hts _ mX5_seenNow_2) rfl rfl dX5_seenNow_14 ?_
        refine lv_bipush (v := (12 : Int32)) hx hb dX5_seenNow_17 (by decide) ?_
        refine lv_iload_n hx hb dX5_seenNow_19 rfl (lv_at hl 2 rfl) ?_
        refine lv_iadd hx hb dX5_seenNow_20 ?_
        obtain ⟨g_1, hF⟩ := gno hF
        refine va_iald hx hb hK hP 1 0 rfl rfl g_1 dX5_seenNow_21 ?_
        refine lv_i2l hx hb dX5_seenNow_22 rfl ?_
        refine lv_aload_n hx hb dX5_seenNow_23 rfl (lv_at hl 0 rfl) ?_
        refine my_get (D := (dC, dI)) (ci := 5) (v := .ref h_startAt) (C := RX5) (T := TX5) (N := 27) hx hb hts iX5_seenNow_X5 hown hK hP 0 rfl rfl 4 (by decide) (hts _ mX5_seenNow_3) rfl rfl dX5_seenNow_24 ?_
        refine lv_iload_n hx hb dX5_seenNow_27 rfl (lv_at hl 2 rfl) ?_
        obtain ⟨g_2, hF⟩ := gno hF
        refine va_lald hx hb hK hP 2 1 rfl rfl g_2 dX5_seenNow_28 ?_
        refine lv_lmul hx hb dX5_seenNow_29 ?_
        refine lv_ladd hx hb dX5_seenNow_30 ?_
        refine lv_lstore_n (lv' := [(1, .long (l1 + ((v_told ((12 : Int32) + l3).toNatClampNeg).toInt64 * (v_startAt l3.toNatClampNeg)))), (0, .ref h_me), (3, .int l3)]) hx hb dX5_seenNow_31 rfl hl (by decide) rfl (fun ls hl => ?_)
        refine lv_iinc (v := (l3 + (1 : Int32))) (lv' := [(3, .int (l3 + (1 : Int32))), (1, .long (l1 + ((v_told ((12 : Int32) + l3).toNatClampNeg).toInt64 * (v_startAt l3.toNatClampNeg)))), (0, .ref h_me)]) hx hb dX5_seenNow_32 hl (k := 2) rfl (by rfl) (by decide) rfl (fun ls hl => ?_)
        refine lv_goto (tgt := 4) hx hb dX5_seenNow_35 (by decide) ?_
        exact ih (l1 + ((v_told ((12 : Int32) + l3).toNatClampNeg).toInt64 * (v_startAt l3.toNatClampNeg))) (l3 + (1 : Int32)) v_order v_told v_startAt hF hP hD hS (lv_sub hl [2, 1, 0] rfl)
set_option maxHeartbeats 4000000 in
set_option maxRecDepth 100000 in
theorem c_X5_seenNow (l : Launch) (dC : Nat → ClassId) (dI : Nat → Nat → Nat) (cyI cyJ cyA : ClassId) (h_me h_told h_startAt : Nat) (z_pageLength z_page z_limit z_plantsRead z_ticksEver z_newOrder z_part z_numbers z_isWhole z_isBelow z_newTold z_nextAt z_tried z_rows z_below z_inputBy z_stateBy z_goal z_planTicks z_planAt z_inputs z_ends z_wanted z_h : Value) (v_order : Int32) (v_told : Nat → Int32) (v_startAt : Nat → Int64)  {r : Int64} (hF : F_X5_seenNow v_order v_told v_startAt = some r) (sz : Nat) : Met l yX5_seenNow wsX5_seenNow rmX5_seenNow (va_Pc [.ref h_me] (PC (dC, dI) cyI cyJ cyA [(h_me, .inr (5, [z_pageLength, z_page, .int v_order, .ref h_told, .ref h_startAt, z_limit, z_plantsRead, z_ticksEver, z_newOrder, z_part, z_numbers, z_isWhole, z_isBelow, z_newTold, z_nextAt, z_tried, z_rows, z_below, z_inputBy, z_stateBy, z_goal, z_planTicks, z_planAt, z_inputs, z_ends, z_wanted, z_h])), (h_told, .inl (cyI, 15, .inl v_told)), (h_startAt, .inl (cyJ, 3, .inr (.inl v_startAt)))] sz)) (QL (dC, dI) (va_A [(h_me, .inr (5, [z_pageLength, z_page, .int v_order, .ref h_told, .ref h_startAt, z_limit, z_plantsRead, z_ticksEver, z_newOrder, z_part, z_numbers, z_isWhole, z_isBelow, z_newTold, z_nextAt, z_tried, z_rows, z_below, z_inputBy, z_stateBy, z_goal, z_planTicks, z_planAt, z_inputs, z_ends, z_wanted, z_h])), (h_told, .inl (cyI, 15, .inl v_told)), (h_startAt, .inl (cyJ, 3, .inr (.inl v_startAt)))] sz) [(h_me, .inr (5, [z_pageLength, z_page, .int v_order, .ref h_told, .ref h_startAt, z_limit, z_plantsRead, z_ticksEver, z_newOrder, z_part, z_numbers, z_isWhole, z_isBelow, z_newTold, z_nextAt, z_tried, z_rows, z_below, z_inputBy, z_stateBy, z_goal, z_planTicks, z_planAt, z_inputs, z_ends, z_wanted, z_h])), (h_told, .inl (cyI, 15, .inl v_told)), (h_startAt, .inl (cyJ, 3, .inr (.inl v_startAt)))] r) 0 0 (va_A [(h_me, .inr (5, [z_pageLength, z_page, .int v_order, .ref h_told, .ref h_startAt, z_limit, z_plantsRead, z_ticksEver, z_newOrder, z_part, z_numbers, z_isWhole, z_isBelow, z_newTold, z_nextAt, z_tried, z_rows, z_below, z_inputBy, z_stateBy, z_goal, z_planTicks, z_planAt, z_inputs, z_ends, z_wanted, z_h])), (h_told, .inl (cyI, 15, .inl v_told)), (h_startAt, .inl (cyJ, 3, .inr (.inl v_startAt)))] sz) := by
  refine Met.ofW (cc := cX5_seenNow) (maxL := 4) (ret := (some .long)) (by decide) rfl ?_
  intro p e s m args below meth c s₁ B hml hv
  obtain ⟨rfl, hsz, hP, hKK, hD0⟩ := hv
  have hx := B.exec
  have hb := B.bytes
  have hr := B.returns
  have hts := atoms_spec (ws := wsX5_seenNow) B.pre
  have hown : s.vm.findClass RX5 = some m.cls := findClass_of_methodNamed B.named
  have hlocks := B.notSynchronized
  have C0 : Cx p s m ([.ref h_me] : List Value).toArray meth c cX5_seenNow 4 (some .long) wsX5_seenNow RX5 (dC, dI) cyI cyJ cyA := ⟨hx, hb, hr, hml, hown, hts, hKK, hlocks⟩
  have hK := hKK.1
  subst hsz
  have hD := hD0.self (sz := s.heap.size)
  generalize hAe : va_A [(h_me, .inr (5, [z_pageLength, z_page, .int v_order, .ref h_told, .ref h_startAt, z_limit, z_plantsRead, z_ticksEver, z_newOrder, z_part, z_numbers, z_isWhole, z_isBelow, z_newTold, z_nextAt, z_tried, z_rows, z_below, z_inputBy, z_stateBy, z_goal, z_planTicks, z_planAt, z_inputs, z_ends, z_wanted, z_h])), (h_told, .inl (cyI, 15, .inl v_told)), (h_startAt, .inl (cyJ, 3, .inr (.inl v_startAt)))] s.heap.size = A at hD ⊢
  have hA : ∀ q : Nat, s.heap.size ≤ q → A q := fun q h => by rw [← hAe]; exact Or.inr h
  have hS : va_S A s.heap s.heap [] := va_S.rf
  have hl := lv_entry ([.ref h_me]) (n := 4) (Nat.le_of_ble_eq_true rfl)
  rw [lg_entry_eq]
  generalize (lg_sl ([.ref h_me]) ++ List.replicate (4 - (lg_sl ([.ref h_me])).length) Slot.unset).toArray = ls at hl ⊢
  have hl : lv_has ls 4 [(0, .ref h_me)] := hl
  unfold F_X5_seenNow at hF
  refine lv_lconst (v := (0 : Int64)) hx hb dX5_seenNow_0 (by decide) ?_
  refine lv_lstore_n (lv' := [(1, .long (0 : Int64)), (0, .ref h_me)]) hx hb dX5_seenNow_1 rfl hl (by decide) rfl (fun ls hl => ?_)
  refine lv_iconst (v := (0 : Int32)) hx hb dX5_seenNow_2 (by decide) ?_
  refine lv_istore_n (lv' := [(3, .int (0 : Int32)), (1, .long (0 : Int64)), (0, .ref h_me)]) hx hb dX5_seenNow_3 rfl hl (by decide) rfl (fun ls hl => ?_)
  exact t_X5_seenNow_4 C0 hA   3000 (0 : Int64) (0 : Int32) v_order v_told v_startAt hF hP hD hS (lv_sub hl [2, 1, 0] rfl)
/-! RestGainsModel.layTried ()V -/
def rmX5_layTried : Room := { frames := 0, cells := 0, slots := 0, locals := 0 }
def F_X5_layTried_2  : Nat → Int32 → Int32 → (Nat → Int64) → (Nat → Int64) → Option ((Nat → Int64))
  | 0, _, _, _, _ => none
  | n + 1, l1, v_order, v_tried, v_startAt => if v_order ≤ l1 then (some v_tried) else (if l1 < 0 ∨ 3 ≤ l1.toNatClampNeg then none else if l1 < 0 ∨ 3 ≤ l1.toNatClampNeg then none else F_X5_layTried_2  n (l1 + (1 : Int32)) v_order (vp_updL v_tried l1.toNatClampNeg (v_startAt l1.toNatClampNeg)) v_startAt)
def F_X5_layTried (v_order : Int32) (v_tried : Nat → Int64) (v_startAt : Nat → Int64) : Option ((Nat → Int64)) :=
  F_X5_layTried_2  3000 (0 : Int32) v_order v_tried v_startAt
set_option maxHeartbeats 4000000 in
set_option maxRecDepth 100000 in
theorem t_X5_layTried_2 {p : Program} {l : Launch} {e : Env} {s : State} {m : MethodId} {args : Array Value} {below : List Frame} {meth : Method} {c : Code} {dC : Nat → ClassId} {dI : Nat → Nat → Nat} {cyI cyJ cyA : ClassId} {A : Nat → Prop} {h_me h_tried h_startAt : Nat} {z_pageLength z_page z_told z_limit z_plantsRead z_ticksEver z_newOrder z_part z_numbers z_isWhole z_isBelow z_newTold z_nextAt z_rows z_below z_inputBy z_stateBy z_goal z_planTicks z_planAt z_inputs z_ends z_wanted z_h : Value} {q_tried : Nat → Int64} (C0 : Cx p s m args meth c cX5_layTried 2 none wsX5_layTried RX5 (dC, dI) cyI cyJ cyA) (hA : ∀ q : Nat, s.heap.size ≤ q → A q)  : ∀ (n : Nat) (l1 : Int32) (v_order : Int32) (v_tried : Nat → Int64) (v_startAt : Nat → Int64), F_X5_layTried_2  n l1 v_order v_tried v_startAt = some q_tried → ∀ {H : Heap} {locs : List Loc} {ls : Array Slot}, va_P (dC, dI) vwCl [(h_me, .inr (5, [z_pageLength, z_page, .int v_order, z_told, .ref h_startAt, z_limit, z_plantsRead, z_ticksEver, z_newOrder, z_part, z_numbers, z_isWhole, z_isBelow, z_newTold, z_nextAt, .ref h_tried, z_rows, z_below, z_inputBy, z_stateBy, z_goal, z_planTicks, z_planAt, z_inputs, z_ends, z_wanted, z_h])), (h_tried, .inl (cyJ, 3, .inr (.inl v_tried))), (h_startAt, .inl (cyJ, 3, .inr (.inl v_startAt)))] H → va_D A [(h_me, .inr (5, [z_pageLength, z_page, .int v_order, z_told, .ref h_startAt, z_limit, z_plantsRead, z_ticksEver, z_newOrder, z_part, z_numbers, z_isWhole, z_isBelow, z_newTold, z_nextAt, .ref h_tried, z_rows, z_below, z_inputBy, z_stateBy, z_goal, z_planTicks, z_planAt, z_inputs, z_ends, z_wanted, z_h])), (h_tried, .inl (cyJ, 3, .inr (.inl v_tried))), (h_startAt, .inl (cyJ, 3, .inr (.inl v_startAt)))] → va_S A s.heap H locs → lv_has ls 2 [(0, .ref h_me), (1, .int l1)] → W p l e rmX5_layTried s m args below meth c H locs 0 0 (MQ below (QV (dC, dI) A [(h_me, .inr (5, [z_pageLength, z_page, .int v_order, z_told, .ref h_startAt, z_limit, z_plantsRead, z_ticksEver, z_newOrder, z_part, z_numbers, z_isWhole, z_isBelow, z_newTold, z_nextAt, .ref h_tried, z_rows, z_below, z_inputBy, z_stateBy, z_goal, z_planTicks, z_planAt, z_inputs, z_ends, z_wanted, z_h])), (h_tried, .inl (cyJ, 3, .inr (.inl q_tried))), (h_startAt, .inl (cyJ, 3, .inr (.inl v_startAt)))]) args s 0 0 A) (F0 m 2 ls []) := by
  obtain ⟨hx, hb, hr, hml, hown, hts, hKK, hlocks⟩ := id C0
  have hK := hKK.1
  intro n
  induction n with
  | zero => intro l1 v_order v_tried v_startAt hF; rw [F_X5_layTried_2] at hF; cases hF
  | succ n ih =>
      intro l1 v_order v_tried v_startAt hF H locs ls hP hD hS hl
      rw [F_X5_layTried_2] at hF
      refine lv_iload_n hx hb dX5_layTried_2 rfl (lv_at hl 1 rfl) ?_
      refine lv_aload_n hx hb dX5_layTried_3 rfl (lv_at hl 0 rfl) ?_
      refine my_get (D := (dC, dI)) (ci := 5) (v := .int v_order) (C := RX5) (T := TX5) (N := 27) hx hb hts iX5_layTried_X5 hown hK hP 0 rfl rfl 2 (by decide) (hts _ mX5_layTried_1) rfl rfl dX5_layTried_4 ?_
      refine lv_icmp_ge (tgt := 28) hx hb dX5_layTried_7 (by decide) (fun c_ => ?_) (fun c_ => ?_)
      · have hF := gif c_ hF
        cases hF
        exact W.vret hx hb hr (fun t ht hW => ⟨⟨(), rfl, trivial, by rw [ht]; exact hP, hD⟩, hS.F ht⟩) hS.2.2 dX5_layTried_28
      · have hF := gel c_ hF
        refine lv_aload_n hx hb dX5_layTried_10 rfl (lv_at hl 0 rfl) ?_
        refine my_get (D := (dC, dI)) (ci := 5) (v := .ref h_tried) (C := RX5) (T := TX5) (N := 27) hx hb hts iX5_layTried_X5 hown hK hP 0 rfl rfl 15 (by decide) (hts _ mX5_layTried_2) rfl rfl dX5_layTried_11 ?_
        refine lv_iload_n hx hb dX5_layTried_14 rfl (lv_at hl 1 rfl) ?_
        refine lv_aload_n hx hb dX5_layTried_15 rfl (lv_at hl 0 rfl) ?_
        refine my_get (D := (dC, dI)) (ci := 5) (v := .ref h_startAt) (C := RX5) (T := TX5) (N := 27) hx hb hts iX5_layTried_X5 hown hK hP 0 rfl rfl 4 (by decide) (hts _ mX5_layTried_3) rfl rfl dX5_layTried_16 ?_
        refine lv_iload_n hx hb dX5_layTried_19 rfl (lv_at hl 1 rfl) ?_
        obtain ⟨g_1, hF⟩ := gno hF
        refine va_lald hx hb hK hP 2 1 rfl rfl g_1 dX5_layTried_20 ?_
        obtain ⟨g_2, hF⟩ := gno hF
        refine my_last (ws' := [(h_me, .inr (5, [z_pageLength, z_page, .int v_order, z_told, .ref h_startAt, z_limit, z_plantsRead, z_ticksEver, z_newOrder, z_part, z_numbers, z_isWhole, z_isBelow, z_newTold, z_nextAt, .ref h_tried, z_rows, z_below, z_inputBy, z_stateBy, z_goal, z_planTicks, z_planAt, z_inputs, z_ends, z_wanted, z_h])), (h_tried, .inl (cyJ, 3, .inr (.inl (vp_updL v_tried l1.toNatClampNeg (v_startAt l1.toNatClampNeg))))), (h_startAt, .inl (cyJ, 3, .inr (.inl v_startAt)))]) hx hb hK hP hD hS 1 1 rfl rfl g_2 dX5_layTried_21 rfl (fun H locs hP hD hS => ?_)
        refine lv_iinc (v := (l1 + (1 : Int32))) (lv' := [(1, .int (l1 + (1 : Int32))), (0, .ref h_me)]) hx hb dX5_layTried_22 hl (k := 1) rfl (by rfl) (by decide) rfl (fun ls hl => ?_)
        refine lv_goto (tgt := 2) hx hb dX5_layTried_25 (by decide) ?_
        exact ih (l1 + (1 : Int32)) v_order (vp_updL v_tried l1.toNatClampNeg (v_startAt l1.toNatClampNeg)) v_startAt hF hP hD hS (lv_sub hl [1, 0] rfl)
set_option maxHeartbeats 4000000 in
set_option maxRecDepth 100000 in
theorem c_X5_layTried (l : Launch) (dC : Nat → ClassId) (dI : Nat → Nat → Nat) (cyI cyJ cyA : ClassId) (h_me h_tried h_startAt : Nat) (z_pageLength z_page z_told z_limit z_plantsRead z_ticksEver z_newOrder z_part z_numbers z_isWhole z_isBelow z_newTold z_nextAt z_rows z_below z_inputBy z_stateBy z_goal z_planTicks z_planAt z_inputs z_ends z_wanted z_h : Value) (v_order : Int32) (v_tried : Nat → Int64) (v_startAt : Nat → Int64)  {q_tried : Nat → Int64} (hF : F_X5_layTried v_order v_tried v_startAt = some q_tried) (sz : Nat) : Met l yX5_layTried wsX5_layTried rmX5_layTried (va_Pc [.ref h_me] (PC (dC, dI) cyI cyJ cyA [(h_me, .inr (5, [z_pageLength, z_page, .int v_order, z_told, .ref h_startAt, z_limit, z_plantsRead, z_ticksEver, z_newOrder, z_part, z_numbers, z_isWhole, z_isBelow, z_newTold, z_nextAt, .ref h_tried, z_rows, z_below, z_inputBy, z_stateBy, z_goal, z_planTicks, z_planAt, z_inputs, z_ends, z_wanted, z_h])), (h_tried, .inl (cyJ, 3, .inr (.inl v_tried))), (h_startAt, .inl (cyJ, 3, .inr (.inl v_startAt)))] sz)) (QV (dC, dI) (va_A [(h_me, .inr (5, [z_pageLength, z_page, .int v_order, z_told, .ref h_startAt, z_limit, z_plantsRead, z_ticksEver, z_newOrder, z_part, z_numbers, z_isWhole, z_isBelow, z_newTold, z_nextAt, .ref h_tried, z_rows, z_below, z_inputBy, z_stateBy, z_goal, z_planTicks, z_planAt, z_inputs, z_ends, z_wanted, z_h])), (h_tried, .inl (cyJ, 3, .inr (.inl v_tried))), (h_startAt, .inl (cyJ, 3, .inr (.inl v_startAt)))] sz) [(h_me, .inr (5, [z_pageLength, z_page, .int v_order, z_told, .ref h_startAt, z_limit, z_plantsRead, z_ticksEver, z_newOrder, z_part, z_numbers, z_isWhole, z_isBelow, z_newTold, z_nextAt, .ref h_tried, z_rows, z_below, z_inputBy, z_stateBy, z_goal, z_planTicks, z_planAt, z_inputs, z_ends, z_wanted, z_h])), (h_tried, .inl (cyJ, 3, .inr (.inl q_tried))), (h_startAt, .inl (cyJ, 3, .inr (.inl v_startAt)))]) 0 0 (va_A [(h_me, .inr (5, [z_pageLength, z_page, .int v_order, z_told, .ref h_startAt, z_limit, z_plantsRead, z_ticksEver, z_newOrder, z_part, z_numbers, z_isWhole, z_isBelow, z_newTold, z_nextAt, .ref h_tried, z_rows, z_below, z_inputBy, z_stateBy, z_goal, z_planTicks, z_planAt, z_inputs, z_ends, z_wanted, z_h])), (h_tried, .inl (cyJ, 3, .inr (.inl v_tried))), (h_startAt, .inl (cyJ, 3, .inr (.inl v_startAt)))] sz) := by
  refine Met.ofW (cc := cX5_layTried) (maxL := 2) (ret := none) (by decide) rfl ?_
  intro p e s m args below meth c s₁ B hml hv
  obtain ⟨rfl, hsz, hP, hKK, hD0⟩ := hv
  have hx := B.exec
  have hb := B.bytes
  have hr := B.returns
  have hts := atoms_spec (ws := wsX5_layTried) B.pre
  have hown : s.vm.findClass RX5 = some m.cls := findClass_of_methodNamed B.named
  have hlocks := B.notSynchronized
  have C0 : Cx p s m ([.ref h_me] : List Value).toArray meth c cX5_layTried 2 none wsX5_layTried RX5 (dC, dI) cyI cyJ cyA := ⟨hx, hb, hr, hml, hown, hts, hKK, hlocks⟩
  have hK := hKK.1
  subst hsz
  have hD := hD0.self (sz := s.heap.size)
  generalize hAe : va_A [(h_me, .inr (5, [z_pageLength, z_page, .int v_order, z_told, .ref h_startAt, z_limit, z_plantsRead, z_ticksEver, z_newOrder, z_part, z_numbers, z_isWhole, z_isBelow, z_newTold, z_nextAt, .ref h_tried, z_rows, z_below, z_inputBy, z_stateBy, z_goal, z_planTicks, z_planAt, z_inputs, z_ends, z_wanted, z_h])), (h_tried, .inl (cyJ, 3, .inr (.inl v_tried))), (h_startAt, .inl (cyJ, 3, .inr (.inl v_startAt)))] s.heap.size = A at hD ⊢
  have hA : ∀ q : Nat, s.heap.size ≤ q → A q := fun q h => by rw [← hAe]; exact Or.inr h
  have hS : va_S A s.heap s.heap [] := va_S.rf
  have hl := lv_entry ([.ref h_me]) (n := 2) (Nat.le_of_ble_eq_true rfl)
  rw [lg_entry_eq]
  generalize (lg_sl ([.ref h_me]) ++ List.replicate (2 - (lg_sl ([.ref h_me])).length) Slot.unset).toArray = ls at hl ⊢
  have hl : lv_has ls 2 [(0, .ref h_me)] := hl
  unfold F_X5_layTried at hF
  refine lv_iconst (v := (0 : Int32)) hx hb dX5_layTried_0 (by decide) ?_
  refine lv_istore_n (lv' := [(1, .int (0 : Int32)), (0, .ref h_me)]) hx hb dX5_layTried_1 rfl hl (by decide) rfl (fun ls hl => ?_)
  exact t_X5_layTried_2 C0 hA   3000 (0 : Int32) v_order v_tried v_startAt hF hP hD hS (lv_sub hl [1, 0] rfl)
/-! RestGainsModel.tick (I)J -/
def rmX5_tick : Room := { frames := 1, cells := 0, slots := 0, locals := 25 }
def F_X5_tick_88  : Nat → Int32 → Int32 → Int32 → (Nat → Int64) → (Nat → Int64) → (Nat → Int64) → (Nat → Int32) → Option (Int64 × Int32 × (Nat → Int64) × (Nat → Int64) × (Nat → Int64))
  | 0, _, _, _, _, _, _, _ => none
  | n + 1, l2, v_order, v_ticksEver, v_tried, v_startAt, v_nextAt, v_told => if v_order ≤ l2 then (bd1 (F_X5_seenNow v_order v_told v_startAt) (fun r1 => some (r1, (v_ticksEver + (1 : Int32)), v_tried, v_startAt, v_nextAt))) else (if l2 < 0 ∨ 3 ≤ l2.toNatClampNeg then none else if l2 < 0 ∨ 3 ≤ l2.toNatClampNeg then none else F_X5_tick_88  n (l2 + (1 : Int32)) v_order v_ticksEver v_tried (vp_updL v_startAt l2.toNatClampNeg (v_tried l2.toNatClampNeg)) v_nextAt v_told)
def F_X5_tick_42  : Nat → Int32 → Int32 → Int32 → (Nat → Int64) → (Nat → Int64) → (Nat → Int64) → (Nat → Int32) → Option (Int64 × Int32 × (Nat → Int64) × (Nat → Int64) × (Nat → Int64))
  | 0, _, _, _, _, _, _, _ => none
  | n + 1, l2, v_order, v_ticksEver, v_tried, v_startAt, v_nextAt, v_told => if v_order ≤ l2 then (F_X5_tick_88  3000 (0 : Int32) v_order v_ticksEver v_tried v_startAt v_nextAt v_told) else (if l2 < 0 ∨ 3 ≤ l2.toNatClampNeg then none else if (lg_cmp (v_tried l2.toNatClampNeg) (-1000000 : Int64)) < 0 then (some ((-10000000000004 : Int64), v_ticksEver, v_tried, v_startAt, v_nextAt)) else (if l2 < 0 ∨ 3 ≤ l2.toNatClampNeg then none else if (lg_cmp (v_tried l2.toNatClampNeg) (1000000 : Int64)) ≤ 0 then (F_X5_tick_42  n (l2 + (1 : Int32)) v_order v_ticksEver v_tried v_startAt v_nextAt v_told) else (some ((-10000000000004 : Int64), v_ticksEver, v_tried, v_startAt, v_nextAt))))
def F_X5_tick (l1 : Int32) (v_order : Int32) (v_ticksEver : Int32) (v_tried : Nat → Int64) (v_startAt : Nat → Int64) (v_nextAt : Nat → Int64) (v_told : Nat → Int32) : Option (Int64 × Int32 × (Nat → Int64) × (Nat → Int64) × (Nat → Int64)) :=
  if v_order = 0 then (some ((-10000000000004 : Int64), v_ticksEver, v_tried, v_startAt, v_nextAt)) else (bd1 (F_X5_within l1 (-100 : Int32) (100 : Int32)) (fun r1 => if r1 = 0 then (some ((-10000000000003 : Int64), v_ticksEver, v_tried, v_startAt, v_nextAt)) else (bd1 (F_X5_layTried v_order v_tried v_startAt) (fun x2_tried => bd2 (F_X5_goOn l1.toInt64 v_order v_nextAt v_told x2_tried) (fun x3_nextAt x3_g1 => F_X5_tick_42  3000 (0 : Int32) v_order v_ticksEver x3_g1 v_startAt x3_nextAt v_told)))))
set_option maxHeartbeats 4000000 in
set_option maxRecDepth 100000 in
theorem t_X5_tick_88 {p : Program} {l : Launch} {e : Env} {s : State} {m : MethodId} {args : Array Value} {below : List Frame} {meth : Method} {c : Code} {dC : Nat → ClassId} {dI : Nat → Nat → Nat} {cyI cyJ cyA : ClassId} {A : Nat → Prop} {h_me h_tried h_startAt h_nextAt h_told : Nat} {z_pageLength z_page z_limit z_plantsRead z_newOrder z_part z_numbers z_isWhole z_isBelow z_newTold z_rows z_below z_inputBy z_stateBy z_goal z_planTicks z_planAt z_inputs z_ends z_wanted z_h : Value} {r : Int64} {q_ticksEver : Int32} {q_tried : Nat → Int64} {q_startAt : Nat → Int64} {q_nextAt : Nat → Int64} (C0 : Cx p s m args meth c cX5_tick 3 (some .long) wsX5_tick RX5 (dC, dI) cyI cyJ cyA) (hA : ∀ q : Nat, s.heap.size ≤ q → A q)  : ∀ (n : Nat) (l2 : Int32) (v_order : Int32) (v_ticksEver : Int32) (v_tried : Nat → Int64) (v_startAt : Nat → Int64) (v_nextAt : Nat → Int64) (v_told : Nat → Int32), F_X5_tick_88  n l2 v_order v_ticksEver v_tried v_startAt v_nextAt v_told = some (r, q_ticksEver, q_tried, q_startAt, q_nextAt) → ∀ {H : Heap} {locs : List Loc} {ls : Array Slot}, va_P (dC, dI) vwCl [(h_me, .inr (5, [z_pageLength, z_page, .int v_order, .ref h_told, .ref h_startAt, z_limit, z_plantsRead, .int v_ticksEver, z_newOrder, z_part, z_numbers, z_isWhole, z_isBelow, z_newTold, .ref h_nextAt, .ref h_tried, z_rows, z_below, z_inputBy, z_stateBy, z_goal, z_planTicks, z_planAt, z_inputs, z_ends, z_wanted, z_h])), (h_tried, .inl (cyJ, 3, .inr (.inl v_tried))), (h_startAt, .inl (cyJ, 3, .inr (.inl v_startAt))), (h_nextAt, .inl (cyJ, 3, .inr (.inl v_nextAt))), (h_told, .inl (cyI, 15, .inl v_told))] H → va_D A [(h_me, .inr (5, [z_pageLength, z_page, .int v_order, .ref h_told, .ref h_startAt, z_limit, z_plantsRead, .int v_ticksEver, z_newOrder, z_part, z_numbers, z_isWhole, z_isBelow, z_newTold, .ref h_nextAt, .ref h_tried, z_rows, z_below, z_inputBy, z_stateBy, z_goal, z_planTicks, z_planAt, z_inputs, z_ends, z_wanted, z_h])), (h_tried, .inl (cyJ, 3, .inr (.inl v_tried))), (h_startAt, .inl (cyJ, 3, .inr (.inl v_startAt))), (h_nextAt, .inl (cyJ, 3, .inr (.inl v_nextAt))), (h_told, .inl (cyI, 15, .inl v_told))] → va_S A s.heap H locs → lv_has ls 3 [(0, .ref h_me), (2, .int l2)] → W p l e rmX5_tick s m args below meth c H locs 0 0 (MQ below (QL (dC, dI) A [(h_me, .inr (5, [z_pageLength, z_page, .int v_order, .ref h_told, .ref h_startAt, z_limit, z_plantsRead, .int q_ticksEver, z_newOrder, z_part, z_numbers, z_isWhole, z_isBelow, z_newTold, .ref h_nextAt, .ref h_tried, z_rows, z_below, z_inputBy, z_stateBy, z_goal, z_planTicks, z_planAt, z_inputs, z_ends, z_wanted, z_h])), (h_tried, .inl (cyJ, 3, .inr (.inl q_tried))), (h_startAt, .inl (cyJ, 3, .inr (.inl q_startAt))), (h_nextAt, .inl (cyJ, 3, .inr (.inl q_nextAt))), (h_told, .inl (cyI, 15, .inl v_told))] r) args s 0 0 A) (F0 m 88 ls []) := by
  obtain ⟨hx, hb, hr, hml, hown, hts, hKK, hlocks⟩ := id C0
  have hK := hKK.1
  intro n
  induction n with
  | zero => intro l2 v_order v_ticksEver v_tried v_startAt v_nextAt v_told hF; rw [F_X5_tick_88] at hF; cases hF
  | succ n ih =>
      intro l2 v_order v_ticksEver v_tried v_startAt v_nextAt v_told hF H locs ls hP hD hS hl
      rw [F_X5_tick_88] at hF
      refine lv_iload_n hx hb dX5_tick_88 rfl (lv_at hl 1 rfl) ?_
      refine lv_aload_n hx hb dX5_tick_89 rfl (lv_at hl 0 rfl) ?_
      refine my_get (D := (dC, dI)) (ci := 5) (v := .int v_order) (C := RX5) (T := TX5) (N := 27) hx hb hts iX5_tick_X5 hown hK hP 0 rfl rfl 2 (by decide) (hts _ mX5_tick_1) rfl rfl dX5_tick_90 ?_
      refine lv_icmp_ge (tgt := 114) hx hb dX5_tick_93 (by decide) (fun c_ => ?_) (fun c_ => ?_)
      · have hF := gif c_ hF
        refine lv_aload_n hx hb dX5_tick_114 rfl (lv_at hl 0 rfl) ?_
        refine lv_dup hx hb dX5_tick_115 rfl ?_
        refine my_get (D := (dC, dI)) (ci := 5) (v := .int v_ticksEver) (C := RX5) (T := TX5) (N := 27) hx hb hts iX5_tick_X5 hown hK hP 0 rfl rfl 7 (by decide) (hts _ mX5_tick_8) rfl rfl dX5_tick_116 ?_
        refine lv_iconst (v := (1 : Int32)) hx hb dX5_tick_119 (by decide) ?_
        refine lv_iadd hx hb dX5_tick_120 ?_
        refine my_put (D := (dC, dI)) (ci := 5) (v := .int (v_ticksEver + (1 : Int32))) (ty := .int) (C := RX5) (T := TX5) (N := 27) (ws' := [(h_me, .inr (5, [z_pageLength, z_page, .int v_order, .ref h_told, .ref h_startAt, z_limit, z_plantsRead, .int (v_ticksEver + (1 : Int32)), z_newOrder, z_part, z_numbers, z_isWhole, z_isBelow, z_newTold, .ref h_nextAt, .ref h_tried, z_rows, z_below, z_inputBy, z_stateBy, z_goal, z_planTicks, z_planAt, z_inputs, z_ends, z_wanted, z_h])), (h_tried, .inl (cyJ, 3, .inr (.inl v_tried))), (h_startAt, .inl (cyJ, 3, .inr (.inl v_startAt))), (h_nextAt, .inl (cyJ, 3, .inr (.inl v_nextAt))), (h_told, .inl (cyI, 15, .inl v_told))]) hx hb hts iX5_tick_X5 tyX5 tyX5_ok nmX5 hown hK hP hD hS 0 rfl rfl 7 (by decide) (hts _ mX5_tick_8) rfl rfl rfl rfl rfl (Nat.le_of_ble_eq_true rfl) dX5_tick_121 rfl (fun H locs hP hD hS => ?_)
        refine lv_aload_n hx hb dX5_tick_124 rfl (lv_at hl 0 rfl) ?_
        obtain ⟨r1, hz1, hF⟩ := bd1_e hF
        refine kc_l (wr := [(h_tried, .inl (cyJ, 3, .inr (.inl v_tried))), (h_nextAt, .inl (cyJ, 3, .inr (.inl v_nextAt)))]) (ws' := [(h_me, .inr (5, [z_pageLength, z_page, .int v_order, .ref h_told, .ref h_startAt, z_limit, z_plantsRead, .int (v_ticksEver + (1 : Int32)), z_newOrder, z_part, z_numbers, z_isWhole, z_isBelow, z_newTold, .ref h_nextAt, .ref h_tried, z_rows, z_below, z_inputBy, z_stateBy, z_goal, z_planTicks, z_planAt, z_inputs, z_ends, z_wanted, z_h])), (h_tried, .inl (cyJ, 3, .inr (.inl v_tried))), (h_startAt, .inl (cyJ, 3, .inr (.inl v_startAt))), (h_nextAt, .inl (cyJ, 3, .inr (.inl v_nextAt))), (h_told, .inl (cyI, 15, .inl v_told))]) (va_runV (As := []) (rest := []) ⟨hx, hb, hml, hown, hts⟩ (c_X5_seenNow l dC dI cyI cyJ cyA h_me h_told h_startAt z_pageLength z_page z_limit z_plantsRead (.int (v_ticksEver + (1 : Int32))) z_newOrder z_part z_numbers z_isWhole z_isBelow z_newTold (.ref h_nextAt) (.ref h_tried) z_rows z_below z_inputBy z_stateBy z_goal z_planTicks z_planAt z_inputs z_ends z_wanted z_h v_order v_told v_startAt  hz1 _) (cwV 0 hts gX5_tick_X5_seenNow rfl rfl rfl ndX5_seenNow ⟨Nat.le_of_ble_eq_true rfl, Nat.le_of_ble_eq_true rfl⟩) (pre_V hKK hP hD 0 rfl rfl [0, 4, 2] (by decide) rfl rfl) rfl rfl hl.1 rfl (lv_room (Nat.le_of_ble_eq_true rfl)) dX5_tick_125 ⟨Nat.le_of_ble_eq_true rfl, Nat.le_of_ble_eq_true rfl⟩) hP hD hS hA [0, 4, 2] [1, 3] [2, 0, 4, 1, 3] rfl rfl (by decide) (by decide) (by decide) rfl rfl (fun H locs hP hD hS => ?_)
        cases hF
        exact W.lret hx hb hr (fun t ht hW => ⟨⟨_, (), rfl, rfl, by rw [ht]; exact hP, hD⟩, hS.F ht⟩) hS.2.2 dX5_tick_128
      · have hF := gel c_ hF
        refine lv_aload_n hx hb dX5_tick_96 rfl (lv_at hl 0 rfl) ?_
        refine my_get (D := (dC, dI)) (ci := 5) (v := .ref h_startAt) (C := RX5) (T := TX5) (N := 27) hx hb hts iX5_tick_X5 hown hK hP 0 rfl rfl 4 (by decide) (hts _ mX5_tick_7) rfl rfl dX5_tick_97 ?_
        refine lv_iload_n hx hb dX5_tick_100 rfl (lv_at hl 1 rfl) ?_
        refine lv_aload_n hx hb dX5_tick_101 rfl (lv_at hl 0 rfl) ?_
        refine my_get (D := (dC, dI)) (ci := 5) (v := .ref h_tried) (C := RX5) (T := TX5) (N := 27) hx hb hts iX5_tick_X5 hown hK hP 0 rfl rfl 15 (by decide) (hts _ mX5_tick_4) rfl rfl dX5_tick_102 ?_
        refine lv_iload_n hx hb dX5_tick_105 rfl (lv_at hl 1 rfl) ?_
        obtain ⟨g_2, hF⟩ := gno hF
        refine va_lald hx hb hK hP 1 1 rfl rfl g_2 dX5_tick_106 ?_
        obtain ⟨g_3, hF⟩ := gno hF
        refine my_last (ws' := [(h_me, .inr (5, [z_pageLength, z_page, .int v_order, .ref h_told, .ref h_startAt, z_limit, z_plantsRead, .int v_ticksEver, z_newOrder, z_part, z_numbers, z_isWhole, z_isBelow, z_newTold, .ref h_nextAt, .ref h_tried, z_rows, z_below, z_inputBy, z_stateBy, z_goal, z_planTicks, z_planAt, z_inputs, z_ends, z_wanted, z_h])), (h_tried, .inl (cyJ, 3, .inr (.inl v_tried))), (h_startAt, .inl (cyJ, 3, .inr (.inl (vp_updL v_startAt l2.toNatClampNeg (v_tried l2.toNatClampNeg))))), (h_nextAt, .inl (cyJ, 3, .inr (.inl v_nextAt))), (h_told, .inl (cyI, 15, .inl v_told))]) hx hb hK hP hD hS 2 1 rfl rfl g_3 dX5_tick_107 rfl (fun H locs hP hD hS => ?_)
        refine lv_iinc (v := (l2 + (1 : Int32))) (lv' := [(2, .int (l2 + (1 : Int32))), (0, .ref h_me)]) hx hb dX5_tick_108 hl (k := 1) rfl (by rfl) (by decide) rfl (fun ls hl => ?_)
        refine lv_goto (tgt := 88) hx hb dX5_tick_111 (by decide) ?_
        exact ih (l2 + (1 : Int32)) v_order v_ticksEver v_tried (vp_updL v_startAt l2.toNatClampNeg (v_tried l2.toNatClampNeg)) v_nextAt v_told hF hP hD hS (lv_sub hl [1, 0] rfl)
set_option maxHeartbeats 4000000 in
set_option maxRecDepth 100000 in
theorem t_X5_tick_42 {p : Program} {l : Launch} {e : Env} {s : State} {m : MethodId} {args : Array Value} {below : List Frame} {meth : Method} {c : Code} {dC : Nat → ClassId} {dI : Nat → Nat → Nat} {cyI cyJ cyA : ClassId} {A : Nat → Prop} {h_me h_tried h_startAt h_nextAt h_told : Nat} {z_pageLength z_page z_limit z_plantsRead z_newOrder z_part z_numbers z_isWhole z_isBelow z_newTold z_rows z_below z_inputBy z_stateBy z_goal z_planTicks z_planAt z_inputs z_ends z_wanted z_h : Value} {r : Int64} {q_ticksEver : Int32} {q_tried : Nat → Int64} {q_startAt : Nat → Int64} {q_nextAt : Nat → Int64} (C0 : Cx p s m args meth c cX5_tick 3 (some .long) wsX5_tick RX5 (dC, dI) cyI cyJ cyA) (hA : ∀ q : Nat, s.heap.size ≤ q → A q)  : ∀ (n : Nat) (l2 : Int32) (v_order : Int32) (v_ticksEver : Int32) (v_tried : Nat → Int64) (v_startAt : Nat → Int64) (v_nextAt : Nat → Int64) (v_told : Nat → Int32), F_X5_tick_42  n l2 v_order v_ticksEver v_tried v_startAt v_nextAt v_told = some (r, q_ticksEver, q_tried, q_startAt, q_nextAt) → ∀ {H : Heap} {locs : List Loc} {ls : Array Slot}, va_P (dC, dI) vwCl [(h_me, .inr (5, [z_pageLength, z_page, .int v_order, .ref h_told, .ref h_startAt, z_limit, z_plantsRead, .int v_ticksEver, z_newOrder, z_part, z_numbers, z_isWhole, z_isBelow, z_newTold, .ref h_nextAt, .ref h_tried, z_rows, z_below, z_inputBy, z_stateBy, z_goal, z_planTicks, z_planAt, z_inputs, z_ends, z_wanted, z_h])), (h_tried, .inl (cyJ, 3, .inr (.inl v_tried))), (h_startAt, .inl (cyJ, 3, .inr (.inl v_startAt))), (h_nextAt, .inl (cyJ, 3, .inr (.inl v_nextAt))), (h_told, .inl (cyI, 15, .inl v_told))] H → va_D A [(h_me, .inr (5, [z_pageLength, z_page, .int v_order, .ref h_told, .ref h_startAt, z_limit, z_plantsRead, .int v_ticksEver, z_newOrder, z_part, z_numbers, z_isWhole, z_isBelow, z_newTold, .ref h_nextAt, .ref h_tried, z_rows, z_below, z_inputBy, z_stateBy, z_goal, z_planTicks, z_planAt, z_inputs, z_ends, z_wanted, z_h])), (h_tried, .inl (cyJ, 3, .inr (.inl v_tried))), (h_startAt, .inl (cyJ, 3, .inr (.inl v_startAt))), (h_nextAt, .inl (cyJ, 3, .inr (.inl v_nextAt))), (h_told, .inl (cyI, 15, .inl v_told))] → va_S A s.heap H locs → lv_has ls 3 [(0, .ref h_me), (2, .int l2)] → W p l e rmX5_tick s m args below meth c H locs 0 0 (MQ below (QL (dC, dI) A [(h_me, .inr (5, [z_pageLength, z_page, .int v_order, .ref h_told, .ref h_startAt, z_limit, z_plantsRead, .int q_ticksEver, z_newOrder, z_part, z_numbers, z_isWhole, z_isBelow, z_newTold, .ref h_nextAt, .ref h_tried, z_rows, z_below, z_inputBy, z_stateBy, z_goal, z_planTicks, z_planAt, z_inputs, z_ends, z_wanted, z_h])), (h_tried, .inl (cyJ, 3, .inr (.inl q_tried))), (h_startAt, .inl (cyJ, 3, .inr (.inl q_startAt))), (h_nextAt, .inl (cyJ, 3, .inr (.inl q_nextAt))), (h_told, .inl (cyI, 15, .inl v_told))] r) args s 0 0 A) (F0 m 42 ls []) := by
  obtain ⟨hx, hb, hr, hml, hown, hts, hKK, hlocks⟩ := id C0
  have hK := hKK.1
  intro n
  induction n with
  | zero => intro l2 v_order v_ticksEver v_tried v_startAt v_nextAt v_told hF; rw [F_X5_tick_42] at hF; cases hF
  | succ n ih =>
      intro l2 v_order v_ticksEver v_tried v_startAt v_nextAt v_told hF H locs ls hP hD hS hl
      rw [F_X5_tick_42] at hF
      refine lv_iload_n hx hb dX5_tick_42 rfl (lv_at hl 1 rfl) ?_
      refine lv_aload_n hx hb dX5_tick_43 rfl (lv_at hl 0 rfl) ?_
      refine my_get (D := (dC, dI)) (ci := 5) (v := .int v_order) (C := RX5) (T := TX5) (N := 27) hx hb hts iX5_tick_X5 hown hK hP 0 rfl rfl 2 (by decide) (hts _ mX5_tick_1) rfl rfl dX5_tick_44 ?_
      refine lv_icmp_ge (tgt := 86) hx hb dX5_tick_47 (by decide) (fun c_ => ?_) (fun c_ => ?_)
      · have hF := gif c_ hF
        refine lv_iconst (v := (0 : Int32)) hx hb dX5_tick_86 (by decide) ?_
        refine lv_istore_n (lv' := [(2, .int (0 : Int32)), (0, .ref h_me)]) hx hb dX5_tick_87 rfl hl (by decide) rfl (fun ls hl => ?_)
        exact t_X5_tick_88 C0 hA   3000 (0 : Int32) v_order v_ticksEver v_tried v_startAt v_nextAt v_told hF hP hD hS (lv_sub hl [1, 0] rfl)
      · have hF := gel c_ hF
        refine lv_aload_n hx hb dX5_tick_50 rfl (lv_at hl 0 rfl) ?_
        refine my_get (D := (dC, dI)) (ci := 5) (v := .ref h_tried) (C := RX5) (T := TX5) (N := 27) hx hb hts iX5_tick_X5 hown hK hP 0 rfl rfl 15 (by decide) (hts _ mX5_tick_4) rfl rfl dX5_tick_51 ?_
        refine lv_iload_n hx hb dX5_tick_54 rfl (lv_at hl 1 rfl) ?_
        obtain ⟨g_1, hF⟩ := gno hF
        refine va_lald hx hb hK hP 1 1 rfl rfl g_1 dX5_tick_55 ?_
        refine lv_ldc2 hx hb hown (hts _ mX5_tick_5) dX5_tick_56 ?_
        refine W.lcmp hx hb dX5_tick_59 ?_
        refine lv_if_lt (tgt := 76) hx hb dX5_tick_60 (by decide) (fun c_ => ?_) (fun c_ => ?_)
        · have hF := gif c_ hF
          refine lv_ldc2 hx hb hown (hts _ mX5_tick_2) dX5_tick_76 ?_
          cases hF
          exact W.lret hx hb hr (fun t ht hW => ⟨⟨_, (), rfl, rfl, by rw [ht]; exact hP, hD⟩, hS.F ht⟩) hS.2.2 dX5_tick_79
        · have hF := gel c_ hF
          refine lv_aload_n hx hb dX5_tick_63 rfl (lv_at hl 0 rfl) ?_
          refine my_get (D := (dC, dI)) (ci := 5) (v := .ref h_tried) (C := RX5) (T := TX5) (N := 27) hx hb hts iX5_tick_X5 hown hK hP 0 rfl rfl 15 (by decide) (hts _ mX5_tick_4) rfl rfl dX5_tick_64 ?_
          refine lv_iload_n hx hb dX5_tick_67 rfl (lv_at hl 1 rfl) ?_
          obtain ⟨g_2, hF⟩ := gno hF
          refine va_lald hx hb hK hP 1 1 rfl rfl g_2 dX5_tick_68 ?_
          refine lv_ldc2 hx hb hown (hts _ mX5_tick_6) dX5_tick_69 ?_
          refine W.lcmp hx hb dX5_tick_72 ?_
          refine lv_if_le (tgt := 80) hx hb dX5_tick_73 (by decide) (fun c_ => ?_) (fun c_ => ?_)
          · have hF := gif c_ hF
            refine lv_iinc (v := (l2 + (1 : Int32))) (lv' := [(2, .int (l2 + (1 : Int32))), (0, .ref h_me)]) hx hb dX5_tick_80 hl (k := 1) rfl (by rfl) (by decide) rfl (fun ls hl => ?_)
            refine lv_goto (tgt := 42) hx hb dX5_tick_83 (by decide) ?_
            exact ih (l2 + (1 : Int32)) v_order v_ticksEver v_tried v_startAt v_nextAt v_told hF hP hD hS (lv_sub hl [1, 0] rfl)
          · have hF := gel c_ hF
            refine lv_ldc2 hx hb hown (hts _ mX5_tick_2) dX5_tick_76 ?_
            cases hF
            exact W.lret hx hb hr (fun t ht hW => ⟨⟨_, (), rfl, rfl, by rw [ht]; exact hP, hD⟩, hS.F ht⟩) hS.2.2 dX5_tick_79
set_option maxHeartbeats 4000000 in
set_option maxRecDepth 100000 in
theorem c_X5_tick (l : Launch) (dC : Nat → ClassId) (dI : Nat → Nat → Nat) (cyI cyJ cyA : ClassId) (h_me h_tried h_startAt h_nextAt h_told : Nat) (z_pageLength z_page z_limit z_plantsRead z_newOrder z_part z_numbers z_isWhole z_isBelow z_newTold z_rows z_below z_inputBy z_stateBy z_goal z_planTicks z_planAt z_inputs z_ends z_wanted z_h : Value) (v_order : Int32) (v_ticksEver : Int32) (v_tried : Nat → Int64) (v_startAt : Nat → Int64) (v_nextAt : Nat → Int64) (v_told : Nat → Int32) (l1 : Int32) {r : Int64} {q_ticksEver : Int32} {q_tried : Nat → Int64} {q_startAt : Nat → Int64} {q_nextAt : Nat → Int64} (hF : F_X5_tick l1 v_order v_ticksEver v_tried v_startAt v_nextAt v_told = some (r, q_ticksEver, q_tried, q_startAt, q_nextAt)) (sz : Nat) : Met l yX5_tick wsX5_tick rmX5_tick (va_Pc [.ref h_me, .int l1] (PC (dC, dI) cyI cyJ cyA [(h_me, .inr (5, [z_pageLength, z_page, .int v_order, .ref h_told, .ref h_startAt, z_limit, z_plantsRead, .int v_ticksEver, z_newOrder, z_part, z_numbers, z_isWhole, z_isBelow, z_newTold, .ref h_nextAt, .ref h_tried, z_rows, z_below, z_inputBy, z_stateBy, z_goal, z_planTicks, z_planAt, z_inputs, z_ends, z_wanted, z_h])), (h_tried, .inl (cyJ, 3, .inr (.inl v_tried))), (h_startAt, .inl (cyJ, 3, .inr (.inl v_startAt))), (h_nextAt, .inl (cyJ, 3, .inr (.inl v_nextAt))), (h_told, .inl (cyI, 15, .inl v_told))] sz)) (QL (dC, dI) (va_A [(h_me, .inr (5, [z_pageLength, z_page, .int v_order, .ref h_told, .ref h_startAt, z_limit, z_plantsRead, .int v_ticksEver, z_newOrder, z_part, z_numbers, z_isWhole, z_isBelow, z_newTold, .ref h_nextAt, .ref h_tried, z_rows, z_below, z_inputBy, z_stateBy, z_goal, z_planTicks, z_planAt, z_inputs, z_ends, z_wanted, z_h])), (h_tried, .inl (cyJ, 3, .inr (.inl v_tried))), (h_startAt, .inl (cyJ, 3, .inr (.inl v_startAt))), (h_nextAt, .inl (cyJ, 3, .inr (.inl v_nextAt))), (h_told, .inl (cyI, 15, .inl v_told))] sz) [(h_me, .inr (5, [z_pageLength, z_page, .int v_order, .ref h_told, .ref h_startAt, z_limit, z_plantsRead, .int q_ticksEver, z_newOrder, z_part, z_numbers, z_isWhole, z_isBelow, z_newTold, .ref h_nextAt, .ref h_tried, z_rows, z_below, z_inputBy, z_stateBy, z_goal, z_planTicks, z_planAt, z_inputs, z_ends, z_wanted, z_h])), (h_tried, .inl (cyJ, 3, .inr (.inl q_tried))), (h_startAt, .inl (cyJ, 3, .inr (.inl q_startAt))), (h_nextAt, .inl (cyJ, 3, .inr (.inl q_nextAt))), (h_told, .inl (cyI, 15, .inl v_told))] r) 0 0 (va_A [(h_me, .inr (5, [z_pageLength, z_page, .int v_order, .ref h_told, .ref h_startAt, z_limit, z_plantsRead, .int v_ticksEver, z_newOrder, z_part, z_numbers, z_isWhole, z_isBelow, z_newTold, .ref h_nextAt, .ref h_tried, z_rows, z_below, z_inputBy, z_stateBy, z_goal, z_planTicks, z_planAt, z_inputs, z_ends, z_wanted, z_h])), (h_tried, .inl (cyJ, 3, .inr (.inl v_tried))), (h_startAt, .inl (cyJ, 3, .inr (.inl v_startAt))), (h_nextAt, .inl (cyJ, 3, .inr (.inl v_nextAt))), (h_told, .inl (cyI, 15, .inl v_told))] sz) := by
  refine Met.ofW (cc := cX5_tick) (maxL := 3) (ret := (some .long)) (by decide) rfl ?_
  intro p e s m args below meth c s₁ B hml hv
  obtain ⟨rfl, hsz, hP, hKK, hD0⟩ := hv
  have hx := B.exec
  have hb := B.bytes
  have hr := B.returns
  have hts := atoms_spec (ws := wsX5_tick) B.pre
  have hown : s.vm.findClass RX5 = some m.cls := findClass_of_methodNamed B.named
  have hlocks := B.notSynchronized
  have C0 : Cx p s m ([.ref h_me, .int l1] : List Value).toArray meth c cX5_tick 3 (some .long) wsX5_tick RX5 (dC, dI) cyI cyJ cyA := ⟨hx, hb, hr, hml, hown, hts, hKK, hlocks⟩
  have hK := hKK.1
  subst hsz
  have hD := hD0.self (sz := s.heap.size)
  generalize hAe : va_A [(h_me, .inr (5, [z_pageLength, z_page, .int v_order, .ref h_told, .ref h_startAt, z_limit, z_plantsRead, .int v_ticksEver, z_newOrder, z_part, z_numbers, z_isWhole, z_isBelow, z_newTold, .ref h_nextAt, .ref h_tried, z_rows, z_below, z_inputBy, z_stateBy, z_goal, z_planTicks, z_planAt, z_inputs, z_ends, z_wanted, z_h])), (h_tried, .inl (cyJ, 3, .inr (.inl v_tried))), (h_startAt, .inl (cyJ, 3, .inr (.inl v_startAt))), (h_nextAt, .inl (cyJ, 3, .inr (.inl v_nextAt))), (h_told, .inl (cyI, 15, .inl v_told))] s.heap.size = A at hD ⊢
  have hA : ∀ q : Nat, s.heap.size ≤ q → A q := fun q h => by rw [← hAe]; exact Or.inr h
  have hS : va_S A s.heap s.heap [] := va_S.rf
  have hl := lv_entry ([.ref h_me, .int l1]) (n := 3) (Nat.le_of_ble_eq_true rfl)
  rw [lg_entry_eq]
  generalize (lg_sl ([.ref h_me, .int l1]) ++ List.replicate (3 - (lg_sl ([.ref h_me, .int l1])).length) Slot.unset).toArray = ls at hl ⊢
  have hl : lv_has ls 3 [(0, .ref h_me), (1, .int l1)] := hl
  unfold F_X5_tick at hF
  refine lv_aload_n hx hb dX5_tick_0 rfl (lv_at hl 0 rfl) ?_
  refine my_get (D := (dC, dI)) (ci := 5) (v := .int v_order) (C := RX5) (T := TX5) (N := 27) hx hb hts iX5_tick_X5 hown hK hP 0 rfl rfl 2 (by decide) (hts _ mX5_tick_1) rfl rfl dX5_tick_1 ?_
  refine lv_if_ne (tgt := 11) hx hb dX5_tick_4 (by decide) (fun c_ => ?_) (fun c_ => ?_)
  · have hF := gel c_ hF
    refine lv_iload_n hx hb dX5_tick_11 rfl (lv_at hl 1 rfl) ?_
    refine lv_bipush (v := (-100 : Int32)) hx hb dX5_tick_12 (by decide) ?_
    refine lv_bipush (v := (100 : Int32)) hx hb dX5_tick_14 (by decide) ?_
    obtain ⟨r1, hz1, hF⟩ := bd1_e hF
    refine kc_i (wr := [(h_me, .inr (5, [z_pageLength, z_page, .int v_order, .ref h_told, .ref h_startAt, z_limit, z_plantsRead, .int v_ticksEver, z_newOrder, z_part, z_numbers, z_isWhole, z_isBelow, z_newTold, .ref h_nextAt, .ref h_tried, z_rows, z_below, z_inputBy, z_stateBy, z_goal, z_planTicks, z_planAt, z_inputs, z_ends, z_wanted, z_h])), (h_tried, .inl (cyJ, 3, .inr (.inl v_tried))), (h_startAt, .inl (cyJ, 3, .inr (.inl v_startAt))), (h_nextAt, .inl (cyJ, 3, .inr (.inl v_nextAt))), (h_told, .inl (cyI, 15, .inl v_told))]) (ws' := [(h_me, .inr (5, [z_pageLength, z_page, .int v_order, .ref h_told, .ref h_startAt, z_limit, z_plantsRead, .int v_ticksEver, z_newOrder, z_part, z_numbers, z_isWhole, z_isBelow, z_newTold, .ref h_nextAt, .ref h_tried, z_rows, z_below, z_inputBy, z_stateBy, z_goal, z_planTicks, z_planAt, z_inputs, z_ends, z_wanted, z_h])), (h_tried, .inl (cyJ, 3, .inr (.inl v_tried))), (h_startAt, .inl (cyJ, 3, .inr (.inl v_startAt))), (h_nextAt, .inl (cyJ, 3, .inr (.inl v_nextAt))), (h_told, .inl (cyI, 15, .inl v_told))]) (va_runS (As := [.int l1, .int (-100 : Int32), .int (100 : Int32)]) (rest := []) ⟨hx, hb, hml, hown, hts⟩ (c_X5_within l dC dI cyI cyJ cyA    l1 (-100 : Int32) (100 : Int32) hz1 _) (va_cwS 3 hts gX5_tick_X5_within rfl rfl rfl ndX5_within.2 ⟨Nat.le_of_ble_eq_true rfl, Nat.le_of_ble_eq_true rfl⟩) (pre_S hKK hP hD [] (by decide) rfl rfl) rfl rfl hl.1 rfl (lv_room (Nat.le_of_ble_eq_true rfl)) dX5_tick_16 ⟨Nat.le_of_ble_eq_true rfl, Nat.le_of_ble_eq_true rfl⟩) hP hD hS hA [] [0, 1, 2, 3, 4] [0, 1, 2, 3, 4] rfl rfl (by decide) (by decide) (by decide) rfl rfl (fun H locs hP hD hS => ?_)
    refine lv_if_ne (tgt := 26) hx hb dX5_tick_19 (by decide) (fun c_ => ?_) (fun c_ => ?_)
    · have hF := gel c_ hF
      refine lv_aload_n hx hb dX5_tick_26 rfl (lv_at hl 0 rfl) ?_
      obtain ⟨x2_tried, hz2, hF⟩ := bd1_e hF
      refine kc_v (wr := [(h_nextAt, .inl (cyJ, 3, .inr (.inl v_nextAt))), (h_told, .inl (cyI, 15, .inl v_told))]) (ws' := [(h_me, .inr (5, [z_pageLength, z_page, .int v_order, .ref h_told, .ref h_startAt, z_limit, z_plantsRead, .int v_ticksEver, z_newOrder, z_part, z_numbers, z_isWhole, z_isBelow, z_newTold, .ref h_nextAt, .ref h_tried, z_rows, z_below, z_inputBy, z_stateBy, z_goal, z_planTicks, z_planAt, z_inputs, z_ends, z_wanted, z_h])), (h_tried, .inl (cyJ, 3, .inr (.inl x2_tried))), (h_startAt, .inl (cyJ, 3, .inr (.inl v_startAt))), (h_nextAt, .inl (cyJ, 3, .inr (.inl v_nextAt))), (h_told, .inl (cyI, 15, .inl v_told))]) (va_runV (As := []) (rest := []) ⟨hx, hb, hml, hown, hts⟩ (c_X5_layTried l dC dI cyI cyJ cyA h_me h_tried h_startAt z_pageLength z_page (.ref h_told) z_limit z_plantsRead (.int v_ticksEver) z_newOrder z_part z_numbers z_isWhole z_isBelow z_newTold (.ref h_nextAt) z_rows z_below z_inputBy z_stateBy z_goal z_planTicks z_planAt z_inputs z_ends z_wanted z_h v_order v_tried v_startAt  hz2 _) (cwV 0 hts gX5_tick_X5_layTried rfl rfl rfl ndX5_layTried ⟨Nat.le_of_ble_eq_true rfl, Nat.le_of_ble_eq_true rfl⟩) (pre_V hKK hP hD 0 rfl rfl [0, 1, 2] (by decide) rfl rfl) rfl rfl hl.1 rfl (lv_room (Nat.le_of_ble_eq_true rfl)) dX5_tick_27 ⟨Nat.le_of_ble_eq_true rfl, Nat.le_of_ble_eq_true rfl⟩) hP hD hS hA [0, 1, 2] [3, 4] [2, 3, 4, 0, 1] rfl rfl (by decide) (by decide) (by decide) rfl rfl (fun H locs hP hD hS => ?_)
      refine lv_aload_n hx hb dX5_tick_30 rfl (lv_at hl 0 rfl) ?_
      refine lv_aload_n hx hb dX5_tick_31 rfl (lv_at hl 0 rfl) ?_
      refine my_get (D := (dC, dI)) (ci := 5) (v := .ref h_tried) (C := RX5) (T := TX5) (N := 27) hx hb hts iX5_tick_X5 hown hK hP 0 rfl rfl 15 (by decide) (hts _ mX5_tick_4) rfl rfl dX5_tick_32 ?_
      refine lv_iload_n hx hb dX5_tick_35 rfl (lv_at hl 1 rfl) ?_
      refine lv_i2l hx hb dX5_tick_36 rfl ?_
      obtain ⟨x3_nextAt, x3_g1, hz3, hF⟩ := bd2_e hF
      refine kc_v (wr := [(h_startAt, .inl (cyJ, 3, .inr (.inl v_startAt)))]) (ws' := [(h_me, .inr (5, [z_pageLength, z_page, .int v_order, .ref h_told, .ref h_startAt, z_limit, z_plantsRead, .int v_ticksEver, z_newOrder, z_part, z_numbers, z_isWhole, z_isBelow, z_newTold, .ref h_nextAt, .ref h_tried, z_rows, z_below, z_inputBy, z_stateBy, z_goal, z_planTicks, z_planAt, z_inputs, z_ends, z_wanted, z_h])), (h_tried, .inl (cyJ, 3, .inr (.inl x3_g1))), (h_startAt, .inl (cyJ, 3, .inr (.inl v_startAt))), (h_nextAt, .inl (cyJ, 3, .inr (.inl x3_nextAt))), (h_told, .inl (cyI, 15, .inl v_told))]) (va_runV (As := [.ref h_tried, .long l1.toInt64]) (rest := []) ⟨hx, hb, hml, hown, hts⟩ (c_X5_goOn l dC dI cyI cyJ cyA h_me h_nextAt h_told h_tried z_pageLength z_page (.ref h_startAt) z_limit z_plantsRead (.int v_ticksEver) z_newOrder z_part z_numbers z_isWhole z_isBelow z_newTold (.ref h_tried) z_rows z_below z_inputBy z_stateBy z_goal z_planTicks z_planAt z_inputs z_ends z_wanted z_h v_order v_nextAt v_told x2_tried l1.toInt64 hz3 _) (cwV 2 hts gX5_tick_X5_goOn rfl rfl rfl ndX5_goOn ⟨Nat.le_of_ble_eq_true rfl, Nat.le_of_ble_eq_true rfl⟩) (pre_V hKK hP hD 0 rfl rfl [0, 3, 4, 1] (by decide) rfl rfl) rfl rfl hl.1 rfl (lv_room (Nat.le_of_ble_eq_true rfl)) dX5_tick_37 ⟨Nat.le_of_ble_eq_true rfl, Nat.le_of_ble_eq_true rfl⟩) hP hD hS hA [0, 3, 4, 1] [2] [1, 4, 0, 2, 3] rfl rfl (by decide) (by decide) (by decide) rfl rfl (fun H locs hP hD hS => ?_)
      refine lv_iconst (v := (0 : Int32)) hx hb dX5_tick_40 (by decide) ?_
      refine lv_istore_n (lv' := [(2, .int (0 : Int32)), (0, .ref h_me), (1, .int l1)]) hx hb dX5_tick_41 rfl hl (by decide) rfl (fun ls hl => ?_)
      exact t_X5_tick_42 C0 hA   3000 (0 : Int32) v_order v_ticksEver x3_g1 v_startAt x3_nextAt v_told hF hP hD hS (lv_sub hl [1, 0] rfl)
    · have hF := gif c_ hF
      refine lv_ldc2 hx hb hown (hts _ mX5_tick_3) dX5_tick_22 ?_
      cases hF
      exact W.lret hx hb hr (fun t ht hW => ⟨⟨_, (), rfl, rfl, by rw [ht]; exact hP, hD⟩, hS.F ht⟩) hS.2.2 dX5_tick_25
  · have hF := gif c_ hF
    refine lv_ldc2 hx hb hown (hts _ mX5_tick_2) dX5_tick_7 ?_
    cases hF
    exact W.lret hx hb hr (fun t ht hW => ⟨⟨_, (), rfl, rfl, by rw [ht]; exact hP, hD⟩, hS.F ht⟩) hS.2.2 dX5_tick_10
/-! RestGainsModel.tableAt (ZII)I -/
def rmX5_tableAt : Room := { frames := 0, cells := 0, slots := 0, locals := 0 }
def F_X5_tableAt (l1 : Int32) (l2 : Int32) (l3 : Int32) (v_told : Nat → Int32) : Option (Int32) :=
  if l1 = 0 then (if (((3 : Int32) * l2) + l3) < 0 ∨ 15 ≤ (((3 : Int32) * l2) + l3).toNatClampNeg then none else some (v_told (((3 : Int32) * l2) + l3).toNatClampNeg)) else (if (((3 : Int32) * l3) + l2) < 0 ∨ 15 ≤ (((3 : Int32) * l3) + l2).toNatClampNeg then none else some (v_told (((3 : Int32) * l3) + l2).toNatClampNeg))
set_option maxHeartbeats 4000000 in
set_option maxRecDepth 100000 in
theorem c_X5_tableAt (l : Launch) (dC : Nat → ClassId) (dI : Nat → Nat → Nat) (cyI cyJ cyA : ClassId) (h_me h_told : Nat) (z_pageLength z_page z_order z_startAt z_limit z_plantsRead z_ticksEver z_newOrder z_part z_numbers z_isWhole z_isBelow z_newTold z_nextAt z_tried z_rows z_below z_inputBy z_stateBy z_goal z_planTicks z_planAt z_inputs z_ends z_wanted z_h : Value) (v_told : Nat → Int32) (l1 : Int32) (l2 : Int32) (l3 : Int32) {r : Int32} (hF : F_X5_tableAt l1 l2 l3 v_told = some r) (sz : Nat) : Met l yX5_tableAt wsX5_tableAt rmX5_tableAt (va_Pc [.ref h_me, .int l1, .int l2, .int l3] (PC (dC, dI) cyI cyJ cyA [(h_me, .inr (5, [z_pageLength, z_page, z_order, .ref h_told, z_startAt, z_limit, z_plantsRead, z_ticksEver, z_newOrder, z_part, z_numbers, z_isWhole, z_isBelow, z_newTold, z_nextAt, z_tried, z_rows, z_below, z_inputBy, z_stateBy, z_goal, z_planTicks, z_planAt, z_inputs, z_ends, z_wanted, z_h])), (h_told, .inl (cyI, 15, .inl v_told))] sz)) (QI (dC, dI) (va_A [(h_me, .inr (5, [z_pageLength, z_page, z_order, .ref h_told, z_startAt, z_limit, z_plantsRead, z_ticksEver, z_newOrder, z_part, z_numbers, z_isWhole, z_isBelow, z_newTold, z_nextAt, z_tried, z_rows, z_below, z_inputBy, z_stateBy, z_goal, z_planTicks, z_planAt, z_inputs, z_ends, z_wanted, z_h])), (h_told, .inl (cyI, 15, .inl v_told))] sz) [(h_me, .inr (5, [z_pageLength, z_page, z_order, .ref h_told, z_startAt, z_limit, z_plantsRead, z_ticksEver, z_newOrder, z_part, z_numbers, z_isWhole, z_isBelow, z_newTold, z_nextAt, z_tried, z_rows, z_below, z_inputBy, z_stateBy, z_goal, z_planTicks, z_planAt, z_inputs, z_ends, z_wanted, z_h])), (h_told, .inl (cyI, 15, .inl v_told))] r) 0 0 (va_A [(h_me, .inr (5, [z_pageLength, z_page, z_order, .ref h_told, z_startAt, z_limit, z_plantsRead, z_ticksEver, z_newOrder, z_part, z_numbers, z_isWhole, z_isBelow, z_newTold, z_nextAt, z_tried, z_rows, z_below, z_inputBy, z_stateBy, z_goal, z_planTicks, z_planAt, z_inputs, z_ends, z_wanted, z_h])), (h_told, .inl (cyI, 15, .inl v_told))] sz) := by
  refine Met.ofW (cc := cX5_tableAt) (maxL := 4) (ret := (some .int)) (by decide) rfl ?_
  intro p e s m args below meth c s₁ B hml hv
  obtain ⟨rfl, hsz, hP, hKK, hD0⟩ := hv
  have hx := B.exec
  have hb := B.bytes
  have hr := B.returns
  have hts := atoms_spec (ws := wsX5_tableAt) B.pre
  have hown : s.vm.findClass RX5 = some m.cls := findClass_of_methodNamed B.named
  have hlocks := B.notSynchronized
  have C0 : Cx p s m ([.ref h_me, .int l1, .int l2, .int l3] : List Value).toArray meth c cX5_tableAt 4 (some .int) wsX5_tableAt RX5 (dC, dI) cyI cyJ cyA := ⟨hx, hb, hr, hml, hown, hts, hKK, hlocks⟩
  have hK := hKK.1
  subst hsz
  have hD := hD0.self (sz := s.heap.size)
  generalize hAe : va_A [(h_me, .inr (5, [z_pageLength, z_page, z_order, .ref h_told, z_startAt, z_limit, z_plantsRead, z_ticksEver, z_newOrder, z_part, z_numbers, z_isWhole, z_isBelow, z_newTold, z_nextAt, z_tried, z_rows, z_below, z_inputBy, z_stateBy, z_goal, z_planTicks, z_planAt, z_inputs, z_ends, z_wanted, z_h])), (h_told, .inl (cyI, 15, .inl v_told))] s.heap.size = A at hD ⊢
  have hA : ∀ q : Nat, s.heap.size ≤ q → A q := fun q h => by rw [← hAe]; exact Or.inr h
  have hS : va_S A s.heap s.heap [] := va_S.rf
  have hl := lv_entry ([.ref h_me, .int l1, .int l2, .int l3]) (n := 4) (Nat.le_of_ble_eq_true rfl)
  rw [lg_entry_eq]
  generalize (lg_sl ([.ref h_me, .int l1, .int l2, .int l3]) ++ List.replicate (4 - (lg_sl ([.ref h_me, .int l1, .int l2, .int l3])).length) Slot.unset).toArray = ls at hl ⊢
  have hl : lv_has ls 4 [(0, .ref h_me), (1, .int l1), (2, .int l2), (3, .int l3)] := hl
  unfold F_X5_tableAt at hF
  refine lv_aload_n hx hb dX5_tableAt_0 rfl (lv_at hl 0 rfl) ?_
  refine my_get (D := (dC, dI)) (ci := 5) (v := .ref h_told) (C := RX5) (T := TX5) (N := 27) hx hb hts iX5_tableAt_X5 hown hK hP 0 rfl rfl 3 (by decide) (hts _ mX5_tableAt_1) rfl rfl dX5_tableAt_1 ?_
  refine lv_iload_n hx hb dX5_tableAt_4 rfl (lv_at hl 1 rfl) ?_
  refine lv_if_eq (tgt := 16) hx hb dX5_tableAt_5 (by decide) (fun c_ => ?_) (fun c_ => ?_)
  · have hF := gif c_ hF
    refine lv_iconst (v := (3 : Int32)) hx hb dX5_tableAt_16 (by decide) ?_
    refine lv_iload_n hx hb dX5_tableAt_17 rfl (lv_at hl 2 rfl) ?_
    refine lv_imul hx hb dX5_tableAt_18 ?_
    refine lv_iload_n hx hb dX5_tableAt_19 rfl (lv_at hl 3 rfl) ?_
    refine lv_iadd hx hb dX5_tableAt_20 ?_
    obtain ⟨g_1, hF⟩ := gno hF
    refine va_iald hx hb hK hP 1 0 rfl rfl g_1 dX5_tableAt_21 ?_
    cases hF
    exact W.iret hx hb hr (fun t ht hW => ⟨⟨_, (), rfl, rfl, by rw [ht]; exact hP, hD⟩, hS.F ht⟩) hS.2.2 dX5_tableAt_22
  · have hF := gel c_ hF
    refine lv_iconst (v := (3 : Int32)) hx hb dX5_tableAt_8 (by decide) ?_
    refine lv_iload_n hx hb dX5_tableAt_9 rfl (lv_at hl 3 rfl) ?_
    refine lv_imul hx hb dX5_tableAt_10 ?_
    refine lv_iload_n hx hb dX5_tableAt_11 rfl (lv_at hl 2 rfl) ?_
    refine lv_iadd hx hb dX5_tableAt_12 ?_
    refine lv_goto (tgt := 21) hx hb dX5_tableAt_13 (by decide) ?_
    obtain ⟨g_2, hF⟩ := gno hF
    refine va_iald hx hb hK hP 1 0 rfl rfl g_2 dX5_tableAt_21 ?_
    cases hF
    exact W.iret hx hb hr (fun t ht hW => ⟨⟨_, (), rfl, rfl, by rw [ht]; exact hP, hD⟩, hS.F ht⟩) hS.2.2 dX5_tableAt_22
/-! RestGainsModel.layRows (Z)V -/
def rmX5_layRows : Room := { frames := 2, cells := 0, slots := 0, locals := 43 }
def F_X5_layRows_173 (k_60 : Int32 → Int32 → Int32 → (Nat → Int64) → (Nat → Int32) → Option ((Nat → Int64))) (k_70 : Int32 → Int32 → Int32 → Int32 → (Nat → Int64) → (Nat → Int32) → Option ((Nat → Int64))) (l1 : Int32) (l2 : Int32) (l3 : Int32) (v_order : Int32) (v_rows : Nat → Int64) (v_told : Nat → Int32) : Option ((Nat → Int64)) :=
  k_70 l1 l2 (l3 + (1 : Int32)) v_order v_rows v_told
def F_X5_layRows_118 (k_60 : Int32 → Int32 → Int32 → (Nat → Int64) → (Nat → Int32) → Option ((Nat → Int64))) (k_70 : Int32 → Int32 → Int32 → Int32 → (Nat → Int64) → (Nat → Int32) → Option ((Nat → Int64))) : Nat → Int32 → Int32 → Int32 → Int32 → Int32 → (Nat → Int64) → (Nat → Int32) → Option ((Nat → Int64))
  | 0, _, _, _, _, _, _, _ => none
  | n + 1, l1, l2, l3, l4, v_order, v_rows, v_told => if v_order ≤ l4 then (F_X5_layRows_173 k_60 k_70 l1 l2 l3 v_order v_rows v_told) else (if l2 ≤ 0 then (F_X5_layRows_173 k_60 k_70 l1 l2 l3 v_order v_rows v_told) else (if (((3 : Int32) * l2) + l3) < 0 ∨ 9 ≤ (((3 : Int32) * l2) + l3).toNatClampNeg then none else bd1 (F_X5_tableAt l1 l3 l4 v_told) (fun r2 => if (((3 : Int32) * (l2 - (1 : Int32))) + l4) < 0 ∨ 9 ≤ (((3 : Int32) * (l2 - (1 : Int32))) + l4).toNatClampNeg then none else if (((3 : Int32) * l2) + l3) < 0 ∨ 9 ≤ (((3 : Int32) * l2) + l3).toNatClampNeg then none else F_X5_layRows_118 k_60 k_70 n l1 l2 l3 (l4 + (1 : Int32)) v_order (vp_updL v_rows (((3 : Int32) * l2) + l3).toNatClampNeg ((v_rows (((3 : Int32) * l2) + l3).toNatClampNeg) + (r2.toInt64 * (v_rows (((3 : Int32) * (l2 - (1 : Int32))) + l4).toNatClampNeg)))) v_told)))
def F_X5_layRows_114 (k_60 : Int32 → Int32 → Int32 → (Nat → Int64) → (Nat → Int32) → Option ((Nat → Int64))) (k_70 : Int32 → Int32 → Int32 → Int32 → (Nat → Int64) → (Nat → Int32) → Option ((Nat → Int64))) (s1 : Int32) (s2 : Int64) (l1 : Int32) (l2 : Int32) (l3 : Int32) (v_order : Int32) (v_rows : Nat → Int64) (v_told : Nat → Int32) : Option ((Nat → Int64)) :=
  if s1 < 0 ∨ 9 ≤ s1.toNatClampNeg then none else F_X5_layRows_118 k_60 k_70 3000 l1 l2 l3 (0 : Int32) v_order (vp_updL v_rows s1.toNatClampNeg s2) v_told
def F_X5_layRows_106 (k_60 : Int32 → Int32 → Int32 → (Nat → Int64) → (Nat → Int32) → Option ((Nat → Int64))) (k_70 : Int32 → Int32 → Int32 → Int32 → (Nat → Int64) → (Nat → Int32) → Option ((Nat → Int64))) (s1 : Int32) (s3 : Int32) (l1 : Int32) (l2 : Int32) (l3 : Int32) (v_order : Int32) (v_rows : Nat → Int64) (v_told : Nat → Int32) : Option ((Nat → Int64)) :=
  if (s3 + l3) < 0 ∨ 15 ≤ (s3 + l3).toNatClampNeg then none else F_X5_layRows_114 k_60 k_70 s1 ((v_told (s3 + l3).toNatClampNeg).toInt64) l1 l2 l3 v_order v_rows v_told
def F_X5_layRows_70 (k_60 : Int32 → Int32 → Int32 → (Nat → Int64) → (Nat → Int32) → Option ((Nat → Int64))) : Nat → Int32 → Int32 → Int32 → Int32 → (Nat → Int64) → (Nat → Int32) → Option ((Nat → Int64))
  | 0, _, _, _, _, _, _ => none
  | n + 1, l1, l2, l3, v_order, v_rows, v_told => if v_order ≤ l3 then (k_60 l1 (l2 + (1 : Int32)) v_order v_rows v_told) else (if l2 = 0 then (if l1 = 0 then (F_X5_layRows_106 k_60 (fun l1 l2 l3 v_order v_rows v_told => F_X5_layRows_70 k_60 n l1 l2 l3 v_order v_rows v_told) (((3 : Int32) * l2) + l3) (9 : Int32) l1 l2 l3 v_order v_rows v_told) else (F_X5_layRows_106 k_60 (fun l1 l2 l3 v_order v_rows v_told => F_X5_layRows_70 k_60 n l1 l2 l3 v_order v_rows v_told) (((3 : Int32) * l2) + l3) (12 : Int32) l1 l2 l3 v_order v_rows v_told)) else (F_X5_layRows_114 k_60 (fun l1 l2 l3 v_order v_rows v_told => F_X5_layRows_70 k_60 n l1 l2 l3 v_order v_rows v_told) (((3 : Int32) * l2) + l3) (0 : Int64) l1 l2 l3 v_order v_rows v_told))
def F_X5_layRows_60  : Nat → Int32 → Int32 → Int32 → (Nat → Int64) → (Nat → Int32) → Option ((Nat → Int64))
  | 0, _, _, _, _, _ => none
  | n + 1, l1, l2, v_order, v_rows, v_told => if v_order ≤ l2 then (some v_rows) else (F_X5_layRows_70 (fun l1 l2 v_order v_rows v_told => F_X5_layRows_60  n l1 l2 v_order v_rows v_told) 3000 l1 l2 (0 : Int32) v_order v_rows v_told)
def F_X5_layRows_51 (k_2 : Int32 → Int32 → Int32 → (Nat → Int64) → (Nat → Int32) → Option ((Nat → Int64))) (s1 : Int32) (s2 : Int64) (l1 : Int32) (l2 : Int32) (v_order : Int32) (v_rows : Nat → Int64) (v_told : Nat → Int32) : Option ((Nat → Int64)) :=
  if s1 < 0 ∨ 9 ≤ s1.toNatClampNeg then none else k_2 l1 (l2 + (1 : Int32)) v_order (vp_updL v_rows s1.toNatClampNeg s2) v_told
def F_X5_layRows_37 (k_2 : Int32 → Int32 → Int32 → (Nat → Int64) → (Nat → Int32) → Option ((Nat → Int64))) (s1 : Int32) (l1 : Int32) (l2 : Int32) (v_order : Int32) (v_rows : Nat → Int64) (v_told : Nat → Int32) : Option ((Nat → Int64)) :=
  if (l2 / (3 : Int32)) = (l2 - l2 / (3 : Int32) * (3 : Int32)) then (F_X5_layRows_51 k_2 s1 (1 : Int64) l1 l2 v_order v_rows v_told) else (F_X5_layRows_51 k_2 s1 (0 : Int64) l1 l2 v_order v_rows v_told)
def F_X5_layRows_2  : Nat → Int32 → Int32 → Int32 → (Nat → Int64) → (Nat → Int32) → Option ((Nat → Int64))
  | 0, _, _, _, _, _ => none
  | n + 1, l1, l2, v_order, v_rows, v_told => if (9 : Int32) ≤ l2 then (F_X5_layRows_60  3000 l1 (0 : Int32) v_order v_rows v_told) else (bd1 (F_X5_isPlace (l2 / (3 : Int32)) v_order) (fun r1 => if r1 = 0 then (F_X5_layRows_37 (fun l1 l2 v_order v_rows v_told => F_X5_layRows_2  n l1 l2 v_order v_rows v_told) l2 l1 l2 v_order v_rows v_told) else (bd1 (F_X5_isPlace (l2 - l2 / (3 : Int32) * (3 : Int32)) v_order) (fun r2 => if r2 = 0 then (F_X5_layRows_37 (fun l1 l2 v_order v_rows v_told => F_X5_layRows_2  n l1 l2 v_order v_rows v_told) l2 l1 l2 v_order v_rows v_told) else (F_X5_layRows_51 (fun l1 l2 v_order v_rows v_told => F_X5_layRows_2  n l1 l2 v_order v_rows v_told) l2 (0 : Int64) l1 l2 v_order v_rows v_told)))))
def F_X5_layRows (l1 : Int32) (v_order : Int32) (v_rows : Nat → Int64) (v_told : Nat → Int32) : Option ((Nat → Int64)) :=
  F_X5_layRows_2  3000 l1 (0 : Int32) v_order v_rows v_told
set_option maxHeartbeats 4000000 in
set_option maxRecDepth 100000 in
theorem t_X5_layRows_173 {p : Program} {l : Launch} {e : Env} {s : State} {m : MethodId} {args : Array Value} {below : List Frame} {meth : Method} {c : Code} {dC : Nat → ClassId} {dI : Nat → Nat → Nat} {cyI cyJ cyA : ClassId} {A : Nat → Prop} {h_me h_rows h_told : Nat} {z_pageLength z_page z_startAt z_limit z_plantsRead z_ticksEver z_newOrder z_part z_numbers z_isWhole z_isBelow z_newTold z_nextAt z_tried z_below z_inputBy z_stateBy z_goal z_planTicks z_planAt z_inputs z_ends z_wanted z_h : Value} {q_rows : Nat → Int64} (C0 : Cx p s m args meth c cX5_layRows 5 none wsX5_layRows RX5 (dC, dI) cyI cyJ cyA) (hA : ∀ q : Nat, s.heap.size ≤ q → A q) (k_60 : Int32 → Int32 → Int32 → (Nat → Int64) → (Nat → Int32) → Option ((Nat → Int64))) (k_70 : Int32 → Int32 → Int32 → Int32 → (Nat → Int64) → (Nat → Int32) → Option ((Nat → Int64))) (hk_60 : ∀ (l1 : Int32) (l2 : Int32) (v_order : Int32) (v_rows : Nat → Int64) (v_told : Nat → Int32), k_60 l1 l2 v_order v_rows v_told = some q_rows → ∀ {H : Heap} {locs : List Loc} {ls : Array Slot}, va_P (dC, dI) vwCl [(h_me, .inr (5, [z_pageLength, z_page, .int v_order, .ref h_told, z_startAt, z_limit, z_plantsRead, z_ticksEver, z_newOrder, z_part, z_numbers, z_isWhole, z_isBelow, z_newTold, z_nextAt, z_tried, .ref h_rows, z_below, z_inputBy, z_stateBy, z_goal, z_planTicks, z_planAt, z_inputs, z_ends, z_wanted, z_h])), (h_rows, .inl (cyJ, 9, .inr (.inl v_rows))), (h_told, .inl (cyI, 15, .inl v_told))] H → va_D A [(h_me, .inr (5, [z_pageLength, z_page, .int v_order, .ref h_told, z_startAt, z_limit, z_plantsRead, z_ticksEver, z_newOrder, z_part, z_numbers, z_isWhole, z_isBelow, z_newTold, z_nextAt, z_tried, .ref h_rows, z_below, z_inputBy, z_stateBy, z_goal, z_planTicks, z_planAt, z_inputs, z_ends, z_wanted, z_h])), (h_rows, .inl (cyJ, 9, .inr (.inl v_rows))), (h_told, .inl (cyI, 15, .inl v_told))] → va_S A s.heap H locs → lv_has ls 5 [(0, .ref h_me), (1, .int l1), (2, .int l2)] → W p l e rmX5_layRows s m args below meth c H locs 0 0 (MQ below (QV (dC, dI) A [(h_me, .inr (5, [z_pageLength, z_page, .int v_order, .ref h_told, z_startAt, z_limit, z_plantsRead, z_ticksEver, z_newOrder, z_part, z_numbers, z_isWhole, z_isBelow, z_newTold, z_nextAt, z_tried, .ref h_rows, z_below, z_inputBy, z_stateBy, z_goal, z_planTicks, z_planAt, z_inputs, z_ends, z_wanted, z_h])), (h_rows, .inl (cyJ, 9, .inr (.inl q_rows))), (h_told, .inl (cyI, 15, .inl v_told))]) args s 0 0 A) (F0 m 60 ls [])) (hk_70 : ∀ (l1 : Int32) (l2 : Int32) (l3 : Int32) (v_order : Int32) (v_rows : Nat → Int64) (v_told : Nat → Int32), k_70 l1 l2 l3 v_order v_rows v_told = some q_rows → ∀ {H : Heap} {locs : List Loc} {ls : Array Slot}, va_P (dC, dI) vwCl [(h_me, .inr (5, [z_pageLength, z_page, .int v_order, .ref h_told, z_startAt, z_limit, z_plantsRead, z_ticksEver, z_newOrder, z_part, z_numbers, z_isWhole, z_isBelow, z_newTold, z_nextAt, z_tried, .ref h_rows, z_below, z_inputBy, z_stateBy, z_goal, z_planTicks, z_planAt, z_inputs, z_ends, z_wanted, z_h])), (h_rows, .inl (cyJ, 9, .inr (.inl v_rows))), (h_told, .inl (cyI, 15, .inl v_told))] H → va_D A [(h_me, .inr (5, [z_pageLength, z_page, .int v_order, .ref h_told, z_startAt, z_limit, z_plantsRead, z_ticksEver, z_newOrder, z_part, z_numbers, z_isWhole, z_isBelow, z_newTold, z_nextAt, z_tried, .ref h_rows, z_below, z_inputBy, z_stateBy, z_goal, z_planTicks, z_planAt, z_inputs, z_ends, z_wanted, z_h])), (h_rows, .inl (cyJ, 9, .inr (.inl v_rows))), (h_told, .inl (cyI, 15, .inl v_told))] → va_S A s.heap H locs → lv_has ls 5 [(0, .ref h_me), (1, .int l1), (2, .int l2), (3, .int l3)] → W p l e rmX5_layRows s m args below meth c H locs 0 0 (MQ below (QV (dC, dI) A [(h_me, .inr (5, [z_pageLength, z_page, .int v_order, .ref h_told, z_startAt, z_limit, z_plantsRead, z_ticksEver, z_newOrder, z_part, z_numbers, z_isWhole, z_isBelow, z_newTold, z_nextAt, z_tried, .ref h_rows, z_below, z_inputBy, z_stateBy, z_goal, z_planTicks, z_planAt, z_inputs, z_ends, z_wanted, z_h])), (h_rows, .inl (cyJ, 9, .inr (.inl q_rows))), (h_told, .inl (cyI, 15, .inl v_told))]) args s 0 0 A) (F0 m 70 ls [])) : ∀ (l1 : Int32) (l2 : Int32) (l3 : Int32) (v_order : Int32) (v_rows : Nat → Int64) (v_told : Nat → Int32), F_X5_layRows_173 k_60 k_70 l1 l2 l3 v_order v_rows v_told = some q_rows → ∀ {H : Heap} {locs : List Loc} {ls : Array Slot}, va_P (dC, dI) vwCl [(h_me, .inr (5, [z_pageLength, z_page, .int v_order, .ref h_told, z_startAt, z_limit, z_plantsRead, z_ticksEver, z_newOrder, z_part, z_numbers, z_isWhole, z_isBelow, z_newTold, z_nextAt, z_tried, .ref h_rows, z_below, z_inputBy, z_stateBy, z_goal, z_planTicks, z_planAt, z_inputs, z_ends, z_wanted, z_h])), (h_rows, .inl (cyJ, 9, .inr (.inl v_rows))), (h_told, .inl (cyI, 15, .inl v_told))] H → va_D A [(h_me, .inr (5, [z_pageLength, z_page, .int v_order, .ref h_told, z_startAt, z_limit, z_plantsRead, z_ticksEver, z_newOrder, z_part, z_numbers, z_isWhole, z_isBelow, z_newTold, z_nextAt, z_tried, .ref h_rows, z_below, z_inputBy, z_stateBy, z_goal, z_planTicks, z_planAt, z_inputs, z_ends, z_wanted, z_h])), (h_rows, .inl (cyJ, 9, .inr (.inl v_rows))), (h_told, .inl (cyI, 15, .inl v_told))] → va_S A s.heap H locs → lv_has ls 5 [(0, .ref h_me), (1, .int l1), (2, .int l2), (3, .int l3)] → W p l e rmX5_layRows s m args below meth c H locs 0 0 (MQ below (QV (dC, dI) A [(h_me, .inr (5, [z_pageLength, z_page, .int v_order, .ref h_told, z_startAt, z_limit, z_plantsRead, z_ticksEver, z_newOrder, z_part, z_numbers, z_isWhole, z_isBelow, z_newTold, z_nextAt, z_tried, .ref h_rows, z_below, z_inputBy, z_stateBy, z_goal, z_planTicks, z_planAt, z_inputs, z_ends, z_wanted, z_h])), (h_rows, .inl (cyJ, 9, .inr (.inl q_rows))), (h_told, .inl (cyI, 15, .inl v_told))]) args s 0 0 A) (F0 m 173 ls []) := by
  obtain ⟨hx, hb, hr, hml, hown, hts, hKK, hlocks⟩ := id C0
  have hK := hKK.1
  intro l1 l2 l3 v_order v_rows v_told hF H locs ls hP hD hS hl
  unfold F_X5_layRows_173 at hF
  refine lv_iinc (v := (l3 + (1 : Int32))) (lv' := [(3, .int (l3 + (1 : Int32))), (0, .ref h_me), (1, .int l1), (2, .int l2)]) hx hb dX5_layRows_173 hl (k := 3) rfl (by rfl) (by decide) rfl (fun ls hl => ?_)
  refine lv_goto (tgt := 70) hx hb dX5_layRows_176 (by decide) ?_
  exact hk_70 l1 l2 (l3 + (1 : Int32)) v_order v_rows v_told hF hP hD hS (lv_sub hl [1, 2, 3, 0] rfl)
set_option maxHeartbeats 4000000 in
set_option maxRecDepth 100000 in
theorem t_X5_layRows_118 {p : Program} {l : Launch} {e : Env} {s : State} {m : MethodId} {args : Array Value} {below : List Frame} {meth : Method} {c : Code} {dC : Nat → ClassId} {dI : Nat → Nat → Nat} {cyI cyJ cyA : ClassId} {A : Nat → Prop} {h_me h_rows h_told : Nat} {z_pageLength z_page z_startAt z_limit z_plantsRead z_ticksEver z_newOrder z_part z_numbers z_isWhole z_isBelow z_newTold z_nextAt z_tried z_below z_inputBy z_stateBy z_goal z_planTicks z_planAt z_inputs z_ends z_wanted z_h : Value} {q_rows : Nat → Int64} (C0 : Cx p s m args meth c cX5_layRows 5 none wsX5_layRows RX5 (dC, dI) cyI cyJ cyA) (hA : ∀ q : Nat, s.heap.size ≤ q → A q) (k_60 : Int32 → Int32 → Int32 → (Nat → Int64) → (Nat → Int32) → Option ((Nat → Int64))) (k_70 : Int32 → Int32 → Int32 → Int32 → (Nat → Int64) → (Nat → Int32) → Option ((Nat → Int64))) (hk_60 : ∀ (l1 : Int32) (l2 : Int32) (v_order : Int32) (v_rows : Nat → Int64) (v_told : Nat → Int32), k_60 l1 l2 v_order v_rows v_told = some q_rows → ∀ {H : Heap} {locs : List Loc} {ls : Array Slot}, va_P (dC, dI) vwCl [(h_me, .inr (5, [z_pageLength, z_page, .int v_order, .ref h_told, z_startAt, z_limit, z_plantsRead, z_ticksEver, z_newOrder, z_part, z_numbers, z_isWhole, z_isBelow, z_newTold, z_nextAt, z_tried, .ref h_rows, z_below, z_inputBy, z_stateBy, z_goal, z_planTicks, z_planAt, z_inputs, z_ends, z_wanted, z_h])), (h_rows, .inl (cyJ, 9, .inr (.inl v_rows))), (h_told, .inl (cyI, 15, .inl v_told))] H → va_D A [(h_me, .inr (5, [z_pageLength, z_page, .int v_order, .ref h_told, z_startAt, z_limit, z_plantsRead, z_ticksEver, z_newOrder, z_part, z_numbers, z_isWhole, z_isBelow, z_newTold, z_nextAt, z_tried, .ref h_rows, z_below, z_inputBy, z_stateBy, z_goal, z_planTicks, z_planAt, z_inputs, z_ends, z_wanted, z_h])), (h_rows, .inl (cyJ, 9, .inr (.inl v_rows))), (h_told, .inl (cyI, 15, .inl v_told))] → va_S A s.heap H locs → lv_has ls 5 [(0, .ref h_me), (1, .int l1), (2, .int l2)] → W p l e rmX5_layRows s m args below meth c H locs 0 0 (MQ below (QV (dC, dI) A [(h_me, .inr (5, [z_pageLength, z_page, .int v_order, .ref h_told, z_startAt, z_limit, z_plantsRead, z_ticksEver, z_newOrder, z_part, z_numbers, z_isWhole, z_isBelow, z_newTold, z_nextAt, z_tried, .ref h_rows, z_below, z_inputBy, z_stateBy, z_goal, z_planTicks, z_planAt, z_inputs, z_ends, z_wanted, z_h])), (h_rows, .inl (cyJ, 9, .inr (.inl q_rows))), (h_told, .inl (cyI, 15, .inl v_told))]) args s 0 0 A) (F0 m 60 ls [])) (hk_70 : ∀ (l1 : Int32) (l2 : Int32) (l3 : Int32) (v_order : Int32) (v_rows : Nat → Int64) (v_told : Nat → Int32), k_70 l1 l2 l3 v_order v_rows v_told = some q_rows → ∀ {H : Heap} {locs : List Loc} {ls : Array Slot}, va_P (dC, dI) vwCl [(h_me, .inr (5, [z_pageLength, z_page, .int v_order, .ref h_told, z_startAt, z_limit, z_plantsRead, z_ticksEver, z_newOrder, z_part, z_numbers, z_isWhole, z_isBelow, z_newTold, z_nextAt, z_tried, .ref h_rows, z_below, z_inputBy, z_stateBy, z_goal, z_planTicks, z_planAt, z_inputs, z_ends, z_wanted, z_h])), (h_rows, .inl (cyJ, 9, .inr (.inl v_rows))), (h_told, .inl (cyI, 15, .inl v_told))] H → va_D A [(h_me, .inr (5, [z_pageLength, z_page, .int v_order, .ref h_told, z_startAt, z_limit, z_plantsRead, z_ticksEver, z_newOrder, z_part, z_numbers, z_isWhole, z_isBelow, z_newTold, z_nextAt, z_tried, .ref h_rows, z_below, z_inputBy, z_stateBy, z_goal, z_planTicks, z_planAt, z_inputs, z_ends, z_wanted, z_h])), (h_rows, .inl (cyJ, 9, .inr (.inl v_rows))), (h_told, .inl (cyI, 15, .inl v_told))] → va_S A s.heap H locs → lv_has ls 5 [(0, .ref h_me), (1, .int l1), (2, .int l2), (3, .int l3)] → W p l e rmX5_layRows s m args below meth c H locs 0 0 (MQ below (QV (dC, dI) A [(h_me, .inr (5, [z_pageLength, z_page, .int v_order, .ref h_told, z_startAt, z_limit, z_plantsRead, z_ticksEver, z_newOrder, z_part, z_numbers, z_isWhole, z_isBelow, z_newTold, z_nextAt, z_tried, .ref h_rows, z_below, z_inputBy, z_stateBy, z_goal, z_planTicks, z_planAt, z_inputs, z_ends, z_wanted, z_h])), (h_rows, .inl (cyJ, 9, .inr (.inl q_rows))), (h_told, .inl (cyI, 15, .inl v_told))]) args s 0 0 A) (F0 m 70 ls [])) : ∀ (n : Nat) (l1 : Int32) (l2 : Int32) (l3 : Int32) (l4 : Int32) (v_order : Int32) (v_rows : Nat → Int64) (v_told : Nat → Int32), F_X5_layRows_118 k_60 k_70 n l1 l2 l3 l4 v_order v_rows v_told = some q_rows → ∀ {H : Heap} {locs : List Loc} {ls : Array Slot}, va_P (dC, dI) vwCl [(h_me, .inr (5, [z_pageLength, z_page, .int v_order, .ref h_told, z_startAt, z_limit, z_plantsRead, z_ticksEver, z_newOrder, z_part, z_numbers, z_isWhole, z_isBelow, z_newTold, z_nextAt, z_tried, .ref h_rows, z_below, z_inputBy, z_stateBy, z_goal, z_planTicks, z_planAt, z_inputs, z_ends, z_wanted, z_h])), (h_rows, .inl (cyJ, 9, .inr (.inl v_rows))), (h_told, .inl (cyI, 15, .inl v_told))] H → va_D A [(h_me, .inr (5, [z_pageLength, z_page, .int v_order, .ref h_told, z_startAt, z_limit, z_plantsRead, z_ticksEver, z_newOrder, z_part, z_numbers, z_isWhole, z_isBelow, z_newTold, z_nextAt, z_tried, .ref h_rows, z_below, z_inputBy, z_stateBy, z_goal, z_planTicks, z_planAt, z_inputs, z_ends, z_wanted, z_h])), (h_rows, .inl (cyJ, 9, .inr (.inl v_rows))), (h_told, .inl (cyI, 15, .inl v_told))] → va_S A s.heap H locs → lv_has ls 5 [(0, .ref h_me), (1, .int l1), (2, .int l2), (3, .int l3), (4, .int l4)] → W p l e rmX5_layRows s m args below meth c H locs 0 0 (MQ below (QV (dC, dI) A [(h_me, .inr (5, [z_pageLength, z_page, .int v_order, .ref h_told, z_startAt, z_limit, z_plantsRead, z_ticksEver, z_newOrder, z_part, z_numbers, z_isWhole, z_isBelow, z_newTold, z_nextAt, z_tried, .ref h_rows, z_below, z_inputBy, z_stateBy, z_goal, z_planTicks, z_planAt, z_inputs, z_ends, z_wanted, z_h])), (h_rows, .inl (cyJ, 9, .inr (.inl q_rows))), (h_told, .inl (cyI, 15, .inl v_told))]) args s 0 0 A) (F0 m 118 ls []) := by
  obtain ⟨hx, hb, hr, hml, hown, hts, hKK, hlocks⟩ := id C0
  have hK := hKK.1
  intro n
  induction n with
  | zero => intro l1 l2 l3 l4 v_order v_rows v_told hF; rw [F_X5_layRows_118] at hF; cases hF
  | succ n ih =>
      intro l1 l2 l3 l4 v_order v_rows v_told hF H locs ls hP hD hS hl
      rw [F_X5_layRows_118] at hF
      refine lv_iload hx hb dX5_layRows_118 (lv_at hl 4 rfl) ?_
      refine lv_aload_n hx hb dX5_layRows_120 rfl (lv_at hl 0 rfl) ?_
      refine my_get (D := (dC, dI)) (ci := 5) (v := .int v_order) (C := RX5) (T := TX5) (N := 27) hx hb hts iX5_layRows_X5 hown hK hP 0 rfl rfl 2 (by decide) (hts _ mX5_layRows_2) rfl rfl dX5_layRows_121 ?_
      refine lv_icmp_ge (tgt := 173) hx hb dX5_layRows_124 (by decide) (fun c_ => ?_) (fun c_ => ?_)
      · have hF := gif c_ hF
        exact t_X5_layRows_173 C0 hA k_60 k_70 hk_60 hk_70 l1 l2 l3 v_order v_rows v_told hF hP hD hS (lv_sub hl [0, 1, 2, 3] rfl)
      · have hF := gel c_ hF
        refine lv_iload_n hx hb dX5_layRows_127 rfl (lv_at hl 2 rfl) ?_
        refine lv_if_le (tgt := 173) hx hb dX5_layRows_128 (by decide) (fun c_ => ?_) (fun c_ => ?_)
        · have hF := gif c_ hF
          exact t_X5_layRows_173 C0 hA k_60 k_70 hk_60 hk_70 l1 l2 l3 v_order v_rows v_told hF hP hD hS (lv_sub hl [0, 1, 2, 3] rfl)
        · have hF := gel c_ hF
          refine lv_aload_n hx hb dX5_layRows_131 rfl (lv_at hl 0 rfl) ?_
          refine my_get (D := (dC, dI)) (ci := 5) (v := .ref h_rows) (C := RX5) (T := TX5) (N := 27) hx hb hts iX5_layRows_X5 hown hK hP 0 rfl rfl 16 (by decide) (hts _ mX5_layRows_1) rfl rfl dX5_layRows_132 ?_
          refine lv_iconst (v := (3 : Int32)) hx hb dX5_layRows_135 (by decide) ?_
          refine lv_iload_n hx hb dX5_layRows_136 rfl (lv_at hl 2 rfl) ?_
          refine lv_imul hx hb dX5_layRows_137 ?_
          refine lv_iload_n hx hb dX5_layRows_138 rfl (lv_at hl 3 rfl) ?_
          refine lv_iadd hx hb dX5_layRows_139 ?_
          refine lv_dup2_11 hx hb dX5_layRows_140 rfl rfl ?_
          obtain ⟨g_1, hF⟩ := gno hF
          refine va_lald hx hb hK hP 1 1 rfl rfl g_1 dX5_layRows_141 ?_
          refine lv_aload_n hx hb dX5_layRows_142 rfl (lv_at hl 0 rfl) ?_
          refine lv_iload_n hx hb dX5_layRows_143 rfl (lv_at hl 1 rfl) ?_
          refine lv_iload_n hx hb dX5_layRows_144 rfl (lv_at hl 3 rfl) ?_
          refine lv_iload hx hb dX5_layRows_145 (lv_at hl 4 rfl) ?_
          obtain ⟨r2, hz2, hF⟩ := bd1_e hF
          refine kc_i (wr := [(h_rows, .inl (cyJ, 9, .inr (.inl v_rows)))]) (ws' := [(h_me, .inr (5, [z_pageLength, z_page, .int v_order, .ref h_told, z_startAt, z_limit, z_plantsRead, z_ticksEver, z_newOrder, z_part, z_numbers, z_isWhole, z_isBelow, z_newTold, z_nextAt, z_tried, .ref h_rows, z_below, z_inputBy, z_stateBy, z_goal, z_planTicks, z_planAt, z_inputs, z_ends, z_wanted, z_h])), (h_rows, .inl (cyJ, 9, .inr (.inl v_rows))), (h_told, .inl (cyI, 15, .inl v_told))]) (va_runV (As := [.int l1, .int l3, .int l4]) (rest := [.long (v_rows (((3 : Int32) * l2) + l3).toNatClampNeg), .int (((3 : Int32) * l2) + l3), .ref h_rows]) ⟨hx, hb, hml, hown, hts⟩ (c_X5_tableAt l dC dI cyI cyJ cyA h_me h_told z_pageLength z_page (.int v_order) z_startAt z_limit z_plantsRead z_ticksEver z_newOrder z_part z_numbers z_isWhole z_isBelow z_newTold z_nextAt z_tried (.ref h_rows) z_below z_inputBy z_stateBy z_goal z_planTicks z_planAt z_inputs z_ends z_wanted z_h v_told l1 l3 l4 hz2 _) (cwV 3 hts gX5_layRows_X5_tableAt rfl rfl rfl ndX5_tableAt ⟨Nat.le_of_ble_eq_true rfl, Nat.le_of_ble_eq_true rfl⟩) (pre_V hKK hP hD 0 rfl rfl [0, 2] (by decide) rfl rfl) rfl rfl hl.1 rfl (lv_room (Nat.le_of_ble_eq_true rfl)) dX5_layRows_147 ⟨Nat.le_of_ble_eq_true rfl, Nat.le_of_ble_eq_true rfl⟩) hP hD hS hA [0, 2] [1] [1, 0, 2] rfl rfl (by decide) (by decide) (by decide) rfl rfl (fun H locs hP hD hS => ?_)
          refine lv_i2l hx hb dX5_layRows_150 rfl ?_
          refine lv_aload_n hx hb dX5_layRows_151 rfl (lv_at hl 0 rfl) ?_
          refine my_get (D := (dC, dI)) (ci := 5) (v := .ref h_rows) (C := RX5) (T := TX5) (N := 27) hx hb hts iX5_layRows_X5 hown hK hP 0 rfl rfl 16 (by decide) (hts _ mX5_layRows_1) rfl rfl dX5_layRows_152 ?_
          refine lv_iconst (v := (3 : Int32)) hx hb dX5_layRows_155 (by decide) ?_
          refine lv_iload_n hx hb dX5_layRows_156 rfl (lv_at hl 2 rfl) ?_
          refine lv_iconst (v := (1 : Int32)) hx hb dX5_layRows_157 (by decide) ?_
          refine lv_isub hx hb dX5_layRows_158 ?_
          refine lv_imul hx hb dX5_layRows_159 ?_
          refine lv_iload hx hb dX5_layRows_160 (lv_at hl 4 rfl) ?_
          refine lv_iadd hx hb dX5_layRows_162 ?_
          obtain ⟨g_3, hF⟩ := gno hF
          refine va_lald hx hb hK hP 1 1 rfl rfl g_3 dX5_layRows_163 ?_
          refine lv_lmul hx hb dX5_layRows_164 ?_
          refine lv_ladd hx hb dX5_layRows_165 ?_
          obtain ⟨g_4, hF⟩ := gno hF
          refine my_last (ws' := [(h_me, .inr (5, [z_pageLength, z_page, .int v_order, .ref h_told, z_startAt, z_limit, z_plantsRead, z_ticksEver, z_newOrder, z_part, z_numbers, z_isWhole, z_isBelow, z_newTold, z_nextAt, z_tried, .ref h_rows, z_below, z_inputBy, z_stateBy, z_goal, z_planTicks, z_planAt, z_inputs, z_ends, z_wanted, z_h])), (h_rows, .inl (cyJ, 9, .inr (.inl (vp_updL v_rows (((3 : Int32) * l2) + l3).toNatClampNeg ((v_rows (((3 : Int32) * l2) + l3).toNatClampNeg) + (r2.toInt64 * (v_rows (((3 : Int32) * (l2 - (1 : Int32))) + l4).toNatClampNeg))))))), (h_told, .inl (cyI, 15, .inl v_told))]) hx hb hK hP hD hS 1 1 rfl rfl g_4 dX5_layRows_166 rfl (fun H locs hP hD hS => ?_)
          refine lv_iinc (v := (l4 + (1 : Int32))) (lv' := [(4, .int (l4 + (1 : Int32))), (0, .ref h_me), (1, .int l1), (2, .int l2), (3, .int l3)]) hx hb dX5_layRows_167 hl (k := 4) rfl (by rfl) (by decide) rfl (fun ls hl => ?_)
          refine lv_goto (tgt := 118) hx hb dX5_layRows_170 (by decide) ?_
          exact ih l1 l2 l3 (l4 + (1 : Int32)) v_order (vp_updL v_rows (((3 : Int32) * l2) + l3).toNatClampNeg ((v_rows (((3 : Int32) * l2) + l3).toNatClampNeg) + (r2.toInt64 * (v_rows (((3 : Int32) * (l2 - (1 : Int32))) + l4).toNatClampNeg)))) v_told hF hP hD hS (lv_sub hl [1, 2, 3, 4, 0] rfl)
set_option maxHeartbeats 4000000 in
set_option maxRecDepth 100000 in
theorem t_X5_layRows_114 {p : Program} {l : Launch} {e : Env} {s : State} {m : MethodId} {args : Array Value} {below : List Frame} {meth : Method} {c : Code} {dC : Nat → ClassId} {dI : Nat → Nat → Nat} {cyI cyJ cyA : ClassId} {A : Nat → Prop} {h_me h_rows h_told : Nat} {z_pageLength z_page z_startAt z_limit z_plantsRead z_ticksEver z_newOrder z_part z_numbers z_isWhole z_isBelow z_newTold z_nextAt z_tried z_below z_inputBy z_stateBy z_goal z_planTicks z_planAt z_inputs z_ends z_wanted z_h : Value} {q_rows : Nat → Int64} (C0 : Cx p s m args meth c cX5_layRows 5 none wsX5_layRows RX5 (dC, dI) cyI cyJ cyA) (hA : ∀ q : Nat, s.heap.size ≤ q → A q) (k_60 : Int32 → Int32 → Int32 → (Nat → Int64) → (Nat → Int32) → Option ((Nat → Int64))) (k_70 : Int32 → Int32 → Int32 → Int32 → (Nat → Int64) → (Nat → Int32) → Option ((Nat → Int64))) (hk_60 : ∀ (l1 : Int32) (l2 : Int32) (v_order : Int32) (v_rows : Nat → Int64) (v_told : Nat → Int32), k_60 l1 l2 v_order v_rows v_told = some q_rows → ∀ {H : Heap} {locs : List Loc} {ls : Array Slot}, va_P (dC, dI) vwCl [(h_me, .inr (5, [z_pageLength, z_page, .int v_order, .ref h_told, z_startAt, z_limit, z_plantsRead, z_ticksEver, z_newOrder, z_part, z_numbers, z_isWhole, z_isBelow, z_newTold, z_nextAt, z_tried, .ref h_rows, z_below, z_inputBy, z_stateBy, z_goal, z_planTicks, z_planAt, z_inputs, z_ends, z_wanted, z_h])), (h_rows, .inl (cyJ, 9, .inr (.inl v_rows))), (h_told, .inl (cyI, 15, .inl v_told))] H → va_D A [(h_me, .inr (5, [z_pageLength, z_page, .int v_order, .ref h_told, z_startAt, z_limit, z_plantsRead, z_ticksEver, z_newOrder, z_part, z_numbers, z_isWhole, z_isBelow, z_newTold, z_nextAt, z_tried, .ref h_rows, z_below, z_inputBy, z_stateBy, z_goal, z_planTicks, z_planAt, z_inputs, z_ends, z_wanted, z_h])), (h_rows, .inl (cyJ, 9, .inr (.inl v_rows))), (h_told, .inl (cyI, 15, .inl v_told))] → va_S A s.heap H locs → lv_has ls 5 [(0, .ref h_me), (1, .int l1), (2, .int l2)] → W p l e rmX5_layRows s m args below meth c H locs 0 0 (MQ below (QV (dC, dI) A [(h_me, .inr (5, [z_pageLength, z_page, .int v_order, .ref h_told, z_startAt, z_limit, z_plantsRead, z_ticksEver, z_newOrder, z_part, z_numbers, z_isWhole, z_isBelow, z_newTold, z_nextAt, z_tried, .ref h_rows, z_below, z_inputBy, z_stateBy, z_goal, z_planTicks, z_planAt, z_inputs, z_ends, z_wanted, z_h])), (h_rows, .inl (cyJ, 9, .inr (.inl q_rows))), (h_told, .inl (cyI, 15, .inl v_told))]) args s 0 0 A) (F0 m 60 ls [])) (hk_70 : ∀ (l1 : Int32) (l2 : Int32) (l3 : Int32) (v_order : Int32) (v_rows : Nat → Int64) (v_told : Nat → Int32), k_70 l1 l2 l3 v_order v_rows v_told = some q_rows → ∀ {H : Heap} {locs : List Loc} {ls : Array Slot}, va_P (dC, dI) vwCl [(h_me, .inr (5, [z_pageLength, z_page, .int v_order, .ref h_told, z_startAt, z_limit, z_plantsRead, z_ticksEver, z_newOrder, z_part, z_numbers, z_isWhole, z_isBelow, z_newTold, z_nextAt, z_tried, .ref h_rows, z_below, z_inputBy, z_stateBy, z_goal, z_planTicks, z_planAt, z_inputs, z_ends, z_wanted, z_h])), (h_rows, .inl (cyJ, 9, .inr (.inl v_rows))), (h_told, .inl (cyI, 15, .inl v_told))] H → va_D A [(h_me, .inr (5, [z_pageLength, z_page, .int v_order, .ref h_told, z_startAt, z_limit, z_plantsRead, z_ticksEver, z_newOrder, z_part, z_numbers, z_isWhole, z_isBelow, z_newTold, z_nextAt, z_tried, .ref h_rows, z_below, z_inputBy, z_stateBy, z_goal, z_planTicks, z_planAt, z_inputs, z_ends, z_wanted, z_h])), (h_rows, .inl (cyJ, 9, .inr (.inl v_rows))), (h_told, .inl (cyI, 15, .inl v_told))] → va_S A s.heap H locs → lv_has ls 5 [(0, .ref h_me), (1, .int l1), (2, .int l2), (3, .int l3)] → W p l e rmX5_layRows s m args below meth c H locs 0 0 (MQ below (QV (dC, dI) A [(h_me, .inr (5, [z_pageLength, z_page, .int v_order, .ref h_told, z_startAt, z_limit, z_plantsRead, z_ticksEver, z_newOrder, z_part, z_numbers, z_isWhole, z_isBelow, z_newTold, z_nextAt, z_tried, .ref h_rows, z_below, z_inputBy, z_stateBy, z_goal, z_planTicks, z_planAt, z_inputs, z_ends, z_wanted, z_h])), (h_rows, .inl (cyJ, 9, .inr (.inl q_rows))), (h_told, .inl (cyI, 15, .inl v_told))]) args s 0 0 A) (F0 m 70 ls [])) : ∀ (s1 : Int32) (s2 : Int64) (l1 : Int32) (l2 : Int32) (l3 : Int32) (v_order : Int32) (v_rows : Nat → Int64) (v_told : Nat → Int32), F_X5_layRows_114 k_60 k_70 s1 s2 l1 l2 l3 v_order v_rows v_told = some q_rows → ∀ {H : Heap} {locs : List Loc} {ls : Array Slot}, va_P (dC, dI) vwCl [(h_me, .inr (5, [z_pageLength, z_page, .int v_order, .ref h_told, z_startAt, z_limit, z_plantsRead, z_ticksEver, z_newOrder, z_part, z_numbers, z_isWhole, z_isBelow, z_newTold, z_nextAt, z_tried, .ref h_rows, z_below, z_inputBy, z_stateBy, z_goal, z_planTicks, z_planAt, z_inputs, z_ends, z_wanted, z_h])), (h_rows, .inl (cyJ, 9, .inr (.inl v_rows))), (h_told, .inl (cyI, 15, .inl v_told))] H → va_D A [(h_me, .inr (5, [z_pageLength, z_page, .int v_order, .ref h_told, z_startAt, z_limit, z_plantsRead, z_ticksEver, z_newOrder, z_part, z_numbers, z_isWhole, z_isBelow, z_newTold, z_nextAt, z_tried, .ref h_rows, z_below, z_inputBy, z_stateBy, z_goal, z_planTicks, z_planAt, z_inputs, z_ends, z_wanted, z_h])), (h_rows, .inl (cyJ, 9, .inr (.inl v_rows))), (h_told, .inl (cyI, 15, .inl v_told))] → va_S A s.heap H locs → lv_has ls 5 [(0, .ref h_me), (1, .int l1), (2, .int l2), (3, .int l3)] → W p l e rmX5_layRows s m args below meth c H locs 0 0 (MQ below (QV (dC, dI) A [(h_me, .inr (5, [z_pageLength, z_page, .int v_order, .ref h_told, z_startAt, z_limit, z_plantsRead, z_ticksEver, z_newOrder, z_part, z_numbers, z_isWhole, z_isBelow, z_newTold, z_nextAt, z_tried, .ref h_rows, z_below, z_inputBy, z_stateBy, z_goal, z_planTicks, z_planAt, z_inputs, z_ends, z_wanted, z_h])), (h_rows, .inl (cyJ, 9, .inr (.inl q_rows))), (h_told, .inl (cyI, 15, .inl v_told))]) args s 0 0 A) (F0 m 114 ls [.long s2, .int s1, .ref h_rows]) := by
  obtain ⟨hx, hb, hr, hml, hown, hts, hKK, hlocks⟩ := id C0
  have hK := hKK.1
  intro s1 s2 l1 l2 l3 v_order v_rows v_told hF H locs ls hP hD hS hl
  unfold F_X5_layRows_114 at hF
  obtain ⟨g_1, hF⟩ := gno hF
  refine my_last (ws' := [(h_me, .inr (5, [z_pageLength, z_page, .int v_order, .ref h_told, z_startAt, z_limit, z_plantsRead, z_ticksEver, z_newOrder, z_part, z_numbers, z_isWhole, z_isBelow, z_newTold, z_nextAt, z_tried, .ref h_rows, z_below, z_inputBy, z_stateBy, z_goal, z_planTicks, z_planAt, z_inputs, z_ends, z_wanted, z_h])), (h_rows, .inl (cyJ, 9, .inr (.inl (vp_updL v_rows s1.toNatClampNeg s2)))), (h_told, .inl (cyI, 15, .inl v_told))]) hx hb hK hP hD hS 1 1 rfl rfl g_1 dX5_layRows_114 rfl (fun H locs hP hD hS => ?_)
  refine lv_iconst (v := (0 : Int32)) hx hb dX5_layRows_115 (by decide) ?_
  refine lv_istore (lv' := [(4, .int (0 : Int32)), (0, .ref h_me), (1, .int l1), (2, .int l2), (3, .int l3)]) hx hb dX5_layRows_116 hl (by decide) rfl (fun ls hl => ?_)
  exact t_X5_layRows_118 C0 hA k_60 k_70 hk_60 hk_70 3000 l1 l2 l3 (0 : Int32) v_order (vp_updL v_rows s1.toNatClampNeg s2) v_told hF hP hD hS (lv_sub hl [1, 2, 3, 4, 0] rfl)
set_option maxHeartbeats 4000000 in
set_option maxRecDepth 100000 in
theorem t_X5_layRows_106 {p : Program} {l : Launch} {e : Env} {s : State} {m : MethodId} {args : Array Value} {below : List Frame} {meth : Method} {c : Code} {dC : Nat → ClassId} {dI : Nat → Nat → Nat} {cyI cyJ cyA : ClassId} {A : Nat → Prop} {h_me h_rows h_told : Nat} {z_pageLength z_page z_startAt z_limit z_plantsRead z_ticksEver z_newOrder z_part z_numbers z_isWhole z_isBelow z_newTold z_nextAt z_tried z_below z_inputBy z_stateBy z_goal z_planTicks z_planAt z_inputs z_ends z_wanted z_h : Value} {q_rows : Nat → Int64} (C0 : Cx p s m args meth c cX5_layRows 5 none wsX5_layRows RX5 (dC, dI) cyI cyJ cyA) (hA : ∀ q : Nat, s.heap.size ≤ q → A q) (k_60 : Int32 → Int32 → Int32 → (Nat → Int64) → (Nat → Int32) → Option ((Nat → Int64))) (k_70 : Int32 → Int32 → Int32 → Int32 → (Nat → Int64) → (Nat → Int32) → Option ((Nat → Int64))) (hk_60 : ∀ (l1 : Int32) (l2 : Int32) (v_order : Int32) (v_rows : Nat → Int64) (v_told : Nat → Int32), k_60 l1 l2 v_order v_rows v_told = some q_rows → ∀ {H : Heap} {locs : List Loc} {ls : Array Slot}, va_P (dC, dI) vwCl [(h_me, .inr (5, [z_pageLength, z_page, .int v_order, .ref h_told, z_startAt, z_limit, z_plantsRead, z_ticksEver, z_newOrder, z_part, z_numbers, z_isWhole, z_isBelow, z_newTold, z_nextAt, z_tried, .ref h_rows, z_below, z_inputBy, z_stateBy, z_goal, z_planTicks, z_planAt, z_inputs, z_ends, z_wanted, z_h])), (h_rows, .inl (cyJ, 9, .inr (.inl v_rows))), (h_told, .inl (cyI, 15, .inl v_told))] H → va_D A [(h_me, .inr (5, [z_pageLength, z_page, .int v_order, .ref h_told, z_startAt, z_limit, z_plantsRead, z_ticksEver, z_newOrder, z_part, z_numbers, z_isWhole, z_isBelow, z_newTold, z_nextAt, z_tried, .ref h_rows, z_below, z_inputBy, z_stateBy, z_goal, z_planTicks, z_planAt, z_inputs, z_ends, z_wanted, z_h])), (h_rows, .inl (cyJ, 9, .inr (.inl v_rows))), (h_told, .inl (cyI, 15, .inl v_told))] → va_S A s.heap H locs → lv_has ls 5 [(0, .ref h_me), (1, .int l1), (2, .int l2)] → W p l e rmX5_layRows s m args below meth c H locs 0 0 (MQ below (QV (dC, dI) A [(h_me, .inr (5, [z_pageLength, z_page, .int v_order, .ref h_told, z_startAt, z_limit, z_plantsRead, z_ticksEver, z_newOrder, z_part, z_numbers, z_isWhole, z_isBelow, z_newTold, z_nextAt, z_tried, .ref h_rows, z_below, z_inputBy, z_stateBy, z_goal, z_planTicks, z_planAt, z_inputs, z_ends, z_wanted, z_h])), (h_rows, .inl (cyJ, 9, .inr (.inl q_rows))), (h_told, .inl (cyI, 15, .inl v_told))]) args s 0 0 A) (F0 m 60 ls [])) (hk_70 : ∀ (l1 : Int32) (l2 : Int32) (l3 : Int32) (v_order : Int32) (v_rows : Nat → Int64) (v_told : Nat → Int32), k_70 l1 l2 l3 v_order v_rows v_told = some q_rows → ∀ {H : Heap} {locs : List Loc} {ls : Array Slot}, va_P (dC, dI) vwCl [(h_me, .inr (5, [z_pageLength, z_page, .int v_order, .ref h_told, z_startAt, z_limit, z_plantsRead, z_ticksEver, z_newOrder, z_part, z_numbers, z_isWhole, z_isBelow, z_newTold, z_nextAt, z_tried, .ref h_rows, z_below, z_inputBy, z_stateBy, z_goal, z_planTicks, z_planAt, z_inputs, z_ends, z_wanted, z_h])), (h_rows, .inl (cyJ, 9, .inr (.inl v_rows))), (h_told, .inl (cyI, 15, .inl v_told))] H → va_D A [(h_me, .inr (5, [z_pageLength, z_page, .int v_order, .ref h_told, z_startAt, z_limit, z_plantsRead, z_ticksEver, z_newOrder, z_part, z_numbers, z_isWhole, z_isBelow, z_newTold, z_nextAt, z_tried, .ref h_rows, z_below, z_inputBy, z_stateBy, z_goal, z_planTicks, z_planAt, z_inputs, z_ends, z_wanted, z_h])), (h_rows, .inl (cyJ, 9, .inr (.inl v_rows))), (h_told, .inl (cyI, 15, .inl v_told))] → va_S A s.heap H locs → lv_has ls 5 [(0, .ref h_me), (1, .int l1), (2, .int l2), (3, .int l3)] → W p l e rmX5_layRows s m args below meth c H locs 0 0 (MQ below (QV (dC, dI) A [(h_me, .inr (5, [z_pageLength, z_page, .int v_order, .ref h_told, z_startAt, z_limit, z_plantsRead, z_ticksEver, z_newOrder, z_part, z_numbers, z_isWhole, z_isBelow, z_newTold, z_nextAt, z_tried, .ref h_rows, z_below, z_inputBy, z_stateBy, z_goal, z_planTicks, z_planAt, z_inputs, z_ends, z_wanted, z_h])), (h_rows, .inl (cyJ, 9, .inr (.inl q_rows))), (h_told, .inl (cyI, 15, .inl v_told))]) args s 0 0 A) (F0 m 70 ls [])) : ∀ (s1 : Int32) (s3 : Int32) (l1 : Int32) (l2 : Int32) (l3 : Int32) (v_order : Int32) (v_rows : Nat → Int64) (v_told : Nat → Int32), F_X5_layRows_106 k_60 k_70 s1 s3 l1 l2 l3 v_order v_rows v_told = some q_rows → ∀ {H : Heap} {locs : List Loc} {ls : Array Slot}, va_P (dC, dI) vwCl [(h_me, .inr (5, [z_pageLength, z_page, .int v_order, .ref h_told, z_startAt, z_limit, z_plantsRead, z_ticksEver, z_newOrder, z_part, z_numbers, z_isWhole, z_isBelow, z_newTold, z_nextAt, z_tried, .ref h_rows, z_below, z_inputBy, z_stateBy, z_goal, z_planTicks, z_planAt, z_inputs, z_ends, z_wanted, z_h])), (h_rows, .inl (cyJ, 9, .inr (.inl v_rows))), (h_told, .inl (cyI, 15, .inl v_told))] H → va_D A [(h_me, .inr (5, [z_pageLength, z_page, .int v_order, .ref h_told, z_startAt, z_limit, z_plantsRead, z_ticksEver, z_newOrder, z_part, z_numbers, z_isWhole, z_isBelow, z_newTold, z_nextAt, z_tried, .ref h_rows, z_below, z_inputBy, z_stateBy, z_goal, z_planTicks, z_planAt, z_inputs, z_ends, z_wanted, z_h])), (h_rows, .inl (cyJ, 9, .inr (.inl v_rows))), (h_told, .inl (cyI, 15, .inl v_told))] → va_S A s.heap H locs → lv_has ls 5 [(0, .ref h_me), (1, .int l1), (2, .int l2), (3, .int l3)] → W p l e rmX5_layRows s m args below meth c H locs 0 0 (MQ below (QV (dC, dI) A [(h_me, .inr (5, [z_pageLength, z_page, .int v_order, .ref h_told, z_startAt, z_limit, z_plantsRead, z_ticksEver, z_newOrder, z_part, z_numbers, z_isWhole, z_isBelow, z_newTold, z_nextAt, z_tried, .ref h_rows, z_below, z_inputBy, z_stateBy, z_goal, z_planTicks, z_planAt, z_inputs, z_ends, z_wanted, z_h])), (h_rows, .inl (cyJ, 9, .inr (.inl q_rows))), (h_told, .inl (cyI, 15, .inl v_told))]) args s 0 0 A) (F0 m 106 ls [.int s3, .ref h_told, .int s1, .ref h_rows]) := by
  obtain ⟨hx, hb, hr, hml, hown, hts, hKK, hlocks⟩ := id C0
  have hK := hKK.1
  intro s1 s3 l1 l2 l3 v_order v_rows v_told hF H locs ls hP hD hS hl
  unfold F_X5_layRows_106 at hF
  refine lv_iload_n hx hb dX5_layRows_106 rfl (lv_at hl 3 rfl) ?_
  refine lv_iadd hx hb dX5_layRows_107 ?_
  obtain ⟨g_1, hF⟩ := gno hF
  refine va_iald hx hb hK hP 2 0 rfl rfl g_1 dX5_layRows_108 ?_
  refine lv_i2l hx hb dX5_layRows_109 rfl ?_
  refine lv_goto (tgt := 114) hx hb dX5_layRows_110 (by decide) ?_
  exact t_X5_layRows_114 C0 hA k_60 k_70 hk_60 hk_70 s1 ((v_told (s3 + l3).toNatClampNeg).toInt64) l1 l2 l3 v_order v_rows v_told hF hP hD hS (lv_sub hl [0, 1, 2, 3] rfl)
set_option maxHeartbeats 4000000 in
set_option maxRecDepth 100000 in
theorem t_X5_layRows_70 {p : Program} {l : Launch} {e : Env} {s : State} {m : MethodId} {args : Array Value} {below : List Frame} {meth : Method} {c : Code} {dC : Nat → ClassId} {dI : Nat → Nat → Nat} {cyI cyJ cyA : ClassId} {A : Nat → Prop} {h_me h_rows h_told : Nat} {z_pageLength z_page z_startAt z_limit z_plantsRead z_ticksEver z_newOrder z_part z_numbers z_isWhole z_isBelow z_newTold z_nextAt z_tried z_below z_inputBy z_stateBy z_goal z_planTicks z_planAt z_inputs z_ends z_wanted z_h : Value} {q_rows : Nat → Int64} (C0 : Cx p s m args meth c cX5_layRows 5 none wsX5_layRows RX5 (dC, dI) cyI cyJ cyA) (hA : ∀ q : Nat, s.heap.size ≤ q → A q) (k_60 : Int32 → Int32 → Int32 → (Nat → Int64) → (Nat → Int32) → Option ((Nat → Int64))) (hk_60 : ∀ (l1 : Int32) (l2 : Int32) (v_order : Int32) (v_rows : Nat → Int64) (v_told : Nat → Int32), k_60 l1 l2 v_order v_rows v_told = some q_rows → ∀ {H : Heap} {locs : List Loc} {ls : Array Slot}, va_P (dC, dI) vwCl [(h_me, .inr (5, [z_pageLength, z_page, .int v_order, .ref h_told, z_startAt, z_limit, z_plantsRead, z_ticksEver, z_newOrder, z_part, z_numbers, z_isWhole, z_isBelow, z_newTold, z_nextAt, z_tried, .ref h_rows, z_below, z_inputBy, z_stateBy, z_goal, z_planTicks, z_planAt, z_inputs, z_ends, z_wanted, z_h])), (h_rows, .inl (cyJ, 9, .inr (.inl v_rows))), (h_told, .inl (cyI, 15, .inl v_told))] H → va_D A [(h_me, .inr (5, [z_pageLength, z_page, .int v_order, .ref h_told, z_startAt, z_limit, z_plantsRead, z_ticksEver, z_newOrder, z_part, z_numbers, z_isWhole, z_isBelow, z_newTold, z_nextAt, z_tried, .ref h_rows, z_below, z_inputBy, z_stateBy, z_goal, z_planTicks, z_planAt, z_inputs, z_ends, z_wanted, z_h])), (h_rows, .inl (cyJ, 9, .inr (.inl v_rows))), (h_told, .inl (cyI, 15, .inl v_told))] → va_S A s.heap H locs → lv_has ls 5 [(0, .ref h_me), (1, .int l1), (2, .int l2)] → W p l e rmX5_layRows s m args below meth c H locs 0 0 (MQ below (QV (dC, dI) A [(h_me, .inr (5, [z_pageLength, z_page, .int v_order, .ref h_told, z_startAt, z_limit, z_plantsRead, z_ticksEver, z_newOrder, z_part, z_numbers, z_isWhole, z_isBelow, z_newTold, z_nextAt, z_tried, .ref h_rows, z_below, z_inputBy, z_stateBy, z_goal, z_planTicks, z_planAt, z_inputs, z_ends, z_wanted, z_h])), (h_rows, .inl (cyJ, 9, .inr (.inl q_rows))), (h_told, .inl (cyI, 15, .inl v_told))]) args s 0 0 A) (F0 m 60 ls [])) : ∀ (n : Nat) (l1 : Int32) (l2 : Int32) (l3 : Int32) (v_order : Int32) (v_rows : Nat → Int64) (v_told : Nat → Int32), F_X5_layRows_70 k_60 n l1 l2 l3 v_order v_rows v_told = some q_rows → ∀ {H : Heap} {locs : List Loc} {ls : Array Slot}, va_P (dC, dI) vwCl [(h_me, .inr (5, [z_pageLength, z_page, .int v_order, .ref h_told, z_startAt, z_limit, z_plantsRead, z_ticksEver, z_newOrder, z_part, z_numbers, z_isWhole, z_isBelow, z_newTold, z_nextAt, z_tried, .ref h_rows, z_below, z_inputBy, z_stateBy, z_goal, z_planTicks, z_planAt, z_inputs, z_ends, z_wanted, z_h])), (h_rows, .inl (cyJ, 9, .inr (.inl v_rows))), (h_told, .inl (cyI, 15, .inl v_told))] H → va_D A [(h_me, .inr (5, [z_pageLength, z_page, .int v_order, .ref h_told, z_startAt, z_limit, z_plantsRead, z_ticksEver, z_newOrder, z_part, z_numbers, z_isWhole, z_isBelow, z_newTold, z_nextAt, z_tried, .ref h_rows, z_below, z_inputBy, z_stateBy, z_goal, z_planTicks, z_planAt, z_inputs, z_ends, z_wanted, z_h])), (h_rows, .inl (cyJ, 9, .inr (.inl v_rows))), (h_told, .inl (cyI, 15, .inl v_told))] → va_S A s.heap H locs → lv_has ls 5 [(0, .ref h_me), (1, .int l1), (2, .int l2), (3, .int l3)] → W p l e rmX5_layRows s m args below meth c H locs 0 0 (MQ below (QV (dC, dI) A [(h_me, .inr (5, [z_pageLength, z_page, .int v_order, .ref h_told, z_startAt, z_limit, z_plantsRead, z_ticksEver, z_newOrder, z_part, z_numbers, z_isWhole, z_isBelow, z_newTold, z_nextAt, z_tried, .ref h_rows, z_below, z_inputBy, z_stateBy, z_goal, z_planTicks, z_planAt, z_inputs, z_ends, z_wanted, z_h])), (h_rows, .inl (cyJ, 9, .inr (.inl q_rows))), (h_told, .inl (cyI, 15, .inl v_told))]) args s 0 0 A) (F0 m 70 ls []) := by
  obtain ⟨hx, hb, hr, hml, hown, hts, hKK, hlocks⟩ := id C0
  have hK := hKK.1
  intro n
  induction n with
  | zero => intro l1 l2 l3 v_order v_rows v_told hF; rw [F_X5_layRows_70] at hF; cases hF
  | succ n ih =>
      intro l1 l2 l3 v_order v_rows v_told hF H locs ls hP hD hS hl
      rw [F_X5_layRows_70] at hF
      refine lv_iload_n hx hb dX5_layRows_70 rfl (lv_at hl 3 rfl) ?_
      refine lv_aload_n hx hb dX5_layRows_71 rfl (lv_at hl 0 rfl) ?_
      refine my_get (D := (dC, dI)) (ci := 5) (v := .int v_order) (C := RX5) (T := TX5) (N := 27) hx hb hts iX5_layRows_X5 hown hK hP 0 rfl rfl 2 (by decide) (hts _ mX5_layRows_2) rfl rfl dX5_layRows_72 ?_
      refine lv_icmp_ge (tgt := 179) hx hb dX5_layRows_75 (by decide) (fun c_ => ?_) (fun c_ => ?_)
      · have hF := gif c_ hF
        refine lv_iinc (v := (l2 + (1 : Int32))) (lv' := [(2, .int (l2 + (1 : Int32))), (0, .ref h_me), (1, .int l1), (3, .int l3)]) hx hb dX5_layRows_179 hl (k := 2) rfl (by rfl) (by decide) rfl (fun ls hl => ?_)
        refine lv_goto (tgt := 60) hx hb dX5_layRows_182 (by decide) ?_
        exact hk_60 l1 (l2 + (1 : Int32)) v_order v_rows v_told hF hP hD hS (lv_sub hl [1, 2, 0] rfl)
      · have hF := gel c_ hF
        refine lv_aload_n hx hb dX5_layRows_78 rfl (lv_at hl 0 rfl) ?_
        refine my_get (D := (dC, dI)) (ci := 5) (v := .ref h_rows) (C := RX5) (T := TX5) (N := 27) hx hb hts iX5_layRows_X5 hown hK hP 0 rfl rfl 16 (by decide) (hts _ mX5_layRows_1) rfl rfl dX5_layRows_79 ?_
        refine lv_iconst (v := (3 : Int32)) hx hb dX5_layRows_82 (by decide) ?_
        refine lv_iload_n hx hb dX5_layRows_83 rfl (lv_at hl 2 rfl) ?_
        refine lv_imul hx hb dX5_layRows_84 ?_
        refine lv_iload_n hx hb dX5_layRows_85 rfl (lv_at hl 3 rfl) ?_
        refine lv_iadd hx hb dX5_layRows_86 ?_
        refine lv_iload_n hx hb dX5_layRows_87 rfl (lv_at hl 2 rfl) ?_
        refine lv_if_ne (tgt := 113) hx hb dX5_layRows_88 (by decide) (fun c_ => ?_) (fun c_ => ?_)
        · have hF := gel c_ hF
          refine lv_lconst (v := (0 : Int64)) hx hb dX5_layRows_113 (by decide) ?_
          exact t_X5_layRows_114 C0 hA k_60 (fun l1 l2 l3 v_order v_rows v_told => F_X5_layRows_70 k_60 n l1 l2 l3 v_order v_rows v_told) hk_60 ih (((3 : Int32) * l2) + l3) (0 : Int64) l1 l2 l3 v_order v_rows v_told hF hP hD hS (lv_sub hl [0, 1, 2, 3] rfl)
        · have hF := gif c_ hF
          refine lv_aload_n hx hb dX5_layRows_91 rfl (lv_at hl 0 rfl) ?_
          refine my_get (D := (dC, dI)) (ci := 5) (v := .ref h_told) (C := RX5) (T := TX5) (N := 27) hx hb hts iX5_layRows_X5 hown hK hP 0 rfl rfl 3 (by decide) (hts _ mX5_layRows_3) rfl rfl dX5_layRows_92 ?_
          refine lv_iload_n hx hb dX5_layRows_95 rfl (lv_at hl 1 rfl) ?_
          refine lv_if_eq (tgt := 104) hx hb dX5_layRows_96 (by decide) (fun c_ => ?_) (fun c_ => ?_)
          · have hF := gif c_ hF
            refine lv_bipush (v := (9 : Int32)) hx hb dX5_layRows_104 (by decide) ?_
            exact t_X5_layRows_106 C0 hA k_60 (fun l1 l2 l3 v_order v_rows v_told => F_X5_layRows_70 k_60 n l1 l2 l3 v_order v_rows v_told) hk_60 ih (((3 : Int32) * l2) + l3) (9 : Int32) l1 l2 l3 v_order v_rows v_told hF hP hD hS (lv_sub hl [0, 1, 2, 3] rfl)
          · have hF := gel c_ hF
            refine lv_bipush (v := (12 : Int32)) hx hb dX5_layRows_99 (by decide) ?_
            refine lv_goto (tgt := 106) hx hb dX5_layRows_101 (by decide) ?_
            exact t_X5_layRows_106 C0 hA k_60 (fun l1 l2 l3 v_order v_rows v_told => F_X5_layRows_70 k_60 n l1 l2 l3 v_order v_rows v_told) hk_60 ih (((3 : Int32) * l2) + l3) (12 : Int32) l1 l2 l3 v_order v_rows v_told hF hP hD hS (lv_sub hl [0, 1, 2, 3] rfl)
set_option maxHeartbeats 4000000 in
set_option maxRecDepth 100000 in
theorem t_X5_layRows_60 {p : Program} {l : Launch} {e : Env} {s : State} {m : MethodId} {args : Array Value} {below : List Frame} {meth : Method} {c : Code} {dC : Nat → ClassId} {dI : Nat → Nat → Nat} {cyI cyJ cyA : ClassId} {A : Nat → Prop} {h_me h_rows h_told : Nat} {z_pageLength z_page z_startAt z_limit z_plantsRead z_ticksEver z_newOrder z_part z_numbers z_isWhole z_isBelow z_newTold z_nextAt z_tried z_below z_inputBy z_stateBy z_goal z_planTicks z_planAt z_inputs z_ends z_wanted z_h : Value} {q_rows : Nat → Int64} (C0 : Cx p s m args meth c cX5_layRows 5 none wsX5_layRows RX5 (dC, dI) cyI cyJ cyA) (hA : ∀ q : Nat, s.heap.size ≤ q → A q)  : ∀ (n : Nat) (l1 : Int32) (l2 : Int32) (v_order : Int32) (v_rows : Nat → Int64) (v_told : Nat → Int32), F_X5_layRows_60  n l1 l2 v_order v_rows v_told = some q_rows → ∀ {H : Heap} {locs : List Loc} {ls : Array Slot}, va_P (dC, dI) vwCl [(h_me, .inr (5, [z_pageLength, z_page, .int v_order, .ref h_told, z_startAt, z_limit, z_plantsRead, z_ticksEver, z_newOrder, z_part, z_numbers, z_isWhole, z_isBelow, z_newTold, z_nextAt, z_tried, .ref h_rows, z_below, z_inputBy, z_stateBy, z_goal, z_planTicks, z_planAt, z_inputs, z_ends, z_wanted, z_h])), (h_rows, .inl (cyJ, 9, .inr (.inl v_rows))), (h_told, .inl (cyI, 15, .inl v_told))] H → va_D A [(h_me, .inr (5, [z_pageLength, z_page, .int v_order, .ref h_told, z_startAt, z_limit, z_plantsRead, z_ticksEver, z_newOrder, z_part, z_numbers, z_isWhole, z_isBelow, z_newTold, z_nextAt, z_tried, .ref h_rows, z_below, z_inputBy, z_stateBy, z_goal, z_planTicks, z_planAt, z_inputs, z_ends, z_wanted, z_h])), (h_rows, .inl (cyJ, 9, .inr (.inl v_rows))), (h_told, .inl (cyI, 15, .inl v_told))] → va_S A s.heap H locs → lv_has ls 5 [(0, .ref h_me), (1, .int l1), (2, .int l2)] → W p l e rmX5_layRows s m args below meth c H locs 0 0 (MQ below (QV (dC, dI) A [(h_me, .inr (5, [z_pageLength, z_page, .int v_order, .ref h_told, z_startAt, z_limit, z_plantsRead, z_ticksEver, z_newOrder, z_part, z_numbers, z_isWhole, z_isBelow, z_newTold, z_nextAt, z_tried, .ref h_rows, z_below, z_inputBy, z_stateBy, z_goal, z_planTicks, z_planAt, z_inputs, z_ends, z_wanted, z_h])), (h_rows, .inl (cyJ, 9, .inr (.inl q_rows))), (h_told, .inl (cyI, 15, .inl v_told))]) args s 0 0 A) (F0 m 60 ls []) := by
  obtain ⟨hx, hb, hr, hml, hown, hts, hKK, hlocks⟩ := id C0
  have hK := hKK.1
  intro n
  induction n with
  | zero => intro l1 l2 v_order v_rows v_told hF; rw [F_X5_layRows_60] at hF; cases hF
  | succ n ih =>
      intro l1 l2 v_order v_rows v_told hF H locs ls hP hD hS hl
      rw [F_X5_layRows_60] at hF
      refine lv_iload_n hx hb dX5_layRows_60 rfl (lv_at hl 2 rfl) ?_
      refine lv_aload_n hx hb dX5_layRows_61 rfl (lv_at hl 0 rfl) ?_
      refine my_get (D := (dC, dI)) (ci := 5) (v := .int v_order) (C := RX5) (T := TX5) (N := 27) hx hb hts iX5_layRows_X5 hown hK hP 0 rfl rfl 2 (by decide) (hts _ mX5_layRows_2) rfl rfl dX5_layRows_62 ?_
      refine lv_icmp_ge (tgt := 185) hx hb dX5_layRows_65 (by decide) (fun c_ => ?_) (fun c_ => ?_)
      · have hF := gif c_ hF
        cases hF
        exact W.vret hx hb hr (fun t ht hW => ⟨⟨(), rfl, trivial, by rw [ht]; exact hP, hD⟩, hS.F ht⟩) hS.2.2 dX5_layRows_185
      · have hF := gel c_ hF
        refine lv_iconst (v := (0 : Int32)) hx hb dX5_layRows_68 (by decide) ?_
        refine lv_istore_n (lv' := [(3, .int (0 : Int32)), (0, .ref h_me), (1, .int l1), (2, .int l2)]) hx hb dX5_layRows_69 rfl hl (by decide) rfl (fun ls hl => ?_)
        exact t_X5_layRows_70 C0 hA (fun l1 l2 v_order v_rows v_told => F_X5_layRows_60  n l1 l2 v_order v_rows v_told) ih 3000 l1 l2 (0 : Int32) v_order v_rows v_told hF hP hD hS (lv_sub hl [1, 2, 3, 0] rfl)
set_option maxHeartbeats 4000000 in
set_option maxRecDepth 100000 in
theorem t_X5_layRows_51 {p : Program} {l : Launch} {e : Env} {s : State} {m : MethodId} {args : Array Value} {below : List Frame} {meth : Method} {c : Code} {dC : Nat → ClassId} {dI : Nat → Nat → Nat} {cyI cyJ cyA : ClassId} {A : Nat → Prop} {h_me h_rows h_told : Nat} {z_pageLength z_page z_startAt z_limit z_plantsRead z_ticksEver z_newOrder z_part z_numbers z_isWhole z_isBelow z_newTold z_nextAt z_tried z_below z_inputBy z_stateBy z_goal z_planTicks z_planAt z_inputs z_ends z_wanted z_h : Value} {q_rows : Nat → Int64} (C0 : Cx p s m args meth c cX5_layRows 5 none wsX5_layRows RX5 (dC, dI) cyI cyJ cyA) (hA : ∀ q : Nat, s.heap.size ≤ q → A q) (k_2 : Int32 → Int32 → Int32 → (Nat → Int64) → (Nat → Int32) → Option ((Nat → Int64))) (hk_2 : ∀ (l1 : Int32) (l2 : Int32) (v_order : Int32) (v_rows : Nat → Int64) (v_told : Nat → Int32), k_2 l1 l2 v_order v_rows v_told = some q_rows → ∀ {H : Heap} {locs : List Loc} {ls : Array Slot}, va_P (dC, dI) vwCl [(h_me, .inr (5, [z_pageLength, z_page, .int v_order, .ref h_told, z_startAt, z_limit, z_plantsRead, z_ticksEver, z_newOrder, z_part, z_numbers, z_isWhole, z_isBelow, z_newTold, z_nextAt, z_tried, .ref h_rows, z_below, z_inputBy, z_stateBy, z_goal, z_planTicks, z_planAt, z_inputs, z_ends, z_wanted, z_h])), (h_rows, .inl (cyJ, 9, .inr (.inl v_rows))), (h_told, .inl (cyI, 15, .inl v_told))] H → va_D A [(h_me, .inr (5, [z_pageLength, z_page, .int v_order, .ref h_told, z_startAt, z_limit, z_plantsRead, z_ticksEver, z_newOrder, z_part, z_numbers, z_isWhole, z_isBelow, z_newTold, z_nextAt, z_tried, .ref h_rows, z_below, z_inputBy, z_stateBy, z_goal, z_planTicks, z_planAt, z_inputs, z_ends, z_wanted, z_h])), (h_rows, .inl (cyJ, 9, .inr (.inl v_rows))), (h_told, .inl (cyI, 15, .inl v_told))] → va_S A s.heap H locs → lv_has ls 5 [(0, .ref h_me), (1, .int l1), (2, .int l2)] → W p l e rmX5_layRows s m args below meth c H locs 0 0 (MQ below (QV (dC, dI) A [(h_me, .inr (5, [z_pageLength, z_page, .int v_order, .ref h_told, z_startAt, z_limit, z_plantsRead, z_ticksEver, z_newOrder, z_part, z_numbers, z_isWhole, z_isBelow, z_newTold, z_nextAt, z_tried, .ref h_rows, z_below, z_inputBy, z_stateBy, z_goal, z_planTicks, z_planAt, z_inputs, z_ends, z_wanted, z_h])), (h_rows, .inl (cyJ, 9, .inr (.inl q_rows))), (h_told, .inl (cyI, 15, .inl v_told))]) args s 0 0 A) (F0 m 2 ls [])) : ∀ (s1 : Int32) (s2 : Int64) (l1 : Int32) (l2 : Int32) (v_order : Int32) (v_rows : Nat → Int64) (v_told : Nat → Int32), F_X5_layRows_51 k_2 s1 s2 l1 l2 v_order v_rows v_told = some q_rows → ∀ {H : Heap} {locs : List Loc} {ls : Array Slot}, va_P (dC, dI) vwCl [(h_me, .inr (5, [z_pageLength, z_page, .int v_order, .ref h_told, z_startAt, z_limit, z_plantsRead, z_ticksEver, z_newOrder, z_part, z_numbers, z_isWhole, z_isBelow, z_newTold, z_nextAt, z_tried, .ref h_rows, z_below, z_inputBy, z_stateBy, z_goal, z_planTicks, z_planAt, z_inputs, z_ends, z_wanted, z_h])), (h_rows, .inl (cyJ, 9, .inr (.inl v_rows))), (h_told, .inl (cyI, 15, .inl v_told))] H → va_D A [(h_me, .inr (5, [z_pageLength, z_page, .int v_order, .ref h_told, z_startAt, z_limit, z_plantsRead, z_ticksEver, z_newOrder, z_part, z_numbers, z_isWhole, z_isBelow, z_newTold, z_nextAt, z_tried, .ref h_rows, z_below, z_inputBy, z_stateBy, z_goal, z_planTicks, z_planAt, z_inputs, z_ends, z_wanted, z_h])), (h_rows, .inl (cyJ, 9, .inr (.inl v_rows))), (h_told, .inl (cyI, 15, .inl v_told))] → va_S A s.heap H locs → lv_has ls 5 [(0, .ref h_me), (1, .int l1), (2, .int l2)] → W p l e rmX5_layRows s m args below meth c H locs 0 0 (MQ below (QV (dC, dI) A [(h_me, .inr (5, [z_pageLength, z_page, .int v_order, .ref h_told, z_startAt, z_limit, z_plantsRead, z_ticksEver, z_newOrder, z_part, z_numbers, z_isWhole, z_isBelow, z_newTold, z_nextAt, z_tried, .ref h_rows, z_below, z_inputBy, z_stateBy, z_goal, z_planTicks, z_planAt, z_inputs, z_ends, z_wanted, z_h])), (h_rows, .inl (cyJ, 9, .inr (.inl q_rows))), (h_told, .inl (cyI, 15, .inl v_told))]) args s 0 0 A) (F0 m 51 ls [.long s2, .int s1, .ref h_rows]) := by
  obtain ⟨hx, hb, hr, hml, hown, hts, hKK, hlocks⟩ := id C0
  have hK := hKK.1
  intro s1 s2 l1 l2 v_order v_rows v_told hF H locs ls hP hD hS hl
  unfold F_X5_layRows_51 at hF
  obtain ⟨g_1, hF⟩ := gno hF
  refine my_last (ws' := [(h_me, .inr (5, [z_pageLength, z_page, .int v_order, .ref h_told, z_startAt, z_limit, z_plantsRead, z_ticksEver, z_newOrder, z_part, z_numbers, z_isWhole, z_isBelow, z_newTold, z_nextAt, z_tried, .ref h_rows, z_below, z_inputBy, z_stateBy, z_goal, z_planTicks, z_planAt, z_inputs, z_ends, z_wanted, z_h])), (h_rows, .inl (cyJ, 9, .inr (.inl (vp_updL v_rows s1.toNatClampNeg s2)))), (h_told, .inl (cyI, 15, .inl v_told))]) hx hb hK hP hD hS 1 1 rfl rfl g_1 dX5_layRows_51 rfl (fun H locs hP hD hS => ?_)
  refine lv_iinc (v := (l2 + (1 : Int32))) (lv' := [(2, .int (l2 + (1 : Int32))), (0, .ref h_me), (1, .int l1)]) hx hb dX5_layRows_52 hl (k := 2) rfl (by rfl) (by decide) rfl (fun ls hl => ?_)
  refine lv_goto (tgt := 2) hx hb dX5_layRows_55 (by decide) ?_
  exact hk_2 l1 (l2 + (1 : Int32)) v_order (vp_updL v_rows s1.toNatClampNeg s2) v_told hF hP hD hS (lv_sub hl [1, 2, 0] rfl)
set_option maxHeartbeats 4000000 in
set_option maxRecDepth 100000 in
theorem t_X5_layRows_37 {p : Program} {l : Launch} {e : Env} {s : State} {m : MethodId} {args : Array Value} {below : List Frame} {meth : Method} {c : Code} {dC : Nat → ClassId} {dI : Nat → Nat → Nat} {cyI cyJ cyA : ClassId} {A : Nat → Prop} {h_me h_rows h_told : Nat} {z_pageLength z_page z_startAt z_limit z_plantsRead z_ticksEver z_newOrder z_part z_numbers z_isWhole z_isBelow z_newTold z_nextAt z_tried z_below z_inputBy z_stateBy z_goal z_planTicks z_planAt z_inputs z_ends z_wanted z_h : Value} {q_rows : Nat → Int64} (C0 : Cx p s m args meth c cX5_layRows 5 none wsX5_layRows RX5 (dC, dI) cyI cyJ cyA) (hA : ∀ q : Nat, s.heap.size ≤ q → A q) (k_2 : Int32 → Int32 → Int32 → (Nat → Int64) → (Nat → Int32) → Option ((Nat → Int64))) (hk_2 : ∀ (l1 : Int32) (l2 : Int32) (v_order : Int32) (v_rows : Nat → Int64) (v_told : Nat → Int32), k_2 l1 l2 v_order v_rows v_told = some q_rows → ∀ {H : Heap} {locs : List Loc} {ls : Array Slot}, va_P (dC, dI) vwCl [(h_me, .inr (5, [z_pageLength, z_page, .int v_order, .ref h_told, z_startAt, z_limit, z_plantsRead, z_ticksEver, z_newOrder, z_part, z_numbers, z_isWhole, z_isBelow, z_newTold, z_nextAt, z_tried, .ref h_rows, z_below, z_inputBy, z_stateBy, z_goal, z_planTicks, z_planAt, z_inputs, z_ends, z_wanted, z_h])), (h_rows, .inl (cyJ, 9, .inr (.inl v_rows))), (h_told, .inl (cyI, 15, .inl v_told))] H → va_D A [(h_me, .inr (5, [z_pageLength, z_page, .int v_order, .ref h_told, z_startAt, z_limit, z_plantsRead, z_ticksEver, z_newOrder, z_part, z_numbers, z_isWhole, z_isBelow, z_newTold, z_nextAt, z_tried, .ref h_rows, z_below, z_inputBy, z_stateBy, z_goal, z_planTicks, z_planAt, z_inputs, z_ends, z_wanted, z_h])), (h_rows, .inl (cyJ, 9, .inr (.inl v_rows))), (h_told, .inl (cyI, 15, .inl v_told))] → va_S A s.heap H locs → lv_has ls 5 [(0, .ref h_me), (1, .int l1), (2, .int l2)] → W p l e rmX5_layRows s m args below meth c H locs 0 0 (MQ below (QV (dC, dI) A [(h_me, .inr (5, [z_pageLength, z_page, .int v_order, .ref h_told, z_startAt, z_limit, z_plantsRead, z_ticksEver, z_newOrder, z_part, z_numbers, z_isWhole, z_isBelow, z_newTold, z_nextAt, z_tried, .ref h_rows, z_below, z_inputBy, z_stateBy, z_goal, z_planTicks, z_planAt, z_inputs, z_ends, z_wanted, z_h])), (h_rows, .inl (cyJ, 9, .inr (.inl q_rows))), (h_told, .inl (cyI, 15, .inl v_told))]) args s 0 0 A) (F0 m 2 ls [])) : ∀ (s1 : Int32) (l1 : Int32) (l2 : Int32) (v_order : Int32) (v_rows : Nat → Int64) (v_told : Nat → Int32), F_X5_layRows_37 k_2 s1 l1 l2 v_order v_rows v_told = some q_rows → ∀ {H : Heap} {locs : List Loc} {ls : Array Slot}, va_P (dC, dI) vwCl [(h_me, .inr (5, [z_pageLength, z_page, .int v_order, .ref h_told, z_startAt, z_limit, z_plantsRead, z_ticksEver, z_newOrder, z_part, z_numbers, z_isWhole, z_isBelow, z_newTold, z_nextAt, z_tried, .ref h_rows, z_below, z_inputBy, z_stateBy, z_goal, z_planTicks, z_planAt, z_inputs, z_ends, z_wanted, z_h])), (h_rows, .inl (cyJ, 9, .inr (.inl v_rows))), (h_told, .inl (cyI, 15, .inl v_told))] H → va_D A [(h_me, .inr (5, [z_pageLength, z_page, .int v_order, .ref h_told, z_startAt, z_limit, z_plantsRead, z_ticksEver, z_newOrder, z_part, z_numbers, z_isWhole, z_isBelow, z_newTold, z_nextAt, z_tried, .ref h_rows, z_below, z_inputBy, z_stateBy, z_goal, z_planTicks, z_planAt, z_inputs, z_ends, z_wanted, z_h])), (h_rows, .inl (cyJ, 9, .inr (.inl v_rows))), (h_told, .inl (cyI, 15, .inl v_told))] → va_S A s.heap H locs → lv_has ls 5 [(0, .ref h_me), (1, .int l1), (2, .int l2)] → W p l e rmX5_layRows s m args below meth c H locs 0 0 (MQ below (QV (dC, dI) A [(h_me, .inr (5, [z_pageLength, z_page, .int v_order, .ref h_told, z_startAt, z_limit, z_plantsRead, z_ticksEver, z_newOrder, z_part, z_numbers, z_isWhole, z_isBelow, z_newTold, z_nextAt, z_tried, .ref h_rows, z_below, z_inputBy, z_stateBy, z_goal, z_planTicks, z_planAt, z_inputs, z_ends, z_wanted, z_h])), (h_rows, .inl (cyJ, 9, .inr (.inl q_rows))), (h_told, .inl (cyI, 15, .inl v_told))]) args s 0 0 A) (F0 m 37 ls [.int s1, .ref h_rows]) := by
  obtain ⟨hx, hb, hr, hml, hown, hts, hKK, hlocks⟩ := id C0
  have hK := hKK.1
  intro s1 l1 l2 v_order v_rows v_told hF H locs ls hP hD hS hl
  unfold F_X5_layRows_37 at hF
  refine lv_iload_n hx hb dX5_layRows_37 rfl (lv_at hl 2 rfl) ?_
  refine lv_iconst (v := (3 : Int32)) hx hb dX5_layRows_38 (by decide) ?_
  refine lv_idiv hx hb dX5_layRows_39 (by decide) ?_
  refine lv_iload_n hx hb dX5_layRows_40 rfl (lv_at hl 2 rfl) ?_
  refine lv_iconst (v := (3 : Int32)) hx hb dX5_layRows_41 (by decide) ?_
  refine lv_irem hx hb dX5_layRows_42 (by decide) ?_
  refine lv_icmp_ne (tgt := 50) hx hb dX5_layRows_43 (by decide) (fun c_ => ?_) (fun c_ => ?_)
  · have hF := gel c_ hF
    refine lv_lconst (v := (0 : Int64)) hx hb dX5_layRows_50 (by decide) ?_
    exact t_X5_layRows_51 C0 hA k_2 hk_2 s1 (0 : Int64) l1 l2 v_order v_rows v_told hF hP hD hS (lv_sub hl [0, 1, 2] rfl)
  · have hF := gif c_ hF
    refine lv_lconst (v := (1 : Int64)) hx hb dX5_layRows_46 (by decide) ?_
    refine lv_goto (tgt := 51) hx hb dX5_layRows_47 (by decide) ?_
    exact t_X5_layRows_51 C0 hA k_2 hk_2 s1 (1 : Int64) l1 l2 v_order v_rows v_told hF hP hD hS (lv_sub hl [0, 1, 2] rfl)
set_option maxHeartbeats 4000000 in
set_option maxRecDepth 100000 in
theorem t_X5_layRows_2 {p : Program} {l : Launch} {e : Env} {s : State} {m : MethodId} {args : Array Value} {below : List Frame} {meth : Method} {c : Code} {dC : Nat → ClassId} {dI : Nat → Nat → Nat} {cyI cyJ cyA : ClassId} {A : Nat → Prop} {h_me h_rows h_told : Nat} {z_pageLength z_page z_startAt z_limit z_plantsRead z_ticksEver z_newOrder z_part z_numbers z_isWhole z_isBelow z_newTold z_nextAt z_tried z_below z_inputBy z_stateBy z_goal z_planTicks z_planAt z_inputs z_ends z_wanted z_h : Value} {q_rows : Nat → Int64} (C0 : Cx p s m args meth c cX5_layRows 5 none wsX5_layRows RX5 (dC, dI) cyI cyJ cyA) (hA : ∀ q : Nat, s.heap.size ≤ q → A q)  : ∀ (n : Nat) (l1 : Int32) (l2 : Int32) (v_order : Int32) (v_rows : Nat → Int64) (v_told : Nat → Int32), F_X5_layRows_2  n l1 l2 v_order v_rows v_told = some q_rows → ∀ {H : Heap} {locs : List Loc} {ls : Array Slot}, va_P (dC, dI) vwCl [(h_me, .inr (5, [z_pageLength, z_page, .int v_order, .ref h_told, z_startAt, z_limit, z_plantsRead, z_ticksEver, z_newOrder, z_part, z_numbers, z_isWhole, z_isBelow, z_newTold, z_nextAt, z_tried, .ref h_rows, z_below, z_inputBy, z_stateBy, z_goal, z_planTicks, z_planAt, z_inputs, z_ends, z_wanted, z_h])), (h_rows, .inl (cyJ, 9, .inr (.inl v_rows))), (h_told, .inl (cyI, 15, .inl v_told))] H → va_D A [(h_me, .inr (5, [z_pageLength, z_page, .int v_order, .ref h_told, z_startAt, z_limit, z_plantsRead, z_ticksEver, z_newOrder, z_part, z_numbers, z_isWhole, z_isBelow, z_newTold, z_nextAt, z_tried, .ref h_rows, z_below, z_inputBy, z_stateBy, z_goal, z_planTicks, z_planAt, z_inputs, z_ends, z_wanted, z_h])), (h_rows, .inl (cyJ, 9, .inr (.inl v_rows))), (h_told, .inl (cyI, 15, .inl v_told))] → va_S A s.heap H locs → lv_has ls 5 [(0, .ref h_me), (1, .int l1), (2, .int l2)] → W p l e rmX5_layRows s m args below meth c H locs 0 0 (MQ below (QV (dC, dI) A [(h_me, .inr (5, [z_pageLength, z_page, .int v_order, .ref h_told, z_startAt, z_limit, z_plantsRead, z_ticksEver, z_newOrder, z_part, z_numbers, z_isWhole, z_isBelow, z_newTold, z_nextAt, z_tried, .ref h_rows, z_below, z_inputBy, z_stateBy, z_goal, z_planTicks, z_planAt, z_inputs, z_ends, z_wanted, z_h])), (h_rows, .inl (cyJ, 9, .inr (.inl q_rows))), (h_told, .inl (cyI, 15, .inl v_told))]) args s 0 0 A) (F0 m 2 ls []) := by
  obtain ⟨hx, hb, hr, hml, hown, hts, hKK, hlocks⟩ := id C0
  have hK := hKK.1
  intro n
  induction n with
  | zero => intro l1 l2 v_order v_rows v_told hF; rw [F_X5_layRows_2] at hF; cases hF
  | succ n ih =>
      intro l1 l2 v_order v_rows v_told hF H locs ls hP hD hS hl
      rw [F_X5_layRows_2] at hF
      refine lv_iload_n hx hb dX5_layRows_2 rfl (lv_at hl 2 rfl) ?_
      refine lv_bipush (v := (9 : Int32)) hx hb dX5_layRows_3 (by decide) ?_
      refine lv_icmp_ge (tgt := 58) hx hb dX5_layRows_5 (by decide) (fun c_ => ?_) (fun c_ => ?_)
      · have hF := gif c_ hF
        refine lv_iconst (v := (0 : Int32)) hx hb dX5_layRows_58 (by decide) ?_
        refine lv_istore_n (lv' := [(2, .int (0 : Int32)), (0, .ref h_me), (1, .int l1)]) hx hb dX5_layRows_59 rfl hl (by decide) rfl (fun ls hl => ?_)
        exact t_X5_layRows_60 C0 hA   3000 l1 (0 : Int32) v_order v_rows v_told hF hP hD hS (lv_sub hl [1, 2, 0] rfl)
      · have hF := gel c_ hF
        refine lv_aload_n hx hb dX5_layRows_8 rfl (lv_at hl 0 rfl) ?_
        refine my_get (D := (dC, dI)) (ci := 5) (v := .ref h_rows) (C := RX5) (T := TX5) (N := 27) hx hb hts iX5_layRows_X5 hown hK hP 0 rfl rfl 16 (by decide) (hts _ mX5_layRows_1) rfl rfl dX5_layRows_9 ?_
        refine lv_iload_n hx hb dX5_layRows_12 rfl (lv_at hl 2 rfl) ?_
        refine lv_aload_n hx hb dX5_layRows_13 rfl (lv_at hl 0 rfl) ?_
        refine lv_iload_n hx hb dX5_layRows_14 rfl (lv_at hl 2 rfl) ?_
        refine lv_iconst (v := (3 : Int32)) hx hb dX5_layRows_15 (by decide) ?_
        refine lv_idiv hx hb dX5_layRows_16 (by decide) ?_
        obtain ⟨r1, hz1, hF⟩ := bd1_e hF
        refine kc_i (wr := [(h_rows, .inl (cyJ, 9, .inr (.inl v_rows))), (h_told, .inl (cyI, 15, .inl v_told))]) (ws' := [(h_me, .inr (5, [z_pageLength, z_page, .int v_order, .ref h_told, z_startAt, z_limit, z_plantsRead, z_ticksEver, z_newOrder, z_part, z_numbers, z_isWhole, z_isBelow, z_newTold, z_nextAt, z_tried, .ref h_rows, z_below, z_inputBy, z_stateBy, z_goal, z_planTicks, z_planAt, z_inputs, z_ends, z_wanted, z_h])), (h_rows, .inl (cyJ, 9, .inr (.inl v_rows))), (h_told, .inl (cyI, 15, .inl v_told))]) (va_runV (As := [.int (l2 / (3 : Int32))]) (rest := [.int l2, .ref h_rows]) ⟨hx, hb, hml, hown, hts⟩ (c_X5_isPlace l dC dI cyI cyJ cyA h_me z_pageLength z_page (.ref h_told) z_startAt z_limit z_plantsRead z_ticksEver z_newOrder z_part z_numbers z_isWhole z_isBelow z_newTold z_nextAt z_tried (.ref h_rows) z_below z_inputBy z_stateBy z_goal z_planTicks z_planAt z_inputs z_ends z_wanted z_h v_order (l2 / (3 : Int32)) hz1 _) (cwV 1 hts gX5_layRows_X5_isPlace rfl rfl rfl ndX5_isPlace ⟨Nat.le_of_ble_eq_true rfl, Nat.le_of_ble_eq_true rfl⟩) (pre_V hKK hP hD 0 rfl rfl [0] (by decide) rfl rfl) rfl rfl hl.1 rfl (lv_room (Nat.le_of_ble_eq_true rfl)) dX5_layRows_17 ⟨Nat.le_of_ble_eq_true rfl, Nat.le_of_ble_eq_true rfl⟩) hP hD hS hA [0] [1, 2] [2, 0, 1] rfl rfl (by decide) (by decide) (by decide) rfl rfl (fun H locs hP hD hS => ?_)
        refine lv_if_eq (tgt := 37) hx hb dX5_layRows_20 (by decide) (fun c_ => ?_) (fun c_ => ?_)
        · have hF := gif c_ hF
          exact t_X5_layRows_37 C0 hA (fun l1 l2 v_order v_rows v_told => F_X5_layRows_2  n l1 l2 v_order v_rows v_told) ih l2 l1 l2 v_order v_rows v_told hF hP hD hS (lv_sub hl [0, 1, 2] rfl)
        · have hF := gel c_ hF
          refine lv_aload_n hx hb dX5_layRows_23 rfl (lv_at hl 0 rfl) ?_
          refine lv_iload_n hx hb dX5_layRows_24 rfl (lv_at hl 2 rfl) ?_
          refine lv_iconst (v := (3 : Int32)) hx hb dX5_layRows_25 (by decide) ?_
          refine lv_irem hx hb dX5_layRows_26 (by decide) ?_
          obtain ⟨r2, hz2, hF⟩ := bd1_e hF
          refine kc_i (wr := [(h_rows, .inl (cyJ, 9, .inr (.inl v_rows))), (h_told, .inl (cyI, 15, .inl v_told))]) (ws' := [(h_me, .inr (5, [z_pageLength, z_page, .int v_order, .ref h_told, z_startAt, z_limit, z_plantsRead, z_ticksEver, z_newOrder, z_part, z_numbers, z_isWhole, z_isBelow, z_newTold, z_nextAt, z_tried, .ref h_rows, z_below, z_inputBy, z_stateBy, z_goal, z_planTicks, z_planAt, z_inputs, z_ends, z_wanted, z_h])), (h_rows, .inl (cyJ, 9, .inr (.inl v_rows))), (h_told, .inl (cyI, 15, .inl v_told))]) (va_runV (As := [.int (l2 - l2 / (3 : Int32) * (3 : Int32))]) (rest := [.int l2, .ref h_rows]) ⟨hx, hb, hml, hown, hts⟩ (c_X5_isPlace l dC dI cyI cyJ cyA h_me z_pageLength z_page (.ref h_told) z_startAt z_limit z_plantsRead z_ticksEver z_newOrder z_part z_numbers z_isWhole z_isBelow z_newTold z_nextAt z_tried (.ref h_rows) z_below z_inputBy z_stateBy z_goal z_planTicks z_planAt z_inputs z_ends z_wanted z_h v_order (l2 - l2 / (3 : Int32) * (3 : Int32)) hz2 _) (cwV 1 hts gX5_layRows_X5_isPlace rfl rfl rfl ndX5_isPlace ⟨Nat.le_of_ble_eq_true rfl, Nat.le_of_ble_eq_true rfl⟩) (pre_V hKK hP hD 0 rfl rfl [0] (by decide) rfl rfl) rfl rfl hl.1 rfl (lv_room (Nat.le_of_ble_eq_true rfl)) dX5_layRows_27 ⟨Nat.le_of_ble_eq_true rfl, Nat.le_of_ble_eq_true rfl⟩) hP hD hS hA [0] [1, 2] [2, 0, 1] rfl rfl (by decide) (by decide) (by decide) rfl rfl (fun H locs hP hD hS => ?_)
          refine lv_if_eq (tgt := 37) hx hb dX5_layRows_30 (by decide) (fun c_ => ?_) (fun c_ => ?_)
          · have hF := gif c_ hF
            exact t_X5_layRows_37 C0 hA (fun l1 l2 v_order v_rows v_told => F_X5_layRows_2  n l1 l2 v_order v_rows v_told) ih l2 l1 l2 v_order v_rows v_told hF hP hD hS (lv_sub hl [0, 1, 2] rfl)
          · have hF := gel c_ hF
            refine lv_lconst (v := (0 : Int64)) hx hb dX5_layRows_33 (by decide) ?_
            refine lv_goto (tgt := 51) hx hb dX5_layRows_34 (by decide) ?_
            exact t_X5_layRows_51 C0 hA (fun l1 l2 v_order v_rows v_told => F_X5_layRows_2  n l1 l2 v_order v_rows v_told) ih l2 (0 : Int64) l1 l2 v_order v_rows v_told hF hP hD hS (lv_sub hl [0, 1, 2] rfl)
set_option maxHeartbeats 4000000 in
set_option maxRecDepth 100000 in
theorem c_X5_layRows (l : Launch) (dC : Nat → ClassId) (dI : Nat → Nat → Nat) (cyI cyJ cyA : ClassId) (h_me h_rows h_told : Nat) (z_pageLength z_page z_startAt z_limit z_plantsRead z_ticksEver z_newOrder z_part z_numbers z_isWhole z_isBelow z_newTold z_nextAt z_tried z_below z_inputBy z_stateBy z_goal z_planTicks z_planAt z_inputs z_ends z_wanted z_h : Value) (v_order : Int32) (v_rows : Nat → Int64) (v_told : Nat → Int32) (l1 : Int32) {q_rows : Nat → Int64} (hF : F_X5_layRows l1 v_order v_rows v_told = some q_rows) (sz : Nat) : Met l yX5_layRows wsX5_layRows rmX5_layRows (va_Pc [.ref h_me, .int l1] (PC (dC, dI) cyI cyJ cyA [(h_me, .inr (5, [z_pageLength, z_page, .int v_order, .ref h_told, z_startAt, z_limit, z_plantsRead, z_ticksEver, z_newOrder, z_part, z_numbers, z_isWhole, z_isBelow, z_newTold, z_nextAt, z_tried, .ref h_rows, z_below, z_inputBy, z_stateBy, z_goal, z_planTicks, z_planAt, z_inputs, z_ends, z_wanted, z_h])), (h_rows, .inl (cyJ, 9, .inr (.inl v_rows))), (h_told, .inl (cyI, 15, .inl v_told))] sz)) (QV (dC, dI) (va_A [(h_me, .inr (5, [z_pageLength, z_page, .int v_order, .ref h_told, z_startAt, z_limit, z_plantsRead, z_ticksEver, z_newOrder, z_part, z_numbers, z_isWhole, z_isBelow, z_newTold, z_nextAt, z_tried, .ref h_rows, z_below, z_inputBy, z_stateBy, z_goal, z_planTicks, z_planAt, z_inputs, z_ends, z_wanted, z_h])), (h_rows, .inl (cyJ, 9, .inr (.inl v_rows))), (h_told, .inl (cyI, 15, .inl v_told))] sz) [(h_me, .inr (5, [z_pageLength, z_page, .int v_order, .ref h_told, z_startAt, z_limit, z_plantsRead, z_ticksEver, z_newOrder, z_part, z_numbers, z_isWhole, z_isBelow, z_newTold, z_nextAt, z_tried, .ref h_rows, z_below, z_inputBy, z_stateBy, z_goal, z_planTicks, z_planAt, z_inputs, z_ends, z_wanted, z_h])), (h_rows, .inl (cyJ, 9, .inr (.inl q_rows))), (h_told, .inl (cyI, 15, .inl v_told))]) 0 0 (va_A [(h_me, .inr (5, [z_pageLength, z_page, .int v_order, .ref h_told, z_startAt, z_limit, z_plantsRead, z_ticksEver, z_newOrder, z_part, z_numbers, z_isWhole, z_isBelow, z_newTold, z_nextAt, z_tried, .ref h_rows, z_below, z_inputBy, z_stateBy, z_goal, z_planTicks, z_planAt, z_inputs, z_ends, z_wanted, z_h])), (h_rows, .inl (cyJ, 9, .inr (.inl v_rows))), (h_told, .inl (cyI, 15, .inl v_told))] sz) := by
  refine Met.ofW (cc := cX5_layRows) (maxL := 5) (ret := none) (by decide) rfl ?_
  intro p e s m args below meth c s₁ B hml hv
  obtain ⟨rfl, hsz, hP, hKK, hD0⟩ := hv
  have hx := B.exec
  have hb := B.bytes
  have hr := B.returns
  have hts := atoms_spec (ws := wsX5_layRows) B.pre
  have hown : s.vm.findClass RX5 = some m.cls := findClass_of_methodNamed B.named
  have hlocks := B.notSynchronized
  have C0 : Cx p s m ([.ref h_me, .int l1] : List Value).toArray meth c cX5_layRows 5 none wsX5_layRows RX5 (dC, dI) cyI cyJ cyA := ⟨hx, hb, hr, hml, hown, hts, hKK, hlocks⟩
  have hK := hKK.1
  subst hsz
  have hD := hD0.self (sz := s.heap.size)
  generalize hAe : va_A [(h_me, .inr (5, [z_pageLength, z_page, .int v_order, .ref h_told, z_startAt, z_limit, z_plantsRead, z_ticksEver, z_newOrder, z_part, z_numbers, z_isWhole, z_isBelow, z_newTold, z_nextAt, z_tried, .ref h_rows, z_below, z_inputBy, z_stateBy, z_goal, z_planTicks, z_planAt, z_inputs, z_ends, z_wanted, z_h])), (h_rows, .inl (cyJ, 9, .inr (.inl v_rows))), (h_told, .inl (cyI, 15, .inl v_told))] s.heap.size = A at hD ⊢
  have hA : ∀ q : Nat, s.heap.size ≤ q → A q := fun q h => by rw [← hAe]; exact Or.inr h
  have hS : va_S A s.heap s.heap [] := va_S.rf
  have hl := lv_entry ([.ref h_me, .int l1]) (n := 5) (Nat.le_of_ble_eq_true rfl)
  rw [lg_entry_eq]
  generalize (lg_sl ([.ref h_me, .int l1]) ++ List.replicate (5 - (lg_sl ([.ref h_me, .int l1])).length) Slot.unset).toArray = ls at hl ⊢
  have hl : lv_has ls 5 [(0, .ref h_me), (1, .int l1)] := hl
  unfold F_X5_layRows at hF
  refine lv_iconst (v := (0 : Int32)) hx hb dX5_layRows_0 (by decide) ?_
  refine lv_istore_n (lv' := [(2, .int (0 : Int32)), (0, .ref h_me), (1, .int l1)]) hx hb dX5_layRows_1 rfl hl (by decide) rfl (fun ls hl => ?_)
  exact t_X5_layRows_2 C0 hA   3000 l1 (0 : Int32) v_order v_rows v_told hF hP hD hS (lv_sub hl [1, 2, 0] rfl)
/-! RestGainsModel.row (ZII)J -/
def rmX5_row : Room := { frames := 3, cells := 0, slots := 0, locals := 67 }
def F_X5_row (l1 : Int32) (l2 : Int32) (l3 : Int32) (v_order : Int32) (v_rows : Nat → Int64) (v_told : Nat → Int32) : Option (Int64 × (Nat → Int64)) :=
  bd1 (F_X5_isPlace l2 v_order) (fun r1 => if r1 = 0 then (some ((-10000000000002 : Int64), v_rows)) else (bd1 (F_X5_isPlace l3 v_order) (fun r2 => if r2 = 0 then (some ((-10000000000002 : Int64), v_rows)) else (bd1 (F_X5_layRows l1 v_order v_rows v_told) (fun x3_rows => if (((3 : Int32) * l2) + l3) < 0 ∨ 9 ≤ (((3 : Int32) * l2) + l3).toNatClampNeg then none else some ((x3_rows (((3 : Int32) * l2) + l3).toNatClampNeg), x3_rows))))))
set_option maxHeartbeats 4000000 in
set_option maxRecDepth 100000 in
theorem c_X5_row (l : Launch) (dC : Nat → ClassId) (dI : Nat → Nat → Nat) (cyI cyJ cyA : ClassId) (h_me h_rows h_told : Nat) (z_pageLength z_page z_startAt z_limit z_plantsRead z_ticksEver z_newOrder z_part z_numbers z_isWhole z_isBelow z_newTold z_nextAt z_tried z_below z_inputBy z_stateBy z_goal z_planTicks z_planAt z_inputs z_ends z_wanted z_h : Value) (v_order : Int32) (v_rows : Nat → Int64) (v_told : Nat → Int32) (l1 : Int32) (l2 : Int32) (l3 : Int32) {r : Int64} {q_rows : Nat → Int64} (hF : F_X5_row l1 l2 l3 v_order v_rows v_told = some (r, q_rows)) (sz : Nat) : Met l yX5_row wsX5_row rmX5_row (va_Pc [.ref h_me, .int l1, .int l2, .int l3] (PC (dC, dI) cyI cyJ cyA [(h_me, .inr (5, [z_pageLength, z_page, .int v_order, .ref h_told, z_startAt, z_limit, z_plantsRead, z_ticksEver, z_newOrder, z_part, z_numbers, z_isWhole, z_isBelow, z_newTold, z_nextAt, z_tried, .ref h_rows, z_below, z_inputBy, z_stateBy, z_goal, z_planTicks, z_planAt, z_inputs, z_ends, z_wanted, z_h])), (h_rows, .inl (cyJ, 9, .inr (.inl v_rows))), (h_told, .inl (cyI, 15, .inl v_told))] sz)) (QL (dC, dI) (va_A [(h_me, .inr (5, [z_pageLength, z_page, .int v_order, .ref h_told, z_startAt, z_limit, z_plantsRead, z_ticksEver, z_newOrder, z_part, z_numbers, z_isWhole, z_isBelow, z_newTold, z_nextAt, z_tried, .ref h_rows, z_below, z_inputBy, z_stateBy, z_goal, z_planTicks, z_planAt, z_inputs, z_ends, z_wanted, z_h])), (h_rows, .inl (cyJ, 9, .inr (.inl v_rows))), (h_told, .inl (cyI, 15, .inl v_told))] sz) [(h_me, .inr (5, [z_pageLength, z_page, .int v_order, .ref h_told, z_startAt, z_limit, z_plantsRead, z_ticksEver, z_newOrder, z_part, z_numbers, z_isWhole, z_isBelow, z_newTold, z_nextAt, z_tried, .ref h_rows, z_below, z_inputBy, z_stateBy, z_goal, z_planTicks, z_planAt, z_inputs, z_ends, z_wanted, z_h])), (h_rows, .inl (cyJ, 9, .inr (.inl q_rows))), (h_told, .inl (cyI, 15, .inl v_told))] r) 0 0 (va_A [(h_me, .inr (5, [z_pageLength, z_page, .int v_order, .ref h_told, z_startAt, z_limit, z_plantsRead, z_ticksEver, z_newOrder, z_part, z_numbers, z_isWhole, z_isBelow, z_newTold, z_nextAt, z_tried, .ref h_rows, z_below, z_inputBy, z_stateBy, z_goal, z_planTicks, z_planAt, z_inputs, z_ends, z_wanted, z_h])), (h_rows, .inl (cyJ, 9, .inr (.inl v_rows))), (h_told, .inl (cyI, 15, .inl v_told))] sz) := by
  refine Met.ofW (cc := cX5_row) (maxL := 4) (ret := (some .long)) (by decide) rfl ?_
  intro p e s m args below meth c s₁ B hml hv
  obtain ⟨rfl, hsz, hP, hKK, hD0⟩ := hv
  have hx := B.exec
  have hb := B.bytes
  have hr := B.returns
  have hts := atoms_spec (ws := wsX5_row) B.pre
  have hown : s.vm.findClass RX5 = some m.cls := findClass_of_methodNamed B.named
  have hlocks := B.notSynchronized
  have C0 : Cx p s m ([.ref h_me, .int l1, .int l2, .int l3] : List Value).toArray meth c cX5_row 4 (some .long) wsX5_row RX5 (dC, dI) cyI cyJ cyA := ⟨hx, hb, hr, hml, hown, hts, hKK, hlocks⟩
  have hK := hKK.1
  subst hsz
  have hD := hD0.self (sz := s.heap.size)
  generalize hAe : va_A [(h_me, .inr (5, [z_pageLength, z_page, .int v_order, .ref h_told, z_startAt, z_limit, z_plantsRead, z_ticksEver, z_newOrder, z_part, z_numbers, z_isWhole, z_isBelow, z_newTold, z_nextAt, z_tried, .ref h_rows, z_below, z_inputBy, z_stateBy, z_goal, z_planTicks, z_planAt, z_inputs, z_ends, z_wanted, z_h])), (h_rows, .inl (cyJ, 9, .inr (.inl v_rows))), (h_told, .inl (cyI, 15, .inl v_told))] s.heap.size = A at hD ⊢
  have hA : ∀ q : Nat, s.heap.size ≤ q → A q := fun q h => by rw [← hAe]; exact Or.inr h
  have hS : va_S A s.heap s.heap [] := va_S.rf
  have hl := lv_entry ([.ref h_me, .int l1, .int l2, .int l3]) (n := 4) (Nat.le_of_ble_eq_true rfl)
  rw [lg_entry_eq]
  generalize (lg_sl ([.ref h_me, .int l1, .int l2, .int l3]) ++ List.replicate (4 - (lg_sl ([.ref h_me, .int l1, .int l2, .int l3])).length) Slot.unset).toArray = ls at hl ⊢
  have hl : lv_has ls 4 [(0, .ref h_me), (1, .int l1), (2, .int l2), (3, .int l3)] := hl
  unfold F_X5_row at hF
  refine lv_aload_n hx hb dX5_row_0 rfl (lv_at hl 0 rfl) ?_
  refine lv_iload_n hx hb dX5_row_1 rfl (lv_at hl 2 rfl) ?_
  obtain ⟨r1, hz1, hF⟩ := bd1_e hF
  refine kc_i (wr := [(h_rows, .inl (cyJ, 9, .inr (.inl v_rows))), (h_told, .inl (cyI, 15, .inl v_told))]) (ws' := [(h_me, .inr (5, [z_pageLength, z_page, .int v_order, .ref h_told, z_startAt, z_limit, z_plantsRead, z_ticksEver, z_newOrder, z_part, z_numbers, z_isWhole, z_isBelow, z_newTold, z_nextAt, z_tried, .ref h_rows, z_below, z_inputBy, z_stateBy, z_goal, z_planTicks, z_planAt, z_inputs, z_ends, z_wanted, z_h])), (h_rows, .inl (cyJ, 9, .inr (.inl v_rows))), (h_told, .inl (cyI, 15, .inl v_told))]) (va_runV (As := [.int l2]) (rest := []) ⟨hx, hb, hml, hown, hts⟩ (c_X5_isPlace l dC dI cyI cyJ cyA h_me z_pageLength z_page (.ref h_told) z_startAt z_limit z_plantsRead z_ticksEver z_newOrder z_part z_numbers z_isWhole z_isBelow z_newTold z_nextAt z_tried (.ref h_rows) z_below z_inputBy z_stateBy z_goal z_planTicks z_planAt z_inputs z_ends z_wanted z_h v_order l2 hz1 _) (cwV 1 hts gX5_row_X5_isPlace rfl rfl rfl ndX5_isPlace ⟨Nat.le_of_ble_eq_true rfl, Nat.le_of_ble_eq_true rfl⟩) (pre_V hKK hP hD 0 rfl rfl [0] (by decide) rfl rfl) rfl rfl hl.1 rfl (lv_room (Nat.le_of_ble_eq_true rfl)) dX5_row_2 ⟨Nat.le_of_ble_eq_true rfl, Nat.le_of_ble_eq_true rfl⟩) hP hD hS hA [0] [1, 2] [2, 0, 1] rfl rfl (by decide) (by decide) (by decide) rfl rfl (fun H locs hP hD hS => ?_)
  refine lv_if_eq (tgt := 16) hx hb dX5_row_5 (by decide) (fun c_ => ?_) (fun c_ => ?_)
  · have hF := gif c_ hF
    refine lv_ldc2 hx hb hown (hts _ mX5_row_1) dX5_row_16 ?_
    cases hF
    exact W.lret hx hb hr (fun t ht hW => ⟨⟨_, (), rfl, rfl, by rw [ht]; exact hP, hD⟩, hS.F ht⟩) hS.2.2 dX5_row_19
  · have hF := gel c_ hF
    refine lv_aload_n hx hb dX5_row_8 rfl (lv_at hl 0 rfl) ?_
    refine lv_iload_n hx hb dX5_row_9 rfl (lv_at hl 3 rfl) ?_
    obtain ⟨r2, hz2, hF⟩ := bd1_e hF
    refine kc_i (wr := [(h_rows, .inl (cyJ, 9, .inr (.inl v_rows))), (h_told, .inl (cyI, 15, .inl v_told))]) (ws' := [(h_me, .inr (5, [z_pageLength, z_page, .int v_order, .ref h_told, z_startAt, z_limit, z_plantsRead, z_ticksEver, z_newOrder, z_part, z_numbers, z_isWhole, z_isBelow, z_newTold, z_nextAt, z_tried, .ref h_rows, z_below, z_inputBy, z_stateBy, z_goal, z_planTicks, z_planAt, z_inputs, z_ends, z_wanted, z_h])), (h_rows, .inl (cyJ, 9, .inr (.inl v_rows))), (h_told, .inl (cyI, 15, .inl v_told))]) (va_runV (As := [.int l3]) (rest := []) ⟨hx, hb, hml, hown, hts⟩ (c_X5_isPlace l dC dI cyI cyJ cyA h_me z_pageLength z_page (.ref h_told) z_startAt z_limit z_plantsRead z_ticksEver z_newOrder z_part z_numbers z_isWhole z_isBelow z_newTold z_nextAt z_tried (.ref h_rows) z_below z_inputBy z_stateBy z_goal z_planTicks z_planAt z_inputs z_ends z_wanted z_h v_order l3 hz2 _) (cwV 1 hts gX5_row_X5_isPlace rfl rfl rfl ndX5_isPlace ⟨Nat.le_of_ble_eq_true rfl, Nat.le_of_ble_eq_true rfl⟩) (pre_V hKK hP hD 0 rfl rfl [0] (by decide) rfl rfl) rfl rfl hl.1 rfl (lv_room (Nat.le_of_ble_eq_true rfl)) dX5_row_10 ⟨Nat.le_of_ble_eq_true rfl, Nat.le_of_ble_eq_true rfl⟩) hP hD hS hA [0] [1, 2] [2, 0, 1] rfl rfl (by decide) (by decide) (by decide) rfl rfl (fun H locs hP hD hS => ?_)
    refine lv_if_ne (tgt := 20) hx hb dX5_row_13 (by decide) (fun c_ => ?_) (fun c_ => ?_)
    · have hF := gel c_ hF
      refine lv_aload_n hx hb dX5_row_20 rfl (lv_at hl 0 rfl) ?_
      refine lv_iload_n hx hb dX5_row_21 rfl (lv_at hl 1 rfl) ?_
      obtain ⟨x3_rows, hz3, hF⟩ := bd1_e hF
      refine kc_v (wr := []) (ws' := [(h_me, .inr (5, [z_pageLength, z_page, .int v_order, .ref h_told, z_startAt, z_limit, z_plantsRead, z_ticksEver, z_newOrder, z_part, z_numbers, z_isWhole, z_isBelow, z_newTold, z_nextAt, z_tried, .ref h_rows, z_below, z_inputBy, z_stateBy, z_goal, z_planTicks, z_planAt, z_inputs, z_ends, z_wanted, z_h])), (h_rows, .inl (cyJ, 9, .inr (.inl x3_rows))), (h_told, .inl (cyI, 15, .inl v_told))]) (va_runV (As := [.int l1]) (rest := []) ⟨hx, hb, hml, hown, hts⟩ (c_X5_layRows l dC dI cyI cyJ cyA h_me h_rows h_told z_pageLength z_page z_startAt z_limit z_plantsRead z_ticksEver z_newOrder z_part z_numbers z_isWhole z_isBelow z_newTold z_nextAt z_tried z_below z_inputBy z_stateBy z_goal z_planTicks z_planAt z_inputs z_ends z_wanted z_h v_order v_rows v_told l1 hz3 _) (cwV 1 hts gX5_row_X5_layRows rfl rfl rfl ndX5_layRows ⟨Nat.le_of_ble_eq_true rfl, Nat.le_of_ble_eq_true rfl⟩) (pre_V hKK hP hD 0 rfl rfl [0, 1, 2] (by decide) rfl rfl) rfl rfl hl.1 rfl (lv_room (Nat.le_of_ble_eq_true rfl)) dX5_row_22 ⟨Nat.le_of_ble_eq_true rfl, Nat.le_of_ble_eq_true rfl⟩) hP hD hS hA [0, 1, 2] [] [0, 1, 2] rfl rfl (by decide) (by decide) (by decide) rfl rfl (fun H locs hP hD hS => ?_)
      refine lv_aload_n hx hb dX5_row_25 rfl (lv_at hl 0 rfl) ?_
      refine my_get (D := (dC, dI)) (ci := 5) (v := .ref h_rows) (C := RX5) (T := TX5) (N := 27) hx hb hts iX5_row_X5 hown hK hP 0 rfl rfl 16 (by decide) (hts _ mX5_row_2) rfl rfl dX5_row_26 ?_
      refine lv_iconst (v := (3 : Int32)) hx hb dX5_row_29 (by decide) ?_
      refine lv_iload_n hx hb dX5_row_30 rfl (lv_at hl 2 rfl) ?_
      refine lv_imul hx hb dX5_row_31 ?_
      refine lv_iload_n hx hb dX5_row_32 rfl (lv_at hl 3 rfl) ?_
      refine lv_iadd hx hb dX5_row_33 ?_
      obtain ⟨g_4, hF⟩ := gno hF
      refine va_lald hx hb hK hP 1 1 rfl rfl g_4 dX5_row_34 ?_
      cases hF
      exact W.lret hx hb hr (fun t ht hW => ⟨⟨_, (), rfl, rfl, by rw [ht]; exact hP, hD⟩, hS.F ht⟩) hS.2.2 dX5_row_35
    · have hF := gif c_ hF
      refine lv_ldc2 hx hb hown (hts _ mX5_row_1) dX5_row_16 ?_
      cases hF
      exact W.lret hx hb hr (fun t ht hW => ⟨⟨_, (), rfl, rfl, by rw [ht]; exact hP, hD⟩, hS.F ht⟩) hS.2.2 dX5_row_19
/-! RestGainsModel.at ([JI[JII)J -/
def rmX5_at : Room := { frames := 0, cells := 0, slots := 0, locals := 0 }
def F_X5_at (l1 : Int32) (l3 : Int32) (l4 : Int32) (v_g1 : Nat → Int64) (v_g3 : Nat → Int64) : Option (Int64) :=
  if l3 = l1 then (if l4 < 0 ∨ 3 ≤ l4.toNatClampNeg then none else some (v_g3 l4.toNatClampNeg)) else (if (((3 : Int32) * l3) + l4) < 0 ∨ 9 ≤ (((3 : Int32) * l3) + l4).toNatClampNeg then none else some (v_g1 (((3 : Int32) * l3) + l4).toNatClampNeg))
set_option maxHeartbeats 4000000 in
set_option maxRecDepth 100000 in
theorem c_X5_at (l : Launch) (dC : Nat → ClassId) (dI : Nat → Nat → Nat) (cyI cyJ cyA : ClassId) (h_g1 h_g3 : Nat) (v_g1 : Nat → Int64) (v_g3 : Nat → Int64) (l1 : Int32) (l3 : Int32) (l4 : Int32) {r : Int64} (hF : F_X5_at l1 l3 l4 v_g1 v_g3 = some r) (sz : Nat) : Met l yX5_at wsX5_at rmX5_at (va_Pc [.ref h_g1, .int l1, .ref h_g3, .int l3, .int l4] (PC (dC, dI) cyI cyJ cyA [(h_g1, .inl (cyJ, 9, .inr (.inl v_g1))), (h_g3, .inl (cyJ, 3, .inr (.inl v_g3)))] sz)) (QL (dC, dI) (va_A [(h_g1, .inl (cyJ, 9, .inr (.inl v_g1))), (h_g3, .inl (cyJ, 3, .inr (.inl v_g3)))] sz) [(h_g1, .inl (cyJ, 9, .inr (.inl v_g1))), (h_g3, .inl (cyJ, 3, .inr (.inl v_g3)))] r) 0 0 (va_A [(h_g1, .inl (cyJ, 9, .inr (.inl v_g1))), (h_g3, .inl (cyJ, 3, .inr (.inl v_g3)))] sz) := by
  refine Met.ofW (cc := cX5_at) (maxL := 5) (ret := (some .long)) (by decide) rfl ?_
  intro p e s m args below meth c s₁ B hml hv
  obtain ⟨rfl, hsz, hP, hKK, hD0⟩ := hv
  have hx := B.exec
  have hb := B.bytes
  have hr := B.returns
  have hts := atoms_spec (ws := wsX5_at) B.pre
  have hown : s.vm.findClass RX5 = some m.cls := findClass_of_methodNamed B.named
  have hlocks := B.notSynchronized
  have C0 : Cx p s m ([.ref h_g1, .int l1, .ref h_g3, .int l3, .int l4] : List Value).toArray meth c cX5_at 5 (some .long) wsX5_at RX5 (dC, dI) cyI cyJ cyA := ⟨hx, hb, hr, hml, hown, hts, hKK, hlocks⟩
  have hK := hKK.1
  subst hsz
  have hD := hD0.self (sz := s.heap.size)
  generalize hAe : va_A [(h_g1, .inl (cyJ, 9, .inr (.inl v_g1))), (h_g3, .inl (cyJ, 3, .inr (.inl v_g3)))] s.heap.size = A at hD ⊢
  have hA : ∀ q : Nat, s.heap.size ≤ q → A q := fun q h => by rw [← hAe]; exact Or.inr h
  have hS : va_S A s.heap s.heap [] := va_S.rf
  have hl := lv_entry ([.ref h_g1, .int l1, .ref h_g3, .int l3, .int l4]) (n := 5) (Nat.le_of_ble_eq_true rfl)
  rw [lg_entry_eq]
  generalize (lg_sl ([.ref h_g1, .int l1, .ref h_g3, .int l3, .int l4]) ++ List.replicate (5 - (lg_sl ([.ref h_g1, .int l1, .ref h_g3, .int l3, .int l4])).length) Slot.unset).toArray = ls at hl ⊢
  have hl : lv_has ls 5 [(0, .ref h_g1), (1, .int l1), (2, .ref h_g3), (3, .int l3), (4, .int l4)] := hl
  unfold F_X5_at at hF
  refine lv_iload_n hx hb dX5_at_0 rfl (lv_at hl 3 rfl) ?_
  refine lv_iload_n hx hb dX5_at_1 rfl (lv_at hl 1 rfl) ?_
  refine lv_icmp_ne (tgt := 12) hx hb dX5_at_2 (by decide) (fun c_ => ?_) (fun c_ => ?_)
  · have hF := gel c_ hF
    refine lv_aload_n hx hb dX5_at_12 rfl (lv_at hl 0 rfl) ?_
    refine lv_iconst (v := (3 : Int32)) hx hb dX5_at_13 (by decide) ?_
    refine lv_iload_n hx hb dX5_at_14 rfl (lv_at hl 3 rfl) ?_
    refine lv_imul hx hb dX5_at_15 ?_
    refine lv_iload hx hb dX5_at_16 (lv_at hl 4 rfl) ?_
    refine lv_iadd hx hb dX5_at_18 ?_
    obtain ⟨g_1, hF⟩ := gno hF
    refine va_lald hx hb hK hP 0 1 rfl rfl g_1 dX5_at_19 ?_
    cases hF
    exact W.lret hx hb hr (fun t ht hW => ⟨⟨_, (), rfl, rfl, by rw [ht]; exact hP, hD⟩, hS.F ht⟩) hS.2.2 dX5_at_20
  · have hF := gif c_ hF
    refine lv_aload_n hx hb dX5_at_5 rfl (lv_at hl 2 rfl) ?_
    refine lv_iload hx hb dX5_at_6 (lv_at hl 4 rfl) ?_
    obtain ⟨g_2, hF⟩ := gno hF
    refine va_lald hx hb hK hP 1 1 rfl rfl g_2 dX5_at_8 ?_
    refine lv_goto (tgt := 20) hx hb dX5_at_9 (by decide) ?_
    cases hF
    exact W.lret hx hb hr (fun t ht hW => ⟨⟨_, (), rfl, rfl, by rw [ht]; exact hP, hD⟩, hS.F ht⟩) hS.2.2 dX5_at_20
/-! RestGainsModel.determinant ([JI[J)J -/
def rmX5_determinant : Room := { frames := 1, cells := 0, slots := 0, locals := 24 }
def F_X5_determinant_6  : Nat → Int32 → Int64 → Int32 → (Nat → Int64) → (Nat → Int64) → Option (Int64)
  | 0, _, _, _, _, _ => none
  | n + 1, l2, l4, l6, v_g1, v_g3 => if (3 : Int32) ≤ l6 then (some l4) else (bd1 (F_X5_at l2 (1 : Int32) ((l6 + (1 : Int32)) - (l6 + (1 : Int32)) / (3 : Int32) * (3 : Int32)) v_g1 v_g3) (fun r1 => bd1 (F_X5_at l2 (2 : Int32) ((l6 + (2 : Int32)) - (l6 + (2 : Int32)) / (3 : Int32) * (3 : Int32)) v_g1 v_g3) (fun r2 => bd1 (F_X5_at l2 (1 : Int32) ((l6 + (2 : Int32)) - (l6 + (2 : Int32)) / (3 : Int32) * (3 : Int32)) v_g1 v_g3) (fun r3 => bd1 (F_X5_at l2 (2 : Int32) ((l6 + (1 : Int32)) - (l6 + (1 : Int32)) / (3 : Int32) * (3 : Int32)) v_g1 v_g3) (fun r4 => bd1 (F_X5_at l2 (0 : Int32) l6 v_g1 v_g3) (fun r5 => F_X5_determinant_6  n l2 (l4 + (r5 * ((r1 * r2) - (r3 * r4)))) (l6 + (1 : Int32)) v_g1 v_g3))))))
def F_X5_determinant (l2 : Int32) (v_g1 : Nat → Int64) (v_g3 : Nat → Int64) : Option (Int64) :=
  F_X5_determinant_6  3000 l2 (0 : Int64) (0 : Int32) v_g1 v_g3
set_option maxHeartbeats 4000000 in
set_option maxRecDepth 100000 in
theorem t_X5_determinant_6 {p : Program} {l : Launch} {e : Env} {s : State} {m : MethodId} {args : Array Value} {below : List Frame} {meth : Method} {c : Code} {dC : Nat → ClassId} {dI : Nat → Nat → Nat} {cyI cyJ cyA : ClassId} {A : Nat → Prop} {h_g1 h_g3 h_me : Nat} {z_pageLength z_page z_order z_told z_startAt z_limit z_plantsRead z_ticksEver z_newOrder z_part z_numbers z_isWhole z_isBelow z_newTold z_nextAt z_tried z_rows z_below z_inputBy z_stateBy z_goal z_planTicks z_planAt z_inputs z_ends z_wanted z_h : Value} {r : Int64} (C0 : Cx p s m args meth c cX5_determinant 11 (some .long) wsX5_determinant RX5 (dC, dI) cyI cyJ cyA) (hA : ∀ q : Nat, s.heap.size ≤ q → A q)  : ∀ (n : Nat) (l2 : Int32) (l4 : Int64) (l6 : Int32) (v_g1 : Nat → Int64) (v_g3 : Nat → Int64), F_X5_determinant_6  n l2 l4 l6 v_g1 v_g3 = some r → ∀ {H : Heap} {locs : List Loc} {ls : Array Slot}, va_P (dC, dI) vwCl [(h_g1, .inl (cyJ, 9, .inr (.inl v_g1))), (h_g3, .inl (cyJ, 3, .inr (.inl v_g3))), (h_me, .inr (5, [z_pageLength, z_page, z_order, z_told, z_startAt, z_limit, z_plantsRead, z_ticksEver, z_newOrder, z_part, z_numbers, z_isWhole, z_isBelow, z_newTold, z_nextAt, z_tried, z_rows, z_below, z_inputBy, z_stateBy, z_goal, z_planTicks, z_planAt, z_inputs, z_ends, z_wanted, z_h]))] H → va_D A [(h_g1, .inl (cyJ, 9, .inr (.inl v_g1))), (h_g3, .inl (cyJ, 3, .inr (.inl v_g3))), (h_me, .inr (5, [z_pageLength, z_page, z_order, z_told, z_startAt, z_limit, z_plantsRead, z_ticksEver, z_newOrder, z_part, z_numbers, z_isWhole, z_isBelow, z_newTold, z_nextAt, z_tried, z_rows, z_below, z_inputBy, z_stateBy, z_goal, z_planTicks, z_planAt, z_inputs, z_ends, z_wanted, z_h]))] → va_S A s.heap H locs → lv_has ls 11 [(1, .ref h_g1), (2, .int l2), (3, .ref h_g3), (4, .long l4), (6, .int l6)] → W p l e rmX5_determinant s m args below meth c H locs 0 0 (MQ below (QL (dC, dI) A [(h_g1, .inl (cyJ, 9, .inr (.inl v_g1))), (h_g3, .inl (cyJ, 3, .inr (.inl v_g3))), (h_me, .inr (5, [z_pageLength, z_page, z_order, z_told, z_startAt, z_limit, z_plantsRead, z_ticksEver, z_newOrder, z_part, z_numbers, z_isWhole, z_isBelow, z_newTold, z_nextAt, z_tried, z_rows, z_below, z_inputBy, z_stateBy, z_goal, z_planTicks, z_planAt, z_inputs, z_ends, z_wanted, z_h]))] r) args s 0 0 A) (F0 m 6 ls []) := by
  obtain ⟨hx, hb, hr, hml, hown, hts, hKK, hlocks⟩ := id C0
  have hK := hKK.1
  intro n
  induction n with
  | zero => intro l2 l4 l6 v_g1 v_g3 hF; rw [F_X5_determinant_6] at hF; cases hF
  | succ n ih =>
      intro l2 l4 l6 v_g1 v_g3 hF H locs ls hP hD hS hl
      rw [F_X5_determinant_6] at hF
      refine lv_iload hx hb dX5_determinant_6 (lv_at hl 4 rfl) ?_
      refine lv_iconst (v := (3 : Int32)) hx hb dX5_determinant_8 (by decide) ?_
      refine lv_icmp_ge (tgt := 92) hx hb dX5_determinant_9 (by decide) (fun c_ => ?_) (fun c_ => ?_)
      · have hF := gif c_ hF
        refine lv_lload hx hb dX5_determinant_92 (lv_at hl 3 rfl) ?_
        cases hF
        exact W.lret hx hb hr (fun t ht hW => ⟨⟨_, (), rfl, rfl, by rw [ht]; exact hP, hD⟩, hS.F ht⟩) hS.2.2 dX5_determinant_94
      · have hF := gel c_ hF
        refine lv_iload hx hb dX5_determinant_12 (lv_at hl 4 rfl) ?_
        refine lv_iconst (v := (1 : Int32)) hx hb dX5_determinant_14 (by decide) ?_
        refine lv_iadd hx hb dX5_determinant_15 ?_
        refine lv_iconst (v := (3 : Int32)) hx hb dX5_determinant_16 (by decide) ?_
        refine lv_irem hx hb dX5_determinant_17 (by decide) ?_
        refine lv_istore (lv' := [(7, .int ((l6 + (1 : Int32)) - (l6 + (1 : Int32)) / (3 : Int32) * (3 : Int32))), (1, .ref h_g1), (2, .int l2), (3, .ref h_g3), (4, .long l4), (6, .int l6)]) hx hb dX5_determinant_18 hl (by decide) rfl (fun ls hl => ?_)
        refine lv_iload hx hb dX5_determinant_20 (lv_at hl 5 rfl) ?_
        refine lv_iconst (v := (2 : Int32)) hx hb dX5_determinant_22 (by decide) ?_
        refine lv_iadd hx hb dX5_determinant_23 ?_
        refine lv_iconst (v := (3 : Int32)) hx hb dX5_determinant_24 (by decide) ?_
        refine lv_irem hx hb dX5_determinant_25 (by decide) ?_
        refine lv_istore (lv' := [(8, .int ((l6 + (2 : Int32)) - (l6 + (2 : Int32)) / (3 : Int32) * (3 : Int32))), (7, .int ((l6 + (1 : Int32)) - (l6 + (1 : Int32)) / (3 : Int32) * (3 : Int32))), (1, .ref h_g1), (2, .int l2), (3, .ref h_g3), (4, .long l4), (6, .int l6)]) hx hb dX5_determinant_26 hl (by decide) rfl (fun ls hl => ?_)
        refine lv_aload_n hx hb dX5_determinant_28 rfl (lv_at hl 2 rfl) ?_
        refine lv_iload_n hx hb dX5_determinant_29 rfl (lv_at hl 3 rfl) ?_
        refine lv_aload_n hx hb dX5_determinant_30 rfl (lv_at hl 4 rfl) ?_
        refine lv_iconst (v := (1 : Int32)) hx hb dX5_determinant_31 (by decide) ?_
        refine lv_iload hx hb dX5_determinant_32 (lv_at hl 1 rfl) ?_
        obtain ⟨r1, hz1, hF⟩ := bd1_e hF
        refine kc_l (wr := [(h_me, .inr (5, [z_pageLength, z_page, z_order, z_told, z_startAt, z_limit, z_plantsRead, z_ticksEver, z_newOrder, z_part, z_numbers, z_isWhole, z_isBelow, z_newTold, z_nextAt, z_tried, z_rows, z_below, z_inputBy, z_stateBy, z_goal, z_planTicks, z_planAt, z_inputs, z_ends, z_wanted, z_h]))]) (ws' := [(h_g1, .inl (cyJ, 9, .inr (.inl v_g1))), (h_g3, .inl (cyJ, 3, .inr (.inl v_g3))), (h_me, .inr (5, [z_pageLength, z_page, z_order, z_told, z_startAt, z_limit, z_plantsRead, z_ticksEver, z_newOrder, z_part, z_numbers, z_isWhole, z_isBelow, z_newTold, z_nextAt, z_tried, z_rows, z_below, z_inputBy, z_stateBy, z_goal, z_planTicks, z_planAt, z_inputs, z_ends, z_wanted, z_h]))]) (va_runS (As := [.ref h_g1, .int l2, .ref h_g3, .int (1 : Int32), .int ((l6 + (1 : Int32)) - (l6 + (1 : Int32)) / (3 : Int32) * (3 : Int32))]) (rest := []) ⟨hx, hb, hml, hown, hts⟩ (c_X5_at l dC dI cyI cyJ cyA h_g1 h_g3  v_g1 v_g3 l2 (1 : Int32) ((l6 + (1 : Int32)) - (l6 + (1 : Int32)) / (3 : Int32) * (3 : Int32)) hz1 _) (va_cwS 5 hts gX5_determinant_X5_at rfl rfl rfl ndX5_at.2 ⟨Nat.le_of_ble_eq_true rfl, Nat.le_of_ble_eq_true rfl⟩) (pre_S hKK hP hD [0, 1] (by decide) rfl rfl) rfl rfl hl.1 rfl (lv_room (Nat.le_of_ble_eq_true rfl)) dX5_determinant_34 ⟨Nat.le_of_ble_eq_true rfl, Nat.le_of_ble_eq_true rfl⟩) hP hD hS hA [0, 1] [2] [1, 2, 0] rfl rfl (by decide) (by decide) (by decide) rfl rfl (fun H locs hP hD hS => ?_)
        refine lv_aload_n hx hb dX5_determinant_37 rfl (lv_at hl 2 rfl) ?_
        refine lv_iload_n hx hb dX5_determinant_38 rfl (lv_at hl 3 rfl) ?_
        refine lv_aload_n hx hb dX5_determinant_39 rfl (lv_at hl 4 rfl) ?_
        refine lv_iconst (v := (2 : Int32)) hx hb dX5_determinant_40 (by decide) ?_
        refine lv_iload hx hb dX5_determinant_41 (lv_at hl 0 rfl) ?_
        obtain ⟨r2, hz2, hF⟩ := bd1_e hF
        refine kc_l (wr := [(h_me, .inr (5, [z_pageLength, z_page, z_order, z_told, z_startAt, z_limit, z_plantsRead, z_ticksEver, z_newOrder, z_part, z_numbers, z_isWhole, z_isBelow, z_newTold, z_nextAt, z_tried, z_rows, z_below, z_inputBy, z_stateBy, z_goal, z_planTicks, z_planAt, z_inputs, z_ends, z_wanted, z_h]))]) (ws' := [(h_g1, .inl (cyJ, 9, .inr (.inl v_g1))), (h_g3, .inl (cyJ, 3, .inr (.inl v_g3))), (h_me, .inr (5, [z_pageLength, z_page, z_order, z_told, z_startAt, z_limit, z_plantsRead, z_ticksEver, z_newOrder, z_part, z_numbers, z_isWhole, z_isBelow, z_newTold, z_nextAt, z_tried, z_rows, z_below, z_inputBy, z_stateBy, z_goal, z_planTicks, z_planAt, z_inputs, z_ends, z_wanted, z_h]))]) (va_runS (As := [.ref h_g1, .int l2, .ref h_g3, .int (2 : Int32), .int ((l6 + (2 : Int32)) - (l6 + (2 : Int32)) / (3 : Int32) * (3 : Int32))]) (rest := [.long r1]) ⟨hx, hb, hml, hown, hts⟩ (c_X5_at l dC dI cyI cyJ cyA h_g1 h_g3  v_g1 v_g3 l2 (2 : Int32) ((l6 + (2 : Int32)) - (l6 + (2 : Int32)) / (3 : Int32) * (3 : Int32)) hz2 _) (va_cwS 5 hts gX5_determinant_X5_at rfl rfl rfl ndX5_at.2 ⟨Nat.le_of_ble_eq_true rfl, Nat.le_of_ble_eq_true rfl⟩) (pre_S hKK hP hD [0, 1] (by decide) rfl rfl) rfl rfl hl.1 rfl (lv_room (Nat.le_of_ble_eq_true rfl)) dX5_determinant_43 ⟨Nat.le_of_ble_eq_true rfl, Nat.le_of_ble_eq_true rfl⟩) hP hD hS hA [0, 1] [2] [1, 2, 0] rfl rfl (by decide) (by decide) (by decide) rfl rfl (fun H locs hP hD hS => ?_)
        refine lv_lmul hx hb dX5_determinant_46 ?_
        refine lv_aload_n hx hb dX5_determinant_47 rfl (lv_at hl 2 rfl) ?_
        refine lv_iload_n hx hb dX5_determinant_48 rfl (lv_at hl 3 rfl) ?_
        refine lv_aload_n hx hb dX5_determinant_49 rfl (lv_at hl 4 rfl) ?_
        refine lv_iconst (v := (1 : Int32)) hx hb dX5_determinant_50 (by decide) ?_
        refine lv_iload hx hb dX5_determinant_51 (lv_at hl 0 rfl) ?_
        obtain ⟨r3, hz3, hF⟩ := bd1_e hF
        refine kc_l (wr := [(h_me, .inr (5, [z_pageLength, z_page, z_order, z_told, z_startAt, z_limit, z_plantsRead, z_ticksEver, z_newOrder, z_part, z_numbers, z_isWhole, z_isBelow, z_newTold, z_nextAt, z_tried, z_rows, z_below, z_inputBy, z_stateBy, z_goal, z_planTicks, z_planAt, z_inputs, z_ends, z_wanted, z_h]))]) (ws' := [(h_g1, .inl (cyJ, 9, .inr (.inl v_g1))), (h_g3, .inl (cyJ, 3, .inr (.inl v_g3))), (h_me, .inr (5, [z_pageLength, z_page, z_order, z_told, z_startAt, z_limit, z_plantsRead, z_ticksEver, z_newOrder, z_part, z_numbers, z_isWhole, z_isBelow, z_newTold, z_nextAt, z_tried, z_rows, z_below, z_inputBy, z_stateBy, z_goal, z_planTicks, z_planAt, z_inputs, z_ends, z_wanted, z_h]))]) (va_runS (As := [.ref h_g1, .int l2, .ref h_g3, .int (1 : Int32), .int ((l6 + (2 : Int32)) - (l6 + (2 : Int32)) / (3 : Int32) * (3 : Int32))]) (rest := [.long (r1 * r2)]) ⟨hx, hb, hml, hown, hts⟩ (c_X5_at l dC dI cyI cyJ cyA h_g1 h_g3  v_g1 v_g3 l2 (1 : Int32) ((l6 + (2 : Int32)) - (l6 + (2 : Int32)) / (3 : Int32) * (3 : Int32)) hz3 _) (va_cwS 5 hts gX5_determinant_X5_at rfl rfl rfl ndX5_at.2 ⟨Nat.le_of_ble_eq_true rfl, Nat.le_of_ble_eq_true rfl⟩) (pre_S hKK hP hD [0, 1] (by decide) rfl rfl) rfl rfl hl.1 rfl (lv_room (Nat.le_of_ble_eq_true rfl)) dX5_determinant_53 ⟨Nat.le_of_ble_eq_true rfl, Nat.le_of_ble_eq_true rfl⟩) hP hD hS hA [0, 1] [2] [1, 2, 0] rfl rfl (by decide) (by decide) (by decide) rfl rfl (fun H locs hP hD hS => ?_)
        refine lv_aload_n hx hb dX5_determinant_56 rfl (lv_at hl 2 rfl) ?_
        refine lv_iload_n hx hb dX5_determinant_57 rfl (lv_at hl 3 rfl) ?_
        refine lv_aload_n hx hb dX5_determinant_58 rfl (lv_at hl 4 rfl) ?_
        refine lv_iconst (v := (2 : Int32)) hx hb dX5_determinant_59 (by decide) ?_
        refine lv_iload hx hb dX5_determinant_60 (lv_at hl 1 rfl) ?_
        obtain ⟨r4, hz4, hF⟩ := bd1_e hF
        refine kc_l (wr := [(h_me, .inr (5, [z_pageLength, z_page, z_order, z_told, z_startAt, z_limit, z_plantsRead, z_ticksEver, z_newOrder, z_part, z_numbers, z_isWhole, z_isBelow, z_newTold, z_nextAt, z_tried, z_rows, z_below, z_inputBy, z_stateBy, z_goal, z_planTicks, z_planAt, z_inputs, z_ends, z_wanted, z_h]))]) (ws' := [(h_g1, .inl (cyJ, 9, .inr (.inl v_g1))), (h_g3, .inl (cyJ, 3, .inr (.inl v_g3))), (h_me, .inr (5, [z_pageLength, z_page, z_order, z_told, z_startAt, z_limit, z_plantsRead, z_ticksEver, z_newOrder, z_part, z_numbers, z_isWhole, z_isBelow, z_newTold, z_nextAt, z_tried, z_rows, z_below, z_inputBy, z_stateBy, z_goal, z_planTicks, z_planAt, z_inputs, z_ends, z_wanted, z_h]))]) (va_runS (As := [.ref h_g1, .int l2, .ref h_g3, .int (2 : Int32), .int ((l6 + (1 : Int32)) - (l6 + (1 : Int32)) / (3 : Int32) * (3 : Int32))]) (rest := [.long r3, .long (r1 * r2)]) ⟨hx, hb, hml, hown, hts⟩ (c_X5_at l dC dI cyI cyJ cyA h_g1 h_g3  v_g1 v_g3 l2 (2 : Int32) ((l6 + (1 : Int32)) - (l6 + (1 : Int32)) / (3 : Int32) * (3 : Int32)) hz4 _) (va_cwS 5 hts gX5_determinant_X5_at rfl rfl rfl ndX5_at.2 ⟨Nat.le_of_ble_eq_true rfl, Nat.le_of_ble_eq_true rfl⟩) (pre_S hKK hP hD [0, 1] (by decide) rfl rfl) rfl rfl hl.1 rfl (lv_room (Nat.le_of_ble_eq_true rfl)) dX5_determinant_62 ⟨Nat.le_of_ble_eq_true rfl, Nat.le_of_ble_eq_true rfl⟩) hP hD hS hA [0, 1] [2] [1, 2, 0] rfl rfl (by decide) (by decide) (by decide) rfl rfl (fun H locs hP hD hS => ?_)
        refine lv_lmul hx hb dX5_determinant_65 ?_
        refine lv_lsub hx hb dX5_determinant_66 ?_
        refine lv_lstore (lv' := [(9, .long ((r1 * r2) - (r3 * r4))), (8, .int ((l6 + (2 : Int32)) - (l6 + (2 : Int32)) / (3 : Int32) * (3 : Int32))), (7, .int ((l6 + (1 : Int32)) - (l6 + (1 : Int32)) / (3 : Int32) * (3 : Int32))), (1, .ref h_g1), (2, .int l2), (3, .ref h_g3), (4, .long l4), (6, .int l6)]) hx hb dX5_determinant_67 hl (by decide) rfl (fun ls hl => ?_)
        refine lv_lload hx hb dX5_determinant_69 (lv_at hl 6 rfl) ?_
        refine lv_aload_n hx hb dX5_determinant_71 rfl (lv_at hl 3 rfl) ?_
        refine lv_iload_n hx hb dX5_determinant_72 rfl (lv_at hl 4 rfl) ?_
        refine lv_aload_n hx hb dX5_determinant_73 rfl (lv_at hl 5 rfl) ?_
        refine lv_iconst (v := (0 : Int32)) hx hb dX5_determinant_74 (by decide) ?_
        refine lv_iload hx hb dX5_determinant_75 (lv_at hl 7 rfl) ?_
        obtain ⟨r5, hz5, hF⟩ := bd1_e hF
        refine kc_l (wr := [(h_me, .inr (5, [z_pageLength, z_page, z_order, z_told, z_startAt, z_limit, z_plantsRead, z_ticksEver, z_newOrder, z_part, z_numbers, z_isWhole, z_isBelow, z_newTold, z_nextAt, z_tried, z_rows, z_below, z_inputBy, z_stateBy, z_goal, z_planTicks, z_planAt, z_inputs, z_ends, z_wanted, z_h]))]) (ws' := [(h_g1, .inl (cyJ, 9, .inr (.inl v_g1))), (h_g3, .inl (cyJ, 3, .inr (.inl v_g3))), (h_me, .inr (5, [z_pageLength, z_page, z_order, z_told, z_startAt, z_limit, z_plantsRead, z_ticksEver, z_newOrder, z_part, z_numbers, z_isWhole, z_isBelow, z_newTold, z_nextAt, z_tried, z_rows, z_below, z_inputBy, z_stateBy, z_goal, z_planTicks, z_planAt, z_inputs, z_ends, z_wanted, z_h]))]) (va_runS (As := [.ref h_g1, .int l2, .ref h_g3, .int (0 : Int32), .int l6]) (rest := [.long l4]) ⟨hx, hb, hml, hown, hts⟩ (c_X5_at l dC dI cyI cyJ cyA h_g1 h_g3  v_g1 v_g3 l2 (0 : Int32) l6 hz5 _) (va_cwS 5 hts gX5_determinant_X5_at rfl rfl rfl ndX5_at.2 ⟨Nat.le_of_ble_eq_true rfl, Nat.le_of_ble_eq_true rfl⟩) (pre_S hKK hP hD [0, 1] (by decide) rfl rfl) rfl rfl hl.1 rfl (lv_room (Nat.le_of_ble_eq_true rfl)) dX5_determinant_77 ⟨Nat.le_of_ble_eq_true rfl, Nat.le_of_ble_eq_true rfl⟩) hP hD hS hA [0, 1] [2] [1, 2, 0] rfl rfl (by decide) (by decide) (by decide) rfl rfl (fun H locs hP hD hS => ?_)
        refine lv_lload hx hb dX5_determinant_80 (lv_at hl 0 rfl) ?_
        refine lv_lmul hx hb dX5_determinant_82 ?_
        refine lv_ladd hx hb dX5_determinant_83 ?_
        refine lv_lstore (lv' := [(4, .long (l4 + (r5 * ((r1 * r2) - (r3 * r4))))), (9, .long ((r1 * r2) - (r3 * r4))), (8, .int ((l6 + (2 : Int32)) - (l6 + (2 : Int32)) / (3 : Int32) * (3 : Int32))), (7, .int ((l6 + (1 : Int32)) - (l6 + (1 : Int32)) / (3 : Int32) * (3 : Int32))), (1, .ref h_g1), (2, .int l2), (3, .ref h_g3), (6, .int l6)]) hx hb dX5_determinant_84 hl (by decide) rfl (fun ls hl => ?_)
        refine lv_iinc (v := (l6 + (1 : Int32))) (lv' := [(6, .int (l6 + (1 : Int32))), (4, .long (l4 + (r5 * ((r1 * r2) - (r3 * r4))))), (9, .long ((r1 * r2) - (r3 * r4))), (8, .int ((l6 + (2 : Int32)) - (l6 + (2 : Int32)) / (3 : Int32) * (3 : Int32))), (7, .int ((l6 + (1 : Int32)) - (l6 + (1 : Int32)) / (3 : Int32) * (3 : Int32))), (1, .ref h_g1), (2, .int l2), (3, .ref h_g3)]) hx hb dX5_determinant_86 hl (k := 7) rfl (by rfl) (by decide) rfl (fun ls hl => ?_)
        refine lv_goto (tgt := 6) hx hb dX5_determinant_89 (by decide) ?_
        exact ih l2 (l4 + (r5 * ((r1 * r2) - (r3 * r4)))) (l6 + (1 : Int32)) v_g1 v_g3 hF hP hD hS (lv_sub hl [5, 6, 7, 1, 0] rfl)
set_option maxHeartbeats 4000000 in
set_option maxRecDepth 100000 in
theorem c_X5_determinant (l : Launch) (dC : Nat → ClassId) (dI : Nat → Nat → Nat) (cyI cyJ cyA : ClassId) (h_g1 h_g3 h_me : Nat) (z_pageLength z_page z_order z_told z_startAt z_limit z_plantsRead z_ticksEver z_newOrder z_part z_numbers z_isWhole z_isBelow z_newTold z_nextAt z_tried z_rows z_below z_inputBy z_stateBy z_goal z_planTicks z_planAt z_inputs z_ends z_wanted z_h : Value) (v_g1 : Nat → Int64) (v_g3 : Nat → Int64) (l2 : Int32) {r : Int64} (hF : F_X5_determinant l2 v_g1 v_g3 = some r) (sz : Nat) : Met l yX5_determinant wsX5_determinant rmX5_determinant (va_Pc [.ref h_me, .ref h_g1, .int l2, .ref h_g3] (PC (dC, dI) cyI cyJ cyA [(h_g1, .inl (cyJ, 9, .inr (.inl v_g1))), (h_g3, .inl (cyJ, 3, .inr (.inl v_g3))), (h_me, .inr (5, [z_pageLength, z_page, z_order, z_told, z_startAt, z_limit, z_plantsRead, z_ticksEver, z_newOrder, z_part, z_numbers, z_isWhole, z_isBelow, z_newTold, z_nextAt, z_tried, z_rows, z_below, z_inputBy, z_stateBy, z_goal, z_planTicks, z_planAt, z_inputs, z_ends, z_wanted, z_h]))] sz)) (QL (dC, dI) (va_A [(h_g1, .inl (cyJ, 9, .inr (.inl v_g1))), (h_g3, .inl (cyJ, 3, .inr (.inl v_g3))), (h_me, .inr (5, [z_pageLength, z_page, z_order, z_told, z_startAt, z_limit, z_plantsRead, z_ticksEver, z_newOrder, z_part, z_numbers, z_isWhole, z_isBelow, z_newTold, z_nextAt, z_tried, z_rows, z_below, z_inputBy, z_stateBy, z_goal, z_planTicks, z_planAt, z_inputs, z_ends, z_wanted, z_h]))] sz) [(h_g1, .inl (cyJ, 9, .inr (.inl v_g1))), (h_g3, .inl (cyJ, 3, .inr (.inl v_g3))), (h_me, .inr (5, [z_pageLength, z_page, z_order, z_told, z_startAt, z_limit, z_plantsRead, z_ticksEver, z_newOrder, z_part, z_numbers, z_isWhole, z_isBelow, z_newTold, z_nextAt, z_tried, z_rows, z_below, z_inputBy, z_stateBy, z_goal, z_planTicks, z_planAt, z_inputs, z_ends, z_wanted, z_h]))] r) 0 0 (va_A [(h_g1, .inl (cyJ, 9, .inr (.inl v_g1))), (h_g3, .inl (cyJ, 3, .inr (.inl v_g3))), (h_me, .inr (5, [z_pageLength, z_page, z_order, z_told, z_startAt, z_limit, z_plantsRead, z_ticksEver, z_newOrder, z_part, z_numbers, z_isWhole, z_isBelow, z_newTold, z_nextAt, z_tried, z_rows, z_below, z_inputBy, z_stateBy, z_goal, z_planTicks, z_planAt, z_inputs, z_ends, z_wanted, z_h]))] sz) := by
  refine Met.ofW (cc := cX5_determinant) (maxL := 11) (ret := (some .long)) (by decide) rfl ?_
  intro p e s m args below meth c s₁ B hml hv
  obtain ⟨rfl, hsz, hP, hKK, hD0⟩ := hv
  have hx := B.exec
  have hb := B.bytes
  have hr := B.returns
  have hts := atoms_spec (ws := wsX5_determinant) B.pre
  have hown : s.vm.findClass RX5 = some m.cls := findClass_of_methodNamed B.named
  have hlocks := B.notSynchronized
  have C0 : Cx p s m ([.ref h_me, .ref h_g1, .int l2, .ref h_g3] : List Value).toArray meth c cX5_determinant 11 (some .long) wsX5_determinant RX5 (dC, dI) cyI cyJ cyA := ⟨hx, hb, hr, hml, hown, hts, hKK, hlocks⟩
  have hK := hKK.1
  subst hsz
  have hD := hD0.self (sz := s.heap.size)
  generalize hAe : va_A [(h_g1, .inl (cyJ, 9, .inr (.inl v_g1))), (h_g3, .inl (cyJ, 3, .inr (.inl v_g3))), (h_me, .inr (5, [z_pageLength, z_page, z_order, z_told, z_startAt, z_limit, z_plantsRead, z_ticksEver, z_newOrder, z_part, z_numbers, z_isWhole, z_isBelow, z_newTold, z_nextAt, z_tried, z_rows, z_below, z_inputBy, z_stateBy, z_goal, z_planTicks, z_planAt, z_inputs, z_ends, z_wanted, z_h]))] s.heap.size = A at hD ⊢
  have hA : ∀ q : Nat, s.heap.size ≤ q → A q := fun q h => by rw [← hAe]; exact Or.inr h
  have hS : va_S A s.heap s.heap [] := va_S.rf
  have hl := lv_entry ([.ref h_me, .ref h_g1, .int l2, .ref h_g3]) (n := 11) (Nat.le_of_ble_eq_true rfl)
  rw [lg_entry_eq]
  generalize (lg_sl ([.ref h_me, .ref h_g1, .int l2, .ref h_g3]) ++ List.replicate (11 - (lg_sl ([.ref h_me, .ref h_g1, .int l2, .ref h_g3])).length) Slot.unset).toArray = ls at hl ⊢
  have hl : lv_has ls 11 [(0, .ref h_me), (1, .ref h_g1), (2, .int l2), (3, .ref h_g3)] := hl
  unfold F_X5_determinant at hF
  refine lv_lconst (v := (0 : Int64)) hx hb dX5_determinant_0 (by decide) ?_
  refine lv_lstore (lv' := [(4, .long (0 : Int64)), (0, .ref h_me), (1, .ref h_g1), (2, .int l2), (3, .ref h_g3)]) hx hb dX5_determinant_1 hl (by decide) rfl (fun ls hl => ?_)
  refine lv_iconst (v := (0 : Int32)) hx hb dX5_determinant_3 (by decide) ?_
  refine lv_istore (lv' := [(6, .int (0 : Int32)), (4, .long (0 : Int64)), (0, .ref h_me), (1, .ref h_g1), (2, .int l2), (3, .ref h_g3)]) hx hb dX5_determinant_4 hl (by decide) rfl (fun ls hl => ?_)
  exact t_X5_determinant_6 C0 hA   3000 l2 (0 : Int64) (0 : Int32) v_g1 v_g3 hF hP hD hS (lv_sub hl [3, 4, 5, 1, 0] rfl)
/-! RestGainsModel.areTwo ()Z -/
def rmX5_areTwo : Room := { frames := 2, cells := 0, slots := 0, locals := 43 }
def F_X5_areTwo_141 (k_4 : Int32 → Int32 → Int32 → (Nat → Int64) → Option (Int32)) (s0 : Int32) (l2 : Int32) (v_order : Int32) (v_rows : Nat → Int64) : Option (Int32) :=
  k_4 s0 (l2 + (1 : Int32)) v_order v_rows
def F_X5_areTwo_140 (k_4 : Int32 → Int32 → Int32 → (Nat → Int64) → Option (Int32)) (l2 : Int32) (v_order : Int32) (v_rows : Nat → Int64) : Option (Int32) :=
  F_X5_areTwo_141 k_4 (0 : Int32) l2 v_order v_rows
def F_X5_areTwo_136 (k_4 : Int32 → Int32 → Int32 → (Nat → Int64) → Option (Int32)) (l2 : Int32) (v_order : Int32) (v_rows : Nat → Int64) : Option (Int32) :=
  F_X5_areTwo_141 k_4 (1 : Int32) l2 v_order v_rows
def F_X5_areTwo_73 (k_4 : Int32 → Int32 → Int32 → (Nat → Int64) → Option (Int32)) (s0 : Int32) (l1 : Int32) (l2 : Int32) (l3 : Int32) (l4 : Int32) (l5 : Int32) (l6 : Int32) (v_order : Int32) (v_rows : Nat → Int64) : Option (Int32) :=
  if l1 = 0 then (if s0 = 0 then (F_X5_areTwo_140 k_4 l2 v_order v_rows) else (if (((3 : Int32) * l3) + l5) < 0 ∨ 9 ≤ (((3 : Int32) * l3) + l5).toNatClampNeg then none else if (((3 : Int32) * l4) + l6) < 0 ∨ 9 ≤ (((3 : Int32) * l4) + l6).toNatClampNeg then none else if (((3 : Int32) * l3) + l6) < 0 ∨ 9 ≤ (((3 : Int32) * l3) + l6).toNatClampNeg then none else if (((3 : Int32) * l4) + l5) < 0 ∨ 9 ≤ (((3 : Int32) * l4) + l5).toNatClampNeg then none else if (lg_cmp ((v_rows (((3 : Int32) * l3) + l5).toNatClampNeg) * (v_rows (((3 : Int32) * l4) + l6).toNatClampNeg)) ((v_rows (((3 : Int32) * l3) + l6).toNatClampNeg) * (v_rows (((3 : Int32) * l4) + l5).toNatClampNeg))) = 0 then (F_X5_areTwo_140 k_4 l2 v_order v_rows) else (F_X5_areTwo_136 k_4 l2 v_order v_rows))) else (F_X5_areTwo_136 k_4 l2 v_order v_rows)
def F_X5_areTwo_72 (k_4 : Int32 → Int32 → Int32 → (Nat → Int64) → Option (Int32)) (l1 : Int32) (l2 : Int32) (l3 : Int32) (l4 : Int32) (l5 : Int32) (l6 : Int32) (v_order : Int32) (v_rows : Nat → Int64) : Option (Int32) :=
  F_X5_areTwo_73 k_4 (0 : Int32) l1 l2 l3 l4 l5 l6 v_order v_rows
def F_X5_areTwo_4  : Nat → Int32 → Int32 → Int32 → (Nat → Int64) → Option (Int32)
  | 0, _, _, _, _ => none
  | n + 1, l1, l2, v_order, v_rows => if (81 : Int32) ≤ l2 then (if ¬ l1 &&& 1 = l1 then none else some l1) else (if (l2 / (27 : Int32)) ≤ ((l2 / (9 : Int32)) - (l2 / (9 : Int32)) / (3 : Int32) * (3 : Int32)) then (F_X5_areTwo_72 (fun l1 l2 v_order v_rows => F_X5_areTwo_4  n l1 l2 v_order v_rows) l1 l2 ((l2 / (9 : Int32)) - (l2 / (9 : Int32)) / (3 : Int32) * (3 : Int32)) (l2 / (27 : Int32)) (l2 - l2 / (3 : Int32) * (3 : Int32)) ((l2 / (3 : Int32)) - (l2 / (3 : Int32)) / (3 : Int32) * (3 : Int32)) v_order v_rows) else (bd1 (F_X5_isPlace (l2 / (27 : Int32)) v_order) (fun r2 => if r2 = 0 then (F_X5_areTwo_72 (fun l1 l2 v_order v_rows => F_X5_areTwo_4  n l1 l2 v_order v_rows) l1 l2 ((l2 / (9 : Int32)) - (l2 / (9 : Int32)) / (3 : Int32) * (3 : Int32)) (l2 / (27 : Int32)) (l2 - l2 / (3 : Int32) * (3 : Int32)) ((l2 / (3 : Int32)) - (l2 / (3 : Int32)) / (3 : Int32) * (3 : Int32)) v_order v_rows) else (bd1 (F_X5_isPlace (l2 - l2 / (3 : Int32) * (3 : Int32)) v_order) (fun r3 => if r3 = 0 then (F_X5_areTwo_72 (fun l1 l2 v_order v_rows => F_X5_areTwo_4  n l1 l2 v_order v_rows) l1 l2 ((l2 / (9 : Int32)) - (l2 / (9 : Int32)) / (3 : Int32) * (3 : Int32)) (l2 / (27 : Int32)) (l2 - l2 / (3 : Int32) * (3 : Int32)) ((l2 / (3 : Int32)) - (l2 / (3 : Int32)) / (3 : Int32) * (3 : Int32)) v_order v_rows) else (bd1 (F_X5_isPlace ((l2 / (3 : Int32)) - (l2 / (3 : Int32)) / (3 : Int32) * (3 : Int32)) v_order) (fun r4 => if r4 = 0 then (F_X5_areTwo_72 (fun l1 l2 v_order v_rows => F_X5_areTwo_4  n l1 l2 v_order v_rows) l1 l2 ((l2 / (9 : Int32)) - (l2 / (9 : Int32)) / (3 : Int32) * (3 : Int32)) (l2 / (27 : Int32)) (l2 - l2 / (3 : Int32) * (3 : Int32)) ((l2 / (3 : Int32)) - (l2 / (3 : Int32)) / (3 : Int32) * (3 : Int32)) v_order v_rows) else (F_X5_areTwo_73 (fun l1 l2 v_order v_rows => F_X5_areTwo_4  n l1 l2 v_order v_rows) (1 : Int32) l1 l2 ((l2 / (9 : Int32)) - (l2 / (9 : Int32)) / (3 : Int32) * (3 : Int32)) (l2 / (27 : Int32)) (l2 - l2 / (3 : Int32) * (3 : Int32)) ((l2 / (3 : Int32)) - (l2 / (3 : Int32)) / (3 : Int32) * (3 : Int32)) v_order v_rows))))))))
def F_X5_areTwo (v_order : Int32) (v_rows : Nat → Int64) : Option (Int32) :=
  F_X5_areTwo_4  3000 (0 : Int32) (0 : Int32) v_order v_rows
set_option maxHeartbeats 4000000 in
set_option maxRecDepth 100000 in
theorem t_X5_areTwo_141 {p : Program} {l : Launch} {e : Env} {s : State} {m : MethodId} {args : Array Value} {below : List Frame} {meth : Method} {c : Code} {dC : Nat → ClassId} {dI : Nat → Nat → Nat} {cyI cyJ cyA : ClassId} {A : Nat → Prop} {h_me h_rows : Nat} {z_pageLength z_page z_told z_startAt z_limit z_plantsRead z_ticksEver z_newOrder z_part z_numbers z_isWhole z_isBelow z_newTold z_nextAt z_tried z_below z_inputBy z_stateBy z_goal z_planTicks z_planAt z_inputs z_ends z_wanted z_h : Value} {r : Int32} (C0 : Cx p s m args meth c cX5_areTwo 8 (some .boolean) wsX5_areTwo RX5 (dC, dI) cyI cyJ cyA) (hA : ∀ q : Nat, s.heap.size ≤ q → A q) (k_4 : Int32 → Int32 → Int32 → (Nat → Int64) → Option (Int32)) (hk_4 : ∀ (l1 : Int32) (l2 : Int32) (v_order : Int32) (v_rows : Nat → Int64), k_4 l1 l2 v_order v_rows = some r → ∀ {H : Heap} {locs : List Loc} {ls : Array Slot}, va_P (dC, dI) vwCl [(h_me, .inr (5, [z_pageLength, z_page, .int v_order, z_told, z_startAt, z_limit, z_plantsRead, z_ticksEver, z_newOrder, z_part, z_numbers, z_isWhole, z_isBelow, z_newTold, z_nextAt, z_tried, .ref h_rows, z_below, z_inputBy, z_stateBy, z_goal, z_planTicks, z_planAt, z_inputs, z_ends, z_wanted, z_h])), (h_rows, .inl (cyJ, 9, .inr (.inl v_rows)))] H → va_D A [(h_me, .inr (5, [z_pageLength, z_page, .int v_order, z_told, z_startAt, z_limit, z_plantsRead, z_ticksEver, z_newOrder, z_part, z_numbers, z_isWhole, z_isBelow, z_newTold, z_nextAt, z_tried, .ref h_rows, z_below, z_inputBy, z_stateBy, z_goal, z_planTicks, z_planAt, z_inputs, z_ends, z_wanted, z_h])), (h_rows, .inl (cyJ, 9, .inr (.inl v_rows)))] → va_S A s.heap H locs → lv_has ls 8 [(0, .ref h_me), (1, .int l1), (2, .int l2)] → W p l e rmX5_areTwo s m args below meth c H locs 0 0 (MQ below (QI (dC, dI) A [(h_me, .inr (5, [z_pageLength, z_page, .int v_order, z_told, z_startAt, z_limit, z_plantsRead, z_ticksEver, z_newOrder, z_part, z_numbers, z_isWhole, z_isBelow, z_newTold, z_nextAt, z_tried, .ref h_rows, z_below, z_inputBy, z_stateBy, z_goal, z_planTicks, z_planAt, z_inputs, z_ends, z_wanted, z_h])), (h_rows, .inl (cyJ, 9, .inr (.inl v_rows)))] r) args s 0 0 A) (F0 m 4 ls [])) : ∀ (s0 : Int32) (l2 : Int32) (v_order : Int32) (v_rows : Nat → Int64), F_X5_areTwo_141 k_4 s0 l2 v_order v_rows = some r → ∀ {H : Heap} {locs : List Loc} {ls : Array Slot}, va_P (dC, dI) vwCl [(h_me, .inr (5, [z_pageLength, z_page, .int v_order, z_told, z_startAt, z_limit, z_plantsRead, z_ticksEver, z_newOrder, z_part, z_numbers, z_isWhole, z_isBelow, z_newTold, z_nextAt, z_tried, .ref h_rows, z_below, z_inputBy, z_stateBy, z_goal, z_planTicks, z_planAt, z_inputs, z_ends, z_wanted, z_h])), (h_rows, .inl (cyJ, 9, .inr (.inl v_rows)))] H → va_D A [(h_me, .inr (5, [z_pageLength, z_page, .int v_order, z_told, z_startAt, z_limit, z_plantsRead, z_ticksEver, z_newOrder, z_part, z_numbers, z_isWhole, z_isBelow, z_newTold, z_nextAt, z_tried, .ref h_rows, z_below, z_inputBy, z_stateBy, z_goal, z_planTicks, z_planAt, z_inputs, z_ends, z_wanted, z_h])), (h_rows, .inl (cyJ, 9, .inr (.inl v_rows)))] → va_S A s.heap H locs → lv_has ls 8 [(0, .ref h_me), (2, .int l2)] → W p l e rmX5_areTwo s m args below meth c H locs 0 0 (MQ below (QI (dC, dI) A [(h_me, .inr (5, [z_pageLength, z_page, .int v_order, z_told, z_startAt, z_limit, z_plantsRead, z_ticksEver, z_newOrder, z_part, z_numbers, z_isWhole, z_isBelow, z_newTold, z_nextAt, z_tried, .ref h_rows, z_below, z_inputBy, z_stateBy, z_goal, z_planTicks, z_planAt, z_inputs, z_ends, z_wanted, z_h])), (h_rows, .inl (cyJ, 9, .inr (.inl v_rows)))] r) args s 0 0 A) (F0 m 141 ls [.int s0]) := by
  obtain ⟨hx, hb, hr, hml, hown, hts, hKK, hlocks⟩ := id C0
  have hK := hKK.1
  intro s0 l2 v_order v_rows hF H locs ls hP hD hS hl
  unfold F_X5_areTwo_141 at hF
  refine lv_istore_n (lv' := [(1, .int s0), (0, .ref h_me), (2, .int l2)]) hx hb dX5_areTwo_141 rfl hl (by decide) rfl (fun ls hl => ?_)
  refine lv_iinc (v := (l2 + (1 : Int32))) (lv' := [(2, .int (l2 + (1 : Int32))), (1, .int s0), (0, .ref h_me)]) hx hb dX5_areTwo_142 hl (k := 2) rfl (by rfl) (by decide) rfl (fun ls hl => ?_)
  refine lv_goto (tgt := 4) hx hb dX5_areTwo_145 (by decide) ?_
  exact hk_4 s0 (l2 + (1 : Int32)) v_order v_rows hF hP hD hS (lv_sub hl [2, 1, 0] rfl)
set_option maxHeartbeats 4000000 in
set_option maxRecDepth 100000 in
theorem t_X5_areTwo_140 {p : Program} {l : Launch} {e : Env} {s : State} {m : MethodId} {args : Array Value} {below : List Frame} {meth : Method} {c : Code} {dC : Nat → ClassId} {dI : Nat → Nat → Nat} {cyI cyJ cyA : ClassId} {A : Nat → Prop} {h_me h_rows : Nat} {z_pageLength z_page z_told z_startAt z_limit z_plantsRead z_ticksEver z_newOrder z_part z_numbers z_isWhole z_isBelow z_newTold z_nextAt z_tried z_below z_inputBy z_stateBy z_goal z_planTicks z_planAt z_inputs z_ends z_wanted z_h : Value} {r : Int32} (C0 : Cx p s m args meth c cX5_areTwo 8 (some .boolean) wsX5_areTwo RX5 (dC, dI) cyI cyJ cyA) (hA : ∀ q : Nat, s.heap.size ≤ q → A q) (k_4 : Int32 → Int32 → Int32 → (Nat → Int64) → Option (Int32)) (hk_4 : ∀ (l1 : Int32) (l2 : Int32) (v_order : Int32) (v_rows : Nat → Int64), k_4 l1 l2 v_order v_rows = some r → ∀ {H : Heap} {locs : List Loc} {ls : Array Slot}, va_P (dC, dI) vwCl [(h_me, .inr (5, [z_pageLength, z_page, .int v_order, z_told, z_startAt, z_limit, z_plantsRead, z_ticksEver, z_newOrder, z_part, z_numbers, z_isWhole, z_isBelow, z_newTold, z_nextAt, z_tried, .ref h_rows, z_below, z_inputBy, z_stateBy, z_goal, z_planTicks, z_planAt, z_inputs, z_ends, z_wanted, z_h])), (h_rows, .inl (cyJ, 9, .inr (.inl v_rows)))] H → va_D A [(h_me, .inr (5, [z_pageLength, z_page, .int v_order, z_told, z_startAt, z_limit, z_plantsRead, z_ticksEver, z_newOrder, z_part, z_numbers, z_isWhole, z_isBelow, z_newTold, z_nextAt, z_tried, .ref h_rows, z_below, z_inputBy, z_stateBy, z_goal, z_planTicks, z_planAt, z_inputs, z_ends, z_wanted, z_h])), (h_rows, .inl (cyJ, 9, .inr (.inl v_rows)))] → va_S A s.heap H locs → lv_has ls 8 [(0, .ref h_me), (1, .int l1), (2, .int l2)] → W p l e rmX5_areTwo s m args below meth c H locs 0 0 (MQ below (QI (dC, dI) A [(h_me, .inr (5, [z_pageLength, z_page, .int v_order, z_told, z_startAt, z_limit, z_plantsRead, z_ticksEver, z_newOrder, z_part, z_numbers, z_isWhole, z_isBelow, z_newTold, z_nextAt, z_tried, .ref h_rows, z_below, z_inputBy, z_stateBy, z_goal, z_planTicks, z_planAt, z_inputs, z_ends, z_wanted, z_h])), (h_rows, .inl (cyJ, 9, .inr (.inl v_rows)))] r) args s 0 0 A) (F0 m 4 ls [])) : ∀ (l2 : Int32) (v_order : Int32) (v_rows : Nat → Int64), F_X5_areTwo_140 k_4 l2 v_order v_rows = some r → ∀ {H : Heap} {locs : List Loc} {ls : Array Slot}, va_P (dC, dI) vwCl [(h_me, .inr (5, [z_pageLength, z_page, .int v_order, z_told, z_startAt, z_limit, z_plantsRead, z_ticksEver, z_newOrder, z_part, z_numbers, z_isWhole, z_isBelow, z_newTold, z_nextAt, z_tried, .ref h_rows, z_below, z_inputBy, z_stateBy, z_goal, z_planTicks, z_planAt, z_inputs, z_ends, z_wanted, z_h])), (h_rows, .inl (cyJ, 9, .inr (.inl v_rows)))] H → va_D A [(h_me, .inr (5, [z_pageLength, z_page, .int v_order, z_told, z_startAt, z_limit, z_plantsRead, z_ticksEver, z_newOrder, z_part, z_numbers, z_isWhole, z_isBelow, z_newTold, z_nextAt, z_tried, .ref h_rows, z_below, z_inputBy, z_stateBy, z_goal, z_planTicks, z_planAt, z_inputs, z_ends, z_wanted, z_h])), (h_rows, .inl (cyJ, 9, .inr (.inl v_rows)))] → va_S A s.heap H locs → lv_has ls 8 [(0, .ref h_me), (2, .int l2)] → W p l e rmX5_areTwo s m args below meth c H locs 0 0 (MQ below (QI (dC, dI) A [(h_me, .inr (5, [z_pageLength, z_page, .int v_order, z_told, z_startAt, z_limit, z_plantsRead, z_ticksEver, z_newOrder, z_part, z_numbers, z_isWhole, z_isBelow, z_newTold, z_nextAt, z_tried, .ref h_rows, z_below, z_inputBy, z_stateBy, z_goal, z_planTicks, z_planAt, z_inputs, z_ends, z_wanted, z_h])), (h_rows, .inl (cyJ, 9, .inr (.inl v_rows)))] r) args s 0 0 A) (F0 m 140 ls []) := by
  obtain ⟨hx, hb, hr, hml, hown, hts, hKK, hlocks⟩ := id C0
  have hK := hKK.1
  intro l2 v_order v_rows hF H locs ls hP hD hS hl
  unfold F_X5_areTwo_140 at hF
  refine lv_iconst (v := (0 : Int32)) hx hb dX5_areTwo_140 (by decide) ?_
  exact t_X5_areTwo_141 C0 hA k_4 hk_4 (0 : Int32) l2 v_order v_rows hF hP hD hS (lv_sub hl [0, 1] rfl)
set_option maxHeartbeats 4000000 in
set_option maxRecDepth 100000 in
theorem t_X5_areTwo_136 {p : Program} {l : Launch} {e : Env} {s : State} {m : MethodId} {args : Array Value} {below : List Frame} {meth : Method} {c : Code} {dC : Nat → ClassId} {dI : Nat → Nat → Nat} {cyI cyJ cyA : ClassId} {A : Nat → Prop} {h_me h_rows : Nat} {z_pageLength z_page z_told z_startAt z_limit z_plantsRead z_ticksEver z_newOrder z_part z_numbers z_isWhole z_isBelow z_newTold z_nextAt z_tried z_below z_inputBy z_stateBy z_goal z_planTicks z_planAt z_inputs z_ends z_wanted z_h : Value} {r : Int32} (C0 : Cx p s m args meth c cX5_areTwo 8 (some .boolean) wsX5_areTwo RX5 (dC, dI) cyI cyJ cyA) (hA : ∀ q : Nat, s.heap.size ≤ q → A q) (k_4 : Int32 → Int32 → Int32 → (Nat → Int64) → Option (Int32)) (hk_4 : ∀ (l1 : Int32) (l2 : Int32) (v_order : Int32) (v_rows : Nat → Int64), k_4 l1 l2 v_order v_rows = some r → ∀ {H : Heap} {locs : List Loc} {ls : Array Slot}, va_P (dC, dI) vwCl [(h_me, .inr (5, [z_pageLength, z_page, .int v_order, z_told, z_startAt, z_limit, z_plantsRead, z_ticksEver, z_newOrder, z_part, z_numbers, z_isWhole, z_isBelow, z_newTold, z_nextAt, z_tried, .ref h_rows, z_below, z_inputBy, z_stateBy, z_goal, z_planTicks, z_planAt, z_inputs, z_ends, z_wanted, z_h])), (h_rows, .inl (cyJ, 9, .inr (.inl v_rows)))] H → va_D A [(h_me, .inr (5, [z_pageLength, z_page, .int v_order, z_told, z_startAt, z_limit, z_plantsRead, z_ticksEver, z_newOrder, z_part, z_numbers, z_isWhole, z_isBelow, z_newTold, z_nextAt, z_tried, .ref h_rows, z_below, z_inputBy, z_stateBy, z_goal, z_planTicks, z_planAt, z_inputs, z_ends, z_wanted, z_h])), (h_rows, .inl (cyJ, 9, .inr (.inl v_rows)))] → va_S A s.heap H locs → lv_has ls 8 [(0, .ref h_me), (1, .int l1), (2, .int l2)] → W p l e rmX5_areTwo s m args below meth c H locs 0 0 (MQ below (QI (dC, dI) A [(h_me, .inr (5, [z_pageLength, z_page, .int v_order, z_told, z_startAt, z_limit, z_plantsRead, z_ticksEver, z_newOrder, z_part, z_numbers, z_isWhole, z_isBelow, z_newTold, z_nextAt, z_tried, .ref h_rows, z_below, z_inputBy, z_stateBy, z_goal, z_planTicks, z_planAt, z_inputs, z_ends, z_wanted, z_h])), (h_rows, .inl (cyJ, 9, .inr (.inl v_rows)))] r) args s 0 0 A) (F0 m 4 ls [])) : ∀ (l2 : Int32) (v_order : Int32) (v_rows : Nat → Int64), F_X5_areTwo_136 k_4 l2 v_order v_rows = some r → ∀ {H : Heap} {locs : List Loc} {ls : Array Slot}, va_P (dC, dI) vwCl [(h_me, .inr (5, [z_pageLength, z_page, .int v_order, z_told, z_startAt, z_limit, z_plantsRead, z_ticksEver, z_newOrder, z_part, z_numbers, z_isWhole, z_isBelow, z_newTold, z_nextAt, z_tried, .ref h_rows, z_below, z_inputBy, z_stateBy, z_goal, z_planTicks, z_planAt, z_inputs, z_ends, z_wanted, z_h])), (h_rows, .inl (cyJ, 9, .inr (.inl v_rows)))] H → va_D A [(h_me, .inr (5, [z_pageLength, z_page, .int v_order, z_told, z_startAt, z_limit, z_plantsRead, z_ticksEver, z_newOrder, z_part, z_numbers, z_isWhole, z_isBelow, z_newTold, z_nextAt, z_tried, .ref h_rows, z_below, z_inputBy, z_stateBy, z_goal, z_planTicks, z_planAt, z_inputs, z_ends, z_wanted, z_h])), (h_rows, .inl (cyJ, 9, .inr (.inl v_rows)))] → va_S A s.heap H locs → lv_has ls 8 [(0, .ref h_me), (2, .int l2)] → W p l e rmX5_areTwo s m args below meth c H locs 0 0 (MQ below (QI (dC, dI) A [(h_me, .inr (5, [z_pageLength, z_page, .int v_order, z_told, z_startAt, z_limit, z_plantsRead, z_ticksEver, z_newOrder, z_part, z_numbers, z_isWhole, z_isBelow, z_newTold, z_nextAt, z_tried, .ref h_rows, z_below, z_inputBy, z_stateBy, z_goal, z_planTicks, z_planAt, z_inputs, z_ends, z_wanted, z_h])), (h_rows, .inl (cyJ, 9, .inr (.inl v_rows)))] r) args s 0 0 A) (F0 m 136 ls []) := by
  obtain ⟨hx, hb, hr, hml, hown, hts, hKK, hlocks⟩ := id C0
  have hK := hKK.1
  intro l2 v_order v_rows hF H locs ls hP hD hS hl
  unfold F_X5_areTwo_136 at hF
  refine lv_iconst (v := (1 : Int32)) hx hb dX5_areTwo_136 (by decide) ?_
  refine lv_goto (tgt := 141) hx hb dX5_areTwo_137 (by decide) ?_
  exact t_X5_areTwo_141 C0 hA k_4 hk_4 (1 : Int32) l2 v_order v_rows hF hP hD hS (lv_sub hl [0, 1] rfl)
set_option maxHeartbeats 4000000 in
set_option maxRecDepth 100000 in
theorem t_X5_areTwo_73 {p : Program} {l : Launch} {e : Env} {s : State} {m : MethodId} {args : Array Value} {below : List Frame} {meth : Method} {c : Code} {dC : Nat → ClassId} {dI : Nat → Nat → Nat} {cyI cyJ cyA : ClassId} {A : Nat → Prop} {h_me h_rows : Nat} {z_pageLength z_page z_told z_startAt z_limit z_plantsRead z_ticksEver z_newOrder z_part z_numbers z_isWhole z_isBelow z_newTold z_nextAt z_tried z_below z_inputBy z_stateBy z_goal z_planTicks z_planAt z_inputs z_ends z_wanted z_h : Value} {r : Int32} (C0 : Cx p s m args meth c cX5_areTwo 8 (some .boolean) wsX5_areTwo RX5 (dC, dI) cyI cyJ cyA) (hA : ∀ q : Nat, s.heap.size ≤ q → A q) (k_4 : Int32 → Int32 → Int32 → (Nat → Int64) → Option (Int32)) (hk_4 : ∀ (l1 : Int32) (l2 : Int32) (v_order : Int32) (v_rows : Nat → Int64), k_4 l1 l2 v_order v_rows = some r → ∀ {H : Heap} {locs : List Loc} {ls : Array Slot}, va_P (dC, dI) vwCl [(h_me, .inr (5, [z_pageLength, z_page, .int v_order, z_told, z_startAt, z_limit, z_plantsRead, z_ticksEver, z_newOrder, z_part, z_numbers, z_isWhole, z_isBelow, z_newTold, z_nextAt, z_tried, .ref h_rows, z_below, z_inputBy, z_stateBy, z_goal, z_planTicks, z_planAt, z_inputs, z_ends, z_wanted, z_h])), (h_rows, .inl (cyJ, 9, .inr (.inl v_rows)))] H → va_D A [(h_me, .inr (5, [z_pageLength, z_page, .int v_order, z_told, z_startAt, z_limit, z_plantsRead, z_ticksEver, z_newOrder, z_part, z_numbers, z_isWhole, z_isBelow, z_newTold, z_nextAt, z_tried, .ref h_rows, z_below, z_inputBy, z_stateBy, z_goal, z_planTicks, z_planAt, z_inputs, z_ends, z_wanted, z_h])), (h_rows, .inl (cyJ, 9, .inr (.inl v_rows)))] → va_S A s.heap H locs → lv_has ls 8 [(0, .ref h_me), (1, .int l1), (2, .int l2)] → W p l e rmX5_areTwo s m args below meth c H locs 0 0 (MQ below (QI (dC, dI) A [(h_me, .inr (5, [z_pageLength, z_page, .int v_order, z_told, z_startAt, z_limit, z_plantsRead, z_ticksEver, z_newOrder, z_part, z_numbers, z_isWhole, z_isBelow, z_newTold, z_nextAt, z_tried, .ref h_rows, z_below, z_inputBy, z_stateBy, z_goal, z_planTicks, z_planAt, z_inputs, z_ends, z_wanted, z_h])), (h_rows, .inl (cyJ, 9, .inr (.inl v_rows)))] r) args s 0 0 A) (F0 m 4 ls [])) : ∀ (s0 : Int32) (l1 : Int32) (l2 : Int32) (l3 : Int32) (l4 : Int32) (l5 : Int32) (l6 : Int32) (v_order : Int32) (v_rows : Nat → Int64), F_X5_areTwo_73 k_4 s0 l1 l2 l3 l4 l5 l6 v_order v_rows = some r → ∀ {H : Heap} {locs : List Loc} {ls : Array Slot}, va_P (dC, dI) vwCl [(h_me, .inr (5, [z_pageLength, z_page, .int v_order, z_told, z_startAt, z_limit, z_plantsRead, z_ticksEver, z_newOrder, z_part, z_numbers, z_isWhole, z_isBelow, z_newTold, z_nextAt, z_tried, .ref h_rows, z_below, z_inputBy, z_stateBy, z_goal, z_planTicks, z_planAt, z_inputs, z_ends, z_wanted, z_h])), (h_rows, .inl (cyJ, 9, .inr (.inl v_rows)))] H → va_D A [(h_me, .inr (5, [z_pageLength, z_page, .int v_order, z_told, z_startAt, z_limit, z_plantsRead, z_ticksEver, z_newOrder, z_part, z_numbers, z_isWhole, z_isBelow, z_newTold, z_nextAt, z_tried, .ref h_rows, z_below, z_inputBy, z_stateBy, z_goal, z_planTicks, z_planAt, z_inputs, z_ends, z_wanted, z_h])), (h_rows, .inl (cyJ, 9, .inr (.inl v_rows)))] → va_S A s.heap H locs → lv_has ls 8 [(0, .ref h_me), (1, .int l1), (2, .int l2), (3, .int l3), (4, .int l4), (5, .int l5), (6, .int l6)] → W p l e rmX5_areTwo s m args below meth c H locs 0 0 (MQ below (QI (dC, dI) A [(h_me, .inr (5, [z_pageLength, z_page, .int v_order, z_told, z_startAt, z_limit, z_plantsRead, z_ticksEver, z_newOrder, z_part, z_numbers, z_isWhole, z_isBelow, z_newTold, z_nextAt, z_tried, .ref h_rows, z_below, z_inputBy, z_stateBy, z_goal, z_planTicks, z_planAt, z_inputs, z_ends, z_wanted, z_h])), (h_rows, .inl (cyJ, 9, .inr (.inl v_rows)))] r) args s 0 0 A) (F0 m 73 ls [.int s0]) := by
  obtain ⟨hx, hb, hr, hml, hown, hts, hKK, hlocks⟩ := id C0
  have hK := hKK.1
  intro s0 l1 l2 l3 l4 l5 l6 v_order v_rows hF H locs ls hP hD hS hl
  unfold F_X5_areTwo_73 at hF
  refine lv_istore (lv' := [(7, .int s0), (0, .ref h_me), (1, .int l1), (2, .int l2), (3, .int l3), (4, .int l4), (5, .int l5), (6, .int l6)]) hx hb dX5_areTwo_73 hl (by decide) rfl (fun ls hl => ?_)
  refine lv_iload_n hx hb dX5_areTwo_75 rfl (lv_at hl 2 rfl) ?_
  refine lv_if_ne (tgt := 136) hx hb dX5_areTwo_76 (by decide) (fun c_ => ?_) (fun c_ => ?_)
  · have hF := gel c_ hF
    exact t_X5_areTwo_136 C0 hA k_4 hk_4 l2 v_order v_rows hF hP hD hS (lv_sub hl [1, 3] rfl)
  · have hF := gif c_ hF
    refine lv_iload hx hb dX5_areTwo_79 (lv_at hl 0 rfl) ?_
    refine lv_if_eq (tgt := 140) hx hb dX5_areTwo_81 (by decide) (fun c_ => ?_) (fun c_ => ?_)
    · have hF := gif c_ hF
      exact t_X5_areTwo_140 C0 hA k_4 hk_4 l2 v_order v_rows hF hP hD hS (lv_sub hl [1, 3] rfl)
    · have hF := gel c_ hF
      refine lv_aload_n hx hb dX5_areTwo_84 rfl (lv_at hl 1 rfl) ?_
      refine my_get (D := (dC, dI)) (ci := 5) (v := .ref h_rows) (C := RX5) (T := TX5) (N := 27) hx hb hts iX5_areTwo_X5 hown hK hP 0 rfl rfl 16 (by decide) (hts _ mX5_areTwo_1) rfl rfl dX5_areTwo_85 ?_
      refine lv_iconst (v := (3 : Int32)) hx hb dX5_areTwo_88 (by decide) ?_
      refine lv_iload_n hx hb dX5_areTwo_89 rfl (lv_at hl 4 rfl) ?_
      refine lv_imul hx hb dX5_areTwo_90 ?_
      refine lv_iload hx hb dX5_areTwo_91 (lv_at hl 6 rfl) ?_
      refine lv_iadd hx hb dX5_areTwo_93 ?_
      obtain ⟨g_1, hF⟩ := gno hF
      refine va_lald hx hb hK hP 1 1 rfl rfl g_1 dX5_areTwo_94 ?_
      refine lv_aload_n hx hb dX5_areTwo_95 rfl (lv_at hl 1 rfl) ?_
      refine my_get (D := (dC, dI)) (ci := 5) (v := .ref h_rows) (C := RX5) (T := TX5) (N := 27) hx hb hts iX5_areTwo_X5 hown hK hP 0 rfl rfl 16 (by decide) (hts _ mX5_areTwo_1) rfl rfl dX5_areTwo_96 ?_
      refine lv_iconst (v := (3 : Int32)) hx hb dX5_areTwo_99 (by decide) ?_
      refine lv_iload hx hb dX5_areTwo_100 (lv_at hl 5 rfl) ?_
      refine lv_imul hx hb dX5_areTwo_102 ?_
      refine lv_iload hx hb dX5_areTwo_103 (lv_at hl 7 rfl) ?_
      refine lv_iadd hx hb dX5_areTwo_105 ?_
      obtain ⟨g_2, hF⟩ := gno hF
      refine va_lald hx hb hK hP 1 1 rfl rfl g_2 dX5_areTwo_106 ?_
      refine lv_lmul hx hb dX5_areTwo_107 ?_
      refine lv_aload_n hx hb dX5_areTwo_108 rfl (lv_at hl 1 rfl) ?_
      refine my_get (D := (dC, dI)) (ci := 5) (v := .ref h_rows) (C := RX5) (T := TX5) (N := 27) hx hb hts iX5_areTwo_X5 hown hK hP 0 rfl rfl 16 (by decide) (hts _ mX5_areTwo_1) rfl rfl dX5_areTwo_109 ?_
      refine lv_iconst (v := (3 : Int32)) hx hb dX5_areTwo_112 (by decide) ?_
      refine lv_iload_n hx hb dX5_areTwo_113 rfl (lv_at hl 4 rfl) ?_
      refine lv_imul hx hb dX5_areTwo_114 ?_
      refine lv_iload hx hb dX5_areTwo_115 (lv_at hl 7 rfl) ?_
      refine lv_iadd hx hb dX5_areTwo_117 ?_
      obtain ⟨g_3, hF⟩ := gno hF
      refine va_lald hx hb hK hP 1 1 rfl rfl g_3 dX5_areTwo_118 ?_
      refine lv_aload_n hx hb dX5_areTwo_119 rfl (lv_at hl 1 rfl) ?_
      refine my_get (D := (dC, dI)) (ci := 5) (v := .ref h_rows) (C := RX5) (T := TX5) (N := 27) hx hb hts iX5_areTwo_X5 hown hK hP 0 rfl rfl 16 (by decide) (hts _ mX5_areTwo_1) rfl rfl dX5_areTwo_120 ?_
      refine lv_iconst (v := (3 : Int32)) hx hb dX5_areTwo_123 (by decide) ?_
      refine lv_iload hx hb dX5_areTwo_124 (lv_at hl 5 rfl) ?_
      refine lv_imul hx hb dX5_areTwo_126 ?_
      refine lv_iload hx hb dX5_areTwo_127 (lv_at hl 6 rfl) ?_
      refine lv_iadd hx hb dX5_areTwo_129 ?_
      obtain ⟨g_4, hF⟩ := gno hF
      refine va_lald hx hb hK hP 1 1 rfl rfl g_4 dX5_areTwo_130 ?_
      refine lv_lmul hx hb dX5_areTwo_131 ?_
      refine W.lcmp hx hb dX5_areTwo_132 ?_
      refine lv_if_eq (tgt := 140) hx hb dX5_areTwo_133 (by decide) (fun c_ => ?_) (fun c_ => ?_)
      · have hF := gif c_ hF
        exact t_X5_areTwo_140 C0 hA k_4 hk_4 l2 v_order v_rows hF hP hD hS (lv_sub hl [1, 3] rfl)
      · have hF := gel c_ hF
        exact t_X5_areTwo_136 C0 hA k_4 hk_4 l2 v_order v_rows hF hP hD hS (lv_sub hl [1, 3] rfl)
set_option maxHeartbeats 4000000 in
set_option maxRecDepth 100000 in
theorem t_X5_areTwo_72 {p : Program} {l : Launch} {e : Env} {s : State} {m : MethodId} {args : Array Value} {below : List Frame} {meth : Method} {c : Code} {dC : Nat → ClassId} {dI : Nat → Nat → Nat} {cyI cyJ cyA : ClassId} {A : Nat → Prop} {h_me h_rows : Nat} {z_pageLength z_page z_told z_startAt z_limit z_plantsRead z_ticksEver z_newOrder z_part z_numbers z_isWhole z_isBelow z_newTold z_nextAt z_tried z_below z_inputBy z_stateBy z_goal z_planTicks z_planAt z_inputs z_ends z_wanted z_h : Value} {r : Int32} (C0 : Cx p s m args meth c cX5_areTwo 8 (some .boolean) wsX5_areTwo RX5 (dC, dI) cyI cyJ cyA) (hA : ∀ q : Nat, s.heap.size ≤ q → A q) (k_4 : Int32 → Int32 → Int32 → (Nat → Int64) → Option (Int32)) (hk_4 : ∀ (l1 : Int32) (l2 : Int32) (v_order : Int32) (v_rows : Nat → Int64), k_4 l1 l2 v_order v_rows = some r → ∀ {H : Heap} {locs : List Loc} {ls : Array Slot}, va_P (dC, dI) vwCl [(h_me, .inr (5, [z_pageLength, z_page, .int v_order, z_told, z_startAt, z_limit, z_plantsRead, z_ticksEver, z_newOrder, z_part, z_numbers, z_isWhole, z_isBelow, z_newTold, z_nextAt, z_tried, .ref h_rows, z_below, z_inputBy, z_stateBy, z_goal, z_planTicks, z_planAt, z_inputs, z_ends, z_wanted, z_h])), (h_rows, .inl (cyJ, 9, .inr (.inl v_rows)))] H → va_D A [(h_me, .inr (5, [z_pageLength, z_page, .int v_order, z_told, z_startAt, z_limit, z_plantsRead, z_ticksEver, z_newOrder, z_part, z_numbers, z_isWhole, z_isBelow, z_newTold, z_nextAt, z_tried, .ref h_rows, z_below, z_inputBy, z_stateBy, z_goal, z_planTicks, z_planAt, z_inputs, z_ends, z_wanted, z_h])), (h_rows, .inl (cyJ, 9, .inr (.inl v_rows)))] → va_S A s.heap H locs → lv_has ls 8 [(0, .ref h_me), (1, .int l1), (2, .int l2)] → W p l e rmX5_areTwo s m args below meth c H locs 0 0 (MQ below (QI (dC, dI) A [(h_me, .inr (5, [z_pageLength, z_page, .int v_order, z_told, z_startAt, z_limit, z_plantsRead, z_ticksEver, z_newOrder, z_part, z_numbers, z_isWhole, z_isBelow, z_newTold, z_nextAt, z_tried, .ref h_rows, z_below, z_inputBy, z_stateBy, z_goal, z_planTicks, z_planAt, z_inputs, z_ends, z_wanted, z_h])), (h_rows, .inl (cyJ, 9, .inr (.inl v_rows)))] r) args s 0 0 A) (F0 m 4 ls [])) : ∀ (l1 : Int32) (l2 : Int32) (l3 : Int32) (l4 : Int32) (l5 : Int32) (l6 : Int32) (v_order : Int32) (v_rows : Nat → Int64), F_X5_areTwo_72 k_4 l1 l2 l3 l4 l5 l6 v_order v_rows = some r → ∀ {H : Heap} {locs : List Loc} {ls : Array Slot}, va_P (dC, dI) vwCl [(h_me, .inr (5, [z_pageLength, z_page, .int v_order, z_told, z_startAt, z_limit, z_plantsRead, z_ticksEver, z_newOrder, z_part, z_numbers, z_isWhole, z_isBelow, z_newTold, z_nextAt, z_tried, .ref h_rows, z_below, z_inputBy, z_stateBy, z_goal, z_planTicks, z_planAt, z_inputs, z_ends, z_wanted, z_h])), (h_rows, .inl (cyJ, 9, .inr (.inl v_rows)))] H → va_D A [(h_me, .inr (5, [z_pageLength, z_page, .int v_order, z_told, z_startAt, z_limit, z_plantsRead, z_ticksEver, z_newOrder, z_part, z_numbers, z_isWhole, z_isBelow, z_newTold, z_nextAt, z_tried, .ref h_rows, z_below, z_inputBy, z_stateBy, z_goal, z_planTicks, z_planAt, z_inputs, z_ends, z_wanted, z_h])), (h_rows, .inl (cyJ, 9, .inr (.inl v_rows)))] → va_S A s.heap H locs → lv_has ls 8 [(0, .ref h_me), (1, .int l1), (2, .int l2), (3, .int l3), (4, .int l4), (5, .int l5), (6, .int l6)] → W p l e rmX5_areTwo s m args below meth c H locs 0 0 (MQ below (QI (dC, dI) A [(h_me, .inr (5, [z_pageLength, z_page, .int v_order, z_told, z_startAt, z_limit, z_plantsRead, z_ticksEver, z_newOrder, z_part, z_numbers, z_isWhole, z_isBelow, z_newTold, z_nextAt, z_tried, .ref h_rows, z_below, z_inputBy, z_stateBy, z_goal, z_planTicks, z_planAt, z_inputs, z_ends, z_wanted, z_h])), (h_rows, .inl (cyJ, 9, .inr (.inl v_rows)))] r) args s 0 0 A) (F0 m 72 ls []) := by
  obtain ⟨hx, hb, hr, hml, hown, hts, hKK, hlocks⟩ := id C0
  have hK := hKK.1
  intro l1 l2 l3 l4 l5 l6 v_order v_rows hF H locs ls hP hD hS hl
  unfold F_X5_areTwo_72 at hF
  refine lv_iconst (v := (0 : Int32)) hx hb dX5_areTwo_72 (by decide) ?_
  exact t_X5_areTwo_73 C0 hA k_4 hk_4 (0 : Int32) l1 l2 l3 l4 l5 l6 v_order v_rows hF hP hD hS (lv_sub hl [0, 1, 2, 3, 4, 5, 6] rfl)
set_option maxHeartbeats 4000000 in
set_option maxRecDepth 100000 in
theorem t_X5_areTwo_4 {p : Program} {l : Launch} {e : Env} {s : State} {m : MethodId} {args : Array Value} {below : List Frame} {meth : Method} {c : Code} {dC : Nat → ClassId} {dI : Nat → Nat → Nat} {cyI cyJ cyA : ClassId} {A : Nat → Prop} {h_me h_rows : Nat} {z_pageLength z_page z_told z_startAt z_limit z_plantsRead z_ticksEver z_newOrder z_part z_numbers z_isWhole z_isBelow z_newTold z_nextAt z_tried z_below z_inputBy z_stateBy z_goal z_planTicks z_planAt z_inputs z_ends z_wanted z_h : Value} {r : Int32} (C0 : Cx p s m args meth c cX5_areTwo 8 (some .boolean) wsX5_areTwo RX5 (dC, dI) cyI cyJ cyA) (hA : ∀ q : Nat, s.heap.size ≤ q → A q)  : ∀ (n : Nat) (l1 : Int32) (l2 : Int32) (v_order : Int32) (v_rows : Nat → Int64), F_X5_areTwo_4  n l1 l2 v_order v_rows = some r → ∀ {H : Heap} {locs : List Loc} {ls : Array Slot}, va_P (dC, dI) vwCl [(h_me, .inr (5, [z_pageLength, z_page, .int v_order, z_told, z_startAt, z_limit, z_plantsRead, z_ticksEver, z_newOrder, z_part, z_numbers, z_isWhole, z_isBelow, z_newTold, z_nextAt, z_tried, .ref h_rows, z_below, z_inputBy, z_stateBy, z_goal, z_planTicks, z_planAt, z_inputs, z_ends, z_wanted, z_h])), (h_rows, .inl (cyJ, 9, .inr (.inl v_rows)))] H → va_D A [(h_me, .inr (5, [z_pageLength, z_page, .int v_order, z_told, z_startAt, z_limit, z_plantsRead, z_ticksEver, z_newOrder, z_part, z_numbers, z_isWhole, z_isBelow, z_newTold, z_nextAt, z_tried, .ref h_rows, z_below, z_inputBy, z_stateBy, z_goal, z_planTicks, z_planAt, z_inputs, z_ends, z_wanted, z_h])), (h_rows, .inl (cyJ, 9, .inr (.inl v_rows)))] → va_S A s.heap H locs → lv_has ls 8 [(0, .ref h_me), (1, .int l1), (2, .int l2)] → W p l e rmX5_areTwo s m args below meth c H locs 0 0 (MQ below (QI (dC, dI) A [(h_me, .inr (5, [z_pageLength, z_page, .int v_order, z_told, z_startAt, z_limit, z_plantsRead, z_ticksEver, z_newOrder, z_part, z_numbers, z_isWhole, z_isBelow, z_newTold, z_nextAt, z_tried, .ref h_rows, z_below, z_inputBy, z_stateBy, z_goal, z_planTicks, z_planAt, z_inputs, z_ends, z_wanted, z_h])), (h_rows, .inl (cyJ, 9, .inr (.inl v_rows)))] r) args s 0 0 A) (F0 m 4 ls []) := by
  obtain ⟨hx, hb, hr, hml, hown, hts, hKK, hlocks⟩ := id C0
  have hK := hKK.1
  intro n
  induction n with
  | zero => intro l1 l2 v_order v_rows hF; rw [F_X5_areTwo_4] at hF; cases hF
  | succ n ih =>
      intro l1 l2 v_order v_rows hF H locs ls hP hD hS hl
      rw [F_X5_areTwo_4] at hF
      refine lv_iload_n hx hb dX5_areTwo_4 rfl (lv_at hl 2 rfl) ?_
      refine lv_bipush (v := (81 : Int32)) hx hb dX5_areTwo_5 (by decide) ?_
      refine lv_icmp_ge (tgt := 148) hx hb dX5_areTwo_7 (by decide) (fun c_ => ?_) (fun c_ => ?_)
      · have hF := gif c_ hF
        refine lv_iload_n hx hb dX5_areTwo_148 rfl (lv_at hl 1 rfl) ?_
        obtain ⟨g_1, hF⟩ := gno hF
        cases hF
        exact W.zret hx hb hr (bd_zt (gnn g_1)) (fun t ht hW => ⟨⟨_, (), rfl, rfl, by rw [ht]; exact hP, hD⟩, hS.F ht⟩) hS.2.2 dX5_areTwo_149
      · have hF := gel c_ hF
        refine lv_iload_n hx hb dX5_areTwo_10 rfl (lv_at hl 2 rfl) ?_
        refine lv_bipush (v := (9 : Int32)) hx hb dX5_areTwo_11 (by decide) ?_
        refine lv_idiv hx hb dX5_areTwo_13 (by decide) ?_
        refine lv_iconst (v := (3 : Int32)) hx hb dX5_areTwo_14 (by decide) ?_
        refine lv_irem hx hb dX5_areTwo_15 (by decide) ?_
        refine lv_istore_n (lv' := [(3, .int ((l2 / (9 : Int32)) - (l2 / (9 : Int32)) / (3 : Int32) * (3 : Int32))), (0, .ref h_me), (1, .int l1), (2, .int l2)]) hx hb dX5_areTwo_16 rfl hl (by decide) rfl (fun ls hl => ?_)
        refine lv_iload_n hx hb dX5_areTwo_17 rfl (lv_at hl 3 rfl) ?_
        refine lv_bipush (v := (27 : Int32)) hx hb dX5_areTwo_18 (by decide) ?_
        refine lv_idiv hx hb dX5_areTwo_20 (by decide) ?_
        refine lv_istore (lv' := [(4, .int (l2 / (27 : Int32))), (3, .int ((l2 / (9 : Int32)) - (l2 / (9 : Int32)) / (3 : Int32) * (3 : Int32))), (0, .ref h_me), (1, .int l1), (2, .int l2)]) hx hb dX5_areTwo_21 hl (by decide) rfl (fun ls hl => ?_)
        refine lv_iload_n hx hb dX5_areTwo_23 rfl (lv_at hl 4 rfl) ?_
        refine lv_iconst (v := (3 : Int32)) hx hb dX5_areTwo_24 (by decide) ?_
        refine lv_irem hx hb dX5_areTwo_25 (by decide) ?_
        refine lv_istore (lv' := [(5, .int (l2 - l2 / (3 : Int32) * (3 : Int32))), (4, .int (l2 / (27 : Int32))), (3, .int ((l2 / (9 : Int32)) - (l2 / (9 : Int32)) / (3 : Int32) * (3 : Int32))), (0, .ref h_me), (1, .int l1), (2, .int l2)]) hx hb dX5_areTwo_26 hl (by decide) rfl (fun ls hl => ?_)
        refine lv_iload_n hx hb dX5_areTwo_28 rfl (lv_at hl 5 rfl) ?_
        refine lv_iconst (v := (3 : Int32)) hx hb dX5_areTwo_29 (by decide) ?_
        refine lv_idiv hx hb dX5_areTwo_30 (by decide) ?_
        refine lv_iconst (v := (3 : Int32)) hx hb dX5_areTwo_31 (by decide) ?_
        refine lv_irem hx hb dX5_areTwo_32 (by decide) ?_
        refine lv_istore (lv' := [(6, .int ((l2 / (3 : Int32)) - (l2 / (3 : Int32)) / (3 : Int32) * (3 : Int32))), (5, .int (l2 - l2 / (3 : Int32) * (3 : Int32))), (4, .int (l2 / (27 : Int32))), (3, .int ((l2 / (9 : Int32)) - (l2 / (9 : Int32)) / (3 : Int32) * (3 : Int32))), (0, .ref h_me), (1, .int l1), (2, .int l2)]) hx hb dX5_areTwo_33 hl (by decide) rfl (fun ls hl => ?_)
        refine lv_iload_n hx hb dX5_areTwo_35 rfl (lv_at hl 3 rfl) ?_
        refine lv_iload hx hb dX5_areTwo_36 (lv_at hl 2 rfl) ?_
        refine lv_icmp_ge (tgt := 72) hx hb dX5_areTwo_38 (by decide) (fun c_ => ?_) (fun c_ => ?_)
        · have hF := gif c_ hF
          exact t_X5_areTwo_72 C0 hA (fun l1 l2 v_order v_rows => F_X5_areTwo_4  n l1 l2 v_order v_rows) ih l1 l2 ((l2 / (9 : Int32)) - (l2 / (9 : Int32)) / (3 : Int32) * (3 : Int32)) (l2 / (27 : Int32)) (l2 - l2 / (3 : Int32) * (3 : Int32)) ((l2 / (3 : Int32)) - (l2 / (3 : Int32)) / (3 : Int32) * (3 : Int32)) v_order v_rows hF hP hD hS (lv_sub hl [4, 5, 6, 3, 2, 1, 0] rfl)
        · have hF := gel c_ hF
          refine lv_aload_n hx hb dX5_areTwo_41 rfl (lv_at hl 4 rfl) ?_
          refine lv_iload hx hb dX5_areTwo_42 (lv_at hl 2 rfl) ?_
          obtain ⟨r2, hz2, hF⟩ := bd1_e hF
          refine kc_i (wr := [(h_rows, .inl (cyJ, 9, .inr (.inl v_rows)))]) (ws' := [(h_me, .inr (5, [z_pageLength, z_page, .int v_order, z_told, z_startAt, z_limit, z_plantsRead, z_ticksEver, z_newOrder, z_part, z_numbers, z_isWhole, z_isBelow, z_newTold, z_nextAt, z_tried, .ref h_rows, z_below, z_inputBy, z_stateBy, z_goal, z_planTicks, z_planAt, z_inputs, z_ends, z_wanted, z_h])), (h_rows, .inl (cyJ, 9, .inr (.inl v_rows)))]) (va_runV (As := [.int (l2 / (27 : Int32))]) (rest := []) ⟨hx, hb, hml, hown, hts⟩ (c_X5_isPlace l dC dI cyI cyJ cyA h_me z_pageLength z_page z_told z_startAt z_limit z_plantsRead z_ticksEver z_newOrder z_part z_numbers z_isWhole z_isBelow z_newTold z_nextAt z_tried (.ref h_rows) z_below z_inputBy z_stateBy z_goal z_planTicks z_planAt z_inputs z_ends z_wanted z_h v_order (l2 / (27 : Int32)) hz2 _) (cwV 1 hts gX5_areTwo_X5_isPlace rfl rfl rfl ndX5_isPlace ⟨Nat.le_of_ble_eq_true rfl, Nat.le_of_ble_eq_true rfl⟩) (pre_V hKK hP hD 0 rfl rfl [0] (by decide) rfl rfl) rfl rfl hl.1 rfl (lv_room (Nat.le_of_ble_eq_true rfl)) dX5_areTwo_44 ⟨Nat.le_of_ble_eq_true rfl, Nat.le_of_ble_eq_true rfl⟩) hP hD hS hA [0] [1] [1, 0] rfl rfl (by decide) (by decide) (by decide) rfl rfl (fun H locs hP hD hS => ?_)
          refine lv_if_eq (tgt := 72) hx hb dX5_areTwo_47 (by decide) (fun c_ => ?_) (fun c_ => ?_)
          · have hF := gif c_ hF
            exact t_X5_areTwo_72 C0 hA (fun l1 l2 v_order v_rows => F_X5_areTwo_4  n l1 l2 v_order v_rows) ih l1 l2 ((l2 / (9 : Int32)) - (l2 / (9 : Int32)) / (3 : Int32) * (3 : Int32)) (l2 / (27 : Int32)) (l2 - l2 / (3 : Int32) * (3 : Int32)) ((l2 / (3 : Int32)) - (l2 / (3 : Int32)) / (3 : Int32) * (3 : Int32)) v_order v_rows hF hP hD hS (lv_sub hl [4, 5, 6, 3, 2, 1, 0] rfl)
          · have hF := gel c_ hF
            refine lv_aload_n hx hb dX5_areTwo_50 rfl (lv_at hl 4 rfl) ?_
            refine lv_iload hx hb dX5_areTwo_51 (lv_at hl 1 rfl) ?_
            obtain ⟨r3, hz3, hF⟩ := bd1_e hF
            refine kc_i (wr := [(h_rows, .inl (cyJ, 9, .inr (.inl v_rows)))]) (ws' := [(h_me, .inr (5, [z_pageLength, z_page, .int v_order, z_told, z_startAt, z_limit, z_plantsRead, z_ticksEver, z_newOrder, z_part, z_numbers, z_isWhole, z_isBelow, z_newTold, z_nextAt, z_tried, .ref h_rows, z_below, z_inputBy, z_stateBy, z_goal, z_planTicks, z_planAt, z_inputs, z_ends, z_wanted, z_h])), (h_rows, .inl (cyJ, 9, .inr (.inl v_rows)))]) (va_runV (As := [.int (l2 - l2 / (3 : Int32) * (3 : Int32))]) (rest := []) ⟨hx, hb, hml, hown, hts⟩ (c_X5_isPlace l dC dI cyI cyJ cyA h_me z_pageLength z_page z_told z_startAt z_limit z_plantsRead z_ticksEver z_newOrder z_part z_numbers z_isWhole z_isBelow z_newTold z_nextAt z_tried (.ref h_rows) z_below z_inputBy z_stateBy z_goal z_planTicks z_planAt z_inputs z_ends z_wanted z_h v_order (l2 - l2 / (3 : Int32) * (3 : Int32)) hz3 _) (cwV 1 hts gX5_areTwo_X5_isPlace rfl rfl rfl ndX5_isPlace ⟨Nat.le_of_ble_eq_true rfl, Nat.le_of_ble_eq_true rfl⟩) (pre_V hKK hP hD 0 rfl rfl [0] (by decide) rfl rfl) rfl rfl hl.1 rfl (lv_room (Nat.le_of_ble_eq_true rfl)) dX5_areTwo_53 ⟨Nat.le_of_ble_eq_true rfl, Nat.le_of_ble_eq_true rfl⟩) hP hD hS hA [0] [1] [1, 0] rfl rfl (by decide) (by decide) (by decide) rfl rfl (fun H locs hP hD hS => ?_)
            refine lv_if_eq (tgt := 72) hx hb dX5_areTwo_56 (by decide) (fun c_ => ?_) (fun c_ => ?_)
            · have hF := gif c_ hF
              exact t_X5_areTwo_72 C0 hA (fun l1 l2 v_order v_rows => F_X5_areTwo_4  n l1 l2 v_order v_rows) ih l1 l2 ((l2 / (9 : Int32)) - (l2 / (9 : Int32)) / (3 : Int32) * (3 : Int32)) (l2 / (27 : Int32)) (l2 - l2 / (3 : Int32) * (3 : Int32)) ((l2 / (3 : Int32)) - (l2 / (3 : Int32)) / (3 : Int32) * (3 : Int32)) v_order v_rows hF hP hD hS (lv_sub hl [4, 5, 6, 3, 2, 1, 0] rfl)
            · have hF := gel c_ hF
              refine lv_aload_n hx hb dX5_areTwo_59 rfl (lv_at hl 4 rfl) ?_
              refine lv_iload hx hb dX5_areTwo_60 (lv_at hl 0 rfl) ?_
              obtain ⟨r4, hz4, hF⟩ := bd1_e hF
              refine kc_i (wr := [(h_rows, .inl (cyJ, 9, .inr (.inl v_rows)))]) (ws' := [(h_me, .inr (5, [z_pageLength, z_page, .int v_order, z_told, z_startAt, z_limit, z_plantsRead, z_ticksEver, z_newOrder, z_part, z_numbers, z_isWhole, z_isBelow, z_newTold, z_nextAt, z_tried, .ref h_rows, z_below, z_inputBy, z_stateBy, z_goal, z_planTicks, z_planAt, z_inputs, z_ends, z_wanted, z_h])), (h_rows, .inl (cyJ, 9, .inr (.inl v_rows)))]) (va_runV (As := [.int ((l2 / (3 : Int32)) - (l2 / (3 : Int32)) / (3 : Int32) * (3 : Int32))]) (rest := []) ⟨hx, hb, hml, hown, hts⟩ (c_X5_isPlace l dC dI cyI cyJ cyA h_me z_pageLength z_page z_told z_startAt z_limit z_plantsRead z_ticksEver z_newOrder z_part z_numbers z_isWhole z_isBelow z_newTold z_nextAt z_tried (.ref h_rows) z_below z_inputBy z_stateBy z_goal z_planTicks z_planAt z_inputs z_ends z_wanted z_h v_order ((l2 / (3 : Int32)) - (l2 / (3 : Int32)) / (3 : Int32) * (3 : Int32)) hz4 _) (cwV 1 hts gX5_areTwo_X5_isPlace rfl rfl rfl ndX5_isPlace ⟨Nat.le_of_ble_eq_true rfl, Nat.le_of_ble_eq_true rfl⟩) (pre_V hKK hP hD 0 rfl rfl [0] (by decide) rfl rfl) rfl rfl hl.1 rfl (lv_room (Nat.le_of_ble_eq_true rfl)) dX5_areTwo_62 ⟨Nat.le_of_ble_eq_true rfl, Nat.le_of_ble_eq_true rfl⟩) hP hD hS hA [0] [1] [1, 0] rfl rfl (by decide) (by decide) (by decide) rfl rfl (fun H locs hP hD hS => ?_)
              refine lv_if_eq (tgt := 72) hx hb dX5_areTwo_65 (by decide) (fun c_ => ?_) (fun c_ => ?_)
              · have hF := gif c_ hF
                exact t_X5_areTwo_72 C0 hA (fun l1 l2 v_order v_rows => F_X5_areTwo_4  n l1 l2 v_order v_rows) ih l1 l2 ((l2 / (9 : Int32)) - (l2 / (9 : Int32)) / (3 : Int32) * (3 : Int32)) (l2 / (27 : Int32)) (l2 - l2 / (3 : Int32) * (3 : Int32)) ((l2 / (3 : Int32)) - (l2 / (3 : Int32)) / (3 : Int32) * (3 : Int32)) v_order v_rows hF hP hD hS (lv_sub hl [4, 5, 6, 3, 2, 1, 0] rfl)
              · have hF := gel c_ hF
                refine lv_iconst (v := (1 : Int32)) hx hb dX5_areTwo_68 (by decide) ?_
                refine lv_goto (tgt := 73) hx hb dX5_areTwo_69 (by decide) ?_
                exact t_X5_areTwo_73 C0 hA (fun l1 l2 v_order v_rows => F_X5_areTwo_4  n l1 l2 v_order v_rows) ih (1 : Int32) l1 l2 ((l2 / (9 : Int32)) - (l2 / (9 : Int32)) / (3 : Int32) * (3 : Int32)) (l2 / (27 : Int32)) (l2 - l2 / (3 : Int32) * (3 : Int32)) ((l2 / (3 : Int32)) - (l2 / (3 : Int32)) / (3 : Int32) * (3 : Int32)) v_order v_rows hF hP hD hS (lv_sub hl [4, 5, 6, 3, 2, 1, 0] rfl)
set_option maxHeartbeats 4000000 in
set_option maxRecDepth 100000 in
theorem c_X5_areTwo (l : Launch) (dC : Nat → ClassId) (dI : Nat → Nat → Nat) (cyI cyJ cyA : ClassId) (h_me h_rows : Nat) (z_pageLength z_page z_told z_startAt z_limit z_plantsRead z_ticksEver z_newOrder z_part z_numbers z_isWhole z_isBelow z_newTold z_nextAt z_tried z_below z_inputBy z_stateBy z_goal z_planTicks z_planAt z_inputs z_ends z_wanted z_h : Value) (v_order : Int32) (v_rows : Nat → Int64)  {r : Int32} (hF : F_X5_areTwo v_order v_rows = some r) (sz : Nat) : Met l yX5_areTwo wsX5_areTwo rmX5_areTwo (va_Pc [.ref h_me] (PC (dC, dI) cyI cyJ cyA [(h_me, .inr (5, [z_pageLength, z_page, .int v_order, z_told, z_startAt, z_limit, z_plantsRead, z_ticksEver, z_newOrder, z_part, z_numbers, z_isWhole, z_isBelow, z_newTold, z_nextAt, z_tried, .ref h_rows, z_below, z_inputBy, z_stateBy, z_goal, z_planTicks, z_planAt, z_inputs, z_ends, z_wanted, z_h])), (h_rows, .inl (cyJ, 9, .inr (.inl v_rows)))] sz)) (QI (dC, dI) (va_A [(h_me, .inr (5, [z_pageLength, z_page, .int v_order, z_told, z_startAt, z_limit, z_plantsRead, z_ticksEver, z_newOrder, z_part, z_numbers, z_isWhole, z_isBelow, z_newTold, z_nextAt, z_tried, .ref h_rows, z_below, z_inputBy, z_stateBy, z_goal, z_planTicks, z_planAt, z_inputs, z_ends, z_wanted, z_h])), (h_rows, .inl (cyJ, 9, .inr (.inl v_rows)))] sz) [(h_me, .inr (5, [z_pageLength, z_page, .int v_order, z_told, z_startAt, z_limit, z_plantsRead, z_ticksEver, z_newOrder, z_part, z_numbers, z_isWhole, z_isBelow, z_newTold, z_nextAt, z_tried, .ref h_rows, z_below, z_inputBy, z_stateBy, z_goal, z_planTicks, z_planAt, z_inputs, z_ends, z_wanted, z_h])), (h_rows, .inl (cyJ, 9, .inr (.inl v_rows)))] r) 0 0 (va_A [(h_me, .inr (5, [z_pageLength, z_page, .int v_order, z_told, z_startAt, z_limit, z_plantsRead, z_ticksEver, z_newOrder, z_part, z_numbers, z_isWhole, z_isBelow, z_newTold, z_nextAt, z_tried, .ref h_rows, z_below, z_inputBy, z_stateBy, z_goal, z_planTicks, z_planAt, z_inputs, z_ends, z_wanted, z_h])), (h_rows, .inl (cyJ, 9, .inr (.inl v_rows)))] sz) := by
  refine Met.ofW (cc := cX5_areTwo) (maxL := 8) (ret := (some .boolean)) (by decide) rfl ?_
  intro p e s m args below meth c s₁ B hml hv
  obtain ⟨rfl, hsz, hP, hKK, hD0⟩ := hv
  have hx := B.exec
  have hb := B.bytes
  have hr := B.returns
  have hts := atoms_spec (ws := wsX5_areTwo) B.pre
  have hown : s.vm.findClass RX5 = some m.cls := findClass_of_methodNamed B.named
  have hlocks := B.notSynchronized
  have C0 : Cx p s m ([.ref h_me] : List Value).toArray meth c cX5_areTwo 8 (some .boolean) wsX5_areTwo RX5 (dC, dI) cyI cyJ cyA := ⟨hx, hb, hr, hml, hown, hts, hKK, hlocks⟩
  have hK := hKK.1
  subst hsz
  have hD := hD0.self (sz := s.heap.size)
  generalize hAe : va_A [(h_me, .inr (5, [z_pageLength, z_page, .int v_order, z_told, z_startAt, z_limit, z_plantsRead, z_ticksEver, z_newOrder, z_part, z_numbers, z_isWhole, z_isBelow, z_newTold, z_nextAt, z_tried, .ref h_rows, z_below, z_inputBy, z_stateBy, z_goal, z_planTicks, z_planAt, z_inputs, z_ends, z_wanted, z_h])), (h_rows, .inl (cyJ, 9, .inr (.inl v_rows)))] s.heap.size = A at hD ⊢
  have hA : ∀ q : Nat, s.heap.size ≤ q → A q := fun q h => by rw [← hAe]; exact Or.inr h
  have hS : va_S A s.heap s.heap [] := va_S.rf
  have hl := lv_entry ([.ref h_me]) (n := 8) (Nat.le_of_ble_eq_true rfl)
  rw [lg_entry_eq]
  generalize (lg_sl ([.ref h_me]) ++ List.replicate (8 - (lg_sl ([.ref h_me])).length) Slot.unset).toArray = ls at hl ⊢
  have hl : lv_has ls 8 [(0, .ref h_me)] := hl
  unfold F_X5_areTwo at hF
  refine lv_iconst (v := (0 : Int32)) hx hb dX5_areTwo_0 (by decide) ?_
  refine lv_istore_n (lv' := [(1, .int (0 : Int32)), (0, .ref h_me)]) hx hb dX5_areTwo_1 rfl hl (by decide) rfl (fun ls hl => ?_)
  refine lv_iconst (v := (0 : Int32)) hx hb dX5_areTwo_2 (by decide) ?_
  refine lv_istore_n (lv' := [(2, .int (0 : Int32)), (1, .int (0 : Int32)), (0, .ref h_me)]) hx hb dX5_areTwo_3 rfl hl (by decide) rfl (fun ls hl => ?_)
  exact t_X5_areTwo_4 C0 hA   3000 (0 : Int32) (0 : Int32) v_order v_rows hF hP hD hS (lv_sub hl [2, 1, 0] rfl)
