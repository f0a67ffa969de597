/-! RestGains$Plant.goOn (Z[J[J)V -/
def rmX3_goOn : Room := { frames := 0, cells := 0, slots := 0, locals := 0 }
def F_X3_goOn_42 (k_3 : Int32 → Int32 → (Nat → Int64) → (Nat → Int32) → (Nat → Int64) → Option ((Nat → Int64))) (k_15 : Int32 → Int32 → Int64 → Int32 → (Nat → Int64) → (Nat → Int32) → (Nat → Int64) → Option ((Nat → Int64))) (s0 : Int32) (l1 : Int32) (l4 : Int32) (l5 : Int64) (l7 : Int32) (v_g3 : Nat → Int64) (v_cells : Nat → Int32) (v_g2 : Nat → Int64) : Option ((Nat → Int64)) :=
  if s0 < 0 ∨ 15 ≤ s0.toNatClampNeg then none else if l7 < 0 ∨ 3 ≤ l7.toNatClampNeg then none else k_15 l1 l4 (l5 + ((v_cells s0.toNatClampNeg).toInt64 * (v_g2 l7.toNatClampNeg))) (l7 + (1 : Int32)) v_g3 v_cells v_g2
def F_X3_goOn_15 (k_3 : Int32 → Int32 → (Nat → Int64) → (Nat → Int32) → (Nat → Int64) → Option ((Nat → Int64))) : Nat → Int32 → Int32 → Int64 → Int32 → (Nat → Int64) → (Nat → Int32) → (Nat → Int64) → Option ((Nat → Int64))
  | 0, _, _, _, _, _, _, _ => none
  | n + 1, l1, l4, l5, l7, v_g3, v_cells, v_g2 => if (3 : Int32) ≤ l7 then (if l4 < 0 ∨ 3 ≤ l4.toNatClampNeg then none else k_3 l1 (l4 + (1 : Int32)) (vp_updL v_g3 l4.toNatClampNeg l5) v_cells v_g2) else (if l1 = 0 then (F_X3_goOn_42 k_3 (fun l1 l4 l5 l7 v_g3 v_cells v_g2 => F_X3_goOn_15 k_3 n l1 l4 l5 l7 v_g3 v_cells v_g2) (((3 : Int32) * l4) + l7) l1 l4 l5 l7 v_g3 v_cells v_g2) else (F_X3_goOn_42 k_3 (fun l1 l4 l5 l7 v_g3 v_cells v_g2 => F_X3_goOn_15 k_3 n l1 l4 l5 l7 v_g3 v_cells v_g2) (((3 : Int32) * l7) + l4) l1 l4 l5 l7 v_g3 v_cells v_g2))
def F_X3_goOn_3  : Nat → Int32 → Int32 → (Nat → Int64) → (Nat → Int32) → (Nat → Int64) → Option ((Nat → Int64))
  | 0, _, _, _, _, _ => none
  | n + 1, l1, l4, v_g3, v_cells, v_g2 => if (3 : Int32) ≤ l4 then (some v_g3) else (F_X3_goOn_15 (fun l1 l4 v_g3 v_cells v_g2 => F_X3_goOn_3  n l1 l4 v_g3 v_cells v_g2) 3000 l1 l4 (0 : Int64) (0 : Int32) v_g3 v_cells v_g2)
def F_X3_goOn (l1 : Int32) (v_g3 : Nat → Int64) (v_cells : Nat → Int32) (v_g2 : Nat → Int64) : Option ((Nat → Int64)) :=
  F_X3_goOn_3  3000 l1 (0 : Int32) v_g3 v_cells v_g2
set_option maxHeartbeats 4000000 in
set_option maxRecDepth 100000 in
theorem t_X3_goOn_42 {p : Program} {l : Launch} {e : Env} {s : State} {m : MethodId} {args : Array Value} {below : List Frame} {meth : Method} {c : Code} {dC : Nat → ClassId} {dI : Nat → Nat → Nat} {cyI cyJ cyA : ClassId} {A : Nat → Prop} {h_g3 h_me h_cells h_g2 : Nat} {z_order z_spare : Value} {q_g3 : Nat → Int64} (C0 : Cx p s m args meth c cX3_goOn 9 none wsX3_goOn RX3 (dC, dI) cyI cyJ cyA) (hA : ∀ q : Nat, s.heap.size ≤ q → A q) (k_3 : Int32 → Int32 → (Nat → Int64) → (Nat → Int32) → (Nat → Int64) → Option ((Nat → Int64))) (k_15 : Int32 → Int32 → Int64 → Int32 → (Nat → Int64) → (Nat → Int32) → (Nat → Int64) → Option ((Nat → Int64))) (hk_3 : ∀ (l1 : Int32) (l4 : Int32) (v_g3 : Nat → Int64) (v_cells : Nat → Int32) (v_g2 : Nat → Int64), k_3 l1 l4 v_g3 v_cells v_g2 = some q_g3 → ∀ {H : Heap} {locs : List Loc} {ls : Array Slot}, va_P (dC, dI) vwCl [(h_g3, .inl (cyJ, 3, .inr (.inl v_g3))), (h_me, .inr (3, [.ref h_cells, z_order, z_spare])), (h_cells, .inl (cyI, 15, .inl v_cells)), (h_g2, .inl (cyJ, 3, .inr (.inl v_g2)))] H → va_D A [(h_g3, .inl (cyJ, 3, .inr (.inl v_g3))), (h_me, .inr (3, [.ref h_cells, z_order, z_spare])), (h_cells, .inl (cyI, 15, .inl v_cells)), (h_g2, .inl (cyJ, 3, .inr (.inl v_g2)))] → va_S A s.heap H locs → lv_has ls 9 [(0, .ref h_me), (1, .int l1), (2, .ref h_g2), (3, .ref h_g3), (4, .int l4)] → W p l e rmX3_goOn s m args below meth c H locs 0 0 (MQ below (QV (dC, dI) A [(h_g3, .inl (cyJ, 3, .inr (.inl q_g3))), (h_me, .inr (3, [.ref h_cells, z_order, z_spare])), (h_cells, .inl (cyI, 15, .inl v_cells)), (h_g2, .inl (cyJ, 3, .inr (.inl v_g2)))]) args s 0 0 A) (F0 m 3 ls [])) (hk_15 : ∀ (l1 : Int32) (l4 : Int32) (l5 : Int64) (l7 : Int32) (v_g3 : Nat → Int64) (v_cells : Nat → Int32) (v_g2 : Nat → Int64), k_15 l1 l4 l5 l7 v_g3 v_cells v_g2 = some q_g3 → ∀ {H : Heap} {locs : List Loc} {ls : Array Slot}, va_P (dC, dI) vwCl [(h_g3, .inl (cyJ, 3, .inr (.inl v_g3))), (h_me, .inr (3, [.ref h_cells, z_order, z_spare])), (h_cells, .inl (cyI, 15, .inl v_cells)), (h_g2, .inl (cyJ, 3, .inr (.inl v_g2)))] H → va_D A [(h_g3, .inl (cyJ, 3, .inr (.inl v_g3))), (h_me, .inr (3, [.ref h_cells, z_order, z_spare])), (h_cells, .inl (cyI, 15, .inl v_cells)), (h_g2, .inl (cyJ, 3, .inr (.inl v_g2)))] → va_S A s.heap H locs → lv_has ls 9 [(0, .ref h_me), (1, .int l1), (2, .ref h_g2), (3, .ref h_g3), (4, .int l4), (5, .long l5), (7, .int l7)] → W p l e rmX3_goOn s m args below meth c H locs 0 0 (MQ below (QV (dC, dI) A [(h_g3, .inl (cyJ, 3, .inr (.inl q_g3))), (h_me, .inr (3, [.ref h_cells, z_order, z_spare])), (h_cells, .inl (cyI, 15, .inl v_cells)), (h_g2, .inl (cyJ, 3, .inr (.inl v_g2)))]) args s 0 0 A) (F0 m 15 ls [])) : ∀ (s0 : Int32) (l1 : Int32) (l4 : Int32) (l5 : Int64) (l7 : Int32) (v_g3 : Nat → Int64) (v_cells : Nat → Int32) (v_g2 : Nat → Int64), F_X3_goOn_42 k_3 k_15 s0 l1 l4 l5 l7 v_g3 v_cells v_g2 = some q_g3 → ∀ {H : Heap} {locs : List Loc} {ls : Array Slot}, va_P (dC, dI) vwCl [(h_g3, .inl (cyJ, 3, .inr (.inl v_g3))), (h_me, .inr (3, [.ref h_cells, z_order, z_spare])), (h_cells, .inl (cyI, 15, .inl v_cells)), (h_g2, .inl (cyJ, 3, .inr (.inl v_g2)))] H → va_D A [(h_g3, .inl (cyJ, 3, .inr (.inl v_g3))), (h_me, .inr (3, [.ref h_cells, z_order, z_spare])), (h_cells, .inl (cyI, 15, .inl v_cells)), (h_g2, .inl (cyJ, 3, .inr (.inl v_g2)))] → va_S A s.heap H locs → lv_has ls 9 [(0, .ref h_me), (1, .int l1), (2, .ref h_g2), (3, .ref h_g3), (4, .int l4), (5, .long l5), (7, .int l7)] → W p l e rmX3_goOn s m args below meth c H locs 0 0 (MQ below (QV (dC, dI) A [(h_g3, .inl (cyJ, 3, .inr (.inl q_g3))), (h_me, .inr (3, [.ref h_cells, z_order, z_spare])), (h_cells, .inl (cyI, 15, .inl v_cells)), (h_g2, .inl (cyJ, 3, .inr (.inl v_g2)))]) args s 0 0 A) (F0 m 42 ls [.int s0]) := by
  obtain ⟨hx, hb, hr, hml, hown, hts, hKK, hlocks⟩ := id C0
  have hK := hKK.1
  intro s0 l1 l4 l5 l7 v_g3 v_cells v_g2 hF H locs ls hP hD hS hl
  unfold F_X3_goOn_42 at hF
  refine lv_istore (lv' := [(8, .int s0), (0, .ref h_me), (1, .int l1), (2, .ref h_g2), (3, .ref h_g3), (4, .int l4), (5, .long l5), (7, .int l7)]) hx hb dX3_goOn_42 hl (by decide) rfl (fun ls hl => ?_)
  refine lv_lload hx hb dX3_goOn_44 (lv_at hl 6 rfl) ?_
  refine lv_aload_n hx hb dX3_goOn_46 rfl (lv_at hl 1 rfl) ?_
  refine my_get (D := (dC, dI)) (ci := 3) (v := .ref h_cells) (C := RX3) (T := TX3) (N := 3) hx hb hts iX3_goOn_X3 hown hK hP 1 rfl rfl 0 (by decide) (hts _ mX3_goOn_1) rfl rfl dX3_goOn_47 ?_
  refine lv_iload hx hb dX3_goOn_50 (lv_at hl 0 rfl) ?_
  obtain ⟨g_1, hF⟩ := gno hF
  refine va_iald hx hb hK hP 2 0 rfl rfl g_1 dX3_goOn_52 ?_
  refine lv_i2l hx hb dX3_goOn_53 rfl ?_
  refine lv_aload_n hx hb dX3_goOn_54 rfl (lv_at hl 3 rfl) ?_
  refine lv_iload hx hb dX3_goOn_55 (lv_at hl 7 rfl) ?_
  obtain ⟨g_2, hF⟩ := gno hF
  refine va_lald hx hb hK hP 3 1 rfl rfl g_2 dX3_goOn_57 ?_
  refine lv_lmul hx hb dX3_goOn_58 ?_
  refine lv_ladd hx hb dX3_goOn_59 ?_
  refine lv_lstore (lv' := [(5, .long (l5 + ((v_cells s0.toNatClampNeg).toInt64 * (v_g2 l7.toNatClampNeg)))), (8, .int s0), (0, .ref h_me), (1, .int l1), (2, .ref h_g2), (3, .ref h_g3), (4, .int l4), (7, .int l7)]) hx hb dX3_goOn_60 hl (by decide) rfl (fun ls hl => ?_)
  refine lv_iinc (v := (l7 + (1 : Int32))) (lv' := [(7, .int (l7 + (1 : Int32))), (5, .long (l5 + ((v_cells s0.toNatClampNeg).toInt64 * (v_g2 l7.toNatClampNeg)))), (8, .int s0), (0, .ref h_me), (1, .int l1), (2, .ref h_g2), (3, .ref h_g3), (4, .int l4)]) hx hb dX3_goOn_62 hl (k := 7) rfl (by rfl) (by decide) rfl (fun ls hl => ?_)
  refine lv_goto (tgt := 15) hx hb dX3_goOn_65 (by decide) ?_
  exact hk_15 l1 l4 (l5 + ((v_cells s0.toNatClampNeg).toInt64 * (v_g2 l7.toNatClampNeg))) (l7 + (1 : Int32)) v_g3 v_cells v_g2 hF hP hD hS (lv_sub hl [3, 4, 5, 6, 7, 1, 0] rfl)
set_option maxHeartbeats 4000000 in
set_option maxRecDepth 100000 in
theorem t_X3_goOn_15 {p : Program} {l : Launch} {e : Env} {s : State} {m : MethodId} {args : Array Value} {below : List Frame} {meth : Method} {c : Code} {dC : Nat → ClassId} {dI : Nat → Nat → Nat} {cyI cyJ cyA : ClassId} {A : Nat → Prop} {h_g3 h_me h_cells h_g2 : Nat} {z_order z_spare : Value} {q_g3 : Nat → Int64} (C0 : Cx p s m args meth c cX3_goOn 9 none wsX3_goOn RX3 (dC, dI) cyI cyJ cyA) (hA : ∀ q : Nat, s.heap.size ≤ q → A q) (k_3 : Int32 → Int32 → (Nat → Int64) → (Nat → Int32) → (Nat → Int64) → Option ((Nat → Int64))) (hk_3 : ∀ (l1 : Int32) (l4 : Int32) (v_g3 : Nat → Int64) (v_cells : Nat → Int32) (v_g2 : Nat → Int64), k_3 l1 l4 v_g3 v_cells v_g2 = some q_g3 → ∀ {H : Heap} {locs : List Loc} {ls : Array Slot}, va_P (dC, dI) vwCl [(h_g3, .inl (cyJ, 3, .inr (.inl v_g3))), (h_me, .inr (3, [.ref h_cells, z_order, z_spare])), (h_cells, .inl (cyI, 15, .inl v_cells)), (h_g2, .inl (cyJ, 3, .inr (.inl v_g2)))] H → va_D A [(h_g3, .inl (cyJ, 3, .inr (.inl v_g3))), (h_me, .inr (3, [.ref h_cells, z_order, z_spare])), (h_cells, .inl (cyI, 15, .inl v_cells)), (h_g2, .inl (cyJ, 3, .inr (.inl v_g2)))] → va_S A s.heap H locs → lv_has ls 9 [(0, .ref h_me), (1, .int l1), (2, .ref h_g2), (3, .ref h_g3), (4, .int l4)] → W p l e rmX3_goOn s m args below meth c H locs 0 0 (MQ below (QV (dC, dI) A [(h_g3, .inl (cyJ, 3, .inr (.inl q_g3))), (h_me, .inr (3, [.ref h_cells, z_order, z_spare])), (h_cells, .inl (cyI, 15, .inl v_cells)), (h_g2, .inl (cyJ, 3, .inr (.inl v_g2)))]) args s 0 0 A) (F0 m 3 ls [])) : ∀ (n : Nat) (l1 : Int32) (l4 : Int32) (l5 : Int64) (l7 : Int32) (v_g3 : Nat → Int64) (v_cells : Nat → Int32) (v_g2 : Nat → Int64), F_X3_goOn_15 k_3 n l1 l4 l5 l7 v_g3 v_cells v_g2 = some q_g3 → ∀ {H : Heap} {locs : List Loc} {ls : Array Slot}, va_P (dC, dI) vwCl [(h_g3, .inl (cyJ, 3, .inr (.inl v_g3))), (h_me, .inr (3, [.ref h_cells, z_order, z_spare])), (h_cells, .inl (cyI, 15, .inl v_cells)), (h_g2, .inl (cyJ, 3, .inr (.inl v_g2)))] H → va_D A [(h_g3, .inl (cyJ, 3, .inr (.inl v_g3))), (h_me, .inr (3, [.ref h_cells, z_order, z_spare])), (h_cells, .inl (cyI, 15, .inl v_cells)), (h_g2, .inl (cyJ, 3, .inr (.inl v_g2)))] → va_S A s.heap H locs → lv_has ls 9 [(0, .ref h_me), (1, .int l1), (2, .ref h_g2), (3, .ref h_g3), (4, .int l4), (5, .long l5), (7, .int l7)] → W p l e rmX3_goOn s m args below meth c H locs 0 0 (MQ below (QV (dC, dI) A [(h_g3, .inl (cyJ, 3, .inr (.inl q_g3))), (h_me, .inr (3, [.ref h_cells, z_order, z_spare])), (h_cells, .inl (cyI, 15, .inl v_cells)), (h_g2, .inl (cyJ, 3, .inr (.inl v_g2)))]) args s 0 0 A) (F0 m 15 ls []) := by
  obtain ⟨hx, hb, hr, hml, hown, hts, hKK, hlocks⟩ := id C0
  have hK := hKK.1
  intro n
  induction n with
  | zero => intro l1 l4 l5 l7 v_g3 v_cells v_g2 hF; rw [F_X3_goOn_15] at hF; cases hF
  | succ n ih =>
      intro l1 l4 l5 l7 v_g3 v_cells v_g2 hF H locs ls hP hD hS hl
      rw [F_X3_goOn_15] at hF
      refine lv_iload hx hb dX3_goOn_15 (lv_at hl 6 rfl) ?_
      refine lv_iconst (v := (3 : Int32)) hx hb dX3_goOn_17 (by decide) ?_
      refine lv_icmp_ge (tgt := 68) hx hb dX3_goOn_18 (by decide) (fun c_ => ?_) (fun c_ => ?_)
      · have hF := gif c_ hF
        refine lv_aload_n hx hb dX3_goOn_68 rfl (lv_at hl 3 rfl) ?_
        refine lv_iload hx hb dX3_goOn_69 (lv_at hl 4 rfl) ?_
        refine lv_lload hx hb dX3_goOn_71 (lv_at hl 5 rfl) ?_
        obtain ⟨g_1, hF⟩ := gno hF
        refine my_last (ws' := [(h_g3, .inl (cyJ, 3, .inr (.inl (vp_updL v_g3 l4.toNatClampNeg l5)))), (h_me, .inr (3, [.ref h_cells, z_order, z_spare])), (h_cells, .inl (cyI, 15, .inl v_cells)), (h_g2, .inl (cyJ, 3, .inr (.inl v_g2)))]) hx hb hK hP hD hS 0 1 rfl rfl g_1 dX3_goOn_73 rfl (fun H locs hP hD hS => ?_)
        refine lv_iinc (v := (l4 + (1 : Int32))) (lv' := [(4, .int (l4 + (1 : Int32))), (0, .ref h_me), (1, .int l1), (2, .ref h_g2), (3, .ref h_g3), (5, .long l5), (7, .int l7)]) hx hb dX3_goOn_74 hl (k := 4) rfl (by rfl) (by decide) rfl (fun ls hl => ?_)
        refine lv_goto (tgt := 3) hx hb dX3_goOn_77 (by decide) ?_
        exact hk_3 l1 (l4 + (1 : Int32)) (vp_updL v_g3 l4.toNatClampNeg l5) v_cells v_g2 hF hP hD hS (lv_sub hl [1, 2, 3, 4, 0] rfl)
      · have hF := gel c_ hF
        refine lv_iload_n hx hb dX3_goOn_21 rfl (lv_at hl 1 rfl) ?_
        refine lv_if_eq (tgt := 35) hx hb dX3_goOn_22 (by decide) (fun c_ => ?_) (fun c_ => ?_)
        · have hF := gif c_ hF
          refine lv_iconst (v := (3 : Int32)) hx hb dX3_goOn_35 (by decide) ?_
          refine lv_iload hx hb dX3_goOn_36 (lv_at hl 4 rfl) ?_
          refine lv_imul hx hb dX3_goOn_38 ?_
          refine lv_iload hx hb dX3_goOn_39 (lv_at hl 6 rfl) ?_
          refine lv_iadd hx hb dX3_goOn_41 ?_
          exact t_X3_goOn_42 C0 hA k_3 (fun l1 l4 l5 l7 v_g3 v_cells v_g2 => F_X3_goOn_15 k_3 n l1 l4 l5 l7 v_g3 v_cells v_g2) hk_3 ih (((3 : Int32) * l4) + l7) l1 l4 l5 l7 v_g3 v_cells v_g2 hF hP hD hS (lv_sub hl [0, 1, 2, 3, 4, 5, 6] rfl)
        · have hF := gel c_ hF
          refine lv_iconst (v := (3 : Int32)) hx hb dX3_goOn_25 (by decide) ?_
          refine lv_iload hx hb dX3_goOn_26 (lv_at hl 6 rfl) ?_
          refine lv_imul hx hb dX3_goOn_28 ?_
          refine lv_iload hx hb dX3_goOn_29 (lv_at hl 4 rfl) ?_
          refine lv_iadd hx hb dX3_goOn_31 ?_
          refine lv_goto (tgt := 42) hx hb dX3_goOn_32 (by decide) ?_
          exact t_X3_goOn_42 C0 hA k_3 (fun l1 l4 l5 l7 v_g3 v_cells v_g2 => F_X3_goOn_15 k_3 n l1 l4 l5 l7 v_g3 v_cells v_g2) hk_3 ih (((3 : Int32) * l7) + l4) l1 l4 l5 l7 v_g3 v_cells v_g2 hF hP hD hS (lv_sub hl [0, 1, 2, 3, 4, 5, 6] rfl)
set_option maxHeartbeats 4000000 in
set_option maxRecDepth 100000 in
theorem t_X3_goOn_3 {p : Program} {l : Launch} {e : Env} {s : State} {m : MethodId} {args : Array Value} {below : List Frame} {meth : Method} {c : Code} {dC : Nat → ClassId} {dI : Nat → Nat → Nat} {cyI cyJ cyA : ClassId} {A : Nat → Prop} {h_g3 h_me h_cells h_g2 : Nat} {z_order z_spare : Value} {q_g3 : Nat → Int64} (C0 : Cx p s m args meth c cX3_goOn 9 none wsX3_goOn RX3 (dC, dI) cyI cyJ cyA) (hA : ∀ q : Nat, s.heap.size ≤ q → A q)  : ∀ (n : Nat) (l1 : Int32) (l4 : Int32) (v_g3 : Nat → Int64) (v_cells : Nat → Int32) (v_g2 : Nat → Int64), F_X3_goOn_3  n l1 l4 v_g3 v_cells v_g2 = some q_g3 → ∀ {H : Heap} {locs : List Loc} {ls : Array Slot}, va_P (dC, dI) vwCl [(h_g3, .inl (cyJ, 3, .inr (.inl v_g3))), (h_me, .inr (3, [.ref h_cells, z_order, z_spare])), (h_cells, .inl (cyI, 15, .inl v_cells)), (h_g2, .inl (cyJ, 3, .inr (.inl v_g2)))] H → va_D A [(h_g3, .inl (cyJ, 3, .inr (.inl v_g3))), (h_me, .inr (3, [.ref h_cells, z_order, z_spare])), (h_cells, .inl (cyI, 15, .inl v_cells)), (h_g2, .inl (cyJ, 3, .inr (.inl v_g2)))] → va_S A s.heap H locs → lv_has ls 9 [(0, .ref h_me), (1, .int l1), (2, .ref h_g2), (3, .ref h_g3), (4, .int l4)] → W p l e rmX3_goOn s m args below meth c H locs 0 0 (MQ below (QV (dC, dI) A [(h_g3, .inl (cyJ, 3, .inr (.inl q_g3))), (h_me, .inr (3, [.ref h_cells, z_order, z_spare])), (h_cells, .inl (cyI, 15, .inl v_cells)), (h_g2, .inl (cyJ, 3, .inr (.inl v_g2)))]) args s 0 0 A) (F0 m 3 ls []) := by
  obtain ⟨hx, hb, hr, hml, hown, hts, hKK, hlocks⟩ := id C0
  have hK := hKK.1
  intro n
  induction n with
  | zero => intro l1 l4 v_g3 v_cells v_g2 hF; rw [F_X3_goOn_3] at hF; cases hF
  | succ n ih =>
      intro l1 l4 v_g3 v_cells v_g2 hF H locs ls hP hD hS hl
      rw [F_X3_goOn_3] at hF
      refine lv_iload hx hb dX3_goOn_3 (lv_at hl 4 rfl) ?_
      refine lv_iconst (v := (3 : Int32)) hx hb dX3_goOn_5 (by decide) ?_
      refine lv_icmp_ge (tgt := 80) hx hb dX3_goOn_6 (by decide) (fun c_ => ?_) (fun c_ => ?_)
      · have hF := gif c_ hF
        cases hF
        exact W.vret hx hb hr (fun t ht hW => ⟨⟨(), rfl, trivial, by rw [ht]; exact hP, hD⟩, hS.F ht⟩) hS.2.2 dX3_goOn_80
      · have hF := gel c_ hF
        refine lv_lconst (v := (0 : Int64)) hx hb dX3_goOn_9 (by decide) ?_
        refine lv_lstore (lv' := [(5, .long (0 : Int64)), (0, .ref h_me), (1, .int l1), (2, .ref h_g2), (3, .ref h_g3), (4, .int l4)]) hx hb dX3_goOn_10 hl (by decide) rfl (fun ls hl => ?_)
        refine lv_iconst (v := (0 : Int32)) hx hb dX3_goOn_12 (by decide) ?_
        refine lv_istore (lv' := [(7, .int (0 : Int32)), (5, .long (0 : Int64)), (0, .ref h_me), (1, .int l1), (2, .ref h_g2), (3, .ref h_g3), (4, .int l4)]) hx hb dX3_goOn_13 hl (by decide) rfl (fun ls hl => ?_)
        exact t_X3_goOn_15 C0 hA (fun l1 l4 v_g3 v_cells v_g2 => F_X3_goOn_3  n l1 l4 v_g3 v_cells v_g2) ih 3000 l1 l4 (0 : Int64) (0 : Int32) v_g3 v_cells v_g2 hF hP hD hS (lv_sub hl [2, 3, 4, 5, 6, 1, 0] rfl)
set_option maxHeartbeats 4000000 in
set_option maxRecDepth 100000 in
theorem c_X3_goOn (l : Launch) (dC : Nat → ClassId) (dI : Nat → Nat → Nat) (cyI cyJ cyA : ClassId) (h_g3 h_me h_cells h_g2 : Nat) (z_order z_spare : Value) (v_g3 : Nat → Int64) (v_cells : Nat → Int32) (v_g2 : Nat → Int64) (l1 : Int32) {q_g3 : Nat → Int64} (hF : F_X3_goOn l1 v_g3 v_cells v_g2 = some q_g3) (sz : Nat) : Met l yX3_goOn wsX3_goOn rmX3_goOn (va_Pc [.ref h_me, .int l1, .ref h_g2, .ref h_g3] (PC (dC, dI) cyI cyJ cyA [(h_g3, .inl (cyJ, 3, .inr (.inl v_g3))), (h_me, .inr (3, [.ref h_cells, z_order, z_spare])), (h_cells, .inl (cyI, 15, .inl v_cells)), (h_g2, .inl (cyJ, 3, .inr (.inl v_g2)))] sz)) (QV (dC, dI) (va_A [(h_g3, .inl (cyJ, 3, .inr (.inl v_g3))), (h_me, .inr (3, [.ref h_cells, z_order, z_spare])), (h_cells, .inl (cyI, 15, .inl v_cells)), (h_g2, .inl (cyJ, 3, .inr (.inl v_g2)))] sz) [(h_g3, .inl (cyJ, 3, .inr (.inl q_g3))), (h_me, .inr (3, [.ref h_cells, z_order, z_spare])), (h_cells, .inl (cyI, 15, .inl v_cells)), (h_g2, .inl (cyJ, 3, .inr (.inl v_g2)))]) 0 0 (va_A [(h_g3, .inl (cyJ, 3, .inr (.inl v_g3))), (h_me, .inr (3, [.ref h_cells, z_order, z_spare])), (h_cells, .inl (cyI, 15, .inl v_cells)), (h_g2, .inl (cyJ, 3, .inr (.inl v_g2)))] sz) := by
  refine Met.ofW (cc := cX3_goOn) (maxL := 9) (ret := none) (by decide) rfl ?_
  intro p e s m args below meth c s₁ B hml hv
  obtain ⟨rfl, hsz, hP, hKK, hD0⟩ := hv
  have hx := B.exec
  have hb := B.bytes
  have hr := B.returns
  have hts := atoms_spec (ws := wsX3_goOn) B.pre
  have hown : s.vm.findClass RX3 = some m.cls := findClass_of_methodNamed B.named
  have hlocks := B.notSynchronized
  have C0 : Cx p s m ([.ref h_me, .int l1, .ref h_g2, .ref h_g3] : List Value).toArray meth c cX3_goOn 9 none wsX3_goOn RX3 (dC, dI) cyI cyJ cyA := ⟨hx, hb, hr, hml, hown, hts, hKK, hlocks⟩
  have hK := hKK.1
  subst hsz
  have hD := hD0.self (sz := s.heap.size)
  generalize hAe : va_A [(h_g3, .inl (cyJ, 3, .inr (.inl v_g3))), (h_me, .inr (3, [.ref h_cells, z_order, z_spare])), (h_cells, .inl (cyI, 15, .inl v_cells)), (h_g2, .inl (cyJ, 3, .inr (.inl v_g2)))] s.heap.size = A at hD ⊢
  have hA : ∀ q : Nat, s.heap.size ≤ q → A q := fun q h => by rw [← hAe]; exact Or.inr h
  have hS : va_S A s.heap s.heap [] := va_S.rf
  have hl := lv_entry ([.ref h_me, .int l1, .ref h_g2, .ref h_g3]) (n := 9) (Nat.le_of_ble_eq_true rfl)
  rw [lg_entry_eq]
  generalize (lg_sl ([.ref h_me, .int l1, .ref h_g2, .ref h_g3]) ++ List.replicate (9 - (lg_sl ([.ref h_me, .int l1, .ref h_g2, .ref h_g3])).length) Slot.unset).toArray = ls at hl ⊢
  have hl : lv_has ls 9 [(0, .ref h_me), (1, .int l1), (2, .ref h_g2), (3, .ref h_g3)] := hl
  unfold F_X3_goOn at hF
  refine lv_iconst (v := (0 : Int32)) hx hb dX3_goOn_0 (by decide) ?_
  refine lv_istore (lv' := [(4, .int (0 : Int32)), (0, .ref h_me), (1, .int l1), (2, .ref h_g2), (3, .ref h_g3)]) hx hb dX3_goOn_1 hl (by decide) rfl (fun ls hl => ?_)
  exact t_X3_goOn_3 C0 hA   3000 l1 (0 : Int32) v_g3 v_cells v_g2 hF hP hD hS (lv_sub hl [1, 2, 3, 4, 0] rfl)
/-! RestGains.cross ([J[J[J)V -/
def rmX4_cross : Room := { frames := 0, cells := 0, slots := 0, locals := 0 }
def F_X4_cross (v_g1 : Nat → Int64) (v_g2 : Nat → Int64) (v_g3 : Nat → Int64) : Option ((Nat → Int64)) :=
  some (vp_updL (vp_updL (vp_updL v_g3 (0 : Int32).toNatClampNeg (((v_g1 (1 : Int32).toNatClampNeg) * (v_g2 (2 : Int32).toNatClampNeg)) - ((v_g1 (2 : Int32).toNatClampNeg) * (v_g2 (1 : Int32).toNatClampNeg)))) (1 : Int32).toNatClampNeg (((v_g1 (2 : Int32).toNatClampNeg) * (v_g2 (0 : Int32).toNatClampNeg)) - ((v_g1 (0 : Int32).toNatClampNeg) * (v_g2 (2 : Int32).toNatClampNeg)))) (2 : Int32).toNatClampNeg (((v_g1 (0 : Int32).toNatClampNeg) * (v_g2 (1 : Int32).toNatClampNeg)) - ((v_g1 (1 : Int32).toNatClampNeg) * (v_g2 (0 : Int32).toNatClampNeg))))
set_option maxHeartbeats 4000000 in
set_option maxRecDepth 100000 in
theorem c_X4_cross (l : Launch) (dC : Nat → ClassId) (dI : Nat → Nat → Nat) (cyI cyJ cyA : ClassId) (h_g1 h_g2 h_g3 : Nat) (v_g1 : Nat → Int64) (v_g2 : Nat → Int64) (v_g3 : Nat → Int64)  {q_g3 : Nat → Int64} (hF : F_X4_cross v_g1 v_g2 v_g3 = some q_g3) (sz : Nat) : Met l yX4_cross wsX4_cross rmX4_cross (va_Pc [.ref h_g1, .ref h_g2, .ref h_g3] (PC (dC, dI) cyI cyJ cyA [(h_g1, .inl (cyJ, 3, .inr (.inl v_g1))), (h_g2, .inl (cyJ, 3, .inr (.inl v_g2))), (h_g3, .inl (cyJ, 3, .inr (.inl v_g3)))] sz)) (QV (dC, dI) (va_A [(h_g1, .inl (cyJ, 3, .inr (.inl v_g1))), (h_g2, .inl (cyJ, 3, .inr (.inl v_g2))), (h_g3, .inl (cyJ, 3, .inr (.inl v_g3)))] sz) [(h_g1, .inl (cyJ, 3, .inr (.inl v_g1))), (h_g2, .inl (cyJ, 3, .inr (.inl v_g2))), (h_g3, .inl (cyJ, 3, .inr (.inl q_g3)))]) 0 0 (va_A [(h_g1, .inl (cyJ, 3, .inr (.inl v_g1))), (h_g2, .inl (cyJ, 3, .inr (.inl v_g2))), (h_g3, .inl (cyJ, 3, .inr (.inl v_g3)))] sz) := by
  refine Met.ofW (cc := cX4_cross) (maxL := 3) (ret := none) (by decide) rfl ?_
  intro p e s m args below meth c s₁ B hml hv
  obtain ⟨rfl, hsz, hP, hKK, hD0⟩ := hv
  have hx := B.exec
  have hb := B.bytes
  have hr := B.returns
  have hts := atoms_spec (ws := wsX4_cross) B.pre
  have hown : s.vm.findClass RX4 = some m.cls := findClass_of_methodNamed B.named
  have hlocks := B.notSynchronized
  have C0 : Cx p s m ([.ref h_g1, .ref h_g2, .ref h_g3] : List Value).toArray meth c cX4_cross 3 none wsX4_cross RX4 (dC, dI) cyI cyJ cyA := ⟨hx, hb, hr, hml, hown, hts, hKK, hlocks⟩
  have hK := hKK.1
  subst hsz
  have hD := hD0.self (sz := s.heap.size)
  generalize hAe : va_A [(h_g1, .inl (cyJ, 3, .inr (.inl v_g1))), (h_g2, .inl (cyJ, 3, .inr (.inl v_g2))), (h_g3, .inl (cyJ, 3, .inr (.inl v_g3)))] s.heap.size = A at hD ⊢
  have hA : ∀ q : Nat, s.heap.size ≤ q → A q := fun q h => by rw [← hAe]; exact Or.inr h
  have hS : va_S A s.heap s.heap [] := va_S.rf
  have hl := lv_entry ([.ref h_g1, .ref h_g2, .ref h_g3]) (n := 3) (Nat.le_of_ble_eq_true rfl)
  rw [lg_entry_eq]
  generalize (lg_sl ([.ref h_g1, .ref h_g2, .ref h_g3]) ++ List.replicate (3 - (lg_sl ([.ref h_g1, .ref h_g2, .ref h_g3])).length) Slot.unset).toArray = ls at hl ⊢
  have hl : lv_has ls 3 [(0, .ref h_g1), (1, .ref h_g2), (2, .ref h_g3)] := hl
  unfold F_X4_cross at hF
  refine lv_aload_n hx hb dX4_cross_0 rfl (lv_at hl 2 rfl) ?_
  refine lv_iconst (v := (0 : Int32)) hx hb dX4_cross_1 (by decide) ?_
  refine lv_aload_n hx hb dX4_cross_2 rfl (lv_at hl 0 rfl) ?_
  refine lv_iconst (v := (1 : Int32)) hx hb dX4_cross_3 (by decide) ?_
  refine va_lald hx hb hK hP 0 1 rfl rfl (by decide : ¬ ((1 : Int32) < 0 ∨ 3 ≤ (1 : Int32).toNatClampNeg)) dX4_cross_4 ?_
  refine lv_aload_n hx hb dX4_cross_5 rfl (lv_at hl 1 rfl) ?_
  refine lv_iconst (v := (2 : Int32)) hx hb dX4_cross_6 (by decide) ?_
  refine va_lald hx hb hK hP 1 1 rfl rfl (by decide : ¬ ((2 : Int32) < 0 ∨ 3 ≤ (2 : Int32).toNatClampNeg)) dX4_cross_7 ?_
  refine lv_lmul hx hb dX4_cross_8 ?_
  refine lv_aload_n hx hb dX4_cross_9 rfl (lv_at hl 0 rfl) ?_
  refine lv_iconst (v := (2 : Int32)) hx hb dX4_cross_10 (by decide) ?_
  refine va_lald hx hb hK hP 0 1 rfl rfl (by decide : ¬ ((2 : Int32) < 0 ∨ 3 ≤ (2 : Int32).toNatClampNeg)) dX4_cross_11 ?_
  refine lv_aload_n hx hb dX4_cross_12 rfl (lv_at hl 1 rfl) ?_
  refine lv_iconst (v := (1 : Int32)) hx hb dX4_cross_13 (by decide) ?_
  refine va_lald hx hb hK hP 1 1 rfl rfl (by decide : ¬ ((1 : Int32) < 0 ∨ 3 ≤ (1 : Int32).toNatClampNeg)) dX4_cross_14 ?_
  refine lv_lmul hx hb dX4_cross_15 ?_
  refine lv_lsub hx hb dX4_cross_16 ?_
  refine my_last (ws' := [(h_g1, .inl (cyJ, 3, .inr (.inl v_g1))), (h_g2, .inl (cyJ, 3, .inr (.inl v_g2))), (h_g3, .inl (cyJ, 3, .inr (.inl (vp_updL v_g3 (0 : Int32).toNatClampNeg (((v_g1 (1 : Int32).toNatClampNeg) * (v_g2 (2 : Int32).toNatClampNeg)) - ((v_g1 (2 : Int32).toNatClampNeg) * (v_g2 (1 : Int32).toNatClampNeg)))))))]) hx hb hK hP hD hS 2 1 rfl rfl (by decide : ¬ ((0 : Int32) < 0 ∨ 3 ≤ (0 : Int32).toNatClampNeg)) dX4_cross_17 rfl (fun H locs hP hD hS => ?_)
  refine lv_aload_n hx hb dX4_cross_18 rfl (lv_at hl 2 rfl) ?_
  refine lv_iconst (v := (1 : Int32)) hx hb dX4_cross_19 (by decide) ?_
  refine lv_aload_n hx hb dX4_cross_20 rfl (lv_at hl 0 rfl) ?_
  refine lv_iconst (v := (2 : Int32)) hx hb dX4_cross_21 (by decide) ?_
  refine va_lald hx hb hK hP 0 1 rfl rfl (by decide : ¬ ((2 : Int32) < 0 ∨ 3 ≤ (2 : Int32).toNatClampNeg)) dX4_cross_22 ?_
  refine lv_aload_n hx hb dX4_cross_23 rfl (lv_at hl 1 rfl) ?_
  refine lv_iconst (v := (0 : Int32)) hx hb dX4_cross_24 (by decide) ?_
  refine va_lald hx hb hK hP 1 1 rfl rfl (by decide : ¬ ((0 : Int32) < 0 ∨ 3 ≤ (0 : Int32).toNatClampNeg)) dX4_cross_25 ?_
  refine lv_lmul hx hb dX4_cross_26 ?_
  refine lv_aload_n hx hb dX4_cross_27 rfl (lv_at hl 0 rfl) ?_
  refine lv_iconst (v := (0 : Int32)) hx hb dX4_cross_28 (by decide) ?_
  refine va_lald hx hb hK hP 0 1 rfl rfl (by decide : ¬ ((0 : Int32) < 0 ∨ 3 ≤ (0 : Int32).toNatClampNeg)) dX4_cross_29 ?_
  refine lv_aload_n hx hb dX4_cross_30 rfl (lv_at hl 1 rfl) ?_
  refine lv_iconst (v := (2 : Int32)) hx hb dX4_cross_31 (by decide) ?_
  refine va_lald hx hb hK hP 1 1 rfl rfl (by decide : ¬ ((2 : Int32) < 0 ∨ 3 ≤ (2 : Int32).toNatClampNeg)) dX4_cross_32 ?_
  refine lv_lmul hx hb dX4_cross_33 ?_
  refine lv_lsub hx hb dX4_cross_34 ?_
  refine my_last (ws' := [(h_g1, .inl (cyJ, 3, .inr (.inl v_g1))), (h_g2, .inl (cyJ, 3, .inr (.inl v_g2))), (h_g3, .inl (cyJ, 3, .inr (.inl (vp_updL (vp_updL v_g3 (0 : Int32).toNatClampNeg (((v_g1 (1 : Int32).toNatClampNeg) * (v_g2 (2 : Int32).toNatClampNeg)) - ((v_g1 (2 : Int32).toNatClampNeg) * (v_g2 (1 : Int32).toNatClampNeg)))) (1 : Int32).toNatClampNeg (((v_g1 (2 : Int32).toNatClampNeg) * (v_g2 (0 : Int32).toNatClampNeg)) - ((v_g1 (0 : Int32).toNatClampNeg) * (v_g2 (2 : Int32).toNatClampNeg)))))))]) hx hb hK hP hD hS 2 1 rfl rfl (by decide : ¬ ((1 : Int32) < 0 ∨ 3 ≤ (1 : Int32).toNatClampNeg)) dX4_cross_35 rfl (fun H locs hP hD hS => ?_)
  refine lv_aload_n hx hb dX4_cross_36 rfl (lv_at hl 2 rfl) ?_
  refine lv_iconst (v := (2 : Int32)) hx hb dX4_cross_37 (by decide) ?_
  refine lv_aload_n hx hb dX4_cross_38 rfl (lv_at hl 0 rfl) ?_
  refine lv_iconst (v := (0 : Int32)) hx hb dX4_cross_39 (by decide) ?_
  refine va_lald hx hb hK hP 0 1 rfl rfl (by decide : ¬ ((0 : Int32) < 0 ∨ 3 ≤ (0 : Int32).toNatClampNeg)) dX4_cross_40 ?_
  refine lv_aload_n hx hb dX4_cross_41 rfl (lv_at hl 1 rfl) ?_
  refine lv_iconst (v := (1 : Int32)) hx hb dX4_cross_42 (by decide) ?_
  refine va_lald hx hb hK hP 1 1 rfl rfl (by decide : ¬ ((1 : Int32) < 0 ∨ 3 ≤ (1 : Int32).toNatClampNeg)) dX4_cross_43 ?_
  refine lv_lmul hx hb dX4_cross_44 ?_
  refine lv_aload_n hx hb dX4_cross_45 rfl (lv_at hl 0 rfl) ?_
  refine lv_iconst (v := (1 : Int32)) hx hb dX4_cross_46 (by decide) ?_
  refine va_lald hx hb hK hP 0 1 rfl rfl (by decide : ¬ ((1 : Int32) < 0 ∨ 3 ≤ (1 : Int32).toNatClampNeg)) dX4_cross_47 ?_
  refine lv_aload_n hx hb dX4_cross_48 rfl (lv_at hl 1 rfl) ?_
  refine lv_iconst (v := (0 : Int32)) hx hb dX4_cross_49 (by decide) ?_
  refine va_lald hx hb hK hP 1 1 rfl rfl (by decide : ¬ ((0 : Int32) < 0 ∨ 3 ≤ (0 : Int32).toNatClampNeg)) dX4_cross_50 ?_
  refine lv_lmul hx hb dX4_cross_51 ?_
  refine lv_lsub hx hb dX4_cross_52 ?_
  refine my_last (ws' := [(h_g1, .inl (cyJ, 3, .inr (.inl v_g1))), (h_g2, .inl (cyJ, 3, .inr (.inl v_g2))), (h_g3, .inl (cyJ, 3, .inr (.inl (vp_updL (vp_updL (vp_updL v_g3 (0 : Int32).toNatClampNeg (((v_g1 (1 : Int32).toNatClampNeg) * (v_g2 (2 : Int32).toNatClampNeg)) - ((v_g1 (2 : Int32).toNatClampNeg) * (v_g2 (1 : Int32).toNatClampNeg)))) (1 : Int32).toNatClampNeg (((v_g1 (2 : Int32).toNatClampNeg) * (v_g2 (0 : Int32).toNatClampNeg)) - ((v_g1 (0 : Int32).toNatClampNeg) * (v_g2 (2 : Int32).toNatClampNeg)))) (2 : Int32).toNatClampNeg (((v_g1 (0 : Int32).toNatClampNeg) * (v_g2 (1 : Int32).toNatClampNeg)) - ((v_g1 (1 : Int32).toNatClampNeg) * (v_g2 (0 : Int32).toNatClampNeg)))))))]) hx hb hK hP hD hS 2 1 rfl rfl (by decide : ¬ ((2 : Int32) < 0 ∨ 3 ≤ (2 : Int32).toNatClampNeg)) dX4_cross_53 rfl (fun H locs hP hD hS => ?_)
  cases hF
  exact W.vret hx hb hr (fun t ht hW => ⟨⟨(), rfl, trivial, by rw [ht]; exact hP, hD⟩, hS.F ht⟩) hS.2.2 dX4_cross_54
/-! RestGains.dot ([J[J)J -/
def rmX4_dot : Room := { frames := 0, cells := 0, slots := 0, locals := 0 }
def F_X4_dot (v_g1 : Nat → Int64) (v_g2 : Nat → Int64) : Option (Int64) :=
  some ((((v_g1 (0 : Int32).toNatClampNeg) * (v_g2 (0 : Int32).toNatClampNeg)) + ((v_g1 (1 : Int32).toNatClampNeg) * (v_g2 (1 : Int32).toNatClampNeg))) + ((v_g1 (2 : Int32).toNatClampNeg) * (v_g2 (2 : Int32).toNatClampNeg)))
set_option maxHeartbeats 4000000 in
set_option maxRecDepth 100000 in
theorem c_X4_dot (l : Launch) (dC : Nat → ClassId) (dI : Nat → Nat → Nat) (cyI cyJ cyA : ClassId) (h_g1 h_g2 : Nat) (v_g1 : Nat → Int64) (v_g2 : Nat → Int64)  {r : Int64} (hF : F_X4_dot v_g1 v_g2 = some r) (sz : Nat) : Met l yX4_dot wsX4_dot rmX4_dot (va_Pc [.ref h_g1, .ref h_g2] (PC (dC, dI) cyI cyJ cyA [(h_g1, .inl (cyJ, 3, .inr (.inl v_g1))), (h_g2, .inl (cyJ, 3, .inr (.inl v_g2)))] sz)) (QL (dC, dI) (va_A [(h_g1, .inl (cyJ, 3, .inr (.inl v_g1))), (h_g2, .inl (cyJ, 3, .inr (.inl v_g2)))] sz) [(h_g1, .inl (cyJ, 3, .inr (.inl v_g1))), (h_g2, .inl (cyJ, 3, .inr (.inl v_g2)))] r) 0 0 (va_A [(h_g1, .inl (cyJ, 3, .inr (.inl v_g1))), (h_g2, .inl (cyJ, 3, .inr (.inl v_g2)))] sz) := by
  refine Met.ofW (cc := cX4_dot) (maxL := 2) (ret := (some .long)) (by decide) rfl ?_
  intro p e s m args below meth c s₁ B hml hv
  obtain ⟨rfl, hsz, hP, hKK, hD0⟩ := hv
  have hx := B.exec
  have hb := B.bytes
  have hr := B.returns
  have hts := atoms_spec (ws := wsX4_dot) B.pre
  have hown : s.vm.findClass RX4 = some m.cls := findClass_of_methodNamed B.named
  have hlocks := B.notSynchronized
  have C0 : Cx p s m ([.ref h_g1, .ref h_g2] : List Value).toArray meth c cX4_dot 2 (some .long) wsX4_dot RX4 (dC, dI) cyI cyJ cyA := ⟨hx, hb, hr, hml, hown, hts, hKK, hlocks⟩
  have hK := hKK.1
  subst hsz
  have hD := hD0.self (sz := s.heap.size)
  generalize hAe : va_A [(h_g1, .inl (cyJ, 3, .inr (.inl v_g1))), (h_g2, .inl (cyJ, 3, .inr (.inl v_g2)))] s.heap.size = A at hD ⊢
  have hA : ∀ q : Nat, s.heap.size ≤ q → A q := fun q h => by rw [← hAe]; exact Or.inr h
  have hS : va_S A s.heap s.heap [] := va_S.rf
  have hl := lv_entry ([.ref h_g1, .ref h_g2]) (n := 2) (Nat.le_of_ble_eq_true rfl)
  rw [lg_entry_eq]
  generalize (lg_sl ([.ref h_g1, .ref h_g2]) ++ List.replicate (2 - (lg_sl ([.ref h_g1, .ref h_g2])).length) Slot.unset).toArray = ls at hl ⊢
  have hl : lv_has ls 2 [(0, .ref h_g1), (1, .ref h_g2)] := hl
  unfold F_X4_dot at hF
  refine lv_aload_n hx hb dX4_dot_0 rfl (lv_at hl 0 rfl) ?_
  refine lv_iconst (v := (0 : Int32)) hx hb dX4_dot_1 (by decide) ?_
  refine va_lald hx hb hK hP 0 1 rfl rfl (by decide : ¬ ((0 : Int32) < 0 ∨ 3 ≤ (0 : Int32).toNatClampNeg)) dX4_dot_2 ?_
  refine lv_aload_n hx hb dX4_dot_3 rfl (lv_at hl 1 rfl) ?_
  refine lv_iconst (v := (0 : Int32)) hx hb dX4_dot_4 (by decide) ?_
  refine va_lald hx hb hK hP 1 1 rfl rfl (by decide : ¬ ((0 : Int32) < 0 ∨ 3 ≤ (0 : Int32).toNatClampNeg)) dX4_dot_5 ?_
  refine lv_lmul hx hb dX4_dot_6 ?_
  refine lv_aload_n hx hb dX4_dot_7 rfl (lv_at hl 0 rfl) ?_
  refine lv_iconst (v := (1 : Int32)) hx hb dX4_dot_8 (by decide) ?_
  refine va_lald hx hb hK hP 0 1 rfl rfl (by decide : ¬ ((1 : Int32) < 0 ∨ 3 ≤ (1 : Int32).toNatClampNeg)) dX4_dot_9 ?_
  refine lv_aload_n hx hb dX4_dot_10 rfl (lv_at hl 1 rfl) ?_
  refine lv_iconst (v := (1 : Int32)) hx hb dX4_dot_11 (by decide) ?_
  refine va_lald hx hb hK hP 1 1 rfl rfl (by decide : ¬ ((1 : Int32) < 0 ∨ 3 ≤ (1 : Int32).toNatClampNeg)) dX4_dot_12 ?_
  refine lv_lmul hx hb dX4_dot_13 ?_
  refine lv_ladd hx hb dX4_dot_14 ?_
  refine lv_aload_n hx hb dX4_dot_15 rfl (lv_at hl 0 rfl) ?_
  refine lv_iconst (v := (2 : Int32)) hx hb dX4_dot_16 (by decide) ?_
  refine va_lald hx hb hK hP 0 1 rfl rfl (by decide : ¬ ((2 : Int32) < 0 ∨ 3 ≤ (2 : Int32).toNatClampNeg)) dX4_dot_17 ?_
  refine lv_aload_n hx hb dX4_dot_18 rfl (lv_at hl 1 rfl) ?_
  refine lv_iconst (v := (2 : Int32)) hx hb dX4_dot_19 (by decide) ?_
  refine va_lald hx hb hK hP 1 1 rfl rfl (by decide : ¬ ((2 : Int32) < 0 ∨ 3 ≤ (2 : Int32).toNatClampNeg)) dX4_dot_20 ?_
  refine lv_lmul hx hb dX4_dot_21 ?_
  refine lv_ladd hx hb dX4_dot_22 ?_
  cases hF
  exact W.lret hx hb hr (fun t ht hW => ⟨⟨_, (), rfl, rfl, by rw [ht]; exact hP, hD⟩, hS.F ht⟩) hS.2.2 dX4_dot_23
/-! RestGains.firstNotZero ([J)I -/
def rmX4_firstNotZero : Room := { frames := 0, cells := 0, slots := 0, locals := 0 }
def F_X4_firstNotZero_2  : Nat → Int32 → (Nat → Int64) → Option (Int32)
  | 0, _, _ => none
  | n + 1, l1, v_g1 => if (3 : Int32) ≤ l1 then (some l1) else (if l1 < 0 ∨ 3 ≤ l1.toNatClampNeg then none else if (lg_cmp (v_g1 l1.toNatClampNeg) (0 : Int64)) = 0 then (F_X4_firstNotZero_2  n (l1 + (1 : Int32)) v_g1) else (some l1))
def F_X4_firstNotZero (v_g1 : Nat → Int64) : Option (Int32) :=
  F_X4_firstNotZero_2  3000 (0 : Int32) v_g1
set_option maxHeartbeats 4000000 in
set_option maxRecDepth 100000 in
theorem t_X4_firstNotZero_2 {p : Program} {l : Launch} {e : Env} {s : State} {m : MethodId} {args : Array Value} {below : List Frame} {meth : Method} {c : Code} {dC : Nat → ClassId} {dI : Nat → Nat → Nat} {cyI cyJ cyA : ClassId} {A : Nat → Prop} {h_g1 : Nat} {r : Int32} (C0 : Cx p s m args meth c cX4_firstNotZero 2 (some .int) wsX4_firstNotZero RX4 (dC, dI) cyI cyJ cyA) (hA : ∀ q : Nat, s.heap.size ≤ q → A q)  : ∀ (n : Nat) (l1 : Int32) (v_g1 : Nat → Int64), F_X4_firstNotZero_2  n l1 v_g1 = some r → ∀ {H : Heap} {locs : List Loc} {ls : Array Slot}, va_P (dC, dI) vwCl [(h_g1, .inl (cyJ, 3, .inr (.inl v_g1)))] H → va_D A [(h_g1, .inl (cyJ, 3, .inr (.inl v_g1)))] → va_S A s.heap H locs → lv_has ls 2 [(0, .ref h_g1), (1, .int l1)] → W p l e rmX4_firstNotZero s m args below meth c H locs 0 0 (MQ below (QI (dC, dI) A [(h_g1, .inl (cyJ, 3, .inr (.inl v_g1)))] r) args s 0 0 A) (F0 m 2 ls []) := by
  obtain ⟨hx, hb, hr, hml, hown, hts, hKK, hlocks⟩ := id C0
  have hK := hKK.1
  intro n
  induction n with
  | zero => intro l1 v_g1 hF; rw [F_X4_firstNotZero_2] at hF; cases hF
  | succ n ih =>
      intro l1 v_g1 hF H locs ls hP hD hS hl
      rw [F_X4_firstNotZero_2] at hF
      refine lv_iload_n hx hb dX4_firstNotZero_2 rfl (lv_at hl 1 rfl) ?_
      refine lv_iconst (v := (3 : Int32)) hx hb dX4_firstNotZero_3 (by decide) ?_
      refine lv_icmp_ge (tgt := 21) hx hb dX4_firstNotZero_4 (by decide) (fun c_ => ?_) (fun c_ => ?_)
      · have hF := gif c_ hF
        refine lv_iload_n hx hb dX4_firstNotZero_21 rfl (lv_at hl 1 rfl) ?_
        cases hF
        exact W.iret hx hb hr (fun t ht hW => ⟨⟨_, (), rfl, rfl, by rw [ht]; exact hP, hD⟩, hS.F ht⟩) hS.2.2 dX4_firstNotZero_22
      · have hF := gel c_ hF
        refine lv_aload_n hx hb dX4_firstNotZero_7 rfl (lv_at hl 0 rfl) ?_
        refine lv_iload_n hx hb dX4_firstNotZero_8 rfl (lv_at hl 1 rfl) ?_
        obtain ⟨g_1, hF⟩ := gno hF
        refine va_lald hx hb hK hP 0 1 rfl rfl g_1 dX4_firstNotZero_9 ?_
        refine lv_lconst (v := (0 : Int64)) hx hb dX4_firstNotZero_10 (by decide) ?_
        refine W.lcmp hx hb dX4_firstNotZero_11 ?_
        refine lv_if_ne (tgt := 21) hx hb dX4_firstNotZero_12 (by decide) (fun c_ => ?_) (fun c_ => ?_)
        · have hF := gel c_ hF
          refine lv_iload_n hx hb dX4_firstNotZero_21 rfl (lv_at hl 1 rfl) ?_
          cases hF
          exact W.iret hx hb hr (fun t ht hW => ⟨⟨_, (), rfl, rfl, by rw [ht]; exact hP, hD⟩, hS.F ht⟩) hS.2.2 dX4_firstNotZero_22
        · have hF := gif c_ hF
          refine lv_iinc (v := (l1 + (1 : Int32))) (lv' := [(1, .int (l1 + (1 : Int32))), (0, .ref h_g1)]) hx hb dX4_firstNotZero_15 hl (k := 1) rfl (by rfl) (by decide) rfl (fun ls hl => ?_)
          refine lv_goto (tgt := 2) hx hb dX4_firstNotZero_18 (by decide) ?_
          exact ih (l1 + (1 : Int32)) v_g1 hF hP hD hS (lv_sub hl [1, 0] rfl)
set_option maxHeartbeats 4000000 in
set_option maxRecDepth 100000 in
theorem c_X4_firstNotZero (l : Launch) (dC : Nat → ClassId) (dI : Nat → Nat → Nat) (cyI cyJ cyA : ClassId) (h_g1 : Nat) (v_g1 : Nat → Int64)  {r : Int32} (hF : F_X4_firstNotZero v_g1 = some r) (sz : Nat) : Met l yX4_firstNotZero wsX4_firstNotZero rmX4_firstNotZero (va_Pc [.ref h_g1] (PC (dC, dI) cyI cyJ cyA [(h_g1, .inl (cyJ, 3, .inr (.inl v_g1)))] sz)) (QI (dC, dI) (va_A [(h_g1, .inl (cyJ, 3, .inr (.inl v_g1)))] sz) [(h_g1, .inl (cyJ, 3, .inr (.inl v_g1)))] r) 0 0 (va_A [(h_g1, .inl (cyJ, 3, .inr (.inl v_g1)))] sz) := by
  refine Met.ofW (cc := cX4_firstNotZero) (maxL := 2) (ret := (some .int)) (by decide) rfl ?_
  intro p e s m args below meth c s₁ B hml hv
  obtain ⟨rfl, hsz, hP, hKK, hD0⟩ := hv
  have hx := B.exec
  have hb := B.bytes
  have hr := B.returns
  have hts := atoms_spec (ws := wsX4_firstNotZero) B.pre
  have hown : s.vm.findClass RX4 = some m.cls := findClass_of_methodNamed B.named
  have hlocks := B.notSynchronized
  have C0 : Cx p s m ([.ref h_g1] : List Value).toArray meth c cX4_firstNotZero 2 (some .int) wsX4_firstNotZero RX4 (dC, dI) cyI cyJ cyA := ⟨hx, hb, hr, hml, hown, hts, hKK, hlocks⟩
  have hK := hKK.1
  subst hsz
  have hD := hD0.self (sz := s.heap.size)
  generalize hAe : va_A [(h_g1, .inl (cyJ, 3, .inr (.inl v_g1)))] s.heap.size = A at hD ⊢
  have hA : ∀ q : Nat, s.heap.size ≤ q → A q := fun q h => by rw [← hAe]; exact Or.inr h
  have hS : va_S A s.heap s.heap [] := va_S.rf
  have hl := lv_entry ([.ref h_g1]) (n := 2) (Nat.le_of_ble_eq_true rfl)
  rw [lg_entry_eq]
  generalize (lg_sl ([.ref h_g1]) ++ List.replicate (2 - (lg_sl ([.ref h_g1])).length) Slot.unset).toArray = ls at hl ⊢
  have hl : lv_has ls 2 [(0, .ref h_g1)] := hl
  unfold F_X4_firstNotZero at hF
  refine lv_iconst (v := (0 : Int32)) hx hb dX4_firstNotZero_0 (by decide) ?_
  refine lv_istore_n (lv' := [(1, .int (0 : Int32)), (0, .ref h_g1)]) hx hb dX4_firstNotZero_1 rfl hl (by decide) rfl (fun ls hl => ?_)
  exact t_X4_firstNotZero_2 C0 hA   3000 (0 : Int32) v_g1 hF hP hD hS (lv_sub hl [1, 0] rfl)
/-! RestGains.setUnit ([JI)V -/
def rmX4_setUnit : Room := { frames := 0, cells := 0, slots := 0, locals := 0 }
def F_X4_setUnit_19 (k_2 : Int32 → Int32 → (Nat → Int64) → Option ((Nat → Int64))) (s1 : Int32) (s2 : Int64) (l1 : Int32) (l2 : Int32) (v_g1 : Nat → Int64) : Option ((Nat → Int64)) :=
  if s1 < 0 ∨ 3 ≤ s1.toNatClampNeg then none else k_2 l1 (l2 + (1 : Int32)) (vp_updL v_g1 s1.toNatClampNeg s2)
def F_X4_setUnit_2  : Nat → Int32 → Int32 → (Nat → Int64) → Option ((Nat → Int64))
  | 0, _, _, _ => none
  | n + 1, l1, l2, v_g1 => if (3 : Int32) ≤ l2 then (some v_g1) else (if l2 = l1 then (F_X4_setUnit_19 (fun l1 l2 v_g1 => F_X4_setUnit_2  n l1 l2 v_g1) l2 (1 : Int64) l1 l2 v_g1) else (F_X4_setUnit_19 (fun l1 l2 v_g1 => F_X4_setUnit_2  n l1 l2 v_g1) l2 (0 : Int64) l1 l2 v_g1))
def F_X4_setUnit (l1 : Int32) (v_g1 : Nat → Int64) : Option ((Nat → Int64)) :=
  F_X4_setUnit_2  3000 l1 (0 : Int32) v_g1
set_option maxHeartbeats 4000000 in
set_option maxRecDepth 100000 in
theorem t_X4_setUnit_19 {p : Program} {l : Launch} {e : Env} {s : State} {m : MethodId} {args : Array Value} {below : List Frame} {meth : Method} {c : Code} {dC : Nat → ClassId} {dI : Nat → Nat → Nat} {cyI cyJ cyA : ClassId} {A : Nat → Prop} {h_g1 : Nat} {q_g1 : Nat → Int64} (C0 : Cx p s m args meth c cX4_setUnit 3 none wsX4_setUnit RX4 (dC, dI) cyI cyJ cyA) (hA : ∀ q : Nat, s.heap.size ≤ q → A q) (k_2 : Int32 → Int32 → (Nat → Int64) → Option ((Nat → Int64))) (hk_2 : ∀ (l1 : Int32) (l2 : Int32) (v_g1 : Nat → Int64), k_2 l1 l2 v_g1 = some q_g1 → ∀ {H : Heap} {locs : List Loc} {ls : Array Slot}, va_P (dC, dI) vwCl [(h_g1, .inl (cyJ, 3, .inr (.inl v_g1)))] H → va_D A [(h_g1, .inl (cyJ, 3, .inr (.inl v_g1)))] → va_S A s.heap H locs → lv_has ls 3 [(0, .ref h_g1), (1, .int l1), (2, .int l2)] → W p l e rmX4_setUnit s m args below meth c H locs 0 0 (MQ below (QV (dC, dI) A [(h_g1, .inl (cyJ, 3, .inr (.inl q_g1)))]) args s 0 0 A) (F0 m 2 ls [])) : ∀ (s1 : Int32) (s2 : Int64) (l1 : Int32) (l2 : Int32) (v_g1 : Nat → Int64), F_X4_setUnit_19 k_2 s1 s2 l1 l2 v_g1 = some q_g1 → ∀ {H : Heap} {locs : List Loc} {ls : Array Slot}, va_P (dC, dI) vwCl [(h_g1, .inl (cyJ, 3, .inr (.inl v_g1)))] H → va_D A [(h_g1, .inl (cyJ, 3, .inr (.inl v_g1)))] → va_S A s.heap H locs → lv_has ls 3 [(0, .ref h_g1), (1, .int l1), (2, .int l2)] → W p l e rmX4_setUnit s m args below meth c H locs 0 0 (MQ below (QV (dC, dI) A [(h_g1, .inl (cyJ, 3, .inr (.inl q_g1)))]) args s 0 0 A) (F0 m 19 ls [.long s2, .int s1, .ref h_g1]) := by
  obtain ⟨hx, hb, hr, hml, hown, hts, hKK, hlocks⟩ := id C0
  have hK := hKK.1
  intro s1 s2 l1 l2 v_g1 hF H locs ls hP hD hS hl
  unfold F_X4_setUnit_19 at hF
  obtain ⟨g_1, hF⟩ := gno hF
  refine my_last (ws' := [(h_g1, .inl (cyJ, 3, .inr (.inl (vp_updL v_g1 s1.toNatClampNeg s2))))]) hx hb hK hP hD hS 0 1 rfl rfl g_1 dX4_setUnit_19 rfl (fun H locs hP hD hS => ?_)
  refine lv_iinc (v := (l2 + (1 : Int32))) (lv' := [(2, .int (l2 + (1 : Int32))), (0, .ref h_g1), (1, .int l1)]) hx hb dX4_setUnit_20 hl (k := 2) rfl (by rfl) (by decide) rfl (fun ls hl => ?_)
  refine lv_goto (tgt := 2) hx hb dX4_setUnit_23 (by decide) ?_
  exact hk_2 l1 (l2 + (1 : Int32)) (vp_updL v_g1 s1.toNatClampNeg s2) hF hP hD hS (lv_sub hl [1, 2, 0] rfl)
set_option maxHeartbeats 4000000 in
set_option maxRecDepth 100000 in
theorem t_X4_setUnit_2 {p : Program} {l : Launch} {e : Env} {s : State} {m : MethodId} {args : Array Value} {below : List Frame} {meth : Method} {c : Code} {dC : Nat → ClassId} {dI : Nat → Nat → Nat} {cyI cyJ cyA : ClassId} {A : Nat → Prop} {h_g1 : Nat} {q_g1 : Nat → Int64} (C0 : Cx p s m args meth c cX4_setUnit 3 none wsX4_setUnit RX4 (dC, dI) cyI cyJ cyA) (hA : ∀ q : Nat, s.heap.size ≤ q → A q)  : ∀ (n : Nat) (l1 : Int32) (l2 : Int32) (v_g1 : Nat → Int64), F_X4_setUnit_2  n l1 l2 v_g1 = some q_g1 → ∀ {H : Heap} {locs : List Loc} {ls : Array Slot}, va_P (dC, dI) vwCl [(h_g1, .inl (cyJ, 3, .inr (.inl v_g1)))] H → va_D A [(h_g1, .inl (cyJ, 3, .inr (.inl v_g1)))] → va_S A s.heap H locs → lv_has ls 3 [(0, .ref h_g1), (1, .int l1), (2, .int l2)] → W p l e rmX4_setUnit s m args below meth c H locs 0 0 (MQ below (QV (dC, dI) A [(h_g1, .inl (cyJ, 3, .inr (.inl q_g1)))]) args s 0 0 A) (F0 m 2 ls []) := by
  obtain ⟨hx, hb, hr, hml, hown, hts, hKK, hlocks⟩ := id C0
  have hK := hKK.1
  intro n
  induction n with
  | zero => intro l1 l2 v_g1 hF; rw [F_X4_setUnit_2] at hF; cases hF
  | succ n ih =>
      intro l1 l2 v_g1 hF H locs ls hP hD hS hl
      rw [F_X4_setUnit_2] at hF
      refine lv_iload_n hx hb dX4_setUnit_2 rfl (lv_at hl 2 rfl) ?_
      refine lv_iconst (v := (3 : Int32)) hx hb dX4_setUnit_3 (by decide) ?_
      refine lv_icmp_ge (tgt := 26) hx hb dX4_setUnit_4 (by decide) (fun c_ => ?_) (fun c_ => ?_)
      · have hF := gif c_ hF
        cases hF
        exact W.vret hx hb hr (fun t ht hW => ⟨⟨(), rfl, trivial, by rw [ht]; exact hP, hD⟩, hS.F ht⟩) hS.2.2 dX4_setUnit_26
      · have hF := gel c_ hF
        refine lv_aload_n hx hb dX4_setUnit_7 rfl (lv_at hl 0 rfl) ?_
        refine lv_iload_n hx hb dX4_setUnit_8 rfl (lv_at hl 2 rfl) ?_
        refine lv_iload_n hx hb dX4_setUnit_9 rfl (lv_at hl 2 rfl) ?_
        refine lv_iload_n hx hb dX4_setUnit_10 rfl (lv_at hl 1 rfl) ?_
        refine lv_icmp_ne (tgt := 18) hx hb dX4_setUnit_11 (by decide) (fun c_ => ?_) (fun c_ => ?_)
        · have hF := gel c_ hF
          refine lv_lconst (v := (0 : Int64)) hx hb dX4_setUnit_18 (by decide) ?_
          exact t_X4_setUnit_19 C0 hA (fun l1 l2 v_g1 => F_X4_setUnit_2  n l1 l2 v_g1) ih l2 (0 : Int64) l1 l2 v_g1 hF hP hD hS (lv_sub hl [0, 1, 2] rfl)
        · have hF := gif c_ hF
          refine lv_lconst (v := (1 : Int64)) hx hb dX4_setUnit_14 (by decide) ?_
          refine lv_goto (tgt := 19) hx hb dX4_setUnit_15 (by decide) ?_
          exact t_X4_setUnit_19 C0 hA (fun l1 l2 v_g1 => F_X4_setUnit_2  n l1 l2 v_g1) ih l2 (1 : Int64) l1 l2 v_g1 hF hP hD hS (lv_sub hl [0, 1, 2] rfl)
set_option maxHeartbeats 4000000 in
set_option maxRecDepth 100000 in
theorem c_X4_setUnit (l : Launch) (dC : Nat → ClassId) (dI : Nat → Nat → Nat) (cyI cyJ cyA : ClassId) (h_g1 : Nat) (v_g1 : Nat → Int64) (l1 : Int32) {q_g1 : Nat → Int64} (hF : F_X4_setUnit l1 v_g1 = some q_g1) (sz : Nat) : Met l yX4_setUnit wsX4_setUnit rmX4_setUnit (va_Pc [.ref h_g1, .int l1] (PC (dC, dI) cyI cyJ cyA [(h_g1, .inl (cyJ, 3, .inr (.inl v_g1)))] sz)) (QV (dC, dI) (va_A [(h_g1, .inl (cyJ, 3, .inr (.inl v_g1)))] sz) [(h_g1, .inl (cyJ, 3, .inr (.inl q_g1)))]) 0 0 (va_A [(h_g1, .inl (cyJ, 3, .inr (.inl v_g1)))] sz) := by
  refine Met.ofW (cc := cX4_setUnit) (maxL := 3) (ret := none) (by decide) rfl ?_
  intro p e s m args below meth c s₁ B hml hv
  obtain ⟨rfl, hsz, hP, hKK, hD0⟩ := hv
  have hx := B.exec
  have hb := B.bytes
  have hr := B.returns
  have hts := atoms_spec (ws := wsX4_setUnit) B.pre
  have hown : s.vm.findClass RX4 = some m.cls := findClass_of_methodNamed B.named
  have hlocks := B.notSynchronized
  have C0 : Cx p s m ([.ref h_g1, .int l1] : List Value).toArray meth c cX4_setUnit 3 none wsX4_setUnit RX4 (dC, dI) cyI cyJ cyA := ⟨hx, hb, hr, hml, hown, hts, hKK, hlocks⟩
  have hK := hKK.1
  subst hsz
  have hD := hD0.self (sz := s.heap.size)
  generalize hAe : va_A [(h_g1, .inl (cyJ, 3, .inr (.inl v_g1)))] s.heap.size = A at hD ⊢
  have hA : ∀ q : Nat, s.heap.size ≤ q → A q := fun q h => by rw [← hAe]; exact Or.inr h
  have hS : va_S A s.heap s.heap [] := va_S.rf
  have hl := lv_entry ([.ref h_g1, .int l1]) (n := 3) (Nat.le_of_ble_eq_true rfl)
  rw [lg_entry_eq]
  generalize (lg_sl ([.ref h_g1, .int l1]) ++ List.replicate (3 - (lg_sl ([.ref h_g1, .int l1])).length) Slot.unset).toArray = ls at hl ⊢
  have hl : lv_has ls 3 [(0, .ref h_g1), (1, .int l1)] := hl
  unfold F_X4_setUnit at hF
  refine lv_iconst (v := (0 : Int32)) hx hb dX4_setUnit_0 (by decide) ?_
  refine lv_istore_n (lv' := [(2, .int (0 : Int32)), (0, .ref h_g1), (1, .int l1)]) hx hb dX4_setUnit_1 rfl hl (by decide) rfl (fun ls hl => ?_)
  exact t_X4_setUnit_2 C0 hA   3000 l1 (0 : Int32) v_g1 hF hP hD hS (lv_sub hl [1, 2, 0] rfl)
/-! RestGains.copy ([J[J)V -/
def rmX4_copy : Room := { frames := 0, cells := 0, slots := 0, locals := 0 }
def F_X4_copy_2  : Nat → Int32 → (Nat → Int64) → (Nat → Int64) → Option ((Nat → Int64))
  | 0, _, _, _ => none
  | n + 1, l2, v_g1, v_g2 => if (3 : Int32) ≤ l2 then (some v_g2) else (if l2 < 0 ∨ 3 ≤ l2.toNatClampNeg then none else if l2 < 0 ∨ 3 ≤ l2.toNatClampNeg then none else F_X4_copy_2  n (l2 + (1 : Int32)) v_g1 (vp_updL v_g2 l2.toNatClampNeg (v_g1 l2.toNatClampNeg)))
def F_X4_copy (v_g1 : Nat → Int64) (v_g2 : Nat → Int64) : Option ((Nat → Int64)) :=
  F_X4_copy_2  3000 (0 : Int32) v_g1 v_g2
set_option maxHeartbeats 4000000 in
set_option maxRecDepth 100000 in
theorem t_X4_copy_2 {p : Program} {l : Launch} {e : Env} {s : State} {m : MethodId} {args : Array Value} {below : List Frame} {meth : Method} {c : Code} {dC : Nat → ClassId} {dI : Nat → Nat → Nat} {cyI cyJ cyA : ClassId} {A : Nat → Prop} {h_g1 h_g2 : Nat} {q_g2 : Nat → Int64} (C0 : Cx p s m args meth c cX4_copy 3 none wsX4_copy RX4 (dC, dI) cyI cyJ cyA) (hA : ∀ q : Nat, s.heap.size ≤ q → A q)  : ∀ (n : Nat) (l2 : Int32) (v_g1 : Nat → Int64) (v_g2 : Nat → Int64), F_X4_copy_2  n l2 v_g1 v_g2 = some q_g2 → ∀ {H : Heap} {locs : List Loc} {ls : Array Slot}, va_P (dC, dI) vwCl [(h_g1, .inl (cyJ, 3, .inr (.inl v_g1))), (h_g2, .inl (cyJ, 3, .inr (.inl v_g2)))] H → va_D A [(h_g1, .inl (cyJ, 3, .inr (.inl v_g1))), (h_g2, .inl (cyJ, 3, .inr (.inl v_g2)))] → va_S A s.heap H locs → lv_has ls 3 [(0, .ref h_g1), (1, .ref h_g2), (2, .int l2)] → W p l e rmX4_copy s m args below meth c H locs 0 0 (MQ below (QV (dC, dI) A [(h_g1, .inl (cyJ, 3, .inr (.inl v_g1))), (h_g2, .inl (cyJ, 3, .inr (.inl q_g2)))]) args s 0 0 A) (F0 m 2 ls []) := by
  obtain ⟨hx, hb, hr, hml, hown, hts, hKK, hlocks⟩ := id C0
  have hK := hKK.1
  intro n
  induction n with
  | zero => intro l2 v_g1 v_g2 hF; rw [F_X4_copy_2] at hF; cases hF
  | succ n ih =>
      intro l2 v_g1 v_g2 hF H locs ls hP hD hS hl
      rw [F_X4_copy_2] at hF
      refine lv_iload_n hx hb dX4_copy_2 rfl (lv_at hl 2 rfl) ?_
      refine lv_iconst (v := (3 : Int32)) hx hb dX4_copy_3 (by decide) ?_
      refine lv_icmp_ge (tgt := 19) hx hb dX4_copy_4 (by decide) (fun c_ => ?_) (fun c_ => ?_)
      · have hF := gif c_ hF
        cases hF
        exact W.vret hx hb hr (fun t ht hW => ⟨⟨(), rfl, trivial, by rw [ht]; exact hP, hD⟩, hS.F ht⟩) hS.2.2 dX4_copy_19
      · have hF := gel c_ hF
        refine lv_aload_n hx hb dX4_copy_7 rfl (lv_at hl 1 rfl) ?_
        refine lv_iload_n hx hb dX4_copy_8 rfl (lv_at hl 2 rfl) ?_
        refine lv_aload_n hx hb dX4_copy_9 rfl (lv_at hl 0 rfl) ?_
        refine lv_iload_n hx hb dX4_copy_10 rfl (lv_at hl 2 rfl) ?_
        obtain ⟨g_1, hF⟩ := gno hF
        refine va_lald hx hb hK hP 0 1 rfl rfl g_1 dX4_copy_11 ?_
        obtain ⟨g_2, hF⟩ := gno hF
        refine my_last (ws' := [(h_g1, .inl (cyJ, 3, .inr (.inl v_g1))), (h_g2, .inl (cyJ, 3, .inr (.inl (vp_updL v_g2 l2.toNatClampNeg (v_g1 l2.toNatClampNeg)))))]) hx hb hK hP hD hS 1 1 rfl rfl g_2 dX4_copy_12 rfl (fun H locs hP hD hS => ?_)
        refine lv_iinc (v := (l2 + (1 : Int32))) (lv' := [(2, .int (l2 + (1 : Int32))), (0, .ref h_g1), (1, .ref h_g2)]) hx hb dX4_copy_13 hl (k := 2) rfl (by rfl) (by decide) rfl (fun ls hl => ?_)
        refine lv_goto (tgt := 2) hx hb dX4_copy_16 (by decide) ?_
        exact ih (l2 + (1 : Int32)) v_g1 (vp_updL v_g2 l2.toNatClampNeg (v_g1 l2.toNatClampNeg)) hF hP hD hS (lv_sub hl [1, 2, 0] rfl)
set_option maxHeartbeats 4000000 in
set_option maxRecDepth 100000 in
theorem c_X4_copy (l : Launch) (dC : Nat → ClassId) (dI : Nat → Nat → Nat) (cyI cyJ cyA : ClassId) (h_g1 h_g2 : Nat) (v_g1 : Nat → Int64) (v_g2 : Nat → Int64)  {q_g2 : Nat → Int64} (hF : F_X4_copy v_g1 v_g2 = some q_g2) (sz : Nat) : Met l yX4_copy wsX4_copy rmX4_copy (va_Pc [.ref h_g1, .ref h_g2] (PC (dC, dI) cyI cyJ cyA [(h_g1, .inl (cyJ, 3, .inr (.inl v_g1))), (h_g2, .inl (cyJ, 3, .inr (.inl v_g2)))] sz)) (QV (dC, dI) (va_A [(h_g1, .inl (cyJ, 3, .inr (.inl v_g1))), (h_g2, .inl (cyJ, 3, .inr (.inl v_g2)))] sz) [(h_g1, .inl (cyJ, 3, .inr (.inl v_g1))), (h_g2, .inl (cyJ, 3, .inr (.inl q_g2)))]) 0 0 (va_A [(h_g1, .inl (cyJ, 3, .inr (.inl v_g1))), (h_g2, .inl (cyJ, 3, .inr (.inl v_g2)))] sz) := by
  refine Met.ofW (cc := cX4_copy) (maxL := 3) (ret := none) (by decide) rfl ?_
  intro p e s m args below meth c s₁ B hml hv
  obtain ⟨rfl, hsz, hP, hKK, hD0⟩ := hv
  have hx := B.exec
  have hb := B.bytes
  have hr := B.returns
  have hts := atoms_spec (ws := wsX4_copy) B.pre
  have hown : s.vm.findClass RX4 = some m.cls := findClass_of_methodNamed B.named
  have hlocks := B.notSynchronized
  have C0 : Cx p s m ([.ref h_g1, .ref h_g2] : List Value).toArray meth c cX4_copy 3 none wsX4_copy RX4 (dC, dI) cyI cyJ cyA := ⟨hx, hb, hr, hml, hown, hts, hKK, hlocks⟩
  have hK := hKK.1
  subst hsz
  have hD := hD0.self (sz := s.heap.size)
  generalize hAe : va_A [(h_g1, .inl (cyJ, 3, .inr (.inl v_g1))), (h_g2, .inl (cyJ, 3, .inr (.inl v_g2)))] s.heap.size = A at hD ⊢
  have hA : ∀ q : Nat, s.heap.size ≤ q → A q := fun q h => by rw [← hAe]; exact Or.inr h
  have hS : va_S A s.heap s.heap [] := va_S.rf
  have hl := lv_entry ([.ref h_g1, .ref h_g2]) (n := 3) (Nat.le_of_ble_eq_true rfl)
  rw [lg_entry_eq]
  generalize (lg_sl ([.ref h_g1, .ref h_g2]) ++ List.replicate (3 - (lg_sl ([.ref h_g1, .ref h_g2])).length) Slot.unset).toArray = ls at hl ⊢
  have hl : lv_has ls 3 [(0, .ref h_g1), (1, .ref h_g2)] := hl
  unfold F_X4_copy at hF
  refine lv_iconst (v := (0 : Int32)) hx hb dX4_copy_0 (by decide) ?_
  refine lv_istore_n (lv' := [(2, .int (0 : Int32)), (0, .ref h_g1), (1, .ref h_g2)]) hx hb dX4_copy_1 rfl hl (by decide) rfl (fun ls hl => ?_)
  exact t_X4_copy_2 C0 hA   3000 (0 : Int32) v_g1 v_g2 hF hP hD hS (lv_sub hl [1, 2, 0] rfl)
/-! RestGains$Chain.fillBase ()V -/
def rmX0_fillBase : Room := { frames := 1, cells := 0, slots := 0, locals := 22 }
def F_X0_fillBase_143  (l2 : Int32) (v_rank : Int32) (v_rows_r0 : Nat → Int64) (v_rows_r1 : Nat → Int64) (v_rows_r2 : Nat → Int64) (v_spare : Nat → Int64) (v_base_r0 : Nat → Int64) (v_base_r1 : Nat → Int64) (v_base_r2 : Nat → Int64) : Option (Int32 × (Nat → Int64) × (Nat → Int64) × (Nat → Int64) × (Nat → Int64)) :=
  bd1 (F_X4_setUnit ((l2 + (1 : Int32)) - (l2 + (1 : Int32)) / (3 : Int32) * (3 : Int32)) v_base_r1) (fun x1_g1 => bd1 (F_X4_setUnit ((l2 + (2 : Int32)) - (l2 + (2 : Int32)) / (3 : Int32) * (3 : Int32)) v_base_r2) (fun x2_g1 => some (v_rank, v_spare, v_base_r0, x1_g1, x2_g1)))
def F_X0_fillBase_121  (s1 : Int32) (l2 : Int32) (v_rank : Int32) (v_rows_r0 : Nat → Int64) (v_rows_r1 : Nat → Int64) (v_rows_r2 : Nat → Int64) (v_spare : Nat → Int64) (v_base_r0 : Nat → Int64) (v_base_r1 : Nat → Int64) (v_base_r2 : Nat → Int64) : Option (Int32 × (Nat → Int64) × (Nat → Int64) × (Nat → Int64) × (Nat → Int64)) :=
  if s1 = 0 then (bd1 (F_X4_setUnit (0 : Int32) v_base_r0) (fun x1_g1 => F_X0_fillBase_143  (0 : Int32) s1 v_rows_r0 v_rows_r1 v_rows_r2 v_spare x1_g1 v_base_r1 v_base_r2)) else (F_X0_fillBase_143  l2 s1 v_rows_r0 v_rows_r1 v_rows_r2 v_spare v_base_r0 v_base_r1 v_base_r2)
def F_X0_fillBase_21  : Nat → Int32 → Int32 → (Nat → Int64) → (Nat → Int64) → (Nat → Int64) → (Nat → Int64) → (Nat → Int64) → (Nat → Int64) → (Nat → Int64) → Option (Int32 × (Nat → Int64) × (Nat → Int64) × (Nat → Int64) × (Nat → Int64))
  | 0, _, _, _, _, _, _, _, _, _ => none
  | n + 1, l1, v_rank, v_rows_r0, v_rows_r1, v_rows_r2, v_spare, v_base_r0, v_base_r1, v_base_r2 => if (3 : Int32) ≤ l1 then (bd1 (F_X4_dot v_spare v_rows_r2) (fun r1 => if (lg_cmp r1 (0 : Int64)) = 0 then (bd1 (F_X4_firstNotZero v_spare) (fun r2 => if (3 : Int32) ≤ r2 then (bd1 (F_X4_firstNotZero v_rows_r0) (fun r3 => if (3 : Int32) ≤ r3 then (F_X0_fillBase_121  (0 : Int32) r3 v_rank v_rows_r0 v_rows_r1 v_rows_r2 v_spare v_base_r0 v_base_r1 v_base_r2) else (F_X0_fillBase_121  (1 : Int32) r3 v_rank v_rows_r0 v_rows_r1 v_rows_r2 v_spare v_base_r0 v_base_r1 v_base_r2))) else (bd1 (F_X4_setUnit r2 v_base_r2) (fun x4_g1 => some ((2 : Int32), v_spare, v_base_r0, v_base_r1, x4_g1))))) else (some ((3 : Int32), v_spare, v_base_r0, v_base_r1, v_base_r2)))) else (if l1 = 0 then (if l1 = 0 then (bd1 (F_X4_copy v_rows_r0 v_base_r0) (fun x5_g2 => F_X0_fillBase_21  n (l1 + (1 : Int32)) v_rank v_rows_r0 v_rows_r1 v_rows_r2 v_spare x5_g2 v_base_r1 v_base_r2)) else if l1 = 1 then (bd1 (F_X4_copy v_rows_r0 v_base_r1) (fun x6_g2 => F_X0_fillBase_21  n (l1 + (1 : Int32)) v_rank v_rows_r0 v_rows_r1 v_rows_r2 v_spare v_base_r0 x6_g2 v_base_r2)) else if l1 = 2 then (bd1 (F_X4_copy v_rows_r0 v_base_r2) (fun x7_g2 => F_X0_fillBase_21  n (l1 + (1 : Int32)) v_rank v_rows_r0 v_rows_r1 v_rows_r2 v_spare v_base_r0 v_base_r1 x7_g2)) else none) else if l1 = 1 then (if l1 = 0 then (bd1 (F_X4_copy v_rows_r1 v_base_r0) (fun x8_g2 => F_X0_fillBase_21  n (l1 + (1 : Int32)) v_rank v_rows_r0 v_rows_r1 v_rows_r2 v_spare x8_g2 v_base_r1 v_base_r2)) else if l1 = 1 then (bd1 (F_X4_copy v_rows_r1 v_base_r1) (fun x9_g2 => F_X0_fillBase_21  n (l1 + (1 : Int32)) v_rank v_rows_r0 v_rows_r1 v_rows_r2 v_spare v_base_r0 x9_g2 v_base_r2)) else if l1 = 2 then (bd1 (F_X4_copy v_rows_r1 v_base_r2) (fun x10_g2 => F_X0_fillBase_21  n (l1 + (1 : Int32)) v_rank v_rows_r0 v_rows_r1 v_rows_r2 v_spare v_base_r0 v_base_r1 x10_g2)) else none) else if l1 = 2 then (if l1 = 0 then (bd1 (F_X4_copy v_rows_r2 v_base_r0) (fun x11_g2 => F_X0_fillBase_21  n (l1 + (1 : Int32)) v_rank v_rows_r0 v_rows_r1 v_rows_r2 v_spare x11_g2 v_base_r1 v_base_r2)) else if l1 = 1 then (bd1 (F_X4_copy v_rows_r2 v_base_r1) (fun x12_g2 => F_X0_fillBase_21  n (l1 + (1 : Int32)) v_rank v_rows_r0 v_rows_r1 v_rows_r2 v_spare v_base_r0 x12_g2 v_base_r2)) else if l1 = 2 then (bd1 (F_X4_copy v_rows_r2 v_base_r2) (fun x13_g2 => F_X0_fillBase_21  n (l1 + (1 : Int32)) v_rank v_rows_r0 v_rows_r1 v_rows_r2 v_spare v_base_r0 v_base_r1 x13_g2)) else none) else none)
def F_X0_fillBase (v_rank : Int32) (v_rows_r0 : Nat → Int64) (v_rows_r1 : Nat → Int64) (v_rows_r2 : Nat → Int64) (v_spare : Nat → Int64) (v_base_r0 : Nat → Int64) (v_base_r1 : Nat → Int64) (v_base_r2 : Nat → Int64) : Option (Int32 × (Nat → Int64) × (Nat → Int64) × (Nat → Int64) × (Nat → Int64)) :=
  bd1 (F_X4_cross v_rows_r0 v_rows_r1 v_spare) (fun x1_g3 => F_X0_fillBase_21  3000 (0 : Int32) v_rank v_rows_r0 v_rows_r1 v_rows_r2 x1_g3 v_base_r0 v_base_r1 v_base_r2)
set_option maxHeartbeats 4000000 in
set_option maxRecDepth 100000 in
theorem t_X0_fillBase_143 {p : Program} {l : Launch} {e : Env} {s : State} {m : MethodId} {args : Array Value} {below : List Frame} {meth : Method} {c : Code} {dC : Nat → ClassId} {dI : Nat → Nat → Nat} {cyI cyJ cyA : ClassId} {A : Nat → Prop} {h_me h_rows h_rows_r0 h_rows_r1 h_rows_r2 h_spare h_base h_base_r0 h_base_r1 h_base_r2 : Nat} {z_gains z_below z_across z_square : Value} {q_rank : Int32} {q_spare : Nat → Int64} {q_base_r0 : Nat → Int64} {q_base_r1 : Nat → Int64} {q_base_r2 : Nat → Int64} (C0 : Cx p s m args meth c cX0_fillBase 3 none wsX0_fillBase RX0 (dC, dI) cyI cyJ cyA) (hA : ∀ q : Nat, s.heap.size ≤ q → A q)  : ∀ (l2 : Int32) (v_rank : Int32) (v_rows_r0 : Nat → Int64) (v_rows_r1 : Nat → Int64) (v_rows_r2 : Nat → Int64) (v_spare : Nat → Int64) (v_base_r0 : Nat → Int64) (v_base_r1 : Nat → Int64) (v_base_r2 : Nat → Int64), F_X0_fillBase_143  l2 v_rank v_rows_r0 v_rows_r1 v_rows_r2 v_spare v_base_r0 v_base_r1 v_base_r2 = some (q_rank, q_spare, q_base_r0, q_base_r1, q_base_r2) → ∀ {H : Heap} {locs : List Loc} {ls : Array Slot}, va_P (dC, dI) vwCl [(h_me, .inr (0, [.ref h_rows, z_gains, .int v_rank, z_below, z_across, .ref h_base, z_square, .ref h_spare])), (h_rows, .inl (cyA, 3, .inr (.inr (.inr (.inr (fn3 h_rows_r0 h_rows_r1 h_rows_r2)))))), (h_rows_r0, .inl (cyJ, 3, .inr (.inl v_rows_r0))), (h_rows_r1, .inl (cyJ, 3, .inr (.inl v_rows_r1))), (h_rows_r2, .inl (cyJ, 3, .inr (.inl v_rows_r2))), (h_spare, .inl (cyJ, 3, .inr (.inl v_spare))), (h_base, .inl (cyA, 3, .inr (.inr (.inr (.inr (fn3 h_base_r0 h_base_r1 h_base_r2)))))), (h_base_r0, .inl (cyJ, 3, .inr (.inl v_base_r0))), (h_base_r1, .inl (cyJ, 3, .inr (.inl v_base_r1))), (h_base_r2, .inl (cyJ, 3, .inr (.inl v_base_r2)))] H → va_D A [(h_me, .inr (0, [.ref h_rows, z_gains, .int v_rank, z_below, z_across, .ref h_base, z_square, .ref h_spare])), (h_rows, .inl (cyA, 3, .inr (.inr (.inr (.inr (fn3 h_rows_r0 h_rows_r1 h_rows_r2)))))), (h_rows_r0, .inl (cyJ, 3, .inr (.inl v_rows_r0))), (h_rows_r1, .inl (cyJ, 3, .inr (.inl v_rows_r1))), (h_rows_r2, .inl (cyJ, 3, .inr (.inl v_rows_r2))), (h_spare, .inl (cyJ, 3, .inr (.inl v_spare))), (h_base, .inl (cyA, 3, .inr (.inr (.inr (.inr (fn3 h_base_r0 h_base_r1 h_base_r2)))))), (h_base_r0, .inl (cyJ, 3, .inr (.inl v_base_r0))), (h_base_r1, .inl (cyJ, 3, .inr (.inl v_base_r1))), (h_base_r2, .inl (cyJ, 3, .inr (.inl v_base_r2)))] → va_S A s.heap H locs → lv_has ls 3 [(0, .ref h_me), (2, .int l2)] → W p l e rmX0_fillBase s m args below meth c H locs 0 0 (MQ below (QV (dC, dI) A [(h_me, .inr (0, [.ref h_rows, z_gains, .int q_rank, z_below, z_across, .ref h_base, z_square, .ref h_spare])), (h_rows, .inl (cyA, 3, .inr (.inr (.inr (.inr (fn3 h_rows_r0 h_rows_r1 h_rows_r2)))))), (h_rows_r0, .inl (cyJ, 3, .inr (.inl v_rows_r0))), (h_rows_r1, .inl (cyJ, 3, .inr (.inl v_rows_r1))), (h_rows_r2, .inl (cyJ, 3, .inr (.inl v_rows_r2))), (h_spare, .inl (cyJ, 3, .inr (.inl q_spare))), (h_base, .inl (cyA, 3, .inr (.inr (.inr (.inr (fn3 h_base_r0 h_base_r1 h_base_r2)))))), (h_base_r0, .inl (cyJ, 3, .inr (.inl q_base_r0))), (h_base_r1, .inl (cyJ, 3, .inr (.inl q_base_r1))), (h_base_r2, .inl (cyJ, 3, .inr (.inl q_base_r2)))]) args s 0 0 A) (F0 m 143 ls []) := by
  obtain ⟨hx, hb, hr, hml, hown, hts, hKK, hlocks⟩ := id C0
  have hK := hKK.1
  intro l2 v_rank v_rows_r0 v_rows_r1 v_rows_r2 v_spare v_base_r0 v_base_r1 v_base_r2 hF H locs ls hP hD hS hl
  unfold F_X0_fillBase_143 at hF
  refine lv_aload_n hx hb dX0_fillBase_143 rfl (lv_at hl 0 rfl) ?_
  refine my_get (D := (dC, dI)) (ci := 0) (v := .ref h_base) (C := RX0) (T := TX0) (N := 8) hx hb hts iX0_fillBase_X0 hown hK hP 0 rfl rfl 5 (by decide) (hts _ mX0_fillBase_3) rfl rfl dX0_fillBase_144 ?_
  refine lv_iconst (v := (1 : Int32)) hx hb dX0_fillBase_147 (by decide) ?_
  refine my_ald2 hx hb hK hP 6 2 rfl rfl (in3_1 rfl) dX0_fillBase_148 (v := .ref h_base_r1) rfl ?_
  refine lv_iload_n hx hb dX0_fillBase_149 rfl (lv_at hl 1 rfl) ?_
  refine lv_iconst (v := (1 : Int32)) hx hb dX0_fillBase_150 (by decide) ?_
  refine lv_iadd hx hb dX0_fillBase_151 ?_
  refine lv_iconst (v := (3 : Int32)) hx hb dX0_fillBase_152 (by decide) ?_
  refine lv_irem hx hb dX0_fillBase_153 (by decide) ?_
  obtain ⟨x1_g1, hz1, hF⟩ := bd1_e hF
  refine kc_v (wr := [(h_me, .inr (0, [.ref h_rows, z_gains, .int v_rank, z_below, z_across, .ref h_base, z_square, .ref h_spare])), (h_rows, .inl (cyA, 3, .inr (.inr (.inr (.inr (fn3 h_rows_r0 h_rows_r1 h_rows_r2)))))), (h_rows_r0, .inl (cyJ, 3, .inr (.inl v_rows_r0))), (h_rows_r1, .inl (cyJ, 3, .inr (.inl v_rows_r1))), (h_rows_r2, .inl (cyJ, 3, .inr (.inl v_rows_r2))), (h_spare, .inl (cyJ, 3, .inr (.inl v_spare))), (h_base, .inl (cyA, 3, .inr (.inr (.inr (.inr (fn3 h_base_r0 h_base_r1 h_base_r2)))))), (h_base_r0, .inl (cyJ, 3, .inr (.inl v_base_r0))), (h_base_r2, .inl (cyJ, 3, .inr (.inl v_base_r2)))]) (ws' := [(h_me, .inr (0, [.ref h_rows, z_gains, .int v_rank, z_below, z_across, .ref h_base, z_square, .ref h_spare])), (h_rows, .inl (cyA, 3, .inr (.inr (.inr (.inr (fn3 h_rows_r0 h_rows_r1 h_rows_r2)))))), (h_rows_r0, .inl (cyJ, 3, .inr (.inl v_rows_r0))), (h_rows_r1, .inl (cyJ, 3, .inr (.inl v_rows_r1))), (h_rows_r2, .inl (cyJ, 3, .inr (.inl v_rows_r2))), (h_spare, .inl (cyJ, 3, .inr (.inl v_spare))), (h_base, .inl (cyA, 3, .inr (.inr (.inr (.inr (fn3 h_base_r0 h_base_r1 h_base_r2)))))), (h_base_r0, .inl (cyJ, 3, .inr (.inl v_base_r0))), (h_base_r1, .inl (cyJ, 3, .inr (.inl x1_g1))), (h_base_r2, .inl (cyJ, 3, .inr (.inl v_base_r2)))]) (va_runSN (As := [.ref h_base_r1, .int ((l2 + (1 : Int32)) - (l2 + (1 : Int32)) / (3 : Int32) * (3 : Int32))]) (rest := []) ⟨hx, hb, hml, hown, hts⟩ (c_X4_setUnit l dC dI cyI cyJ cyA h_base_r1  v_base_r1 ((l2 + (1 : Int32)) - (l2 + (1 : Int32)) / (3 : Int32) * (3 : Int32)) hz1 _) ⟨va_cnB 2 hts gX0_fillBase_X4_setUnit_n78 rfl rfl rfl (NS.w_X0_78 hKK.2) (hts _ mX0_fillBase_6) ndX4_setUnit.2 ⟨Nat.le_of_ble_eq_true rfl, Nat.le_of_ble_eq_true rfl⟩, hts _ mX0_fillBase_14, trivial⟩ (pre_S hKK hP hD [8] (by decide) rfl rfl) rfl rfl hl.1 rfl (lv_room (Nat.le_of_ble_eq_true rfl)) dX0_fillBase_154 ⟨Nat.le_of_ble_eq_true rfl, Nat.le_of_ble_eq_true rfl⟩) hP hD hS hA [8] [0, 1, 2, 3, 4, 5, 6, 7, 9] [0, 1, 2, 3, 4, 5, 6, 7, 9, 8] rfl rfl (by decide) (by decide) (by decide) rfl rfl (fun H locs hP hD hS => ?_)
  refine lv_aload_n hx hb dX0_fillBase_157 rfl (lv_at hl 0 rfl) ?_
  refine my_get (D := (dC, dI)) (ci := 0) (v := .ref h_base) (C := RX0) (T := TX0) (N := 8) hx hb hts iX0_fillBase_X0 hown hK hP 0 rfl rfl 5 (by decide) (hts _ mX0_fillBase_3) rfl rfl dX0_fillBase_158 ?_
  refine lv_iconst (v := (2 : Int32)) hx hb dX0_fillBase_161 (by decide) ?_
  refine my_ald2 hx hb hK hP 6 2 rfl rfl (in3_2 rfl) dX0_fillBase_162 (v := .ref h_base_r2) rfl ?_
  refine lv_iload_n hx hb dX0_fillBase_163 rfl (lv_at hl 1 rfl) ?_
  refine lv_iconst (v := (2 : Int32)) hx hb dX0_fillBase_164 (by decide) ?_
  refine lv_iadd hx hb dX0_fillBase_165 ?_
  refine lv_iconst (v := (3 : Int32)) hx hb dX0_fillBase_166 (by decide) ?_
  refine lv_irem hx hb dX0_fillBase_167 (by decide) ?_
  obtain ⟨x2_g1, hz2, hF⟩ := bd1_e hF
  refine kc_v (wr := [(h_me, .inr (0, [.ref h_rows, z_gains, .int v_rank, z_below, z_across, .ref h_base, z_square, .ref h_spare])), (h_rows, .inl (cyA, 3, .inr (.inr (.inr (.inr (fn3 h_rows_r0 h_rows_r1 h_rows_r2)))))), (h_rows_r0, .inl (cyJ, 3, .inr (.inl v_rows_r0))), (h_rows_r1, .inl (cyJ, 3, .inr (.inl v_rows_r1))), (h_rows_r2, .inl (cyJ, 3, .inr (.inl v_rows_r2))), (h_spare, .inl (cyJ, 3, .inr (.inl v_spare))), (h_base, .inl (cyA, 3, .inr (.inr (.inr (.inr (fn3 h_base_r0 h_base_r1 h_base_r2)))))), (h_base_r0, .inl (cyJ, 3, .inr (.inl v_base_r0))), (h_base_r1, .inl (cyJ, 3, .inr (.inl x1_g1)))]) (ws' := [(h_me, .inr (0, [.ref h_rows, z_gains, .int v_rank, z_below, z_across, .ref h_base, z_square, .ref h_spare])), (h_rows, .inl (cyA, 3, .inr (.inr (.inr (.inr (fn3 h_rows_r0 h_rows_r1 h_rows_r2)))))), (h_rows_r0, .inl (cyJ, 3, .inr (.inl v_rows_r0))), (h_rows_r1, .inl (cyJ, 3, .inr (.inl v_rows_r1))), (h_rows_r2, .inl (cyJ, 3, .inr (.inl v_rows_r2))), (h_spare, .inl (cyJ, 3, .inr (.inl v_spare))), (h_base, .inl (cyA, 3, .inr (.inr (.inr (.inr (fn3 h_base_r0 h_base_r1 h_base_r2)))))), (h_base_r0, .inl (cyJ, 3, .inr (.inl v_base_r0))), (h_base_r1, .inl (cyJ, 3, .inr (.inl x1_g1))), (h_base_r2, .inl (cyJ, 3, .inr (.inl x2_g1)))]) (va_runSN (As := [.ref h_base_r2, .int ((l2 + (2 : Int32)) - (l2 + (2 : Int32)) / (3 : Int32) * (3 : Int32))]) (rest := []) ⟨hx, hb, hml, hown, hts⟩ (c_X4_setUnit l dC dI cyI cyJ cyA h_base_r2  v_base_r2 ((l2 + (2 : Int32)) - (l2 + (2 : Int32)) / (3 : Int32) * (3 : Int32)) hz2 _) ⟨va_cnB 2 hts gX0_fillBase_X4_setUnit_n78 rfl rfl rfl (NS.w_X0_78 hKK.2) (hts _ mX0_fillBase_6) ndX4_setUnit.2 ⟨Nat.le_of_ble_eq_true rfl, Nat.le_of_ble_eq_true rfl⟩, hts _ mX0_fillBase_14, trivial⟩ (pre_S hKK hP hD [9] (by decide) rfl rfl) rfl rfl hl.1 rfl (lv_room (Nat.le_of_ble_eq_true rfl)) dX0_fillBase_168 ⟨Nat.le_of_ble_eq_true rfl, Nat.le_of_ble_eq_true rfl⟩) hP hD hS hA [9] [0, 1, 2, 3, 4, 5, 6, 7, 8] [0, 1, 2, 3, 4, 5, 6, 7, 8, 9] rfl rfl (by decide) (by decide) (by decide) rfl rfl (fun H locs hP hD hS => ?_)
  cases hF
  exact W.vret hx hb hr (fun t ht hW => ⟨⟨(), rfl, trivial, by rw [ht]; exact hP, hD⟩, hS.F ht⟩) hS.2.2 dX0_fillBase_171
set_option maxHeartbeats 4000000 in
set_option maxRecDepth 100000 in
theorem t_X0_fillBase_121 {p : Program} {l : Launch} {e : Env} {s : State} {m : MethodId} {args : Array Value} {below : List Frame} {meth : Method} {c : Code} {dC : Nat → ClassId} {dI : Nat → Nat → Nat} {cyI cyJ cyA : ClassId} {A : Nat → Prop} {h_me h_rows h_rows_r0 h_rows_r1 h_rows_r2 h_spare h_base h_base_r0 h_base_r1 h_base_r2 : Nat} {z_gains z_below z_across z_square : Value} {q_rank : Int32} {q_spare : Nat → Int64} {q_base_r0 : Nat → Int64} {q_base_r1 : Nat → Int64} {q_base_r2 : Nat → Int64} (C0 : Cx p s m args meth c cX0_fillBase 3 none wsX0_fillBase RX0 (dC, dI) cyI cyJ cyA) (hA : ∀ q : Nat, s.heap.size ≤ q → A q)  : ∀ (s1 : Int32) (l2 : Int32) (v_rank : Int32) (v_rows_r0 : Nat → Int64) (v_rows_r1 : Nat → Int64) (v_rows_r2 : Nat → Int64) (v_spare : Nat → Int64) (v_base_r0 : Nat → Int64) (v_base_r1 : Nat → Int64) (v_base_r2 : Nat → Int64), F_X0_fillBase_121  s1 l2 v_rank v_rows_r0 v_rows_r1 v_rows_r2 v_spare v_base_r0 v_base_r1 v_base_r2 = some (q_rank, q_spare, q_base_r0, q_base_r1, q_base_r2) → ∀ {H : Heap} {locs : List Loc} {ls : Array Slot}, va_P (dC, dI) vwCl [(h_me, .inr (0, [.ref h_rows, z_gains, .int v_rank, z_below, z_across, .ref h_base, z_square, .ref h_spare])), (h_rows, .inl (cyA, 3, .inr (.inr (.inr (.inr (fn3 h_rows_r0 h_rows_r1 h_rows_r2)))))), (h_rows_r0, .inl (cyJ, 3, .inr (.inl v_rows_r0))), (h_rows_r1, .inl (cyJ, 3, .inr (.inl v_rows_r1))), (h_rows_r2, .inl (cyJ, 3, .inr (.inl v_rows_r2))), (h_spare, .inl (cyJ, 3, .inr (.inl v_spare))), (h_base, .inl (cyA, 3, .inr (.inr (.inr (.inr (fn3 h_base_r0 h_base_r1 h_base_r2)))))), (h_base_r0, .inl (cyJ, 3, .inr (.inl v_base_r0))), (h_base_r1, .inl (cyJ, 3, .inr (.inl v_base_r1))), (h_base_r2, .inl (cyJ, 3, .inr (.inl v_base_r2)))] H → va_D A [(h_me, .inr (0, [.ref h_rows, z_gains, .int v_rank, z_below, z_across, .ref h_base, z_square, .ref h_spare])), (h_rows, .inl (cyA, 3, .inr (.inr (.inr (.inr (fn3 h_rows_r0 h_rows_r1 h_rows_r2)))))), (h_rows_r0, .inl (cyJ, 3, .inr (.inl v_rows_r0))), (h_rows_r1, .inl (cyJ, 3, .inr (.inl v_rows_r1))), (h_rows_r2, .inl (cyJ, 3, .inr (.inl v_rows_r2))), (h_spare, .inl (cyJ, 3, .inr (.inl v_spare))), (h_base, .inl (cyA, 3, .inr (.inr (.inr (.inr (fn3 h_base_r0 h_base_r1 h_base_r2)))))), (h_base_r0, .inl (cyJ, 3, .inr (.inl v_base_r0))), (h_base_r1, .inl (cyJ, 3, .inr (.inl v_base_r1))), (h_base_r2, .inl (cyJ, 3, .inr (.inl v_base_r2)))] → va_S A s.heap H locs → lv_has ls 3 [(0, .ref h_me), (2, .int l2)] → W p l e rmX0_fillBase s m args below meth c H locs 0 0 (MQ below (QV (dC, dI) A [(h_me, .inr (0, [.ref h_rows, z_gains, .int q_rank, z_below, z_across, .ref h_base, z_square, .ref h_spare])), (h_rows, .inl (cyA, 3, .inr (.inr (.inr (.inr (fn3 h_rows_r0 h_rows_r1 h_rows_r2)))))), (h_rows_r0, .inl (cyJ, 3, .inr (.inl v_rows_r0))), (h_rows_r1, .inl (cyJ, 3, .inr (.inl v_rows_r1))), (h_rows_r2, .inl (cyJ, 3, .inr (.inl v_rows_r2))), (h_spare, .inl (cyJ, 3, .inr (.inl q_spare))), (h_base, .inl (cyA, 3, .inr (.inr (.inr (.inr (fn3 h_base_r0 h_base_r1 h_base_r2)))))), (h_base_r0, .inl (cyJ, 3, .inr (.inl q_base_r0))), (h_base_r1, .inl (cyJ, 3, .inr (.inl q_base_r1))), (h_base_r2, .inl (cyJ, 3, .inr (.inl q_base_r2)))]) args s 0 0 A) (F0 m 121 ls [.int s1, .ref h_me]) := by
  obtain ⟨hx, hb, hr, hml, hown, hts, hKK, hlocks⟩ := id C0
  have hK := hKK.1
  intro s1 l2 v_rank v_rows_r0 v_rows_r1 v_rows_r2 v_spare v_base_r0 v_base_r1 v_base_r2 hF H locs ls hP hD hS hl
  unfold F_X0_fillBase_121 at hF
  refine my_put (D := (dC, dI)) (ci := 0) (v := .int s1) (ty := .int) (C := RX0) (T := TX0) (N := 8) (ws' := [(h_me, .inr (0, [.ref h_rows, z_gains, .int s1, z_below, z_across, .ref h_base, z_square, .ref h_spare])), (h_rows, .inl (cyA, 3, .inr (.inr (.inr (.inr (fn3 h_rows_r0 h_rows_r1 h_rows_r2)))))), (h_rows_r0, .inl (cyJ, 3, .inr (.inl v_rows_r0))), (h_rows_r1, .inl (cyJ, 3, .inr (.inl v_rows_r1))), (h_rows_r2, .inl (cyJ, 3, .inr (.inl v_rows_r2))), (h_spare, .inl (cyJ, 3, .inr (.inl v_spare))), (h_base, .inl (cyA, 3, .inr (.inr (.inr (.inr (fn3 h_base_r0 h_base_r1 h_base_r2)))))), (h_base_r0, .inl (cyJ, 3, .inr (.inl v_base_r0))), (h_base_r1, .inl (cyJ, 3, .inr (.inl v_base_r1))), (h_base_r2, .inl (cyJ, 3, .inr (.inl v_base_r2)))]) hx hb hts iX0_fillBase_X0 tyX0 tyX0_ok nmX0 hown hK hP hD hS 0 rfl rfl 2 (by decide) (hts _ mX0_fillBase_4) rfl rfl rfl rfl rfl (Nat.le_of_ble_eq_true rfl) dX0_fillBase_121 rfl (fun H locs hP hD hS => ?_)
  refine lv_aload_n hx hb dX0_fillBase_124 rfl (lv_at hl 0 rfl) ?_
  refine my_get (D := (dC, dI)) (ci := 0) (v := .int s1) (C := RX0) (T := TX0) (N := 8) hx hb hts iX0_fillBase_X0 hown hK hP 0 rfl rfl 2 (by decide) (hts _ mX0_fillBase_4) rfl rfl dX0_fillBase_125 ?_
  refine lv_if_ne (tgt := 143) hx hb dX0_fillBase_128 (by decide) (fun c_ => ?_) (fun c_ => ?_)
  · have hF := gel c_ hF
    exact t_X0_fillBase_143 C0 hA   l2 s1 v_rows_r0 v_rows_r1 v_rows_r2 v_spare v_base_r0 v_base_r1 v_base_r2 hF hP hD hS (lv_sub hl [0, 1] rfl)
  · have hF := gif c_ hF
    refine lv_iconst (v := (0 : Int32)) hx hb dX0_fillBase_131 (by decide) ?_
    refine lv_istore_n (lv' := [(2, .int (0 : Int32)), (0, .ref h_me)]) hx hb dX0_fillBase_132 rfl hl (by decide) rfl (fun ls hl => ?_)
    refine lv_aload_n hx hb dX0_fillBase_133 rfl (lv_at hl 1 rfl) ?_
    refine my_get (D := (dC, dI)) (ci := 0) (v := .ref h_base) (C := RX0) (T := TX0) (N := 8) hx hb hts iX0_fillBase_X0 hown hK hP 0 rfl rfl 5 (by decide) (hts _ mX0_fillBase_3) rfl rfl dX0_fillBase_134 ?_
    refine lv_iconst (v := (0 : Int32)) hx hb dX0_fillBase_137 (by decide) ?_
    refine my_ald2 hx hb hK hP 6 2 rfl rfl (in3_0 rfl) dX0_fillBase_138 (v := .ref h_base_r0) rfl ?_
    refine lv_iload_n hx hb dX0_fillBase_139 rfl (lv_at hl 0 rfl) ?_
    obtain ⟨x1_g1, hz1, hF⟩ := bd1_e hF
    refine kc_v (wr := [(h_me, .inr (0, [.ref h_rows, z_gains, .int s1, z_below, z_across, .ref h_base, z_square, .ref h_spare])), (h_rows, .inl (cyA, 3, .inr (.inr (.inr (.inr (fn3 h_rows_r0 h_rows_r1 h_rows_r2)))))), (h_rows_r0, .inl (cyJ, 3, .inr (.inl v_rows_r0))), (h_rows_r1, .inl (cyJ, 3, .inr (.inl v_rows_r1))), (h_rows_r2, .inl (cyJ, 3, .inr (.inl v_rows_r2))), (h_spare, .inl (cyJ, 3, .inr (.inl v_spare))), (h_base, .inl (cyA, 3, .inr (.inr (.inr (.inr (fn3 h_base_r0 h_base_r1 h_base_r2)))))), (h_base_r1, .inl (cyJ, 3, .inr (.inl v_base_r1))), (h_base_r2, .inl (cyJ, 3, .inr (.inl v_base_r2)))]) (ws' := [(h_me, .inr (0, [.ref h_rows, z_gains, .int s1, z_below, z_across, .ref h_base, z_square, .ref h_spare])), (h_rows, .inl (cyA, 3, .inr (.inr (.inr (.inr (fn3 h_rows_r0 h_rows_r1 h_rows_r2)))))), (h_rows_r0, .inl (cyJ, 3, .inr (.inl v_rows_r0))), (h_rows_r1, .inl (cyJ, 3, .inr (.inl v_rows_r1))), (h_rows_r2, .inl (cyJ, 3, .inr (.inl v_rows_r2))), (h_spare, .inl (cyJ, 3, .inr (.inl v_spare))), (h_base, .inl (cyA, 3, .inr (.inr (.inr (.inr (fn3 h_base_r0 h_base_r1 h_base_r2)))))), (h_base_r0, .inl (cyJ, 3, .inr (.inl x1_g1))), (h_base_r1, .inl (cyJ, 3, .inr (.inl v_base_r1))), (h_base_r2, .inl (cyJ, 3, .inr (.inl v_base_r2)))]) (va_runSN (As := [.ref h_base_r0, .int (0 : Int32)]) (rest := []) ⟨hx, hb, hml, hown, hts⟩ (c_X4_setUnit l dC dI cyI cyJ cyA h_base_r0  v_base_r0 (0 : Int32) hz1 _) ⟨va_cnB 2 hts gX0_fillBase_X4_setUnit_n78 rfl rfl rfl (NS.w_X0_78 hKK.2) (hts _ mX0_fillBase_6) ndX4_setUnit.2 ⟨Nat.le_of_ble_eq_true rfl, Nat.le_of_ble_eq_true rfl⟩, hts _ mX0_fillBase_14, trivial⟩ (pre_S hKK hP hD [7] (by decide) rfl rfl) rfl rfl hl.1 rfl (lv_room (Nat.le_of_ble_eq_true rfl)) dX0_fillBase_140 ⟨Nat.le_of_ble_eq_true rfl, Nat.le_of_ble_eq_true rfl⟩) hP hD hS hA [7] [0, 1, 2, 3, 4, 5, 6, 8, 9] [0, 1, 2, 3, 4, 5, 6, 9, 7, 8] rfl rfl (by decide) (by decide) (by decide) rfl rfl (fun H locs hP hD hS => ?_)
    exact t_X0_fillBase_143 C0 hA   (0 : Int32) s1 v_rows_r0 v_rows_r1 v_rows_r2 v_spare x1_g1 v_base_r1 v_base_r2 hF hP hD hS (lv_sub hl [1, 0] rfl)
set_option maxHeartbeats 4000000 in
set_option maxRecDepth 100000 in
theorem t_X0_fillBase_21 {p : Program} {l : Launch} {e : Env} {s : State} {m : MethodId} {args : Array Value} {below : List Frame} {meth : Method} {c : Code} {dC : Nat → ClassId} {dI : Nat → Nat → Nat} {cyI cyJ cyA : ClassId} {A : Nat → Prop} {h_me h_rows h_rows_r0 h_rows_r1 h_rows_r2 h_spare h_base h_base_r0 h_base_r1 h_base_r2 : Nat} {z_gains z_below z_across z_square : Value} {q_rank : Int32} {q_spare : Nat → Int64} {q_base_r0 : Nat → Int64} {q_base_r1 : Nat → Int64} {q_base_r2 : Nat → Int64} (C0 : Cx p s m args meth c cX0_fillBase 3 none wsX0_fillBase RX0 (dC, dI) cyI cyJ cyA) (hA : ∀ q : Nat, s.heap.size ≤ q → A q)  : ∀ (n : Nat) (l1 : Int32) (v_rank : Int32) (v_rows_r0 : Nat → Int64) (v_rows_r1 : Nat → Int64) (v_rows_r2 : Nat → Int64) (v_spare : Nat → Int64) (v_base_r0 : Nat → Int64) (v_base_r1 : Nat → Int64) (v_base_r2 : Nat → Int64), F_X0_fillBase_21  n l1 v_rank v_rows_r0 v_rows_r1 v_rows_r2 v_spare v_base_r0 v_base_r1 v_base_r2 = some (q_rank, q_spare, q_base_r0, q_base_r1, q_base_r2) → ∀ {H : Heap} {locs : List Loc} {ls : Array Slot}, va_P (dC, dI) vwCl [(h_me, .inr (0, [.ref h_rows, z_gains, .int v_rank, z_below, z_across, .ref h_base, z_square, .ref h_spare])), (h_rows, .inl (cyA, 3, .inr (.inr (.inr (.inr (fn3 h_rows_r0 h_rows_r1 h_rows_r2)))))), (h_rows_r0, .inl (cyJ, 3, .inr (.inl v_rows_r0))), (h_rows_r1, .inl (cyJ, 3, .inr (.inl v_rows_r1))), (h_rows_r2, .inl (cyJ, 3, .inr (.inl v_rows_r2))), (h_spare, .inl (cyJ, 3, .inr (.inl v_spare))), (h_base, .inl (cyA, 3, .inr (.inr (.inr (.inr (fn3 h_base_r0 h_base_r1 h_base_r2)))))), (h_base_r0, .inl (cyJ, 3, .inr (.inl v_base_r0))), (h_base_r1, .inl (cyJ, 3, .inr (.inl v_base_r1))), (h_base_r2, .inl (cyJ, 3, .inr (.inl v_base_r2)))] H → va_D A [(h_me, .inr (0, [.ref h_rows, z_gains, .int v_rank, z_below, z_across, .ref h_base, z_square, .ref h_spare])), (h_rows, .inl (cyA, 3, .inr (.inr (.inr (.inr (fn3 h_rows_r0 h_rows_r1 h_rows_r2)))))), (h_rows_r0, .inl (cyJ, 3, .inr (.inl v_rows_r0))), (h_rows_r1, .inl (cyJ, 3, .inr (.inl v_rows_r1))), (h_rows_r2, .inl (cyJ, 3, .inr (.inl v_rows_r2))), (h_spare, .inl (cyJ, 3, .inr (.inl v_spare))), (h_base, .inl (cyA, 3, .inr (.inr (.inr (.inr (fn3 h_base_r0 h_base_r1 h_base_r2)))))), (h_base_r0, .inl (cyJ, 3, .inr (.inl v_base_r0))), (h_base_r1, .inl (cyJ, 3, .inr (.inl v_base_r1))), (h_base_r2, .inl (cyJ, 3, .inr (.inl v_base_r2)))] → va_S A s.heap H locs → lv_has ls 3 [(0, .ref h_me), (1, .int l1)] → W p l e rmX0_fillBase s m args below meth c H locs 0 0 (MQ below (QV (dC, dI) A [(h_me, .inr (0, [.ref h_rows, z_gains, .int q_rank, z_below, z_across, .ref h_base, z_square, .ref h_spare])), (h_rows, .inl (cyA, 3, .inr (.inr (.inr (.inr (fn3 h_rows_r0 h_rows_r1 h_rows_r2)))))), (h_rows_r0, .inl (cyJ, 3, .inr (.inl v_rows_r0))), (h_rows_r1, .inl (cyJ, 3, .inr (.inl v_rows_r1))), (h_rows_r2, .inl (cyJ, 3, .inr (.inl v_rows_r2))), (h_spare, .inl (cyJ, 3, .inr (.inl q_spare))), (h_base, .inl (cyA, 3, .inr (.inr (.inr (.inr (fn3 h_base_r0 h_base_r1 h_base_r2)))))), (h_base_r0, .inl (cyJ, 3, .inr (.inl q_base_r0))), (h_base_r1, .inl (cyJ, 3, .inr (.inl q_base_r1))), (h_base_r2, .inl (cyJ, 3, .inr (.inl q_base_r2)))]) args s 0 0 A) (F0 m 21 ls []) := by
  obtain ⟨hx, hb, hr, hml, hown, hts, hKK, hlocks⟩ := id C0
  have hK := hKK.1
  intro n
  induction n with
  | zero => intro l1 v_rank v_rows_r0 v_rows_r1 v_rows_r2 v_spare v_base_r0 v_base_r1 v_base_r2 hF; rw [F_X0_fillBase_21] at hF; cases hF
  | succ n ih =>
      intro l1 v_rank v_rows_r0 v_rows_r1 v_rows_r2 v_spare v_base_r0 v_base_r1 v_base_r2 hF H locs ls hP hD hS hl
      rw [F_X0_fillBase_21] at hF
      refine lv_iload_n hx hb dX0_fillBase_21 rfl (lv_at hl 1 rfl) ?_
      refine lv_iconst (v := (3 : Int32)) hx hb dX0_fillBase_22 (by decide) ?_
      refine lv_icmp_ge (tgt := 47) hx hb dX0_fillBase_23 (by decide) (fun c_ => ?_) (fun c_ => ?_)
      · have hF := gif c_ hF
        refine lv_aload_n hx hb dX0_fillBase_47 rfl (lv_at hl 0 rfl) ?_
        refine my_get (D := (dC, dI)) (ci := 0) (v := .ref h_spare) (C := RX0) (T := TX0) (N := 8) hx hb hts iX0_fillBase_X0 hown hK hP 0 rfl rfl 7 (by decide) (hts _ mX0_fillBase_2) rfl rfl dX0_fillBase_48 ?_
        refine lv_aload_n hx hb dX0_fillBase_51 rfl (lv_at hl 0 rfl) ?_
        refine my_get (D := (dC, dI)) (ci := 0) (v := .ref h_rows) (C := RX0) (T := TX0) (N := 8) hx hb hts iX0_fillBase_X0 hown hK hP 0 rfl rfl 0 (by decide) (hts _ mX0_fillBase_1) rfl rfl dX0_fillBase_52 ?_
        refine lv_iconst (v := (2 : Int32)) hx hb dX0_fillBase_55 (by decide) ?_
        refine my_ald2 hx hb hK hP 1 2 rfl rfl (in3_2 rfl) dX0_fillBase_56 (v := .ref h_rows_r2) rfl ?_
        obtain ⟨r1, hz1, hF⟩ := bd1_e hF
        refine kc_l (wr := [(h_me, .inr (0, [.ref h_rows, z_gains, .int v_rank, z_below, z_across, .ref h_base, z_square, .ref h_spare])), (h_rows, .inl (cyA, 3, .inr (.inr (.inr (.inr (fn3 h_rows_r0 h_rows_r1 h_rows_r2)))))), (h_rows_r0, .inl (cyJ, 3, .inr (.inl v_rows_r0))), (h_rows_r1, .inl (cyJ, 3, .inr (.inl v_rows_r1))), (h_base, .inl (cyA, 3, .inr (.inr (.inr (.inr (fn3 h_base_r0 h_base_r1 h_base_r2)))))), (h_base_r0, .inl (cyJ, 3, .inr (.inl v_base_r0))), (h_base_r1, .inl (cyJ, 3, .inr (.inl v_base_r1))), (h_base_r2, .inl (cyJ, 3, .inr (.inl v_base_r2)))]) (ws' := [(h_me, .inr (0, [.ref h_rows, z_gains, .int v_rank, z_below, z_across, .ref h_base, z_square, .ref h_spare])), (h_rows, .inl (cyA, 3, .inr (.inr (.inr (.inr (fn3 h_rows_r0 h_rows_r1 h_rows_r2)))))), (h_rows_r0, .inl (cyJ, 3, .inr (.inl v_rows_r0))), (h_rows_r1, .inl (cyJ, 3, .inr (.inl v_rows_r1))), (h_rows_r2, .inl (cyJ, 3, .inr (.inl v_rows_r2))), (h_spare, .inl (cyJ, 3, .inr (.inl v_spare))), (h_base, .inl (cyA, 3, .inr (.inr (.inr (.inr (fn3 h_base_r0 h_base_r1 h_base_r2)))))), (h_base_r0, .inl (cyJ, 3, .inr (.inl v_base_r0))), (h_base_r1, .inl (cyJ, 3, .inr (.inl v_base_r1))), (h_base_r2, .inl (cyJ, 3, .inr (.inl v_base_r2)))]) (va_runSN (As := [.ref h_spare, .ref h_rows_r2]) (rest := []) ⟨hx, hb, hml, hown, hts⟩ (c_X4_dot l dC dI cyI cyJ cyA h_spare h_rows_r2  v_spare v_rows_r2  hz1 _) ⟨va_cnB 2 hts gX0_fillBase_X4_dot_n58 rfl rfl rfl (NS.w_X0_58 hKK.2) (hts _ mX0_fillBase_6) ndX4_dot.2 ⟨Nat.le_of_ble_eq_true rfl, Nat.le_of_ble_eq_true rfl⟩, hts _ mX0_fillBase_10, trivial⟩ (pre_S hKK hP hD [5, 4] (by decide) rfl rfl) rfl rfl hl.1 rfl (lv_room (Nat.le_of_ble_eq_true rfl)) dX0_fillBase_57 ⟨Nat.le_of_ble_eq_true rfl, Nat.le_of_ble_eq_true rfl⟩) hP hD hS hA [5, 4] [0, 1, 2, 3, 6, 7, 8, 9] [0, 1, 2, 3, 9, 8, 4, 5, 6, 7] rfl rfl (by decide) (by decide) (by decide) rfl rfl (fun H locs hP hD hS => ?_)
        refine lv_lconst (v := (0 : Int64)) hx hb dX0_fillBase_60 (by decide) ?_
        refine W.lcmp hx hb dX0_fillBase_61 ?_
        refine lv_if_eq (tgt := 71) hx hb dX0_fillBase_62 (by decide) (fun c_ => ?_) (fun c_ => ?_)
        · have hF := gif c_ hF
          refine lv_aload_n hx hb dX0_fillBase_71 rfl (lv_at hl 0 rfl) ?_
          refine my_get (D := (dC, dI)) (ci := 0) (v := .ref h_spare) (C := RX0) (T := TX0) (N := 8) hx hb hts iX0_fillBase_X0 hown hK hP 0 rfl rfl 7 (by decide) (hts _ mX0_fillBase_2) rfl rfl dX0_fillBase_72 ?_
          obtain ⟨r2, hz2, hF⟩ := bd1_e hF
          refine kc_i (wr := [(h_me, .inr (0, [.ref h_rows, z_gains, .int v_rank, z_below, z_across, .ref h_base, z_square, .ref h_spare])), (h_rows, .inl (cyA, 3, .inr (.inr (.inr (.inr (fn3 h_rows_r0 h_rows_r1 h_rows_r2)))))), (h_rows_r0, .inl (cyJ, 3, .inr (.inl v_rows_r0))), (h_rows_r1, .inl (cyJ, 3, .inr (.inl v_rows_r1))), (h_rows_r2, .inl (cyJ, 3, .inr (.inl v_rows_r2))), (h_base, .inl (cyA, 3, .inr (.inr (.inr (.inr (fn3 h_base_r0 h_base_r1 h_base_r2)))))), (h_base_r0, .inl (cyJ, 3, .inr (.inl v_base_r0))), (h_base_r1, .inl (cyJ, 3, .inr (.inl v_base_r1))), (h_base_r2, .inl (cyJ, 3, .inr (.inl v_base_r2)))]) (ws' := [(h_me, .inr (0, [.ref h_rows, z_gains, .int v_rank, z_below, z_across, .ref h_base, z_square, .ref h_spare])), (h_rows, .inl (cyA, 3, .inr (.inr (.inr (.inr (fn3 h_rows_r0 h_rows_r1 h_rows_r2)))))), (h_rows_r0, .inl (cyJ, 3, .inr (.inl v_rows_r0))), (h_rows_r1, .inl (cyJ, 3, .inr (.inl v_rows_r1))), (h_rows_r2, .inl (cyJ, 3, .inr (.inl v_rows_r2))), (h_spare, .inl (cyJ, 3, .inr (.inl v_spare))), (h_base, .inl (cyA, 3, .inr (.inr (.inr (.inr (fn3 h_base_r0 h_base_r1 h_base_r2)))))), (h_base_r0, .inl (cyJ, 3, .inr (.inl v_base_r0))), (h_base_r1, .inl (cyJ, 3, .inr (.inl v_base_r1))), (h_base_r2, .inl (cyJ, 3, .inr (.inl v_base_r2)))]) (va_runSN (As := [.ref h_spare]) (rest := []) ⟨hx, hb, hml, hown, hts⟩ (c_X4_firstNotZero l dC dI cyI cyJ cyA h_spare  v_spare  hz2 _) ⟨va_cnB 1 hts gX0_fillBase_X4_firstNotZero_n74 rfl rfl rfl (NS.w_X0_74 hKK.2) (hts _ mX0_fillBase_6) ndX4_firstNotZero.2 ⟨Nat.le_of_ble_eq_true rfl, Nat.le_of_ble_eq_true rfl⟩, hts _ mX0_fillBase_12, trivial⟩ (pre_S hKK hP hD [5] (by decide) rfl rfl) rfl rfl hl.1 rfl (lv_room (Nat.le_of_ble_eq_true rfl)) dX0_fillBase_75 ⟨Nat.le_of_ble_eq_true rfl, Nat.le_of_ble_eq_true rfl⟩) hP hD hS hA [5] [0, 1, 2, 3, 4, 6, 7, 8, 9] [0, 1, 2, 3, 4, 9, 5, 6, 7, 8] rfl rfl (by decide) (by decide) (by decide) rfl rfl (fun H locs hP hD hS => ?_)
          refine lv_istore_n (lv' := [(1, .int r2), (0, .ref h_me)]) hx hb dX0_fillBase_78 rfl hl (by decide) rfl (fun ls hl => ?_)
          refine lv_iload_n hx hb dX0_fillBase_79 rfl (lv_at hl 0 rfl) ?_
          refine lv_iconst (v := (3 : Int32)) hx hb dX0_fillBase_80 (by decide) ?_
          refine lv_icmp_ge (tgt := 100) hx hb dX0_fillBase_81 (by decide) (fun c_ => ?_) (fun c_ => ?_)
          · have hF := gif c_ hF
            refine lv_aload_n hx hb dX0_fillBase_100 rfl (lv_at hl 1 rfl) ?_
            refine my_get (D := (dC, dI)) (ci := 0) (v := .ref h_rows) (C := RX0) (T := TX0) (N := 8) hx hb hts iX0_fillBase_X0 hown hK hP 0 rfl rfl 0 (by decide) (hts _ mX0_fillBase_1) rfl rfl dX0_fillBase_101 ?_
            refine lv_iconst (v := (0 : Int32)) hx hb dX0_fillBase_104 (by decide) ?_
            refine my_ald2 hx hb hK hP 1 2 rfl rfl (in3_0 rfl) dX0_fillBase_105 (v := .ref h_rows_r0) rfl ?_
            obtain ⟨r3, hz3, hF⟩ := bd1_e hF
            refine kc_i (wr := [(h_me, .inr (0, [.ref h_rows, z_gains, .int v_rank, z_below, z_across, .ref h_base, z_square, .ref h_spare])), (h_rows, .inl (cyA, 3, .inr (.inr (.inr (.inr (fn3 h_rows_r0 h_rows_r1 h_rows_r2)))))), (h_rows_r1, .inl (cyJ, 3, .inr (.inl v_rows_r1))), (h_rows_r2, .inl (cyJ, 3, .inr (.inl v_rows_r2))), (h_spare, .inl (cyJ, 3, .inr (.inl v_spare))), (h_base, .inl (cyA, 3, .inr (.inr (.inr (.inr (fn3 h_base_r0 h_base_r1 h_base_r2)))))), (h_base_r0, .inl (cyJ, 3, .inr (.inl v_base_r0))), (h_base_r1, .inl (cyJ, 3, .inr (.inl v_base_r1))), (h_base_r2, .inl (cyJ, 3, .inr (.inl v_base_r2)))]) (ws' := [(h_me, .inr (0, [.ref h_rows, z_gains, .int v_rank, z_below, z_across, .ref h_base, z_square, .ref h_spare])), (h_rows, .inl (cyA, 3, .inr (.inr (.inr (.inr (fn3 h_rows_r0 h_rows_r1 h_rows_r2)))))), (h_rows_r0, .inl (cyJ, 3, .inr (.inl v_rows_r0))), (h_rows_r1, .inl (cyJ, 3, .inr (.inl v_rows_r1))), (h_rows_r2, .inl (cyJ, 3, .inr (.inl v_rows_r2))), (h_spare, .inl (cyJ, 3, .inr (.inl v_spare))), (h_base, .inl (cyA, 3, .inr (.inr (.inr (.inr (fn3 h_base_r0 h_base_r1 h_base_r2)))))), (h_base_r0, .inl (cyJ, 3, .inr (.inl v_base_r0))), (h_base_r1, .inl (cyJ, 3, .inr (.inl v_base_r1))), (h_base_r2, .inl (cyJ, 3, .inr (.inl v_base_r2)))]) (va_runSN (As := [.ref h_rows_r0]) (rest := []) ⟨hx, hb, hml, hown, hts⟩ (c_X4_firstNotZero l dC dI cyI cyJ cyA h_rows_r0  v_rows_r0  hz3 _) ⟨va_cnB 1 hts gX0_fillBase_X4_firstNotZero_n74 rfl rfl rfl (NS.w_X0_74 hKK.2) (hts _ mX0_fillBase_6) ndX4_firstNotZero.2 ⟨Nat.le_of_ble_eq_true rfl, Nat.le_of_ble_eq_true rfl⟩, hts _ mX0_fillBase_12, trivial⟩ (pre_S hKK hP hD [2] (by decide) rfl rfl) rfl rfl hl.1 rfl (lv_room (Nat.le_of_ble_eq_true rfl)) dX0_fillBase_106 ⟨Nat.le_of_ble_eq_true rfl, Nat.le_of_ble_eq_true rfl⟩) hP hD hS hA [2] [0, 1, 3, 4, 5, 6, 7, 8, 9] [0, 1, 9, 2, 3, 4, 5, 6, 7, 8] rfl rfl (by decide) (by decide) (by decide) rfl rfl (fun H locs hP hD hS => ?_)
            refine lv_istore_n (lv' := [(2, .int r3), (1, .int r2), (0, .ref h_me)]) hx hb dX0_fillBase_109 rfl hl (by decide) rfl (fun ls hl => ?_)
            refine lv_aload_n hx hb dX0_fillBase_110 rfl (lv_at hl 2 rfl) ?_
            refine lv_iload_n hx hb dX0_fillBase_111 rfl (lv_at hl 0 rfl) ?_
            refine lv_iconst (v := (3 : Int32)) hx hb dX0_fillBase_112 (by decide) ?_
            refine lv_icmp_ge (tgt := 120) hx hb dX0_fillBase_113 (by decide) (fun c_ => ?_) (fun c_ => ?_)
            · have hF := gif c_ hF
              refine lv_iconst (v := (0 : Int32)) hx hb dX0_fillBase_120 (by decide) ?_
              exact t_X0_fillBase_121 C0 hA   (0 : Int32) r3 v_rank v_rows_r0 v_rows_r1 v_rows_r2 v_spare v_base_r0 v_base_r1 v_base_r2 hF hP hD hS (lv_sub hl [2, 0] rfl)
            · have hF := gel c_ hF
              refine lv_iconst (v := (1 : Int32)) hx hb dX0_fillBase_116 (by decide) ?_
              refine lv_goto (tgt := 121) hx hb dX0_fillBase_117 (by decide) ?_
              exact t_X0_fillBase_121 C0 hA   (1 : Int32) r3 v_rank v_rows_r0 v_rows_r1 v_rows_r2 v_spare v_base_r0 v_base_r1 v_base_r2 hF hP hD hS (lv_sub hl [2, 0] rfl)
          · have hF := gel c_ hF
            refine lv_aload_n hx hb dX0_fillBase_84 rfl (lv_at hl 1 rfl) ?_
            refine lv_iconst (v := (2 : Int32)) hx hb dX0_fillBase_85 (by decide) ?_
            refine my_put (D := (dC, dI)) (ci := 0) (v := .int (2 : Int32)) (ty := .int) (C := RX0) (T := TX0) (N := 8) (ws' := [(h_me, .inr (0, [.ref h_rows, z_gains, .int (2 : Int32), z_below, z_across, .ref h_base, z_square, .ref h_spare])), (h_rows, .inl (cyA, 3, .inr (.inr (.inr (.inr (fn3 h_rows_r0 h_rows_r1 h_rows_r2)))))), (h_rows_r0, .inl (cyJ, 3, .inr (.inl v_rows_r0))), (h_rows_r1, .inl (cyJ, 3, .inr (.inl v_rows_r1))), (h_rows_r2, .inl (cyJ, 3, .inr (.inl v_rows_r2))), (h_spare, .inl (cyJ, 3, .inr (.inl v_spare))), (h_base, .inl (cyA, 3, .inr (.inr (.inr (.inr (fn3 h_base_r0 h_base_r1 h_base_r2)))))), (h_base_r0, .inl (cyJ, 3, .inr (.inl v_base_r0))), (h_base_r1, .inl (cyJ, 3, .inr (.inl v_base_r1))), (h_base_r2, .inl (cyJ, 3, .inr (.inl v_base_r2)))]) hx hb hts iX0_fillBase_X0 tyX0 tyX0_ok nmX0 hown hK hP hD hS 0 rfl rfl 2 (by decide) (hts _ mX0_fillBase_4) rfl rfl rfl rfl rfl (Nat.le_of_ble_eq_true rfl) dX0_fillBase_86 rfl (fun H locs hP hD hS => ?_)
            refine lv_aload_n hx hb dX0_fillBase_89 rfl (lv_at hl 1 rfl) ?_
            refine my_get (D := (dC, dI)) (ci := 0) (v := .ref h_base) (C := RX0) (T := TX0) (N := 8) hx hb hts iX0_fillBase_X0 hown hK hP 0 rfl rfl 5 (by decide) (hts _ mX0_fillBase_3) rfl rfl dX0_fillBase_90 ?_
            refine lv_iconst (v := (2 : Int32)) hx hb dX0_fillBase_93 (by decide) ?_
            refine my_ald2 hx hb hK hP 6 2 rfl rfl (in3_2 rfl) dX0_fillBase_94 (v := .ref h_base_r2) rfl ?_
            refine lv_iload_n hx hb dX0_fillBase_95 rfl (lv_at hl 0 rfl) ?_
            obtain ⟨x4_g1, hz4, hF⟩ := bd1_e hF
            refine kc_v (wr := [(h_me, .inr (0, [.ref h_rows, z_gains, .int (2 : Int32), z_below, z_across, .ref h_base, z_square, .ref h_spare])), (h_rows, .inl (cyA, 3, .inr (.inr (.inr (.inr (fn3 h_rows_r0 h_rows_r1 h_rows_r2)))))), (h_rows_r0, .inl (cyJ, 3, .inr (.inl v_rows_r0))), (h_rows_r1, .inl (cyJ, 3, .inr (.inl v_rows_r1))), (h_rows_r2, .inl (cyJ, 3, .inr (.inl v_rows_r2))), (h_spare, .inl (cyJ, 3, .inr (.inl v_spare))), (h_base, .inl (cyA, 3, .inr (.inr (.inr (.inr (fn3 h_base_r0 h_base_r1 h_base_r2)))))), (h_base_r0, .inl (cyJ, 3, .inr (.inl v_base_r0))), (h_base_r1, .inl (cyJ, 3, .inr (.inl v_base_r1)))]) (ws' := [(h_me, .inr (0, [.ref h_rows, z_gains, .int (2 : Int32), z_below, z_across, .ref h_base, z_square, .ref h_spare])), (h_rows, .inl (cyA, 3, .inr (.inr (.inr (.inr (fn3 h_rows_r0 h_rows_r1 h_rows_r2)))))), (h_rows_r0, .inl (cyJ, 3, .inr (.inl v_rows_r0))), (h_rows_r1, .inl (cyJ, 3, .inr (.inl v_rows_r1))), (h_rows_r2, .inl (cyJ, 3, .inr (.inl v_rows_r2))), (h_spare, .inl (cyJ, 3, .inr (.inl v_spare))), (h_base, .inl (cyA, 3, .inr (.inr (.inr (.inr (fn3 h_base_r0 h_base_r1 h_base_r2)))))), (h_base_r0, .inl (cyJ, 3, .inr (.inl v_base_r0))), (h_base_r1, .inl (cyJ, 3, .inr (.inl v_base_r1))), (h_base_r2, .inl (cyJ, 3, .inr (.inl x4_g1)))]) (va_runSN (As := [.ref h_base_r2, .int r2]) (rest := []) ⟨hx, hb, hml, hown, hts⟩ (c_X4_setUnit l dC dI cyI cyJ cyA h_base_r2  v_base_r2 r2 hz4 _) ⟨va_cnB 2 hts gX0_fillBase_X4_setUnit_n78 rfl rfl rfl (NS.w_X0_78 hKK.2) (hts _ mX0_fillBase_6) ndX4_setUnit.2 ⟨Nat.le_of_ble_eq_true rfl, Nat.le_of_ble_eq_true rfl⟩, hts _ mX0_fillBase_14, trivial⟩ (pre_S hKK hP hD [9] (by decide) rfl rfl) rfl rfl hl.1 rfl (lv_room (Nat.le_of_ble_eq_true rfl)) dX0_fillBase_96 ⟨Nat.le_of_ble_eq_true rfl, Nat.le_of_ble_eq_true rfl⟩) hP hD hS hA [9] [0, 1, 2, 3, 4, 5, 6, 7, 8] [0, 1, 2, 3, 4, 5, 6, 7, 8, 9] rfl rfl (by decide) (by decide) (by decide) rfl rfl (fun H locs hP hD hS => ?_)
            cases hF
            exact W.vret hx hb hr (fun t ht hW => ⟨⟨(), rfl, trivial, by rw [ht]; exact hP, hD⟩, hS.F ht⟩) hS.2.2 dX0_fillBase_99
        · have hF := gel c_ hF
          refine lv_aload_n hx hb dX0_fillBase_65 rfl (lv_at hl 0 rfl) ?_
          refine lv_iconst (v := (3 : Int32)) hx hb dX0_fillBase_66 (by decide) ?_
          refine my_put (D := (dC, dI)) (ci := 0) (v := .int (3 : Int32)) (ty := .int) (C := RX0) (T := TX0) (N := 8) (ws' := [(h_me, .inr (0, [.ref h_rows, z_gains, .int (3 : Int32), z_below, z_across, .ref h_base, z_square, .ref h_spare])), (h_rows, .inl (cyA, 3, .inr (.inr (.inr (.inr (fn3 h_rows_r0 h_rows_r1 h_rows_r2)))))), (h_rows_r0, .inl (cyJ, 3, .inr (.inl v_rows_r0))), (h_rows_r1, .inl (cyJ, 3, .inr (.inl v_rows_r1))), (h_rows_r2, .inl (cyJ, 3, .inr (.inl v_rows_r2))), (h_spare, .inl (cyJ, 3, .inr (.inl v_spare))), (h_base, .inl (cyA, 3, .inr (.inr (.inr (.inr (fn3 h_base_r0 h_base_r1 h_base_r2)))))), (h_base_r0, .inl (cyJ, 3, .inr (.inl v_base_r0))), (h_base_r1, .inl (cyJ, 3, .inr (.inl v_base_r1))), (h_base_r2, .inl (cyJ, 3, .inr (.inl v_base_r2)))]) hx hb hts iX0_fillBase_X0 tyX0 tyX0_ok nmX0 hown hK hP hD hS 0 rfl rfl 2 (by decide) (hts _ mX0_fillBase_4) rfl rfl rfl rfl rfl (Nat.le_of_ble_eq_true rfl) dX0_fillBase_67 rfl (fun H locs hP hD hS => ?_)
          cases hF
          exact W.vret hx hb hr (fun t ht hW => ⟨⟨(), rfl, trivial, by rw [ht]; exact hP, hD⟩, hS.F ht⟩) hS.2.2 dX0_fillBase_70
      · have hF := gel c_ hF
        refine lv_aload_n hx hb dX0_fillBase_26 rfl (lv_at hl 0 rfl) ?_
        refine my_get (D := (dC, dI)) (ci := 0) (v := .ref h_rows) (C := RX0) (T := TX0) (N := 8) hx hb hts iX0_fillBase_X0 hown hK hP 0 rfl rfl 0 (by decide) (hts _ mX0_fillBase_1) rfl rfl dX0_fillBase_27 ?_
        refine lv_iload_n hx hb dX0_fillBase_30 rfl (lv_at hl 1 rfl) ?_
        rcases sel3 hF with ⟨c_, hF⟩ | ⟨c_, hF⟩ | ⟨c_, hF⟩
        · refine my_ald2 hx hb hK hP 1 2 rfl rfl (in3_0 c_) dX0_fillBase_31 (v := .ref h_rows_r0) (by rw [c_]; rfl) ?_
          refine lv_aload_n hx hb dX0_fillBase_32 rfl (lv_at hl 0 rfl) ?_
          refine my_get (D := (dC, dI)) (ci := 0) (v := .ref h_base) (C := RX0) (T := TX0) (N := 8) hx hb hts iX0_fillBase_X0 hown hK hP 0 rfl rfl 5 (by decide) (hts _ mX0_fillBase_3) rfl rfl dX0_fillBase_33 ?_
          refine lv_iload_n hx hb dX0_fillBase_36 rfl (lv_at hl 1 rfl) ?_
          rcases sel3 hF with ⟨c_, hF⟩ | ⟨c_, hF⟩ | ⟨c_, hF⟩
          · refine my_ald2 hx hb hK hP 6 2 rfl rfl (in3_0 c_) dX0_fillBase_37 (v := .ref h_base_r0) (by rw [c_]; rfl) ?_
            obtain ⟨x5_g2, hz5, hF⟩ := bd1_e hF
            refine kc_v (wr := [(h_me, .inr (0, [.ref h_rows, z_gains, .int v_rank, z_below, z_across, .ref h_base, z_square, .ref h_spare])), (h_rows, .inl (cyA, 3, .inr (.inr (.inr (.inr (fn3 h_rows_r0 h_rows_r1 h_rows_r2)))))), (h_rows_r1, .inl (cyJ, 3, .inr (.inl v_rows_r1))), (h_rows_r2, .inl (cyJ, 3, .inr (.inl v_rows_r2))), (h_spare, .inl (cyJ, 3, .inr (.inl v_spare))), (h_base, .inl (cyA, 3, .inr (.inr (.inr (.inr (fn3 h_base_r0 h_base_r1 h_base_r2)))))), (h_base_r1, .inl (cyJ, 3, .inr (.inl v_base_r1))), (h_base_r2, .inl (cyJ, 3, .inr (.inl v_base_r2)))]) (ws' := [(h_me, .inr (0, [.ref h_rows, z_gains, .int v_rank, z_below, z_across, .ref h_base, z_square, .ref h_spare])), (h_rows, .inl (cyA, 3, .inr (.inr (.inr (.inr (fn3 h_rows_r0 h_rows_r1 h_rows_r2)))))), (h_rows_r0, .inl (cyJ, 3, .inr (.inl v_rows_r0))), (h_rows_r1, .inl (cyJ, 3, .inr (.inl v_rows_r1))), (h_rows_r2, .inl (cyJ, 3, .inr (.inl v_rows_r2))), (h_spare, .inl (cyJ, 3, .inr (.inl v_spare))), (h_base, .inl (cyA, 3, .inr (.inr (.inr (.inr (fn3 h_base_r0 h_base_r1 h_base_r2)))))), (h_base_r0, .inl (cyJ, 3, .inr (.inl x5_g2))), (h_base_r1, .inl (cyJ, 3, .inr (.inl v_base_r1))), (h_base_r2, .inl (cyJ, 3, .inr (.inl v_base_r2)))]) (va_runSN (As := [.ref h_rows_r0, .ref h_base_r0]) (rest := []) ⟨hx, hb, hml, hown, hts⟩ (c_X4_copy l dC dI cyI cyJ cyA h_rows_r0 h_base_r0  v_rows_r0 v_base_r0  hz5 _) ⟨va_cnB 2 hts gX0_fillBase_X4_copy_n70 rfl rfl rfl (NS.w_X0_70 hKK.2) (hts _ mX0_fillBase_6) ndX4_copy.2 ⟨Nat.le_of_ble_eq_true rfl, Nat.le_of_ble_eq_true rfl⟩, hts _ mX0_fillBase_8, trivial⟩ (pre_S hKK hP hD [2, 7] (by decide) rfl rfl) rfl rfl hl.1 rfl (lv_room (Nat.le_of_ble_eq_true rfl)) dX0_fillBase_38 ⟨Nat.le_of_ble_eq_true rfl, Nat.le_of_ble_eq_true rfl⟩) hP hD hS hA [2, 7] [0, 1, 3, 4, 5, 6, 8, 9] [0, 1, 8, 2, 3, 4, 5, 9, 6, 7] rfl rfl (by decide) (by decide) (by decide) rfl rfl (fun H locs hP hD hS => ?_)
            refine lv_iinc (v := (l1 + (1 : Int32))) (lv' := [(1, .int (l1 + (1 : Int32))), (0, .ref h_me)]) hx hb dX0_fillBase_41 hl (k := 1) rfl (by rfl) (by decide) rfl (fun ls hl => ?_)
            refine lv_goto (tgt := 21) hx hb dX0_fillBase_44 (by decide) ?_
            exact ih (l1 + (1 : Int32)) v_rank v_rows_r0 v_rows_r1 v_rows_r2 v_spare x5_g2 v_base_r1 v_base_r2 hF hP hD hS (lv_sub hl [1, 0] rfl)
          · refine my_ald2 hx hb hK hP 6 2 rfl rfl (in3_1 c_) dX0_fillBase_37 (v := .ref h_base_r1) (by rw [c_]; rfl) ?_
            obtain ⟨x6_g2, hz6, hF⟩ := bd1_e hF
            refine kc_v (wr := [(h_me, .inr (0, [.ref h_rows, z_gains, .int v_rank, z_below, z_across, .ref h_base, z_square, .ref h_spare])), (h_rows, .inl (cyA, 3, .inr (.inr (.inr (.inr (fn3 h_rows_r0 h_rows_r1 h_rows_r2)))))), (h_rows_r1, .inl (cyJ, 3, .inr (.inl v_rows_r1))), (h_rows_r2, .inl (cyJ, 3, .inr (.inl v_rows_r2))), (h_spare, .inl (cyJ, 3, .inr (.inl v_spare))), (h_base, .inl (cyA, 3, .inr (.inr (.inr (.inr (fn3 h_base_r0 h_base_r1 h_base_r2)))))), (h_base_r0, .inl (cyJ, 3, .inr (.inl v_base_r0))), (h_base_r2, .inl (cyJ, 3, .inr (.inl v_base_r2)))]) (ws' := [(h_me, .inr (0, [.ref h_rows, z_gains, .int v_rank, z_below, z_across, .ref h_base, z_square, .ref h_spare])), (h_rows, .inl (cyA, 3, .inr (.inr (.inr (.inr (fn3 h_rows_r0 h_rows_r1 h_rows_r2)))))), (h_rows_r0, .inl (cyJ, 3, .inr (.inl v_rows_r0))), (h_rows_r1, .inl (cyJ, 3, .inr (.inl v_rows_r1))), (h_rows_r2, .inl (cyJ, 3, .inr (.inl v_rows_r2))), (h_spare, .inl (cyJ, 3, .inr (.inl v_spare))), (h_base, .inl (cyA, 3, .inr (.inr (.inr (.inr (fn3 h_base_r0 h_base_r1 h_base_r2)))))), (h_base_r0, .inl (cyJ, 3, .inr (.inl v_base_r0))), (h_base_r1, .inl (cyJ, 3, .inr (.inl x6_g2))), (h_base_r2, .inl (cyJ, 3, .inr (.inl v_base_r2)))]) (va_runSN (As := [.ref h_rows_r0, .ref h_base_r1]) (rest := []) ⟨hx, hb, hml, hown, hts⟩ (c_X4_copy l dC dI cyI cyJ cyA h_rows_r0 h_base_r1  v_rows_r0 v_base_r1  hz6 _) ⟨va_cnB 2 hts gX0_fillBase_X4_copy_n70 rfl rfl rfl (NS.w_X0_70 hKK.2) (hts _ mX0_fillBase_6) ndX4_copy.2 ⟨Nat.le_of_ble_eq_true rfl, Nat.le_of_ble_eq_true rfl⟩, hts _ mX0_fillBase_8, trivial⟩ (pre_S hKK hP hD [2, 8] (by decide) rfl rfl) rfl rfl hl.1 rfl (lv_room (Nat.le_of_ble_eq_true rfl)) dX0_fillBase_38 ⟨Nat.le_of_ble_eq_true rfl, Nat.le_of_ble_eq_true rfl⟩) hP hD hS hA [2, 8] [0, 1, 3, 4, 5, 6, 7, 9] [0, 1, 8, 2, 3, 4, 5, 6, 9, 7] rfl rfl (by decide) (by decide) (by decide) rfl rfl (fun H locs hP hD hS => ?_)
            refine lv_iinc (v := (l1 + (1 : Int32))) (lv' := [(1, .int (l1 + (1 : Int32))), (0, .ref h_me)]) hx hb dX0_fillBase_41 hl (k := 1) rfl (by rfl) (by decide) rfl (fun ls hl => ?_)
            refine lv_goto (tgt := 21) hx hb dX0_fillBase_44 (by decide) ?_
            exact ih (l1 + (1 : Int32)) v_rank v_rows_r0 v_rows_r1 v_rows_r2 v_spare v_base_r0 x6_g2 v_base_r2 hF hP hD hS (lv_sub hl [1, 0] rfl)
          · refine my_ald2 hx hb hK hP 6 2 rfl rfl (in3_2 c_) dX0_fillBase_37 (v := .ref h_base_r2) (by rw [c_]; rfl) ?_
            obtain ⟨x7_g2, hz7, hF⟩ := bd1_e hF
            refine kc_v (wr := [(h_me, .inr (0, [.ref h_rows, z_gains, .int v_rank, z_below, z_across, .ref h_base, z_square, .ref h_spare])), (h_rows, .inl (cyA, 3, .inr (.inr (.inr (.inr (fn3 h_rows_r0 h_rows_r1 h_rows_r2)))))), (h_rows_r1, .inl (cyJ, 3, .inr (.inl v_rows_r1))), (h_rows_r2, .inl (cyJ, 3, .inr (.inl v_rows_r2))), (h_spare, .inl (cyJ, 3, .inr (.inl v_spare))), (h_base, .inl (cyA, 3, .inr (.inr (.inr (.inr (fn3 h_base_r0 h_base_r1 h_base_r2)))))), (h_base_r0, .inl (cyJ, 3, .inr (.inl v_base_r0))), (h_base_r1, .inl (cyJ, 3, .inr (.inl v_base_r1)))]) (ws' := [(h_me, .inr (0, [.ref h_rows, z_gains, .int v_rank, z_below, z_across, .ref h_base, z_square, .ref h_spare])), (h_rows, .inl (cyA, 3, .inr (.inr (.inr (.inr (fn3 h_rows_r0 h_rows_r1 h_rows_r2)))))), (h_rows_r0, .inl (cyJ, 3, .inr (.inl v_rows_r0))), (h_rows_r1, .inl (cyJ, 3, .inr (.inl v_rows_r1))), (h_rows_r2, .inl (cyJ, 3, .inr (.inl v_rows_r2))), (h_spare, .inl (cyJ, 3, .inr (.inl v_spare))), (h_base, .inl (cyA, 3, .inr (.inr (.inr (.inr (fn3 h_base_r0 h_base_r1 h_base_r2)))))), (h_base_r0, .inl (cyJ, 3, .inr (.inl v_base_r0))), (h_base_r1, .inl (cyJ, 3, .inr (.inl v_base_r1))), (h_base_r2, .inl (cyJ, 3, .inr (.inl x7_g2)))]) (va_runSN (As := [.ref h_rows_r0, .ref h_base_r2]) (rest := []) ⟨hx, hb, hml, hown, hts⟩ (c_X4_copy l dC dI cyI cyJ cyA h_rows_r0 h_base_r2  v_rows_r0 v_base_r2  hz7 _) ⟨va_cnB 2 hts gX0_fillBase_X4_copy_n70 rfl rfl rfl (NS.w_X0_70 hKK.2) (hts _ mX0_fillBase_6) ndX4_copy.2 ⟨Nat.le_of_ble_eq_true rfl, Nat.le_of_ble_eq_true rfl⟩, hts _ mX0_fillBase_8, trivial⟩ (pre_S hKK hP hD [2, 9] (by decide) rfl rfl) rfl rfl hl.1 rfl (lv_room (Nat.le_of_ble_eq_true rfl)) dX0_fillBase_38 ⟨Nat.le_of_ble_eq_true rfl, Nat.le_of_ble_eq_true rfl⟩) hP hD hS hA [2, 9] [0, 1, 3, 4, 5, 6, 7, 8] [0, 1, 8, 2, 3, 4, 5, 6, 7, 9] rfl rfl (by decide) (by decide) (by decide) rfl rfl (fun H locs hP hD hS => ?_)
            refine lv_iinc (v := (l1 + (1 : Int32))) (lv' := [(1, .int (l1 + (1 : Int32))), (0, .ref h_me)]) hx hb dX0_fillBase_41 hl (k := 1) rfl (by rfl) (by decide) rfl (fun ls hl => ?_)
            refine lv_goto (tgt := 21) hx hb dX0_fillBase_44 (by decide) ?_
            exact ih (l1 + (1 : Int32)) v_rank v_rows_r0 v_rows_r1 v_rows_r2 v_spare v_base_r0 v_base_r1 x7_g2 hF hP hD hS (lv_sub hl [1, 0] rfl)
        · refine my_ald2 hx hb hK hP 1 2 rfl rfl (in3_1 c_) dX0_fillBase_31 (v := .ref h_rows_r1) (by rw [c_]; rfl) ?_
          refine lv_aload_n hx hb dX0_fillBase_32 rfl (lv_at hl 0 rfl) ?_
          refine my_get (D := (dC, dI)) (ci := 0) (v := .ref h_base) (C := RX0) (T := TX0) (N := 8) hx hb hts iX0_fillBase_X0 hown hK hP 0 rfl rfl 5 (by decide) (hts _ mX0_fillBase_3) rfl rfl dX0_fillBase_33 ?_
          refine lv_iload_n hx hb dX0_fillBase_36 rfl (lv_at hl 1 rfl) ?_
          rcases sel3 hF with ⟨c_, hF⟩ | ⟨c_, hF⟩ | ⟨c_, hF⟩
          · refine my_ald2 hx hb hK hP 6 2 rfl rfl (in3_0 c_) dX0_fillBase_37 (v := .ref h_base_r0) (by rw [c_]; rfl) ?_
            obtain ⟨x8_g2, hz8, hF⟩ := bd1_e hF
            refine kc_v (wr := [(h_me, .inr (0, [.ref h_rows, z_gains, .int v_rank, z_below, z_across, .ref h_base, z_square, .ref h_spare])), (h_rows, .inl (cyA, 3, .inr (.inr (.inr (.inr (fn3 h_rows_r0 h_rows_r1 h_rows_r2)))))), (h_rows_r0, .inl (cyJ, 3, .inr (.inl v_rows_r0))), (h_rows_r2, .inl (cyJ, 3, .inr (.inl v_rows_r2))), (h_spare, .inl (cyJ, 3, .inr (.inl v_spare))), (h_base, .inl (cyA, 3, .inr (.inr (.inr (.inr (fn3 h_base_r0 h_base_r1 h_base_r2)))))), (h_base_r1, .inl (cyJ, 3, .inr (.inl v_base_r1))), (h_base_r2, .inl (cyJ, 3, .inr (.inl v_base_r2)))]) (ws' := [(h_me, .inr (0, [.ref h_rows, z_gains, .int v_rank, z_below, z_across, .ref h_base, z_square, .ref h_spare])), (h_rows, .inl (cyA, 3, .inr (.inr (.inr (.inr (fn3 h_rows_r0 h_rows_r1 h_rows_r2)))))), (h_rows_r0, .inl (cyJ, 3, .inr (.inl v_rows_r0))), (h_rows_r1, .inl (cyJ, 3, .inr (.inl v_rows_r1))), (h_rows_r2, .inl (cyJ, 3, .inr (.inl v_rows_r2))), (h_spare, .inl (cyJ, 3, .inr (.inl v_spare))), (h_base, .inl (cyA, 3, .inr (.inr (.inr (.inr (fn3 h_base_r0 h_base_r1 h_base_r2)))))), (h_base_r0, .inl (cyJ, 3, .inr (.inl x8_g2))), (h_base_r1, .inl (cyJ, 3, .inr (.inl v_base_r1))), (h_base_r2, .inl (cyJ, 3, .inr (.inl v_base_r2)))]) (va_runSN (As := [.ref h_rows_r1, .ref h_base_r0]) (rest := []) ⟨hx, hb, hml, hown, hts⟩ (c_X4_copy l dC dI cyI cyJ cyA h_rows_r1 h_base_r0  v_rows_r1 v_base_r0  hz8 _) ⟨va_cnB 2 hts gX0_fillBase_X4_copy_n70 rfl rfl rfl (NS.w_X0_70 hKK.2) (hts _ mX0_fillBase_6) ndX4_copy.2 ⟨Nat.le_of_ble_eq_true rfl, Nat.le_of_ble_eq_true rfl⟩, hts _ mX0_fillBase_8, trivial⟩ (pre_S hKK hP hD [3, 7] (by decide) rfl rfl) rfl rfl hl.1 rfl (lv_room (Nat.le_of_ble_eq_true rfl)) dX0_fillBase_38 ⟨Nat.le_of_ble_eq_true rfl, Nat.le_of_ble_eq_true rfl⟩) hP hD hS hA [3, 7] [0, 1, 2, 4, 5, 6, 8, 9] [0, 1, 2, 8, 3, 4, 5, 9, 6, 7] rfl rfl (by decide) (by decide) (by decide) rfl rfl (fun H locs hP hD hS => ?_)
            refine lv_iinc (v := (l1 + (1 : Int32))) (lv' := [(1, .int (l1 + (1 : Int32))), (0, .ref h_me)]) hx hb dX0_fillBase_41 hl (k := 1) rfl (by rfl) (by decide) rfl (fun ls hl => ?_)
            refine lv_goto (tgt := 21) hx hb dX0_fillBase_44 (by decide) ?_
            exact ih (l1 + (1 : Int32)) v_rank v_rows_r0 v_rows_r1 v_rows_r2 v_spare x8_g2 v_base_r1 v_base_r2 hF hP hD hS (lv_sub hl [1, 0] rfl)
          · refine my_ald2 hx hb hK hP 6 2 rfl rfl (in3_1 c_) dX0_fillBase_37 (v := .ref h_base_r1) (by rw [c_]; rfl) ?_
            obtain ⟨x9_g2, hz9, hF⟩ := bd1_e hF
            refine kc_v (wr := [(h_me, .inr (0, [.ref h_rows, z_gains, .int v_rank, z_below, z_across, .ref h_base, z_square, .ref h_spare])), (h_rows, .inl (cyA, 3, .inr (.inr (.inr (.inr (fn3 h_rows_r0 h_rows_r1 h_rows_r2)))))), (h_rows_r0, .inl (cyJ, 3, .inr (.inl v_rows_r0))), (h_rows_r2, .inl (cyJ, 3, .inr (.inl v_rows_r2))), (h_spare, .inl (cyJ, 3, .inr (.inl v_spare))), (h_base, .inl (cyA, 3, .inr (.inr (.inr (.inr (fn3 h_base_r0 h_base_r1 h_base_r2)))))), (h_base_r0, .inl (cyJ, 3, .inr (.inl v_base_r0))), (h_base_r2, .inl (cyJ, 3, .inr (.inl v_base_r2)))]) (ws' := [(h_me, .inr (0, [.ref h_rows, z_gains, .int v_rank, z_below, z_across, .ref h_base, z_square, .ref h_spare])), (h_rows, .inl (cyA, 3, .inr (.inr (.inr (.inr (fn3 h_rows_r0 h_rows_r1 h_rows_r2)))))), (h_rows_r0, .inl (cyJ, 3, .inr (.inl v_rows_r0))), (h_rows_r1, .inl (cyJ, 3, .inr (.inl v_rows_r1))), (h_rows_r2, .inl (cyJ, 3, .inr (.inl v_rows_r2))), (h_spare, .inl (cyJ, 3, .inr (.inl v_spare))), (h_base, .inl (cyA, 3, .inr (.inr (.inr (.inr (fn3 h_base_r0 h_base_r1 h_base_r2)))))), (h_base_r0, .inl (cyJ, 3, .inr (.inl v_base_r0))), (h_base_r1, .inl (cyJ, 3, .inr (.inl x9_g2))), (h_base_r2, .inl (cyJ, 3, .inr (.inl v_base_r2)))]) (va_runSN (As := [.ref h_rows_r1, .ref h_base_r1]) (rest := []) ⟨hx, hb, hml, hown, hts⟩ (c_X4_copy l dC dI cyI cyJ cyA h_rows_r1 h_base_r1  v_rows_r1 v_base_r1  hz9 _) ⟨va_cnB 2 hts gX0_fillBase_X4_copy_n70 rfl rfl rfl (NS.w_X0_70 hKK.2) (hts _ mX0_fillBase_6) ndX4_copy.2 ⟨Nat.le_of_ble_eq_true rfl, Nat.le_of_ble_eq_true rfl⟩, hts _ mX0_fillBase_8, trivial⟩ (pre_S hKK hP hD [3, 8] (by decide) rfl rfl) rfl rfl hl.1 rfl (lv_room (Nat.le_of_ble_eq_true rfl)) dX0_fillBase_38 ⟨Nat.le_of_ble_eq_true rfl, Nat.le_of_ble_eq_true rfl⟩) hP hD hS hA [3, 8] [0, 1, 2, 4, 5, 6, 7, 9] [0, 1, 2, 8, 3, 4, 5, 6, 9, 7] rfl rfl (by decide) (by decide) (by decide) rfl rfl (fun H locs hP hD hS => ?_)
            refine lv_iinc (v := (l1 + (1 : Int32))) (lv' := [(1, .int (l1 + (1 : Int32))), (0, .ref h_me)]) hx hb dX0_fillBase_41 hl (k := 1) rfl (by rfl) (by decide) rfl (fun ls hl => ?_)
            refine lv_goto (tgt := 21) hx hb dX0_fillBase_44 (by decide) ?_
            exact ih (l1 + (1 : Int32)) v_rank v_rows_r0 v_rows_r1 v_rows_r2 v_spare v_base_r0 x9_g2 v_base_r2 hF hP hD hS (lv_sub hl [1, 0] rfl)
          · refine my_ald2 hx hb hK hP 6 2 rfl rfl (in3_2 c_) dX0_fillBase_37 (v := .ref h_base_r2) (by rw [c_]; rfl) ?_
            obtain ⟨x10_g2, hz10, hF⟩ := bd1_e hF
            refine kc_v (wr := [(h_me, .inr (0, [.ref h_rows, z_gains, .int v_rank, z_below, z_across, .ref h_base, z_square, .ref h_spare])), (h_rows, .inl (cyA, 3, .inr (.inr (.inr (.inr (fn3 h_rows_r0 h_rows_r1 h_rows_r2)))))), (h_rows_r0, .inl (cyJ, 3, .inr (.inl v_rows_r0))), (h_rows_r2, .inl (cyJ, 3, .inr (.inl v_rows_r2))), (h_spare, .inl (cyJ, 3, .inr (.inl v_spare))), (h_base, .inl (cyA, 3, .inr (.inr (.inr (.inr (fn3 h_base_r0 h_base_r1 h_base_r2)))))), (h_base_r0, .inl (cyJ, 3, .inr (.inl v_base_r0))), (h_base_r1, .inl (cyJ, 3, .inr (.inl v_base_r1)))]) (ws' := [(h_me, .inr (0, [.ref h_rows, z_gains, .int v_rank, z_below, z_across, .ref h_base, z_square, .ref h_spare])), (h_rows, .inl (cyA, 3, .inr (.inr (.inr (.inr (fn3 h_rows_r0 h_rows_r1 h_rows_r2)))))), (h_rows_r0, .inl (cyJ, 3, .inr (.inl v_rows_r0))), (h_rows_r1, .inl (cyJ, 3, .inr (.inl v_rows_r1))), (h_rows_r2, .inl (cyJ, 3, .inr (.inl v_rows_r2))), (h_spare, .inl (cyJ, 3, .inr (.inl v_spare))), (h_base, .inl (cyA, 3, .inr (.inr (.inr (.inr (fn3 h_base_r0 h_base_r1 h_base_r2)))))), (h_base_r0, .inl (cyJ, 3, .inr (.inl v_base_r0))), (h_base_r1, .inl (cyJ, 3, .inr (.inl v_base_r1))), (h_base_r2, .inl (cyJ, 3, .inr (.inl x10_g2)))]) (va_runSN (As := [.ref h_rows_r1, .ref h_base_r2]) (rest := []) ⟨hx, hb, hml, hown, hts⟩ (c_X4_copy l dC dI cyI cyJ cyA h_rows_r1 h_base_r2  v_rows_r1 v_base_r2  hz10 _) ⟨va_cnB 2 hts gX0_fillBase_X4_copy_n70 rfl rfl rfl (NS.w_X0_70 hKK.2) (hts _ mX0_fillBase_6) ndX4_copy.2 ⟨Nat.le_of_ble_eq_true rfl, Nat.le_of_ble_eq_true rfl⟩, hts _ mX0_fillBase_8, trivial⟩ (pre_S hKK hP hD [3, 9] (by decide) rfl rfl) rfl rfl hl.1 rfl (lv_room (Nat.le_of_ble_eq_true rfl)) dX0_fillBase_38 ⟨Nat.le_of_ble_eq_true rfl, Nat.le_of_ble_eq_true rfl⟩) hP hD hS hA [3, 9] [0, 1, 2, 4, 5, 6, 7, 8] [0, 1, 2, 8, 3, 4, 5, 6, 7, 9] rfl rfl (by decide) (by decide) (by decide) rfl rfl (fun H locs hP hD hS => ?_)
            refine lv_iinc (v := (l1 + (1 : Int32))) (lv' := [(1, .int (l1 + (1 : Int32))), (0, .ref h_me)]) hx hb dX0_fillBase_41 hl (k := 1) rfl (by rfl) (by decide) rfl (fun ls hl => ?_)
            refine lv_goto (tgt := 21) hx hb dX0_fillBase_44 (by decide) ?_
            exact ih (l1 + (1 : Int32)) v_rank v_rows_r0 v_rows_r1 v_rows_r2 v_spare v_base_r0 v_base_r1 x10_g2 hF hP hD hS (lv_sub hl [1, 0] rfl)
        · refine my_ald2 hx hb hK hP 1 2 rfl rfl (in3_2 c_) dX0_fillBase_31 (v := .ref h_rows_r2) (by rw [c_]; rfl) ?_
          refine lv_aload_n hx hb dX0_fillBase_32 rfl (lv_at hl 0 rfl) ?_
          refine my_get (D := (dC, dI)) (ci := 0) (v := .ref h_base) (C := RX0) (T := TX0) (N := 8) hx hb hts iX0_fillBase_X0 hown hK hP 0 rfl rfl 5 (by decide) (hts _ mX0_fillBase_3) rfl rfl dX0_fillBase_33 ?_
          refine lv_iload_n hx hb dX0_fillBase_36 rfl (lv_at hl 1 rfl) ?_
          rcases sel3 hF with ⟨c_, hF⟩ | ⟨c_, hF⟩ | ⟨c_, hF⟩
          · refine my_ald2 hx hb hK hP 6 2 rfl rfl (in3_0 c_) dX0_fillBase_37 (v := .ref h_base_r0) (by rw [c_]; rfl) ?_
            obtain ⟨x11_g2, hz11, hF⟩ := bd1_e hF
            refine kc_v (wr := [(h_me, .inr (0, [.ref h_rows, z_gains, .int v_rank, z_below, z_across, .ref h_base, z_square, .ref h_spare])), (h_rows, .inl (cyA, 3, .inr (.inr (.inr (.inr (fn3 h_rows_r0 h_rows_r1 h_rows_r2)))))), (h_rows_r0, .inl (cyJ, 3, .inr (.inl v_rows_r0))), (h_rows_r1, .inl (cyJ, 3, .inr (.inl v_rows_r1))), (h_spare, .inl (cyJ, 3, .inr (.inl v_spare))), (h_base, .inl (cyA, 3, .inr (.inr (.inr (.inr (fn3 h_base_r0 h_base_r1 h_base_r2)))))), (h_base_r1, .inl (cyJ, 3, .inr (.inl v_base_r1))), (h_base_r2, .inl (cyJ, 3, .inr (.inl v_base_r2)))]) (ws' := [(h_me, .inr (0, [.ref h_rows, z_gains, .int v_rank, z_below, z_across, .ref h_base, z_square, .ref h_spare])), (h_rows, .inl (cyA, 3, .inr (.inr (.inr (.inr (fn3 h_rows_r0 h_rows_r1 h_rows_r2)))))), (h_rows_r0, .inl (cyJ, 3, .inr (.inl v_rows_r0))), (h_rows_r1, .inl (cyJ, 3, .inr (.inl v_rows_r1))), (h_rows_r2, .inl (cyJ, 3, .inr (.inl v_rows_r2))), (h_spare, .inl (cyJ, 3, .inr (.inl v_spare))), (h_base, .inl (cyA, 3, .inr (.inr (.inr (.inr (fn3 h_base_r0 h_base_r1 h_base_r2)))))), (h_base_r0, .inl (cyJ, 3, .inr (.inl x11_g2))), (h_base_r1, .inl (cyJ, 3, .inr (.inl v_base_r1))), (h_base_r2, .inl (cyJ, 3, .inr (.inl v_base_r2)))]) (va_runSN (As := [.ref h_rows_r2, .ref h_base_r0]) (rest := []) ⟨hx, hb, hml, hown, hts⟩ (c_X4_copy l dC dI cyI cyJ cyA h_rows_r2 h_base_r0  v_rows_r2 v_base_r0  hz11 _) ⟨va_cnB 2 hts gX0_fillBase_X4_copy_n70 rfl rfl rfl (NS.w_X0_70 hKK.2) (hts _ mX0_fillBase_6) ndX4_copy.2 ⟨Nat.le_of_ble_eq_true rfl, Nat.le_of_ble_eq_true rfl⟩, hts _ mX0_fillBase_8, trivial⟩ (pre_S hKK hP hD [4, 7] (by decide) rfl rfl) rfl rfl hl.1 rfl (lv_room (Nat.le_of_ble_eq_true rfl)) dX0_fillBase_38 ⟨Nat.le_of_ble_eq_true rfl, Nat.le_of_ble_eq_true rfl⟩) hP hD hS hA [4, 7] [0, 1, 2, 3, 5, 6, 8, 9] [0, 1, 2, 3, 8, 4, 5, 9, 6, 7] rfl rfl (by decide) (by decide) (by decide) rfl rfl (fun H locs hP hD hS => ?_)
            refine lv_iinc (v := (l1 + (1 : Int32))) (lv' := [(1, .int (l1 + (1 : Int32))), (0, .ref h_me)]) hx hb dX0_fillBase_41 hl (k := 1) rfl (by rfl) (by decide) rfl (fun ls hl => ?_)
            refine lv_goto (tgt := 21) hx hb dX0_fillBase_44 (by decide) ?_
            exact ih (l1 + (1 : Int32)) v_rank v_rows_r0 v_rows_r1 v_rows_r2 v_spare x11_g2 v_base_r1 v_base_r2 hF hP hD hS (lv_sub hl [1, 0] rfl)
          · refine my_ald2 hx hb hK hP 6 2 rfl rfl (in3_1 c_) dX0_fillBase_37 (v := .ref h_base_r1) (by rw [c_]; rfl) ?_
            obtain ⟨x12_g2, hz12, hF⟩ := bd1_e hF
            refine kc_v (wr := [(h_me, .inr (0, [.ref h_rows, z_gains, .int v_rank, z_below, z_across, .ref h_base, z_square, .ref h_spare])), (h_rows, .inl (cyA, 3, .inr (.inr (.inr (.inr (fn3 h_rows_r0 h_rows_r1 h_rows_r2)))))), (h_rows_r0, .inl (cyJ, 3, .inr (.inl v_rows_r0))), (h_rows_r1, .inl (cyJ, 3, .inr (.inl v_rows_r1))), (h_spare, .inl (cyJ, 3, .inr (.inl v_spare))), (h_base, .inl (cyA, 3, .inr (.inr (.inr (.inr (fn3 h_base_r0 h_base_r1 h_base_r2)))))), (h_base_r0, .inl (cyJ, 3, .inr (.inl v_base_r0))), (h_base_r2, .inl (cyJ, 3, .inr (.inl v_base_r2)))]) (ws' := [(h_me, .inr (0, [.ref h_rows, z_gains, .int v_rank, z_below, z_across, .ref h_base, z_square, .ref h_spare])), (h_rows, .inl (cyA, 3, .inr (.inr (.inr (.inr (fn3 h_rows_r0 h_rows_r1 h_rows_r2)))))), (h_rows_r0, .inl (cyJ, 3, .inr (.inl v_rows_r0))), (h_rows_r1, .inl (cyJ, 3, .inr (.inl v_rows_r1))), (h_rows_r2, .inl (cyJ, 3, .inr (.inl v_rows_r2))), (h_spare, .inl (cyJ, 3, .inr (.inl v_spare))), (h_base, .inl (cyA, 3, .inr (.inr (.inr (.inr (fn3 h_base_r0 h_base_r1 h_base_r2)))))), (h_base_r0, .inl (cyJ, 3, .inr (.inl v_base_r0))), (h_base_r1, .inl (cyJ, 3, .inr (.inl x12_g2))), (h_base_r2, .inl (cyJ, 3, .inr (.inl v_base_r2)))]) (va_runSN (As := [.ref h_rows_r2, .ref h_base_r1]) (rest := []) ⟨hx, hb, hml, hown, hts⟩ (c_X4_copy l dC dI cyI cyJ cyA h_rows_r2 h_base_r1  v_rows_r2 v_base_r1  hz12 _) ⟨va_cnB 2 hts gX0_fillBase_X4_copy_n70 rfl rfl rfl (NS.w_X0_70 hKK.2) (hts _ mX0_fillBase_6) ndX4_copy.2 ⟨Nat.le_of_ble_eq_true rfl, Nat.le_of_ble_eq_true rfl⟩, hts _ mX0_fillBase_8, trivial⟩ (pre_S hKK hP hD [4, 8] (by decide) rfl rfl) rfl rfl hl.1 rfl (lv_room (Nat.le_of_ble_eq_true rfl)) dX0_fillBase_38 ⟨Nat.le_of_ble_eq_true rfl, Nat.le_of_ble_eq_true rfl⟩) hP hD hS hA [4, 8] [0, 1, 2, 3, 5, 6, 7, 9] [0, 1, 2, 3, 8, 4, 5, 6, 9, 7] rfl rfl (by decide) (by decide) (by decide) rfl rfl (fun H locs hP hD hS => ?_)
            refine lv_iinc (v := (l1 + (1 : Int32))) (lv' := [(1, .int (l1 + (1 : Int32))), (0, .ref h_me)]) hx hb dX0_fillBase_41 hl (k := 1) rfl (by rfl) (by decide) rfl (fun ls hl => ?_)
            refine lv_goto (tgt := 21) hx hb dX0_fillBase_44 (by decide) ?_
            exact ih (l1 + (1 : Int32)) v_rank v_rows_r0 v_rows_r1 v_rows_r2 v_spare v_base_r0 x12_g2 v_base_r2 hF hP hD hS (lv_sub hl [1, 0] rfl)
          · refine my_ald2 hx hb hK hP 6 2 rfl rfl (in3_2 c_) dX0_fillBase_37 (v := .ref h_base_r2) (by rw [c_]; rfl) ?_
            obtain ⟨x13_g2, hz13, hF⟩ := bd1_e hF
            refine kc_v (wr := [(h_me, .inr (0, [.ref h_rows, z_gains, .int v_rank, z_below, z_across, .ref h_base, z_square, .ref h_spare])), (h_rows, .inl (cyA, 3, .inr (.inr (.inr (.inr (fn3 h_rows_r0 h_rows_r1 h_rows_r2)))))), (h_rows_r0, .inl (cyJ, 3, .inr (.inl v_rows_r0))), (h_rows_r1, .inl (cyJ, 3, .inr (.inl v_rows_r1))), (h_spare, .inl (cyJ, 3, .inr (.inl v_spare))), (h_base, .inl (cyA, 3, .inr (.inr (.inr (.inr (fn3 h_base_r0 h_base_r1 h_base_r2)))))), (h_base_r0, .inl (cyJ, 3, .inr (.inl v_base_r0))), (h_base_r1, .inl (cyJ, 3, .inr (.inl v_base_r1)))]) (ws' := [(h_me, .inr (0, [.ref h_rows, z_gains, .int v_rank, z_below, z_across, .ref h_base, z_square, .ref h_spare])), (h_rows, .inl (cyA, 3, .inr (.inr (.inr (.inr (fn3 h_rows_r0 h_rows_r1 h_rows_r2)))))), (h_rows_r0, .inl (cyJ, 3, .inr (.inl v_rows_r0))), (h_rows_r1, .inl (cyJ, 3, .inr (.inl v_rows_r1))), (h_rows_r2, .inl (cyJ, 3, .inr (.inl v_rows_r2))), (h_spare, .inl (cyJ, 3, .inr (.inl v_spare))), (h_base, .inl (cyA, 3, .inr (.inr (.inr (.inr (fn3 h_base_r0 h_base_r1 h_base_r2)))))), (h_base_r0, .inl (cyJ, 3, .inr (.inl v_base_r0))), (h_base_r1, .inl (cyJ, 3, .inr (.inl v_base_r1))), (h_base_r2, .inl (cyJ, 3, .inr (.inl x13_g2)))]) (va_runSN (As := [.ref h_rows_r2, .ref h_base_r2]) (rest := []) ⟨hx, hb, hml, hown, hts⟩ (c_X4_copy l dC dI cyI cyJ cyA h_rows_r2 h_base_r2  v_rows_r2 v_base_r2  hz13 _) ⟨va_cnB 2 hts gX0_fillBase_X4_copy_n70 rfl rfl rfl (NS.w_X0_70 hKK.2) (hts _ mX0_fillBase_6) ndX4_copy.2 ⟨Nat.le_of_ble_eq_true rfl, Nat.le_of_ble_eq_true rfl⟩, hts _ mX0_fillBase_8, trivial⟩ (pre_S hKK hP hD [4, 9] (by decide) rfl rfl) rfl rfl hl.1 rfl (lv_room (Nat.le_of_ble_eq_true rfl)) dX0_fillBase_38 ⟨Nat.le_of_ble_eq_true rfl, Nat.le_of_ble_eq_true rfl⟩) hP hD hS hA [4, 9] [0, 1, 2, 3, 5, 6, 7, 8] [0, 1, 2, 3, 8, 4, 5, 6, 7, 9] rfl rfl (by decide) (by decide) (by decide) rfl rfl (fun H locs hP hD hS => ?_)
            refine lv_iinc (v := (l1 + (1 : Int32))) (lv' := [(1, .int (l1 + (1 : Int32))), (0, .ref h_me)]) hx hb dX0_fillBase_41 hl (k := 1) rfl (by rfl) (by decide) rfl (fun ls hl => ?_)
            refine lv_goto (tgt := 21) hx hb dX0_fillBase_44 (by decide) ?_
            exact ih (l1 + (1 : Int32)) v_rank v_rows_r0 v_rows_r1 v_rows_r2 v_spare v_base_r0 v_base_r1 x13_g2 hF hP hD hS (lv_sub hl [1, 0] rfl)
set_option maxHeartbeats 4000000 in
set_option maxRecDepth 100000 in
theorem c_X0_fillBase (l : Launch) (dC : Nat → ClassId) (dI : Nat → Nat → Nat) (cyI cyJ cyA : ClassId) (h_me h_rows h_rows_r0 h_rows_r1 h_rows_r2 h_spare h_base h_base_r0 h_base_r1 h_base_r2 : Nat) (z_gains z_below z_across z_square : Value) (v_rank : Int32) (v_rows_r0 : Nat → Int64) (v_rows_r1 : Nat → Int64) (v_rows_r2 : Nat → Int64) (v_spare : Nat → Int64) (v_base_r0 : Nat → Int64) (v_base_r1 : Nat → Int64) (v_base_r2 : Nat → Int64)  {q_rank : Int32} {q_spare : Nat → Int64} {q_base_r0 : Nat → Int64} {q_base_r1 : Nat → Int64} {q_base_r2 : Nat → Int64} (hF : F_X0_fillBase v_rank v_rows_r0 v_rows_r1 v_rows_r2 v_spare v_base_r0 v_base_r1 v_base_r2 = some (q_rank, q_spare, q_base_r0, q_base_r1, q_base_r2)) (sz : Nat) : Met l yX0_fillBase wsX0_fillBase rmX0_fillBase (va_Pc [.ref h_me] (PC (dC, dI) cyI cyJ cyA [(h_me, .inr (0, [.ref h_rows, z_gains, .int v_rank, z_below, z_across, .ref h_base, z_square, .ref h_spare])), (h_rows, .inl (cyA, 3, .inr (.inr (.inr (.inr (fn3 h_rows_r0 h_rows_r1 h_rows_r2)))))), (h_rows_r0, .inl (cyJ, 3, .inr (.inl v_rows_r0))), (h_rows_r1, .inl (cyJ, 3, .inr (.inl v_rows_r1))), (h_rows_r2, .inl (cyJ, 3, .inr (.inl v_rows_r2))), (h_spare, .inl (cyJ, 3, .inr (.inl v_spare))), (h_base, .inl (cyA, 3, .inr (.inr (.inr (.inr (fn3 h_base_r0 h_base_r1 h_base_r2)))))), (h_base_r0, .inl (cyJ, 3, .inr (.inl v_base_r0))), (h_base_r1, .inl (cyJ, 3, .inr (.inl v_base_r1))), (h_base_r2, .inl (cyJ, 3, .inr (.inl v_base_r2)))] sz)) (QV (dC, dI) (va_A [(h_me, .inr (0, [.ref h_rows, z_gains, .int v_rank, z_below, z_across, .ref h_base, z_square, .ref h_spare])), (h_rows, .inl (cyA, 3, .inr (.inr (.inr (.inr (fn3 h_rows_r0 h_rows_r1 h_rows_r2)))))), (h_rows_r0, .inl (cyJ, 3, .inr (.inl v_rows_r0))), (h_rows_r1, .inl (cyJ, 3, .inr (.inl v_rows_r1))), (h_rows_r2, .inl (cyJ, 3, .inr (.inl v_rows_r2))), (h_spare, .inl (cyJ, 3, .inr (.inl v_spare))), (h_base, .inl (cyA, 3, .inr (.inr (.inr (.inr (fn3 h_base_r0 h_base_r1 h_base_r2)))))), (h_base_r0, .inl (cyJ, 3, .inr (.inl v_base_r0))), (h_base_r1, .inl (cyJ, 3, .inr (.inl v_base_r1))), (h_base_r2, .inl (cyJ, 3, .inr (.inl v_base_r2)))] sz) [(h_me, .inr (0, [.ref h_rows, z_gains, .int q_rank, z_below, z_across, .ref h_base, z_square, .ref h_spare])), (h_rows, .inl (cyA, 3, .inr (.inr (.inr (.inr (fn3 h_rows_r0 h_rows_r1 h_rows_r2)))))), (h_rows_r0, .inl (cyJ, 3, .inr (.inl v_rows_r0))), (h_rows_r1, .inl (cyJ, 3, .inr (.inl v_rows_r1))), (h_rows_r2, .inl (cyJ, 3, .inr (.inl v_rows_r2))), (h_spare, .inl (cyJ, 3, .inr (.inl q_spare))), (h_base, .inl (cyA, 3, .inr (.inr (.inr (.inr (fn3 h_base_r0 h_base_r1 h_base_r2)))))), (h_base_r0, .inl (cyJ, 3, .inr (.inl q_base_r0))), (h_base_r1, .inl (cyJ, 3, .inr (.inl q_base_r1))), (h_base_r2, .inl (cyJ, 3, .inr (.inl q_base_r2)))]) 0 0 (va_A [(h_me, .inr (0, [.ref h_rows, z_gains, .int v_rank, z_below, z_across, .ref h_base, z_square, .ref h_spare])), (h_rows, .inl (cyA, 3, .inr (.inr (.inr (.inr (fn3 h_rows_r0 h_rows_r1 h_rows_r2)))))), (h_rows_r0, .inl (cyJ, 3, .inr (.inl v_rows_r0))), (h_rows_r1, .inl (cyJ, 3, .inr (.inl v_rows_r1))), (h_rows_r2, .inl (cyJ, 3, .inr (.inl v_rows_r2))), (h_spare, .inl (cyJ, 3, .inr (.inl v_spare))), (h_base, .inl (cyA, 3, .inr (.inr (.inr (.inr (fn3 h_base_r0 h_base_r1 h_base_r2)))))), (h_base_r0, .inl (cyJ, 3, .inr (.inl v_base_r0))), (h_base_r1, .inl (cyJ, 3, .inr (.inl v_base_r1))), (h_base_r2, .inl (cyJ, 3, .inr (.inl v_base_r2)))] sz) := by
  refine Met.ofW (cc := cX0_fillBase) (maxL := 3) (ret := none) (by decide) rfl ?_
  intro p e s m args below meth c s₁ B hml hv
  obtain ⟨rfl, hsz, hP, hKK, hD0⟩ := hv
  have hx := B.exec
  have hb := B.bytes
  have hr := B.returns
  have hts := atoms_spec (ws := wsX0_fillBase) B.pre
  have hown : s.vm.findClass RX0 = some m.cls := findClass_of_methodNamed B.named
  have hlocks := B.notSynchronized
  have C0 : Cx p s m ([.ref h_me] : List Value).toArray meth c cX0_fillBase 3 none wsX0_fillBase RX0 (dC, dI) cyI cyJ cyA := ⟨hx, hb, hr, hml, hown, hts, hKK, hlocks⟩
  have hK := hKK.1
  subst hsz
  have hD := hD0.self (sz := s.heap.size)
  generalize hAe : va_A [(h_me, .inr (0, [.ref h_rows, z_gains, .int v_rank, z_below, z_across, .ref h_base, z_square, .ref h_spare])), (h_rows, .inl (cyA, 3, .inr (.inr (.inr (.inr (fn3 h_rows_r0 h_rows_r1 h_rows_r2)))))), (h_rows_r0, .inl (cyJ, 3, .inr (.inl v_rows_r0))), (h_rows_r1, .inl (cyJ, 3, .inr (.inl v_rows_r1))), (h_rows_r2, .inl (cyJ, 3, .inr (.inl v_rows_r2))), (h_spare, .inl (cyJ, 3, .inr (.inl v_spare))), (h_base, .inl (cyA, 3, .inr (.inr (.inr (.inr (fn3 h_base_r0 h_base_r1 h_base_r2)))))), (h_base_r0, .inl (cyJ, 3, .inr (.inl v_base_r0))), (h_base_r1, .inl (cyJ, 3, .inr (.inl v_base_r1))), (h_base_r2, .inl (cyJ, 3, .inr (.inl v_base_r2)))] s.heap.size = A at hD ⊢
  have hA : ∀ q : Nat, s.heap.size ≤ q → A q := fun q h => by rw [← hAe]; exact Or.inr h
  have hS : va_S A s.heap s.heap [] := va_S.rf
  have hl := lv_entry ([.ref h_me]) (n := 3) (Nat.le_of_ble_eq_true rfl)
  rw [lg_entry_eq]
  generalize (lg_sl ([.ref h_me]) ++ List.replicate (3 - (lg_sl ([.ref h_me])).length) Slot.unset).toArray = ls at hl ⊢
  have hl : lv_has ls 3 [(0, .ref h_me)] := hl
  unfold F_X0_fillBase at hF
  refine lv_aload_n hx hb dX0_fillBase_0 rfl (lv_at hl 0 rfl) ?_
  refine my_get (D := (dC, dI)) (ci := 0) (v := .ref h_rows) (C := RX0) (T := TX0) (N := 8) hx hb hts iX0_fillBase_X0 hown hK hP 0 rfl rfl 0 (by decide) (hts _ mX0_fillBase_1) rfl rfl dX0_fillBase_1 ?_
  refine lv_iconst (v := (0 : Int32)) hx hb dX0_fillBase_4 (by decide) ?_
  refine my_ald2 hx hb hK hP 1 2 rfl rfl (in3_0 rfl) dX0_fillBase_5 (v := .ref h_rows_r0) rfl ?_
  refine lv_aload_n hx hb dX0_fillBase_6 rfl (lv_at hl 0 rfl) ?_
  refine my_get (D := (dC, dI)) (ci := 0) (v := .ref h_rows) (C := RX0) (T := TX0) (N := 8) hx hb hts iX0_fillBase_X0 hown hK hP 0 rfl rfl 0 (by decide) (hts _ mX0_fillBase_1) rfl rfl dX0_fillBase_7 ?_
  refine lv_iconst (v := (1 : Int32)) hx hb dX0_fillBase_10 (by decide) ?_
  refine my_ald2 hx hb hK hP 1 2 rfl rfl (in3_1 rfl) dX0_fillBase_11 (v := .ref h_rows_r1) rfl ?_
  refine lv_aload_n hx hb dX0_fillBase_12 rfl (lv_at hl 0 rfl) ?_
  refine my_get (D := (dC, dI)) (ci := 0) (v := .ref h_spare) (C := RX0) (T := TX0) (N := 8) hx hb hts iX0_fillBase_X0 hown hK hP 0 rfl rfl 7 (by decide) (hts _ mX0_fillBase_2) rfl rfl dX0_fillBase_13 ?_
  obtain ⟨x1_g3, hz1, hF⟩ := bd1_e hF
  refine kc_v (wr := [(h_me, .inr (0, [.ref h_rows, z_gains, .int v_rank, z_below, z_across, .ref h_base, z_square, .ref h_spare])), (h_rows, .inl (cyA, 3, .inr (.inr (.inr (.inr (fn3 h_rows_r0 h_rows_r1 h_rows_r2)))))), (h_rows_r2, .inl (cyJ, 3, .inr (.inl v_rows_r2))), (h_base, .inl (cyA, 3, .inr (.inr (.inr (.inr (fn3 h_base_r0 h_base_r1 h_base_r2)))))), (h_base_r0, .inl (cyJ, 3, .inr (.inl v_base_r0))), (h_base_r1, .inl (cyJ, 3, .inr (.inl v_base_r1))), (h_base_r2, .inl (cyJ, 3, .inr (.inl v_base_r2)))]) (ws' := [(h_me, .inr (0, [.ref h_rows, z_gains, .int v_rank, z_below, z_across, .ref h_base, z_square, .ref h_spare])), (h_rows, .inl (cyA, 3, .inr (.inr (.inr (.inr (fn3 h_rows_r0 h_rows_r1 h_rows_r2)))))), (h_rows_r0, .inl (cyJ, 3, .inr (.inl v_rows_r0))), (h_rows_r1, .inl (cyJ, 3, .inr (.inl v_rows_r1))), (h_rows_r2, .inl (cyJ, 3, .inr (.inl v_rows_r2))), (h_spare, .inl (cyJ, 3, .inr (.inl x1_g3))), (h_base, .inl (cyA, 3, .inr (.inr (.inr (.inr (fn3 h_base_r0 h_base_r1 h_base_r2)))))), (h_base_r0, .inl (cyJ, 3, .inr (.inl v_base_r0))), (h_base_r1, .inl (cyJ, 3, .inr (.inl v_base_r1))), (h_base_r2, .inl (cyJ, 3, .inr (.inl v_base_r2)))]) (va_runSN (As := [.ref h_rows_r0, .ref h_rows_r1, .ref h_spare]) (rest := []) ⟨hx, hb, hml, hown, hts⟩ (c_X4_cross l dC dI cyI cyJ cyA h_rows_r0 h_rows_r1 h_spare  v_rows_r0 v_rows_r1 v_spare  hz1 _) ⟨va_cnB 3 hts gX0_fillBase_X4_cross_n54 rfl rfl rfl (NS.w_X0_54 hKK.2) (hts _ mX0_fillBase_6) ndX4_cross.2 ⟨Nat.le_of_ble_eq_true rfl, Nat.le_of_ble_eq_true rfl⟩, hts _ mX0_fillBase_5, trivial⟩ (pre_S hKK hP hD [2, 3, 5] (by decide) rfl rfl) rfl rfl hl.1 rfl (lv_room (Nat.le_of_ble_eq_true rfl)) dX0_fillBase_16 ⟨Nat.le_of_ble_eq_true rfl, Nat.le_of_ble_eq_true rfl⟩) hP hD hS hA [2, 3, 5] [0, 1, 4, 6, 7, 8, 9] [0, 1, 7, 8, 2, 9, 3, 4, 5, 6] rfl rfl (by decide) (by decide) (by decide) rfl rfl (fun H locs hP hD hS => ?_)
  refine lv_iconst (v := (0 : Int32)) hx hb dX0_fillBase_19 (by decide) ?_
  refine lv_istore_n (lv' := [(1, .int (0 : Int32)), (0, .ref h_me)]) hx hb dX0_fillBase_20 rfl hl (by decide) rfl (fun ls hl => ?_)
  exact t_X0_fillBase_21 C0 hA   3000 (0 : Int32) v_rank v_rows_r0 v_rows_r1 v_rows_r2 x1_g3 v_base_r0 v_base_r1 v_base_r2 hF hP hD hS (lv_sub hl [1, 0] rfl)
/-! RestGains$Plant.carry (Z[JI)V -/
def rmX3_carry : Room := { frames := 1, cells := 0, slots := 0, locals := 28 }
def F_X3_carry_3  : Nat → Int32 → Int32 → Int32 → (Nat → Int64) → (Nat → Int32) → (Nat → Int64) → Option ((Nat → Int64) × (Nat → Int64))
  | 0, _, _, _, _, _, _ => none
  | n + 1, l1, l3, l4, v_spare, v_cells, v_g2 => if l3 ≤ l4 then (some (v_spare, v_g2)) else (bd1 (F_X3_goOn l1 v_spare v_cells v_g2) (fun x1_g3 => bd1 (F_X4_copy x1_g3 v_g2) (fun x2_g2 => F_X3_carry_3  n l1 l3 (l4 + (1 : Int32)) x1_g3 v_cells x2_g2)))
def F_X3_carry (l1 : Int32) (l3 : Int32) (v_spare : Nat → Int64) (v_cells : Nat → Int32) (v_g2 : Nat → Int64) : Option ((Nat → Int64) × (Nat → Int64)) :=
  F_X3_carry_3  3000 l1 l3 (0 : Int32) v_spare v_cells v_g2
set_option maxHeartbeats 4000000 in
set_option maxRecDepth 100000 in
theorem t_X3_carry_3 {p : Program} {l : Launch} {e : Env} {s : State} {m : MethodId} {args : Array Value} {below : List Frame} {meth : Method} {c : Code} {dC : Nat → ClassId} {dI : Nat → Nat → Nat} {cyI cyJ cyA : ClassId} {A : Nat → Prop} {h_me h_spare h_cells h_g2 : Nat} {z_order : Value} {q_spare : Nat → Int64} {q_g2 : Nat → Int64} (C0 : Cx p s m args meth c cX3_carry 5 none wsX3_carry RX3 (dC, dI) cyI cyJ cyA) (hA : ∀ q : Nat, s.heap.size ≤ q → A q)  : ∀ (n : Nat) (l1 : Int32) (l3 : Int32) (l4 : Int32) (v_spare : Nat → Int64) (v_cells : Nat → Int32) (v_g2 : Nat → Int64), F_X3_carry_3  n l1 l3 l4 v_spare v_cells v_g2 = some (q_spare, q_g2) → ∀ {H : Heap} {locs : List Loc} {ls : Array Slot}, va_P (dC, dI) vwCl [(h_me, .inr (3, [.ref h_cells, z_order, .ref h_spare])), (h_spare, .inl (cyJ, 3, .inr (.inl v_spare))), (h_cells, .inl (cyI, 15, .inl v_cells)), (h_g2, .inl (cyJ, 3, .inr (.inl v_g2)))] H → va_D A [(h_me, .inr (3, [.ref h_cells, z_order, .ref h_spare])), (h_spare, .inl (cyJ, 3, .inr (.inl v_spare))), (h_cells, .inl (cyI, 15, .inl v_cells)), (h_g2, .inl (cyJ, 3, .inr (.inl v_g2)))] → va_S A s.heap H locs → lv_has ls 5 [(0, .ref h_me), (1, .int l1), (2, .ref h_g2), (3, .int l3), (4, .int l4)] → W p l e rmX3_carry s m args below meth c H locs 0 0 (MQ below (QV (dC, dI) A [(h_me, .inr (3, [.ref h_cells, z_order, .ref h_spare])), (h_spare, .inl (cyJ, 3, .inr (.inl q_spare))), (h_cells, .inl (cyI, 15, .inl v_cells)), (h_g2, .inl (cyJ, 3, .inr (.inl q_g2)))]) args s 0 0 A) (F0 m 3 ls []) := by
  obtain ⟨hx, hb, hr, hml, hown, hts, hKK, hlocks⟩ := id C0
  have hK := hKK.1
  intro n
  induction n with
  | zero => intro l1 l3 l4 v_spare v_cells v_g2 hF; rw [F_X3_carry_3] at hF; cases hF
  | succ n ih =>
      intro l1 l3 l4 v_spare v_cells v_g2 hF H locs ls hP hD hS hl
      rw [F_X3_carry_3] at hF
      refine lv_iload hx hb dX3_carry_3 (lv_at hl 4 rfl) ?_
      refine lv_iload_n hx hb dX3_carry_5 rfl (lv_at hl 3 rfl) ?_
      refine lv_icmp_ge (tgt := 33) hx hb dX3_carry_6 (by decide) (fun c_ => ?_) (fun c_ => ?_)
      · have hF := gif c_ hF
        cases hF
        exact W.vret hx hb hr (fun t ht hW => ⟨⟨(), rfl, trivial, by rw [ht]; exact hP, hD⟩, hS.F ht⟩) hS.2.2 dX3_carry_33
      · have hF := gel c_ hF
        refine lv_aload_n hx hb dX3_carry_9 rfl (lv_at hl 0 rfl) ?_
        refine lv_iload_n hx hb dX3_carry_10 rfl (lv_at hl 1 rfl) ?_
        refine lv_aload_n hx hb dX3_carry_11 rfl (lv_at hl 2 rfl) ?_
        refine lv_aload_n hx hb dX3_carry_12 rfl (lv_at hl 0 rfl) ?_
        refine my_get (D := (dC, dI)) (ci := 3) (v := .ref h_spare) (C := RX3) (T := TX3) (N := 3) hx hb hts iX3_carry_X3 hown hK hP 0 rfl rfl 2 (by decide) (hts _ mX3_carry_1) rfl rfl dX3_carry_13 ?_
        obtain ⟨x1_g3, hz1, hF⟩ := bd1_e hF
        refine kc_v (wr := []) (ws' := [(h_me, .inr (3, [.ref h_cells, z_order, .ref h_spare])), (h_spare, .inl (cyJ, 3, .inr (.inl x1_g3))), (h_cells, .inl (cyI, 15, .inl v_cells)), (h_g2, .inl (cyJ, 3, .inr (.inl v_g2)))]) (va_runV (As := [.int l1, .ref h_g2, .ref h_spare]) (rest := []) ⟨hx, hb, hml, hown, hts⟩ (c_X3_goOn l dC dI cyI cyJ cyA h_spare h_me h_cells h_g2 z_order (.ref h_spare) v_spare v_cells v_g2 l1 hz1 _) (cwV 3 hts gX3_carry_X3_goOn rfl rfl rfl ndX3_goOn ⟨Nat.le_of_ble_eq_true rfl, Nat.le_of_ble_eq_true rfl⟩) (pre_V hKK hP hD 0 rfl rfl [1, 0, 2, 3] (by decide) rfl rfl) rfl rfl hl.1 rfl (lv_room (Nat.le_of_ble_eq_true rfl)) dX3_carry_16 ⟨Nat.le_of_ble_eq_true rfl, Nat.le_of_ble_eq_true rfl⟩) hP hD hS hA [1, 0, 2, 3] [] [1, 0, 2, 3] rfl rfl (by decide) (by decide) (by decide) rfl rfl (fun H locs hP hD hS => ?_)
        refine lv_aload_n hx hb dX3_carry_19 rfl (lv_at hl 0 rfl) ?_
        refine my_get (D := (dC, dI)) (ci := 3) (v := .ref h_spare) (C := RX3) (T := TX3) (N := 3) hx hb hts iX3_carry_X3 hown hK hP 0 rfl rfl 2 (by decide) (hts _ mX3_carry_1) rfl rfl dX3_carry_20 ?_
        refine lv_aload_n hx hb dX3_carry_23 rfl (lv_at hl 2 rfl) ?_
        obtain ⟨x2_g2, hz2, hF⟩ := bd1_e hF
        refine kc_v (wr := [(h_me, .inr (3, [.ref h_cells, z_order, .ref h_spare])), (h_cells, .inl (cyI, 15, .inl v_cells))]) (ws' := [(h_me, .inr (3, [.ref h_cells, z_order, .ref h_spare])), (h_spare, .inl (cyJ, 3, .inr (.inl x1_g3))), (h_cells, .inl (cyI, 15, .inl v_cells)), (h_g2, .inl (cyJ, 3, .inr (.inl x2_g2)))]) (va_runSN (As := [.ref h_spare, .ref h_g2]) (rest := []) ⟨hx, hb, hml, hown, hts⟩ (c_X4_copy l dC dI cyI cyJ cyA h_spare h_g2  x1_g3 v_g2  hz2 _) ⟨va_cnB 2 hts gX3_carry_X4_copy_n27 rfl rfl rfl (NS.w_X3_27 hKK.2) (hts _ mX3_carry_9) ndX4_copy.2 ⟨Nat.le_of_ble_eq_true rfl, Nat.le_of_ble_eq_true rfl⟩, hts _ mX3_carry_8, trivial⟩ (pre_S hKK hP hD [1, 3] (by decide) rfl rfl) rfl rfl hl.1 rfl (lv_room (Nat.le_of_ble_eq_true rfl)) dX3_carry_24 ⟨Nat.le_of_ble_eq_true rfl, Nat.le_of_ble_eq_true rfl⟩) hP hD hS hA [1, 3] [0, 2] [0, 2, 1, 3] rfl rfl (by decide) (by decide) (by decide) rfl rfl (fun H locs hP hD hS => ?_)
        refine lv_iinc (v := (l4 + (1 : Int32))) (lv' := [(4, .int (l4 + (1 : Int32))), (0, .ref h_me), (1, .int l1), (2, .ref h_g2), (3, .int l3)]) hx hb dX3_carry_27 hl (k := 4) rfl (by rfl) (by decide) rfl (fun ls hl => ?_)
        refine lv_goto (tgt := 3) hx hb dX3_carry_30 (by decide) ?_
        exact ih l1 l3 (l4 + (1 : Int32)) x1_g3 v_cells x2_g2 hF hP hD hS (lv_sub hl [1, 2, 3, 4, 0] rfl)
set_option maxHeartbeats 4000000 in
set_option maxRecDepth 100000 in
theorem c_X3_carry (l : Launch) (dC : Nat → ClassId) (dI : Nat → Nat → Nat) (cyI cyJ cyA : ClassId) (h_me h_spare h_cells h_g2 : Nat) (z_order : Value) (v_spare : Nat → Int64) (v_cells : Nat → Int32) (v_g2 : Nat → Int64) (l1 : Int32) (l3 : Int32) {q_spare : Nat → Int64} {q_g2 : Nat → Int64} (hF : F_X3_carry l1 l3 v_spare v_cells v_g2 = some (q_spare, q_g2)) (sz : Nat) : Met l yX3_carry wsX3_carry rmX3_carry (va_Pc [.ref h_me, .int l1, .ref h_g2, .int l3] (PC (dC, dI) cyI cyJ cyA [(h_me, .inr (3, [.ref h_cells, z_order, .ref h_spare])), (h_spare, .inl (cyJ, 3, .inr (.inl v_spare))), (h_cells, .inl (cyI, 15, .inl v_cells)), (h_g2, .inl (cyJ, 3, .inr (.inl v_g2)))] sz)) (QV (dC, dI) (va_A [(h_me, .inr (3, [.ref h_cells, z_order, .ref h_spare])), (h_spare, .inl (cyJ, 3, .inr (.inl v_spare))), (h_cells, .inl (cyI, 15, .inl v_cells)), (h_g2, .inl (cyJ, 3, .inr (.inl v_g2)))] sz) [(h_me, .inr (3, [.ref h_cells, z_order, .ref h_spare])), (h_spare, .inl (cyJ, 3, .inr (.inl q_spare))), (h_cells, .inl (cyI, 15, .inl v_cells)), (h_g2, .inl (cyJ, 3, .inr (.inl q_g2)))]) 0 0 (va_A [(h_me, .inr (3, [.ref h_cells, z_order, .ref h_spare])), (h_spare, .inl (cyJ, 3, .inr (.inl v_spare))), (h_cells, .inl (cyI, 15, .inl v_cells)), (h_g2, .inl (cyJ, 3, .inr (.inl v_g2)))] sz) := by
  refine Met.ofW (cc := cX3_carry) (maxL := 5) (ret := none) (by decide) rfl ?_
  intro p e s m args below meth c s₁ B hml hv
  obtain ⟨rfl, hsz, hP, hKK, hD0⟩ := hv
  have hx := B.exec
  have hb := B.bytes
  have hr := B.returns
  have hts := atoms_spec (ws := wsX3_carry) B.pre
  have hown : s.vm.findClass RX3 = some m.cls := findClass_of_methodNamed B.named
  have hlocks := B.notSynchronized
  have C0 : Cx p s m ([.ref h_me, .int l1, .ref h_g2, .int l3] : List Value).toArray meth c cX3_carry 5 none wsX3_carry RX3 (dC, dI) cyI cyJ cyA := ⟨hx, hb, hr, hml, hown, hts, hKK, hlocks⟩
  have hK := hKK.1
  subst hsz
  have hD := hD0.self (sz := s.heap.size)
  generalize hAe : va_A [(h_me, .inr (3, [.ref h_cells, z_order, .ref h_spare])), (h_spare, .inl (cyJ, 3, .inr (.inl v_spare))), (h_cells, .inl (cyI, 15, .inl v_cells)), (h_g2, .inl (cyJ, 3, .inr (.inl v_g2)))] s.heap.size = A at hD ⊢
  have hA : ∀ q : Nat, s.heap.size ≤ q → A q := fun q h => by rw [← hAe]; exact Or.inr h
  have hS : va_S A s.heap s.heap [] := va_S.rf
  have hl := lv_entry ([.ref h_me, .int l1, .ref h_g2, .int l3]) (n := 5) (Nat.le_of_ble_eq_true rfl)
  rw [lg_entry_eq]
  generalize (lg_sl ([.ref h_me, .int l1, .ref h_g2, .int l3]) ++ List.replicate (5 - (lg_sl ([.ref h_me, .int l1, .ref h_g2, .int l3])).length) Slot.unset).toArray = ls at hl ⊢
  have hl : lv_has ls 5 [(0, .ref h_me), (1, .int l1), (2, .ref h_g2), (3, .int l3)] := hl
  unfold F_X3_carry at hF
  refine lv_iconst (v := (0 : Int32)) hx hb dX3_carry_0 (by decide) ?_
  refine lv_istore (lv' := [(4, .int (0 : Int32)), (0, .ref h_me), (1, .int l1), (2, .ref h_g2), (3, .int l3)]) hx hb dX3_carry_1 hl (by decide) rfl (fun ls hl => ?_)
  exact t_X3_carry_3 C0 hA   3000 l1 l3 (0 : Int32) v_spare v_cells v_g2 hF hP hD hS (lv_sub hl [1, 2, 3, 4, 0] rfl)
/-! RestGains$Chain.share (I[J)J -/
def rmX0_share : Room := { frames := 1, cells := 0, slots := 0, locals := 21 }
def F_X0_share (l1 : Int32) (v_square_r0 : Nat → Int64) (v_square_r1 : Nat → Int64) (v_square_r2 : Nat → Int64) (v_g2 : Nat → Int64) : Option (Int64) :=
  if l1 = 0 then (bd1 (F_X4_dot v_square_r0 v_g2) (fun r1 => some r1)) else if l1 = 1 then (bd1 (F_X4_dot v_square_r1 v_g2) (fun r2 => some r2)) else if l1 = 2 then (bd1 (F_X4_dot v_square_r2 v_g2) (fun r3 => some r3)) else none
set_option maxHeartbeats 4000000 in
set_option maxRecDepth 100000 in
theorem c_X0_share (l : Launch) (dC : Nat → ClassId) (dI : Nat → Nat → Nat) (cyI cyJ cyA : ClassId) (h_me h_square h_square_r0 h_square_r1 h_square_r2 h_g2 : Nat) (z_rows z_gains z_rank z_below z_across z_base z_spare : Value) (v_square_r0 : Nat → Int64) (v_square_r1 : Nat → Int64) (v_square_r2 : Nat → Int64) (v_g2 : Nat → Int64) (l1 : Int32) {r : Int64} (hF : F_X0_share l1 v_square_r0 v_square_r1 v_square_r2 v_g2 = some r) (sz : Nat) : Met l yX0_share wsX0_share rmX0_share (va_Pc [.ref h_me, .int l1, .ref h_g2] (PC (dC, dI) cyI cyJ cyA [(h_me, .inr (0, [z_rows, z_gains, z_rank, z_below, z_across, z_base, .ref h_square, z_spare])), (h_square, .inl (cyA, 3, .inr (.inr (.inr (.inr (fn3 h_square_r0 h_square_r1 h_square_r2)))))), (h_square_r0, .inl (cyJ, 3, .inr (.inl v_square_r0))), (h_square_r1, .inl (cyJ, 3, .inr (.inl v_square_r1))), (h_square_r2, .inl (cyJ, 3, .inr (.inl v_square_r2))), (h_g2, .inl (cyJ, 3, .inr (.inl v_g2)))] sz)) (QL (dC, dI) (va_A [(h_me, .inr (0, [z_rows, z_gains, z_rank, z_below, z_across, z_base, .ref h_square, z_spare])), (h_square, .inl (cyA, 3, .inr (.inr (.inr (.inr (fn3 h_square_r0 h_square_r1 h_square_r2)))))), (h_square_r0, .inl (cyJ, 3, .inr (.inl v_square_r0))), (h_square_r1, .inl (cyJ, 3, .inr (.inl v_square_r1))), (h_square_r2, .inl (cyJ, 3, .inr (.inl v_square_r2))), (h_g2, .inl (cyJ, 3, .inr (.inl v_g2)))] sz) [(h_me, .inr (0, [z_rows, z_gains, z_rank, z_below, z_across, z_base, .ref h_square, z_spare])), (h_square, .inl (cyA, 3, .inr (.inr (.inr (.inr (fn3 h_square_r0 h_square_r1 h_square_r2)))))), (h_square_r0, .inl (cyJ, 3, .inr (.inl v_square_r0))), (h_square_r1, .inl (cyJ, 3, .inr (.inl v_square_r1))), (h_square_r2, .inl (cyJ, 3, .inr (.inl v_square_r2))), (h_g2, .inl (cyJ, 3, .inr (.inl v_g2)))] r) 0 0 (va_A [(h_me, .inr (0, [z_rows, z_gains, z_rank, z_below, z_across, z_base, .ref h_square, z_spare])), (h_square, .inl (cyA, 3, .inr (.inr (.inr (.inr (fn3 h_square_r0 h_square_r1 h_square_r2)))))), (h_square_r0, .inl (cyJ, 3, .inr (.inl v_square_r0))), (h_square_r1, .inl (cyJ, 3, .inr (.inl v_square_r1))), (h_square_r2, .inl (cyJ, 3, .inr (.inl v_square_r2))), (h_g2, .inl (cyJ, 3, .inr (.inl v_g2)))] sz) := by
  refine Met.ofW (cc := cX0_share) (maxL := 3) (ret := (some .long)) (by decide) rfl ?_
  intro p e s m args below meth c s₁ B hml hv
  obtain ⟨rfl, hsz, hP, hKK, hD0⟩ := hv
  have hx := B.exec
  have hb := B.bytes
  have hr := B.returns
  have hts := atoms_spec (ws := wsX0_share) B.pre
  have hown : s.vm.findClass RX0 = some m.cls := findClass_of_methodNamed B.named
  have hlocks := B.notSynchronized
  have C0 : Cx p s m ([.ref h_me, .int l1, .ref h_g2] : List Value).toArray meth c cX0_share 3 (some .long) wsX0_share RX0 (dC, dI) cyI cyJ cyA := ⟨hx, hb, hr, hml, hown, hts, hKK, hlocks⟩
  have hK := hKK.1
  subst hsz
  have hD := hD0.self (sz := s.heap.size)
  generalize hAe : va_A [(h_me, .inr (0, [z_rows, z_gains, z_rank, z_below, z_across, z_base, .ref h_square, z_spare])), (h_square, .inl (cyA, 3, .inr (.inr (.inr (.inr (fn3 h_square_r0 h_square_r1 h_square_r2)))))), (h_square_r0, .inl (cyJ, 3, .inr (.inl v_square_r0))), (h_square_r1, .inl (cyJ, 3, .inr (.inl v_square_r1))), (h_square_r2, .inl (cyJ, 3, .inr (.inl v_square_r2))), (h_g2, .inl (cyJ, 3, .inr (.inl v_g2)))] s.heap.size = A at hD ⊢
  have hA : ∀ q : Nat, s.heap.size ≤ q → A q := fun q h => by rw [← hAe]; exact Or.inr h
  have hS : va_S A s.heap s.heap [] := va_S.rf
  have hl := lv_entry ([.ref h_me, .int l1, .ref h_g2]) (n := 3) (Nat.le_of_ble_eq_true rfl)
  rw [lg_entry_eq]
  generalize (lg_sl ([.ref h_me, .int l1, .ref h_g2]) ++ List.replicate (3 - (lg_sl ([.ref h_me, .int l1, .ref h_g2])).length) Slot.unset).toArray = ls at hl ⊢
  have hl : lv_has ls 3 [(0, .ref h_me), (1, .int l1), (2, .ref h_g2)] := hl
  unfold F_X0_share at hF
  refine lv_aload_n hx hb dX0_share_0 rfl (lv_at hl 0 rfl) ?_
  refine my_get (D := (dC, dI)) (ci := 0) (v := .ref h_square) (C := RX0) (T := TX0) (N := 8) hx hb hts iX0_share_X0 hown hK hP 0 rfl rfl 6 (by decide) (hts _ mX0_share_1) rfl rfl dX0_share_1 ?_
  refine lv_iload_n hx hb dX0_share_4 rfl (lv_at hl 1 rfl) ?_
  rcases sel3 hF with ⟨c_, hF⟩ | ⟨c_, hF⟩ | ⟨c_, hF⟩
  · refine my_ald2 hx hb hK hP 1 2 rfl rfl (in3_0 c_) dX0_share_5 (v := .ref h_square_r0) (by rw [c_]; rfl) ?_
    refine lv_aload_n hx hb dX0_share_6 rfl (lv_at hl 2 rfl) ?_
    obtain ⟨r1, hz1, hF⟩ := bd1_e hF
    refine kc_l (wr := [(h_me, .inr (0, [z_rows, z_gains, z_rank, z_below, z_across, z_base, .ref h_square, z_spare])), (h_square, .inl (cyA, 3, .inr (.inr (.inr (.inr (fn3 h_square_r0 h_square_r1 h_square_r2)))))), (h_square_r1, .inl (cyJ, 3, .inr (.inl v_square_r1))), (h_square_r2, .inl (cyJ, 3, .inr (.inl v_square_r2)))]) (ws' := [(h_me, .inr (0, [z_rows, z_gains, z_rank, z_below, z_across, z_base, .ref h_square, z_spare])), (h_square, .inl (cyA, 3, .inr (.inr (.inr (.inr (fn3 h_square_r0 h_square_r1 h_square_r2)))))), (h_square_r0, .inl (cyJ, 3, .inr (.inl v_square_r0))), (h_square_r1, .inl (cyJ, 3, .inr (.inl v_square_r1))), (h_square_r2, .inl (cyJ, 3, .inr (.inl v_square_r2))), (h_g2, .inl (cyJ, 3, .inr (.inl v_g2)))]) (va_runSN (As := [.ref h_square_r0, .ref h_g2]) (rest := []) ⟨hx, hb, hml, hown, hts⟩ (c_X4_dot l dC dI cyI cyJ cyA h_square_r0 h_g2  v_square_r0 v_g2  hz1 _) ⟨va_cnB 2 hts gX0_share_X4_dot_n58 rfl rfl rfl (NS.w_X0_58 hKK.2) (hts _ mX0_share_3) ndX4_dot.2 ⟨Nat.le_of_ble_eq_true rfl, Nat.le_of_ble_eq_true rfl⟩, hts _ mX0_share_2, trivial⟩ (pre_S hKK hP hD [2, 5] (by decide) rfl rfl) rfl rfl hl.1 rfl (lv_room (Nat.le_of_ble_eq_true rfl)) dX0_share_7 ⟨Nat.le_of_ble_eq_true rfl, Nat.le_of_ble_eq_true rfl⟩) hP hD hS hA [2, 5] [0, 1, 3, 4] [0, 1, 4, 2, 3, 5] rfl rfl (by decide) (by decide) (by decide) rfl rfl (fun H locs hP hD hS => ?_)
    cases hF
    exact W.lret hx hb hr (fun t ht hW => ⟨⟨_, (), rfl, rfl, by rw [ht]; exact hP, hD⟩, hS.F ht⟩) hS.2.2 dX0_share_10
  · refine my_ald2 hx hb hK hP 1 2 rfl rfl (in3_1 c_) dX0_share_5 (v := .ref h_square_r1) (by rw [c_]; rfl) ?_
    refine lv_aload_n hx hb dX0_share_6 rfl (lv_at hl 2 rfl) ?_
    obtain ⟨r2, hz2, hF⟩ := bd1_e hF
    refine kc_l (wr := [(h_me, .inr (0, [z_rows, z_gains, z_rank, z_below, z_across, z_base, .ref h_square, z_spare])), (h_square, .inl (cyA, 3, .inr (.inr (.inr (.inr (fn3 h_square_r0 h_square_r1 h_square_r2)))))), (h_square_r0, .inl (cyJ, 3, .inr (.inl v_square_r0))), (h_square_r2, .inl (cyJ, 3, .inr (.inl v_square_r2)))]) (ws' := [(h_me, .inr (0, [z_rows, z_gains, z_rank, z_below, z_across, z_base, .ref h_square, z_spare])), (h_square, .inl (cyA, 3, .inr (.inr (.inr (.inr (fn3 h_square_r0 h_square_r1 h_square_r2)))))), (h_square_r0, .inl (cyJ, 3, .inr (.inl v_square_r0))), (h_square_r1, .inl (cyJ, 3, .inr (.inl v_square_r1))), (h_square_r2, .inl (cyJ, 3, .inr (.inl v_square_r2))), (h_g2, .inl (cyJ, 3, .inr (.inl v_g2)))]) (va_runSN (As := [.ref h_square_r1, .ref h_g2]) (rest := []) ⟨hx, hb, hml, hown, hts⟩ (c_X4_dot l dC dI cyI cyJ cyA h_square_r1 h_g2  v_square_r1 v_g2  hz2 _) ⟨va_cnB 2 hts gX0_share_X4_dot_n58 rfl rfl rfl (NS.w_X0_58 hKK.2) (hts _ mX0_share_3) ndX4_dot.2 ⟨Nat.le_of_ble_eq_true rfl, Nat.le_of_ble_eq_true rfl⟩, hts _ mX0_share_2, trivial⟩ (pre_S hKK hP hD [3, 5] (by decide) rfl rfl) rfl rfl hl.1 rfl (lv_room (Nat.le_of_ble_eq_true rfl)) dX0_share_7 ⟨Nat.le_of_ble_eq_true rfl, Nat.le_of_ble_eq_true rfl⟩) hP hD hS hA [3, 5] [0, 1, 2, 4] [0, 1, 2, 4, 3, 5] rfl rfl (by decide) (by decide) (by decide) rfl rfl (fun H locs hP hD hS => ?_)
    cases hF
    exact W.lret hx hb hr (fun t ht hW => ⟨⟨_, (), rfl, rfl, by rw [ht]; exact hP, hD⟩, hS.F ht⟩) hS.2.2 dX0_share_10
  · refine my_ald2 hx hb hK hP 1 2 rfl rfl (in3_2 c_) dX0_share_5 (v := .ref h_square_r2) (by rw [c_]; rfl) ?_
    refine lv_aload_n hx hb dX0_share_6 rfl (lv_at hl 2 rfl) ?_
    obtain ⟨r3, hz3, hF⟩ := bd1_e hF
    refine kc_l (wr := [(h_me, .inr (0, [z_rows, z_gains, z_rank, z_below, z_across, z_base, .ref h_square, z_spare])), (h_square, .inl (cyA, 3, .inr (.inr (.inr (.inr (fn3 h_square_r0 h_square_r1 h_square_r2)))))), (h_square_r0, .inl (cyJ, 3, .inr (.inl v_square_r0))), (h_square_r1, .inl (cyJ, 3, .inr (.inl v_square_r1)))]) (ws' := [(h_me, .inr (0, [z_rows, z_gains, z_rank, z_below, z_across, z_base, .ref h_square, z_spare])), (h_square, .inl (cyA, 3, .inr (.inr (.inr (.inr (fn3 h_square_r0 h_square_r1 h_square_r2)))))), (h_square_r0, .inl (cyJ, 3, .inr (.inl v_square_r0))), (h_square_r1, .inl (cyJ, 3, .inr (.inl v_square_r1))), (h_square_r2, .inl (cyJ, 3, .inr (.inl v_square_r2))), (h_g2, .inl (cyJ, 3, .inr (.inl v_g2)))]) (va_runSN (As := [.ref h_square_r2, .ref h_g2]) (rest := []) ⟨hx, hb, hml, hown, hts⟩ (c_X4_dot l dC dI cyI cyJ cyA h_square_r2 h_g2  v_square_r2 v_g2  hz3 _) ⟨va_cnB 2 hts gX0_share_X4_dot_n58 rfl rfl rfl (NS.w_X0_58 hKK.2) (hts _ mX0_share_3) ndX4_dot.2 ⟨Nat.le_of_ble_eq_true rfl, Nat.le_of_ble_eq_true rfl⟩, hts _ mX0_share_2, trivial⟩ (pre_S hKK hP hD [4, 5] (by decide) rfl rfl) rfl rfl hl.1 rfl (lv_room (Nat.le_of_ble_eq_true rfl)) dX0_share_7 ⟨Nat.le_of_ble_eq_true rfl, Nat.le_of_ble_eq_true rfl⟩) hP hD hS hA [4, 5] [0, 1, 2, 3] [0, 1, 2, 3, 4, 5] rfl rfl (by decide) (by decide) (by decide) rfl rfl (fun H locs hP hD hS => ?_)
    cases hF
    exact W.lret hx hb hr (fun t ht hW => ⟨⟨_, (), rfl, rfl, by rw [ht]; exact hP, hD⟩, hS.F ht⟩) hS.2.2 dX0_share_10
/-! RestGains$Chain.findGains (LRestGains$Plant;)V -/
def rmX0_findGains : Room := { frames := 2, cells := 0, slots := 0, locals := 52 }
def F_X0_findGains_82 (k_2 : Int32 → Int32 → Int32 → (Nat → Int64) → Int32 → (Nat → Int64) → (Nat → Int32) → (Nat → Int64) → (Nat → Int64) → (Nat → Int64) → (Nat → Int64) → Option ((Nat → Int64) × (Nat → Int64) × (Nat → Int64))) (s1 : Int32) (s2 : Int64) (l2 : Int32) (v_rank : Int32) (v_across : Int32) (v_spare : Nat → Int64) (v_g1_order : Int32) (v_g1_spare : Nat → Int64) (v_g1_cells : Nat → Int32) (v_gains : Nat → Int64) (v_square_r0 : Nat → Int64) (v_square_r1 : Nat → Int64) (v_square_r2 : Nat → Int64) : Option ((Nat → Int64) × (Nat → Int64) × (Nat → Int64)) :=
  if s1 < 0 ∨ 3 ≤ s1.toNatClampNeg then none else k_2 (l2 + (1 : Int32)) v_rank v_across v_spare v_g1_order v_g1_spare v_g1_cells (vp_updL v_gains s1.toNatClampNeg s2) v_square_r0 v_square_r1 v_square_r2
def F_X0_findGains_54 (k_2 : Int32 → Int32 → Int32 → (Nat → Int64) → Int32 → (Nat → Int64) → (Nat → Int32) → (Nat → Int64) → (Nat → Int64) → (Nat → Int64) → (Nat → Int64) → Option ((Nat → Int64) × (Nat → Int64) × (Nat → Int64))) (s0 : Int32) (l2 : Int32) (v_rank : Int32) (v_across : Int32) (v_spare : Nat → Int64) (v_g1_order : Int32) (v_g1_spare : Nat → Int64) (v_g1_cells : Nat → Int32) (v_gains : Nat → Int64) (v_square_r0 : Nat → Int64) (v_square_r1 : Nat → Int64) (v_square_r2 : Nat → Int64) : Option ((Nat → Int64) × (Nat → Int64) × (Nat → Int64)) :=
  if s0 = 0 then (F_X0_findGains_82 k_2 l2 (0 : Int64) l2 v_rank v_across v_spare v_g1_order v_g1_spare v_g1_cells v_gains v_square_r0 v_square_r1 v_square_r2) else (bd1 (F_X0_share (v_g1_order - (1 : Int32)) v_square_r0 v_square_r1 v_square_r2 v_spare) (fun r1 => F_X0_findGains_82 k_2 l2 r1 l2 v_rank v_across v_spare v_g1_order v_g1_spare v_g1_cells v_gains v_square_r0 v_square_r1 v_square_r2))
def F_X0_findGains_53 (k_2 : Int32 → Int32 → Int32 → (Nat → Int64) → Int32 → (Nat → Int64) → (Nat → Int32) → (Nat → Int64) → (Nat → Int64) → (Nat → Int64) → (Nat → Int64) → Option ((Nat → Int64) × (Nat → Int64) × (Nat → Int64))) (l2 : Int32) (v_rank : Int32) (v_across : Int32) (v_spare : Nat → Int64) (v_g1_order : Int32) (v_g1_spare : Nat → Int64) (v_g1_cells : Nat → Int32) (v_gains : Nat → Int64) (v_square_r0 : Nat → Int64) (v_square_r1 : Nat → Int64) (v_square_r2 : Nat → Int64) : Option ((Nat → Int64) × (Nat → Int64) × (Nat → Int64)) :=
  F_X0_findGains_54 k_2 (0 : Int32) l2 v_rank v_across v_spare v_g1_order v_g1_spare v_g1_cells v_gains v_square_r0 v_square_r1 v_square_r2
def F_X0_findGains_2  : Nat → Int32 → Int32 → Int32 → (Nat → Int64) → Int32 → (Nat → Int64) → (Nat → Int32) → (Nat → Int64) → (Nat → Int64) → (Nat → Int64) → (Nat → Int64) → Option ((Nat → Int64) × (Nat → Int64) × (Nat → Int64))
  | 0, _, _, _, _, _, _, _, _, _, _, _ => none
  | n + 1, l2, v_rank, v_across, v_spare, v_g1_order, v_g1_spare, v_g1_cells, v_gains, v_square_r0, v_square_r1, v_square_r2 => if (3 : Int32) ≤ l2 then (some (v_spare, v_g1_spare, v_gains)) else (bd1 (F_X4_setUnit l2 v_spare) (fun x1_g1 => bd2 (F_X3_carry v_across v_g1_order v_g1_spare v_g1_cells x1_g1) (fun x2_spare x2_g2 => if v_g1_order ≤ 0 then (F_X0_findGains_53 (fun l2 v_rank v_across v_spare v_g1_order v_g1_spare v_g1_cells v_gains v_square_r0 v_square_r1 v_square_r2 => F_X0_findGains_2  n l2 v_rank v_across v_spare v_g1_order v_g1_spare v_g1_cells v_gains v_square_r0 v_square_r1 v_square_r2) l2 v_rank v_across x2_g2 v_g1_order x2_spare v_g1_cells v_gains v_square_r0 v_square_r1 v_square_r2) else (if v_rank = v_g1_order then (F_X0_findGains_54 (fun l2 v_rank v_across v_spare v_g1_order v_g1_spare v_g1_cells v_gains v_square_r0 v_square_r1 v_square_r2 => F_X0_findGains_2  n l2 v_rank v_across v_spare v_g1_order v_g1_spare v_g1_cells v_gains v_square_r0 v_square_r1 v_square_r2) (1 : Int32) l2 v_rank v_across x2_g2 v_g1_order x2_spare v_g1_cells v_gains v_square_r0 v_square_r1 v_square_r2) else (F_X0_findGains_53 (fun l2 v_rank v_across v_spare v_g1_order v_g1_spare v_g1_cells v_gains v_square_r0 v_square_r1 v_square_r2 => F_X0_findGains_2  n l2 v_rank v_across v_spare v_g1_order v_g1_spare v_g1_cells v_gains v_square_r0 v_square_r1 v_square_r2) l2 v_rank v_across x2_g2 v_g1_order x2_spare v_g1_cells v_gains v_square_r0 v_square_r1 v_square_r2)))))
def F_X0_findGains (v_rank : Int32) (v_across : Int32) (v_spare : Nat → Int64) (v_g1_order : Int32) (v_g1_spare : Nat → Int64) (v_g1_cells : Nat → Int32) (v_gains : Nat → Int64) (v_square_r0 : Nat → Int64) (v_square_r1 : Nat → Int64) (v_square_r2 : Nat → Int64) : Option ((Nat → Int64) × (Nat → Int64) × (Nat → Int64)) :=
  F_X0_findGains_2  3000 (0 : Int32) v_rank v_across v_spare v_g1_order v_g1_spare v_g1_cells v_gains v_square_r0 v_square_r1 v_square_r2
set_option maxHeartbeats 4000000 in
set_option maxRecDepth 100000 in
theorem t_X0_findGains_82 {p : Program} {l : Launch} {e : Env} {s : State} {m : MethodId} {args : Array Value} {below : List Frame} {meth : Method} {c : Code} {dC : Nat → ClassId} {dI : Nat → Nat → Nat} {cyI cyJ cyA : ClassId} {A : Nat → Prop} {h_me h_spare h_g1 h_g1_spare h_g1_cells h_gains h_square h_square_r0 h_square_r1 h_square_r2 : Nat} {z_rows z_below z_base : Value} {q_spare : Nat → Int64} {q_g1_spare : Nat → Int64} {q_gains : Nat → Int64} (C0 : Cx p s m args meth c cX0_findGains 4 none wsX0_findGains RX0 (dC, dI) cyI cyJ cyA) (hA : ∀ q : Nat, s.heap.size ≤ q → A q) (k_2 : Int32 → Int32 → Int32 → (Nat → Int64) → Int32 → (Nat → Int64) → (Nat → Int32) → (Nat → Int64) → (Nat → Int64) → (Nat → Int64) → (Nat → Int64) → Option ((Nat → Int64) × (Nat → Int64) × (Nat → Int64))) (hk_2 : ∀ (l2 : Int32) (v_rank : Int32) (v_across : Int32) (v_spare : Nat → Int64) (v_g1_order : Int32) (v_g1_spare : Nat → Int64) (v_g1_cells : Nat → Int32) (v_gains : Nat → Int64) (v_square_r0 : Nat → Int64) (v_square_r1 : Nat → Int64) (v_square_r2 : Nat → Int64), k_2 l2 v_rank v_across v_spare v_g1_order v_g1_spare v_g1_cells v_gains v_square_r0 v_square_r1 v_square_r2 = some (q_spare, q_g1_spare, q_gains) → ∀ {H : Heap} {locs : List Loc} {ls : Array Slot}, va_P (dC, dI) vwCl [(h_me, .inr (0, [z_rows, .ref h_gains, .int v_rank, z_below, .int v_across, z_base, .ref h_square, .ref h_spare])), (h_spare, .inl (cyJ, 3, .inr (.inl v_spare))), (h_g1, .inr (3, [.ref h_g1_cells, .int v_g1_order, .ref h_g1_spare])), (h_g1_spare, .inl (cyJ, 3, .inr (.inl v_g1_spare))), (h_g1_cells, .inl (cyI, 15, .inl v_g1_cells)), (h_gains, .inl (cyJ, 3, .inr (.inl v_gains))), (h_square, .inl (cyA, 3, .inr (.inr (.inr (.inr (fn3 h_square_r0 h_square_r1 h_square_r2)))))), (h_square_r0, .inl (cyJ, 3, .inr (.inl v_square_r0))), (h_square_r1, .inl (cyJ, 3, .inr (.inl v_square_r1))), (h_square_r2, .inl (cyJ, 3, .inr (.inl v_square_r2)))] H → va_D A [(h_me, .inr (0, [z_rows, .ref h_gains, .int v_rank, z_below, .int v_across, z_base, .ref h_square, .ref h_spare])), (h_spare, .inl (cyJ, 3, .inr (.inl v_spare))), (h_g1, .inr (3, [.ref h_g1_cells, .int v_g1_order, .ref h_g1_spare])), (h_g1_spare, .inl (cyJ, 3, .inr (.inl v_g1_spare))), (h_g1_cells, .inl (cyI, 15, .inl v_g1_cells)), (h_gains, .inl (cyJ, 3, .inr (.inl v_gains))), (h_square, .inl (cyA, 3, .inr (.inr (.inr (.inr (fn3 h_square_r0 h_square_r1 h_square_r2)))))), (h_square_r0, .inl (cyJ, 3, .inr (.inl v_square_r0))), (h_square_r1, .inl (cyJ, 3, .inr (.inl v_square_r1))), (h_square_r2, .inl (cyJ, 3, .inr (.inl v_square_r2)))] → va_S A s.heap H locs → lv_has ls 4 [(0, .ref h_me), (1, .ref h_g1), (2, .int l2)] → W p l e rmX0_findGains s m args below meth c H locs 0 0 (MQ below (QV (dC, dI) A [(h_me, .inr (0, [z_rows, .ref h_gains, .int v_rank, z_below, .int v_across, z_base, .ref h_square, .ref h_spare])), (h_spare, .inl (cyJ, 3, .inr (.inl q_spare))), (h_g1, .inr (3, [.ref h_g1_cells, .int v_g1_order, .ref h_g1_spare])), (h_g1_spare, .inl (cyJ, 3, .inr (.inl q_g1_spare))), (h_g1_cells, .inl (cyI, 15, .inl v_g1_cells)), (h_gains, .inl (cyJ, 3, .inr (.inl q_gains))), (h_square, .inl (cyA, 3, .inr (.inr (.inr (.inr (fn3 h_square_r0 h_square_r1 h_square_r2)))))), (h_square_r0, .inl (cyJ, 3, .inr (.inl v_square_r0))), (h_square_r1, .inl (cyJ, 3, .inr (.inl v_square_r1))), (h_square_r2, .inl (cyJ, 3, .inr (.inl v_square_r2)))]) args s 0 0 A) (F0 m 2 ls [])) : ∀ (s1 : Int32) (s2 : Int64) (l2 : Int32) (v_rank : Int32) (v_across : Int32) (v_spare : Nat → Int64) (v_g1_order : Int32) (v_g1_spare : Nat → Int64) (v_g1_cells : Nat → Int32) (v_gains : Nat → Int64) (v_square_r0 : Nat → Int64) (v_square_r1 : Nat → Int64) (v_square_r2 : Nat → Int64), F_X0_findGains_82 k_2 s1 s2 l2 v_rank v_across v_spare v_g1_order v_g1_spare v_g1_cells v_gains v_square_r0 v_square_r1 v_square_r2 = some (q_spare, q_g1_spare, q_gains) → ∀ {H : Heap} {locs : List Loc} {ls : Array Slot}, va_P (dC, dI) vwCl [(h_me, .inr (0, [z_rows, .ref h_gains, .int v_rank, z_below, .int v_across, z_base, .ref h_square, .ref h_spare])), (h_spare, .inl (cyJ, 3, .inr (.inl v_spare))), (h_g1, .inr (3, [.ref h_g1_cells, .int v_g1_order, .ref h_g1_spare])), (h_g1_spare, .inl (cyJ, 3, .inr (.inl v_g1_spare))), (h_g1_cells, .inl (cyI, 15, .inl v_g1_cells)), (h_gains, .inl (cyJ, 3, .inr (.inl v_gains))), (h_square, .inl (cyA, 3, .inr (.inr (.inr (.inr (fn3 h_square_r0 h_square_r1 h_square_r2)))))), (h_square_r0, .inl (cyJ, 3, .inr (.inl v_square_r0))), (h_square_r1, .inl (cyJ, 3, .inr (.inl v_square_r1))), (h_square_r2, .inl (cyJ, 3, .inr (.inl v_square_r2)))] H → va_D A [(h_me, .inr (0, [z_rows, .ref h_gains, .int v_rank, z_below, .int v_across, z_base, .ref h_square, .ref h_spare])), (h_spare, .inl (cyJ, 3, .inr (.inl v_spare))), (h_g1, .inr (3, [.ref h_g1_cells, .int v_g1_order, .ref h_g1_spare])), (h_g1_spare, .inl (cyJ, 3, .inr (.inl v_g1_spare))), (h_g1_cells, .inl (cyI, 15, .inl v_g1_cells)), (h_gains, .inl (cyJ, 3, .inr (.inl v_gains))), (h_square, .inl (cyA, 3, .inr (.inr (.inr (.inr (fn3 h_square_r0 h_square_r1 h_square_r2)))))), (h_square_r0, .inl (cyJ, 3, .inr (.inl v_square_r0))), (h_square_r1, .inl (cyJ, 3, .inr (.inl v_square_r1))), (h_square_r2, .inl (cyJ, 3, .inr (.inl v_square_r2)))] → va_S A s.heap H locs → lv_has ls 4 [(0, .ref h_me), (1, .ref h_g1), (2, .int l2)] → W p l e rmX0_findGains s m args below meth c H locs 0 0 (MQ below (QV (dC, dI) A [(h_me, .inr (0, [z_rows, .ref h_gains, .int v_rank, z_below, .int v_across, z_base, .ref h_square, .ref h_spare])), (h_spare, .inl (cyJ, 3, .inr (.inl q_spare))), (h_g1, .inr (3, [.ref h_g1_cells, .int v_g1_order, .ref h_g1_spare])), (h_g1_spare, .inl (cyJ, 3, .inr (.inl q_g1_spare))), (h_g1_cells, .inl (cyI, 15, .inl v_g1_cells)), (h_gains, .inl (cyJ, 3, .inr (.inl q_gains))), (h_square, .inl (cyA, 3, .inr (.inr (.inr (.inr (fn3 h_square_r0 h_square_r1 h_square_r2)))))), (h_square_r0, .inl (cyJ, 3, .inr (.inl v_square_r0))), (h_square_r1, .inl (cyJ, 3, .inr (.inl v_square_r1))), (h_square_r2, .inl (cyJ, 3, .inr (.inl v_square_r2)))]) args s 0 0 A) (F0 m 82 ls [.long s2, .int s1, .ref h_gains]) := by
  obtain ⟨hx, hb, hr, hml, hown, hts, hKK, hlocks⟩ := id C0
  have hK := hKK.1
  intro s1 s2 l2 v_rank v_across v_spare v_g1_order v_g1_spare v_g1_cells v_gains v_square_r0 v_square_r1 v_square_r2 hF H locs ls hP hD hS hl
  unfold F_X0_findGains_82 at hF
  obtain ⟨g_1, hF⟩ := gno hF
  refine my_last (ws' := [(h_me, .inr (0, [z_rows, .ref h_gains, .int v_rank, z_below, .int v_across, z_base, .ref h_square, .ref h_spare])), (h_spare, .inl (cyJ, 3, .inr (.inl v_spare))), (h_g1, .inr (3, [.ref h_g1_cells, .int v_g1_order, .ref h_g1_spare])), (h_g1_spare, .inl (cyJ, 3, .inr (.inl v_g1_spare))), (h_g1_cells, .inl (cyI, 15, .inl v_g1_cells)), (h_gains, .inl (cyJ, 3, .inr (.inl (vp_updL v_gains s1.toNatClampNeg s2)))), (h_square, .inl (cyA, 3, .inr (.inr (.inr (.inr (fn3 h_square_r0 h_square_r1 h_square_r2)))))), (h_square_r0, .inl (cyJ, 3, .inr (.inl v_square_r0))), (h_square_r1, .inl (cyJ, 3, .inr (.inl v_square_r1))), (h_square_r2, .inl (cyJ, 3, .inr (.inl v_square_r2)))]) hx hb hK hP hD hS 5 1 rfl rfl g_1 dX0_findGains_82 rfl (fun H locs hP hD hS => ?_)
  refine lv_iinc (v := (l2 + (1 : Int32))) (lv' := [(2, .int (l2 + (1 : Int32))), (0, .ref h_me), (1, .ref h_g1)]) hx hb dX0_findGains_83 hl (k := 2) rfl (by rfl) (by decide) rfl (fun ls hl => ?_)
  refine lv_goto (tgt := 2) hx hb dX0_findGains_86 (by decide) ?_
  exact hk_2 (l2 + (1 : Int32)) v_rank v_across v_spare v_g1_order v_g1_spare v_g1_cells (vp_updL v_gains s1.toNatClampNeg s2) v_square_r0 v_square_r1 v_square_r2 hF hP hD hS (lv_sub hl [1, 2, 0] rfl)
set_option maxHeartbeats 4000000 in
set_option maxRecDepth 100000 in
theorem t_X0_findGains_54 {p : Program} {l : Launch} {e : Env} {s : State} {m : MethodId} {args : Array Value} {below : List Frame} {meth : Method} {c : Code} {dC : Nat → ClassId} {dI : Nat → Nat → Nat} {cyI cyJ cyA : ClassId} {A : Nat → Prop} {h_me h_spare h_g1 h_g1_spare h_g1_cells h_gains h_square h_square_r0 h_square_r1 h_square_r2 : Nat} {z_rows z_below z_base : Value} {q_spare : Nat → Int64} {q_g1_spare : Nat → Int64} {q_gains : Nat → Int64} (C0 : Cx p s m args meth c cX0_findGains 4 none wsX0_findGains RX0 (dC, dI) cyI cyJ cyA) (hA : ∀ q : Nat, s.heap.size ≤ q → A q) (k_2 : Int32 → Int32 → Int32 → (Nat → Int64) → Int32 → (Nat → Int64) → (Nat → Int32) → (Nat → Int64) → (Nat → Int64) → (Nat → Int64) → (Nat → Int64) → Option ((Nat → Int64) × (Nat → Int64) × (Nat → Int64))) (hk_2 : ∀ (l2 : Int32) (v_rank : Int32) (v_across : Int32) (v_spare : Nat → Int64) (v_g1_order : Int32) (v_g1_spare : Nat → Int64) (v_g1_cells : Nat → Int32) (v_gains : Nat → Int64) (v_square_r0 : Nat → Int64) (v_square_r1 : Nat → Int64) (v_square_r2 : Nat → Int64), k_2 l2 v_rank v_across v_spare v_g1_order v_g1_spare v_g1_cells v_gains v_square_r0 v_square_r1 v_square_r2 = some (q_spare, q_g1_spare, q_gains) → ∀ {H : Heap} {locs : List Loc} {ls : Array Slot}, va_P (dC, dI) vwCl [(h_me, .inr (0, [z_rows, .ref h_gains, .int v_rank, z_below, .int v_across, z_base, .ref h_square, .ref h_spare])), (h_spare, .inl (cyJ, 3, .inr (.inl v_spare))), (h_g1, .inr (3, [.ref h_g1_cells, .int v_g1_order, .ref h_g1_spare])), (h_g1_spare, .inl (cyJ, 3, .inr (.inl v_g1_spare))), (h_g1_cells, .inl (cyI, 15, .inl v_g1_cells)), (h_gains, .inl (cyJ, 3, .inr (.inl v_gains))), (h_square, .inl (cyA, 3, .inr (.inr (.inr (.inr (fn3 h_square_r0 h_square_r1 h_square_r2)))))), (h_square_r0, .inl (cyJ, 3, .inr (.inl v_square_r0))), (h_square_r1, .inl (cyJ, 3, .inr (.inl v_square_r1))), (h_square_r2, .inl (cyJ, 3, .inr (.inl v_square_r2)))] H → va_D A [(h_me, .inr (0, [z_rows, .ref h_gains, .int v_rank, z_below, .int v_across, z_base, .ref h_square, .ref h_spare])), (h_spare, .inl (cyJ, 3, .inr (.inl v_spare))), (h_g1, .inr (3, [.ref h_g1_cells, .int v_g1_order, .ref h_g1_spare])), (h_g1_spare, .inl (cyJ, 3, .inr (.inl v_g1_spare))), (h_g1_cells, .inl (cyI, 15, .inl v_g1_cells)), (h_gains, .inl (cyJ, 3, .inr (.inl v_gains))), (h_square, .inl (cyA, 3, .inr (.inr (.inr (.inr (fn3 h_square_r0 h_square_r1 h_square_r2)))))), (h_square_r0, .inl (cyJ, 3, .inr (.inl v_square_r0))), (h_square_r1, .inl (cyJ, 3, .inr (.inl v_square_r1))), (h_square_r2, .inl (cyJ, 3, .inr (.inl v_square_r2)))] → va_S A s.heap H locs → lv_has ls 4 [(0, .ref h_me), (1, .ref h_g1), (2, .int l2)] → W p l e rmX0_findGains s m args below meth c H locs 0 0 (MQ below (QV (dC, dI) A [(h_me, .inr (0, [z_rows, .ref h_gains, .int v_rank, z_below, .int v_across, z_base, .ref h_square, .ref h_spare])), (h_spare, .inl (cyJ, 3, .inr (.inl q_spare))), (h_g1, .inr (3, [.ref h_g1_cells, .int v_g1_order, .ref h_g1_spare])), (h_g1_spare, .inl (cyJ, 3, .inr (.inl q_g1_spare))), (h_g1_cells, .inl (cyI, 15, .inl v_g1_cells)), (h_gains, .inl (cyJ, 3, .inr (.inl q_gains))), (h_square, .inl (cyA, 3, .inr (.inr (.inr (.inr (fn3 h_square_r0 h_square_r1 h_square_r2)))))), (h_square_r0, .inl (cyJ, 3, .inr (.inl v_square_r0))), (h_square_r1, .inl (cyJ, 3, .inr (.inl v_square_r1))), (h_square_r2, .inl (cyJ, 3, .inr (.inl v_square_r2)))]) args s 0 0 A) (F0 m 2 ls [])) : ∀ (s0 : Int32) (l2 : Int32) (v_rank : Int32) (v_across : Int32) (v_spare : Nat → Int64) (v_g1_order : Int32) (v_g1_spare : Nat → Int64) (v_g1_cells : Nat → Int32) (v_gains : Nat → Int64) (v_square_r0 : Nat → Int64) (v_square_r1 : Nat → Int64) (v_square_r2 : Nat → Int64), F_X0_findGains_54 k_2 s0 l2 v_rank v_across v_spare v_g1_order v_g1_spare v_g1_cells v_gains v_square_r0 v_square_r1 v_square_r2 = some (q_spare, q_g1_spare, q_gains) → ∀ {H : Heap} {locs : List Loc} {ls : Array Slot}, va_P (dC, dI) vwCl [(h_me, .inr (0, [z_rows, .ref h_gains, .int v_rank, z_below, .int v_across, z_base, .ref h_square, .ref h_spare])), (h_spare, .inl (cyJ, 3, .inr (.inl v_spare))), (h_g1, .inr (3, [.ref h_g1_cells, .int v_g1_order, .ref h_g1_spare])), (h_g1_spare, .inl (cyJ, 3, .inr (.inl v_g1_spare))), (h_g1_cells, .inl (cyI, 15, .inl v_g1_cells)), (h_gains, .inl (cyJ, 3, .inr (.inl v_gains))), (h_square, .inl (cyA, 3, .inr (.inr (.inr (.inr (fn3 h_square_r0 h_square_r1 h_square_r2)))))), (h_square_r0, .inl (cyJ, 3, .inr (.inl v_square_r0))), (h_square_r1, .inl (cyJ, 3, .inr (.inl v_square_r1))), (h_square_r2, .inl (cyJ, 3, .inr (.inl v_square_r2)))] H → va_D A [(h_me, .inr (0, [z_rows, .ref h_gains, .int v_rank, z_below, .int v_across, z_base, .ref h_square, .ref h_spare])), (h_spare, .inl (cyJ, 3, .inr (.inl v_spare))), (h_g1, .inr (3, [.ref h_g1_cells, .int v_g1_order, .ref h_g1_spare])), (h_g1_spare, .inl (cyJ, 3, .inr (.inl v_g1_spare))), (h_g1_cells, .inl (cyI, 15, .inl v_g1_cells)), (h_gains, .inl (cyJ, 3, .inr (.inl v_gains))), (h_square, .inl (cyA, 3, .inr (.inr (.inr (.inr (fn3 h_square_r0 h_square_r1 h_square_r2)))))), (h_square_r0, .inl (cyJ, 3, .inr (.inl v_square_r0))), (h_square_r1, .inl (cyJ, 3, .inr (.inl v_square_r1))), (h_square_r2, .inl (cyJ, 3, .inr (.inl v_square_r2)))] → va_S A s.heap H locs → lv_has ls 4 [(0, .ref h_me), (1, .ref h_g1), (2, .int l2)] → W p l e rmX0_findGains s m args below meth c H locs 0 0 (MQ below (QV (dC, dI) A [(h_me, .inr (0, [z_rows, .ref h_gains, .int v_rank, z_below, .int v_across, z_base, .ref h_square, .ref h_spare])), (h_spare, .inl (cyJ, 3, .inr (.inl q_spare))), (h_g1, .inr (3, [.ref h_g1_cells, .int v_g1_order, .ref h_g1_spare])), (h_g1_spare, .inl (cyJ, 3, .inr (.inl q_g1_spare))), (h_g1_cells, .inl (cyI, 15, .inl v_g1_cells)), (h_gains, .inl (cyJ, 3, .inr (.inl q_gains))), (h_square, .inl (cyA, 3, .inr (.inr (.inr (.inr (fn3 h_square_r0 h_square_r1 h_square_r2)))))), (h_square_r0, .inl (cyJ, 3, .inr (.inl v_square_r0))), (h_square_r1, .inl (cyJ, 3, .inr (.inl v_square_r1))), (h_square_r2, .inl (cyJ, 3, .inr (.inl v_square_r2)))]) args s 0 0 A) (F0 m 54 ls [.int s0]) := by
  obtain ⟨hx, hb, hr, hml, hown, hts, hKK, hlocks⟩ := id C0
  have hK := hKK.1
  intro s0 l2 v_rank v_across v_spare v_g1_order v_g1_spare v_g1_cells v_gains v_square_r0 v_square_r1 v_square_r2 hF H locs ls hP hD hS hl
  unfold F_X0_findGains_54 at hF
  refine lv_istore_n (lv' := [(3, .int s0), (0, .ref h_me), (1, .ref h_g1), (2, .int l2)]) hx hb dX0_findGains_54 rfl hl (by decide) rfl (fun ls hl => ?_)
  refine lv_aload_n hx hb dX0_findGains_55 rfl (lv_at hl 1 rfl) ?_
  refine my_get (D := (dC, dI)) (ci := 0) (v := .ref h_gains) (C := RX0) (T := TX0) (N := 8) hx hb hts iX0_findGains_X0 hown hK hP 0 rfl rfl 1 (by decide) (hts _ mX0_findGains_5) rfl rfl dX0_findGains_56 ?_
  refine lv_iload_n hx hb dX0_findGains_59 rfl (lv_at hl 3 rfl) ?_
  refine lv_iload_n hx hb dX0_findGains_60 rfl (lv_at hl 0 rfl) ?_
  refine lv_if_eq (tgt := 81) hx hb dX0_findGains_61 (by decide) (fun c_ => ?_) (fun c_ => ?_)
  · have hF := gif c_ hF
    refine lv_lconst (v := (0 : Int64)) hx hb dX0_findGains_81 (by decide) ?_
    exact t_X0_findGains_82 C0 hA k_2 hk_2 l2 (0 : Int64) l2 v_rank v_across v_spare v_g1_order v_g1_spare v_g1_cells v_gains v_square_r0 v_square_r1 v_square_r2 hF hP hD hS (lv_sub hl [1, 2, 3] rfl)
  · have hF := gel c_ hF
    refine lv_aload_n hx hb dX0_findGains_64 rfl (lv_at hl 1 rfl) ?_
    refine lv_aload_n hx hb dX0_findGains_65 rfl (lv_at hl 2 rfl) ?_
    refine my_get (D := (dC, dI)) (ci := 3) (v := .int v_g1_order) (C := RX3) (T := TX3) (N := 3) hx hb hts iX0_findGains_X3 hown hK hP 2 rfl rfl 1 (by decide) (hts _ mX0_findGains_3) rfl rfl dX0_findGains_66 ?_
    refine lv_iconst (v := (1 : Int32)) hx hb dX0_findGains_69 (by decide) ?_
    refine lv_isub hx hb dX0_findGains_70 ?_
    refine lv_aload_n hx hb dX0_findGains_71 rfl (lv_at hl 1 rfl) ?_
    refine my_get (D := (dC, dI)) (ci := 0) (v := .ref h_spare) (C := RX0) (T := TX0) (N := 8) hx hb hts iX0_findGains_X0 hown hK hP 0 rfl rfl 7 (by decide) (hts _ mX0_findGains_1) rfl rfl dX0_findGains_72 ?_
    obtain ⟨r1, hz1, hF⟩ := bd1_e hF
    refine kc_l (wr := [(h_g1, .inr (3, [.ref h_g1_cells, .int v_g1_order, .ref h_g1_spare])), (h_g1_spare, .inl (cyJ, 3, .inr (.inl v_g1_spare))), (h_g1_cells, .inl (cyI, 15, .inl v_g1_cells)), (h_gains, .inl (cyJ, 3, .inr (.inl v_gains)))]) (ws' := [(h_me, .inr (0, [z_rows, .ref h_gains, .int v_rank, z_below, .int v_across, z_base, .ref h_square, .ref h_spare])), (h_spare, .inl (cyJ, 3, .inr (.inl v_spare))), (h_g1, .inr (3, [.ref h_g1_cells, .int v_g1_order, .ref h_g1_spare])), (h_g1_spare, .inl (cyJ, 3, .inr (.inl v_g1_spare))), (h_g1_cells, .inl (cyI, 15, .inl v_g1_cells)), (h_gains, .inl (cyJ, 3, .inr (.inl v_gains))), (h_square, .inl (cyA, 3, .inr (.inr (.inr (.inr (fn3 h_square_r0 h_square_r1 h_square_r2)))))), (h_square_r0, .inl (cyJ, 3, .inr (.inl v_square_r0))), (h_square_r1, .inl (cyJ, 3, .inr (.inl v_square_r1))), (h_square_r2, .inl (cyJ, 3, .inr (.inl v_square_r2)))]) (va_runV (As := [.int (v_g1_order - (1 : Int32)), .ref h_spare]) (rest := [.int l2, .ref h_gains]) ⟨hx, hb, hml, hown, hts⟩ (c_X0_share l dC dI cyI cyJ cyA h_me h_square h_square_r0 h_square_r1 h_square_r2 h_spare z_rows (.ref h_gains) (.int v_rank) z_below (.int v_across) z_base (.ref h_spare) v_square_r0 v_square_r1 v_square_r2 v_spare (v_g1_order - (1 : Int32)) hz1 _) (cwV 2 hts gX0_findGains_X0_share rfl rfl rfl ndX0_share ⟨Nat.le_of_ble_eq_true rfl, Nat.le_of_ble_eq_true rfl⟩) (pre_V hKK hP hD 0 rfl rfl [0, 6, 7, 8, 9, 1] (by decide) rfl rfl) rfl rfl hl.1 rfl (lv_room (Nat.le_of_ble_eq_true rfl)) dX0_findGains_75 ⟨Nat.le_of_ble_eq_true rfl, Nat.le_of_ble_eq_true rfl⟩) hP hD hS hA [0, 6, 7, 8, 9, 1] [2, 3, 4, 5] [4, 9, 0, 1, 2, 3, 5, 6, 7, 8] rfl rfl (by decide) (by decide) (by decide) rfl rfl (fun H locs hP hD hS => ?_)
    refine lv_goto (tgt := 82) hx hb dX0_findGains_78 (by decide) ?_
    exact t_X0_findGains_82 C0 hA k_2 hk_2 l2 r1 l2 v_rank v_across v_spare v_g1_order v_g1_spare v_g1_cells v_gains v_square_r0 v_square_r1 v_square_r2 hF hP hD hS (lv_sub hl [1, 2, 3] rfl)
set_option maxHeartbeats 4000000 in
set_option maxRecDepth 100000 in
theorem t_X0_findGains_53 {p : Program} {l : Launch} {e : Env} {s : State} {m : MethodId} {args : Array Value} {below : List Frame} {meth : Method} {c : Code} {dC : Nat → ClassId} {dI : Nat → Nat → Nat} {cyI cyJ cyA : ClassId} {A : Nat → Prop} {h_me h_spare h_g1 h_g1_spare h_g1_cells h_gains h_square h_square_r0 h_square_r1 h_square_r2 : Nat} {z_rows z_below z_base : Value} {q_spare : Nat → Int64} {q_g1_spare : Nat → Int64} {q_gains : Nat → Int64} (C0 : Cx p s m args meth c cX0_findGains 4 none wsX0_findGains RX0 (dC, dI) cyI cyJ cyA) (hA : ∀ q : Nat, s.heap.size ≤ q → A q) (k_2 : Int32 → Int32 → Int32 → (Nat → Int64) → Int32 → (Nat → Int64) → (Nat → Int32) → (Nat → Int64) → (Nat → Int64) → (Nat → Int64) → (Nat → Int64) → Option ((Nat → Int64) × (Nat → Int64) × (Nat → Int64))) (hk_2 : ∀ (l2 : Int32) (v_rank : Int32) (v_across : Int32) (v_spare : Nat → Int64) (v_g1_order : Int32) (v_g1_spare : Nat → Int64) (v_g1_cells : Nat → Int32) (v_gains : Nat → Int64) (v_square_r0 : Nat → Int64) (v_square_r1 : Nat → Int64) (v_square_r2 : Nat → Int64), k_2 l2 v_rank v_across v_spare v_g1_order v_g1_spare v_g1_cells v_gains v_square_r0 v_square_r1 v_square_r2 = some (q_spare, q_g1_spare, q_gains) → ∀ {H : Heap} {locs : List Loc} {ls : Array Slot}, va_P (dC, dI) vwCl [(h_me, .inr (0, [z_rows, .ref h_gains, .int v_rank, z_below, .int v_across, z_base, .ref h_square, .ref h_spare])), (h_spare, .inl (cyJ, 3, .inr (.inl v_spare))), (h_g1, .inr (3, [.ref h_g1_cells, .int v_g1_order, .ref h_g1_spare])), (h_g1_spare, .inl (cyJ, 3, .inr (.inl v_g1_spare))), (h_g1_cells, .inl (cyI, 15, .inl v_g1_cells)), (h_gains, .inl (cyJ, 3, .inr (.inl v_gains))), (h_square, .inl (cyA, 3, .inr (.inr (.inr (.inr (fn3 h_square_r0 h_square_r1 h_square_r2)))))), (h_square_r0, .inl (cyJ, 3, .inr (.inl v_square_r0))), (h_square_r1, .inl (cyJ, 3, .inr (.inl v_square_r1))), (h_square_r2, .inl (cyJ, 3, .inr (.inl v_square_r2)))] H → va_D A [(h_me, .inr (0, [z_rows, .ref h_gains, .int v_rank, z_below, .int v_across, z_base, .ref h_square, .ref h_spare])), (h_spare, .inl (cyJ, 3, .inr (.inl v_spare))), (h_g1, .inr (3, [.ref h_g1_cells, .int v_g1_order, .ref h_g1_spare])), (h_g1_spare, .inl (cyJ, 3, .inr (.inl v_g1_spare))), (h_g1_cells, .inl (cyI, 15, .inl v_g1_cells)), (h_gains, .inl (cyJ, 3, .inr (.inl v_gains))), (h_square, .inl (cyA, 3, .inr (.inr (.inr (.inr (fn3 h_square_r0 h_square_r1 h_square_r2)))))), (h_square_r0, .inl (cyJ, 3, .inr (.inl v_square_r0))), (h_square_r1, .inl (cyJ, 3, .inr (.inl v_square_r1))), (h_square_r2, .inl (cyJ, 3, .inr (.inl v_square_r2)))] → va_S A s.heap H locs → lv_has ls 4 [(0, .ref h_me), (1, .ref h_g1), (2, .int l2)] → W p l e rmX0_findGains s m args below meth c H locs 0 0 (MQ below (QV (dC, dI) A [(h_me, .inr (0, [z_rows, .ref h_gains, .int v_rank, z_below, .int v_across, z_base, .ref h_square, .ref h_spare])), (h_spare, .inl (cyJ, 3, .inr (.inl q_spare))), (h_g1, .inr (3, [.ref h_g1_cells, .int v_g1_order, .ref h_g1_spare])), (h_g1_spare, .inl (cyJ, 3, .inr (.inl q_g1_spare))), (h_g1_cells, .inl (cyI, 15, .inl v_g1_cells)), (h_gains, .inl (cyJ, 3, .inr (.inl q_gains))), (h_square, .inl (cyA, 3, .inr (.inr (.inr (.inr (fn3 h_square_r0 h_square_r1 h_square_r2)))))), (h_square_r0, .inl (cyJ, 3, .inr (.inl v_square_r0))), (h_square_r1, .inl (cyJ, 3, .inr (.inl v_square_r1))), (h_square_r2, .inl (cyJ, 3, .inr (.inl v_square_r2)))]) args s 0 0 A) (F0 m 2 ls [])) : ∀ (l2 : Int32) (v_rank : Int32) (v_across : Int32) (v_spare : Nat → Int64) (v_g1_order : Int32) (v_g1_spare : Nat → Int64) (v_g1_cells : Nat → Int32) (v_gains : Nat → Int64) (v_square_r0 : Nat → Int64) (v_square_r1 : Nat → Int64) (v_square_r2 : Nat → Int64), F_X0_findGains_53 k_2 l2 v_rank v_across v_spare v_g1_order v_g1_spare v_g1_cells v_gains v_square_r0 v_square_r1 v_square_r2 = some (q_spare, q_g1_spare, q_gains) → ∀ {H : Heap} {locs : List Loc} {ls : Array Slot}, va_P (dC, dI) vwCl [(h_me, .inr (0, [z_rows, .ref h_gains, .int v_rank, z_below, .int v_across, z_base, .ref h_square, .ref h_spare])), (h_spare, .inl (cyJ, 3, .inr (.inl v_spare))), (h_g1, .inr (3, [.ref h_g1_cells, .int v_g1_order, .ref h_g1_spare])), (h_g1_spare, .inl (cyJ, 3, .inr (.inl v_g1_spare))), (h_g1_cells, .inl (cyI, 15, .inl v_g1_cells)), (h_gains, .inl (cyJ, 3, .inr (.inl v_gains))), (h_square, .inl (cyA, 3, .inr (.inr (.inr (.inr (fn3 h_square_r0 h_square_r1 h_square_r2)))))), (h_square_r0, .inl (cyJ, 3, .inr (.inl v_square_r0))), (h_square_r1, .inl (cyJ, 3, .inr (.inl v_square_r1))), (h_square_r2, .inl (cyJ, 3, .inr (.inl v_square_r2)))] H → va_D A [(h_me, .inr (0, [z_rows, .ref h_gains, .int v_rank, z_below, .int v_across, z_base, .ref h_square, .ref h_spare])), (h_spare, .inl (cyJ, 3, .inr (.inl v_spare))), (h_g1, .inr (3, [.ref h_g1_cells, .int v_g1_order, .ref h_g1_spare])), (h_g1_spare, .inl (cyJ, 3, .inr (.inl v_g1_spare))), (h_g1_cells, .inl (cyI, 15, .inl v_g1_cells)), (h_gains, .inl (cyJ, 3, .inr (.inl v_gains))), (h_square, .inl (cyA, 3, .inr (.inr (.inr (.inr (fn3 h_square_r0 h_square_r1 h_square_r2)))))), (h_square_r0, .inl (cyJ, 3, .inr (.inl v_square_r0))), (h_square_r1, .inl (cyJ, 3, .inr (.inl v_square_r1))), (h_square_r2, .inl (cyJ, 3, .inr (.inl v_square_r2)))] → va_S A s.heap H locs → lv_has ls 4 [(0, .ref h_me), (1, .ref h_g1), (2, .int l2)] → W p l e rmX0_findGains s m args below meth c H locs 0 0 (MQ below (QV (dC, dI) A [(h_me, .inr (0, [z_rows, .ref h_gains, .int v_rank, z_below, .int v_across, z_base, .ref h_square, .ref h_spare])), (h_spare, .inl (cyJ, 3, .inr (.inl q_spare))), (h_g1, .inr (3, [.ref h_g1_cells, .int v_g1_order, .ref h_g1_spare])), (h_g1_spare, .inl (cyJ, 3, .inr (.inl q_g1_spare))), (h_g1_cells, .inl (cyI, 15, .inl v_g1_cells)), (h_gains, .inl (cyJ, 3, .inr (.inl q_gains))), (h_square, .inl (cyA, 3, .inr (.inr (.inr (.inr (fn3 h_square_r0 h_square_r1 h_square_r2)))))), (h_square_r0, .inl (cyJ, 3, .inr (.inl v_square_r0))), (h_square_r1, .inl (cyJ, 3, .inr (.inl v_square_r1))), (h_square_r2, .inl (cyJ, 3, .inr (.inl v_square_r2)))]) args s 0 0 A) (F0 m 53 ls []) := by
  obtain ⟨hx, hb, hr, hml, hown, hts, hKK, hlocks⟩ := id C0
  have hK := hKK.1
  intro l2 v_rank v_across v_spare v_g1_order v_g1_spare v_g1_cells v_gains v_square_r0 v_square_r1 v_square_r2 hF H locs ls hP hD hS hl
  unfold F_X0_findGains_53 at hF
  refine lv_iconst (v := (0 : Int32)) hx hb dX0_findGains_53 (by decide) ?_
  exact t_X0_findGains_54 C0 hA k_2 hk_2 (0 : Int32) l2 v_rank v_across v_spare v_g1_order v_g1_spare v_g1_cells v_gains v_square_r0 v_square_r1 v_square_r2 hF hP hD hS (lv_sub hl [0, 1, 2] rfl)
set_option maxHeartbeats 4000000 in
set_option maxRecDepth 100000 in
theorem t_X0_findGains_2 {p : Program} {l : Launch} {e : Env} {s : State} {m : MethodId} {args : Array Value} {below : List Frame} {meth : Method} {c : Code} {dC : Nat → ClassId} {dI : Nat → Nat → Nat} {cyI cyJ cyA : ClassId} {A : Nat → Prop} {h_me h_spare h_g1 h_g1_spare h_g1_cells h_gains h_square h_square_r0 h_square_r1 h_square_r2 : Nat} {z_rows z_below z_base : Value} {q_spare : Nat → Int64} {q_g1_spare : Nat → Int64} {q_gains : Nat → Int64} (C0 : Cx p s m args meth c cX0_findGains 4 none wsX0_findGains RX0 (dC, dI) cyI cyJ cyA) (hA : ∀ q : Nat, s.heap.size ≤ q → A q)  : ∀ (n : Nat) (l2 : Int32) (v_rank : Int32) (v_across : Int32) (v_spare : Nat → Int64) (v_g1_order : Int32) (v_g1_spare : Nat → Int64) (v_g1_cells : Nat → Int32) (v_gains : Nat → Int64) (v_square_r0 : Nat → Int64) (v_square_r1 : Nat → Int64) (v_square_r2 : Nat → Int64), F_X0_findGains_2  n l2 v_rank v_across v_spare v_g1_order v_g1_spare v_g1_cells v_gains v_square_r0 v_square_r1 v_square_r2 = some (q_spare, q_g1_spare, q_gains) → ∀ {H : Heap} {locs : List Loc} {ls : Array Slot}, va_P (dC, dI) vwCl [(h_me, .inr (0, [z_rows, .ref h_gains, .int v_rank, z_below, .int v_across, z_base, .ref h_square, .ref h_spare])), (h_spare, .inl (cyJ, 3, .inr (.inl v_spare))), (h_g1, .inr (3, [.ref h_g1_cells, .int v_g1_order, .ref h_g1_spare])), (h_g1_spare, .inl (cyJ, 3, .inr (.inl v_g1_spare))), (h_g1_cells, .inl (cyI, 15, .inl v_g1_cells)), (h_gains, .inl (cyJ, 3, .inr (.inl v_gains))), (h_square, .inl (cyA, 3, .inr (.inr (.inr (.inr (fn3 h_square_r0 h_square_r1 h_square_r2)))))), (h_square_r0, .inl (cyJ, 3, .inr (.inl v_square_r0))), (h_square_r1, .inl (cyJ, 3, .inr (.inl v_square_r1))), (h_square_r2, .inl (cyJ, 3, .inr (.inl v_square_r2)))] H → va_D A [(h_me, .inr (0, [z_rows, .ref h_gains, .int v_rank, z_below, .int v_across, z_base, .ref h_square, .ref h_spare])), (h_spare, .inl (cyJ, 3, .inr (.inl v_spare))), (h_g1, .inr (3, [.ref h_g1_cells, .int v_g1_order, .ref h_g1_spare])), (h_g1_spare, .inl (cyJ, 3, .inr (.inl v_g1_spare))), (h_g1_cells, .inl (cyI, 15, .inl v_g1_cells)), (h_gains, .inl (cyJ, 3, .inr (.inl v_gains))), (h_square, .inl (cyA, 3, .inr (.inr (.inr (.inr (fn3 h_square_r0 h_square_r1 h_square_r2)))))), (h_square_r0, .inl (cyJ, 3, .inr (.inl v_square_r0))), (h_square_r1, .inl (cyJ, 3, .inr (.inl v_square_r1))), (h_square_r2, .inl (cyJ, 3, .inr (.inl v_square_r2)))] → va_S A s.heap H locs → lv_has ls 4 [(0, .ref h_me), (1, .ref h_g1), (2, .int l2)] → W p l e rmX0_findGains s m args below meth c H locs 0 0 (MQ below (QV (dC, dI) A [(h_me, .inr (0, [z_rows, .ref h_gains, .int v_rank, z_below, .int v_across, z_base, .ref h_square, .ref h_spare])), (h_spare, .inl (cyJ, 3, .inr (.inl q_spare))), (h_g1, .inr (3, [.ref h_g1_cells, .int v_g1_order, .ref h_g1_spare])), (h_g1_spare, .inl (cyJ, 3, .inr (.inl q_g1_spare))), (h_g1_cells, .inl (cyI, 15, .inl v_g1_cells)), (h_gains, .inl (cyJ, 3, .inr (.inl q_gains))), (h_square, .inl (cyA, 3, .inr (.inr (.inr (.inr (fn3 h_square_r0 h_square_r1 h_square_r2)))))), (h_square_r0, .inl (cyJ, 3, .inr (.inl v_square_r0))), (h_square_r1, .inl (cyJ, 3, .inr (.inl v_square_r1))), (h_square_r2, .inl (cyJ, 3, .inr (.inl v_square_r2)))]) args s 0 0 A) (F0 m 2 ls []) := by
  obtain ⟨hx, hb, hr, hml, hown, hts, hKK, hlocks⟩ := id C0
  have hK := hKK.1
  intro n
  induction n with
  | zero => intro l2 v_rank v_across v_spare v_g1_order v_g1_spare v_g1_cells v_gains v_square_r0 v_square_r1 v_square_r2 hF; rw [F_X0_findGains_2] at hF; cases hF
  | succ n ih =>
      intro l2 v_rank v_across v_spare v_g1_order v_g1_spare v_g1_cells v_gains v_square_r0 v_square_r1 v_square_r2 hF H locs ls hP hD hS hl
      rw [F_X0_findGains_2] at hF
      refine lv_iload_n hx hb dX0_findGains_2 rfl (lv_at hl 2 rfl) ?_
      refine lv_iconst (v := (3 : Int32)) hx hb dX0_findGains_3 (by decide) ?_
      refine lv_icmp_ge (tgt := 89) hx hb dX0_findGains_4 (by decide) (fun c_ => ?_) (fun c_ => ?_)
      · have hF := gif c_ hF
        cases hF
        exact W.vret hx hb hr (fun t ht hW => ⟨⟨(), rfl, trivial, by rw [ht]; exact hP, hD⟩, hS.F ht⟩) hS.2.2 dX0_findGains_89
      · have hF := gel c_ hF
        refine lv_aload_n hx hb dX0_findGains_7 rfl (lv_at hl 0 rfl) ?_
        refine my_get (D := (dC, dI)) (ci := 0) (v := .ref h_spare) (C := RX0) (T := TX0) (N := 8) hx hb hts iX0_findGains_X0 hown hK hP 0 rfl rfl 7 (by decide) (hts _ mX0_findGains_1) rfl rfl dX0_findGains_8 ?_
        refine lv_iload_n hx hb dX0_findGains_11 rfl (lv_at hl 2 rfl) ?_
        obtain ⟨x1_g1, hz1, hF⟩ := bd1_e hF
        refine kc_v (wr := [(h_me, .inr (0, [z_rows, .ref h_gains, .int v_rank, z_below, .int v_across, z_base, .ref h_square, .ref h_spare])), (h_g1, .inr (3, [.ref h_g1_cells, .int v_g1_order, .ref h_g1_spare])), (h_g1_spare, .inl (cyJ, 3, .inr (.inl v_g1_spare))), (h_g1_cells, .inl (cyI, 15, .inl v_g1_cells)), (h_gains, .inl (cyJ, 3, .inr (.inl v_gains))), (h_square, .inl (cyA, 3, .inr (.inr (.inr (.inr (fn3 h_square_r0 h_square_r1 h_square_r2)))))), (h_square_r0, .inl (cyJ, 3, .inr (.inl v_square_r0))), (h_square_r1, .inl (cyJ, 3, .inr (.inl v_square_r1))), (h_square_r2, .inl (cyJ, 3, .inr (.inl v_square_r2)))]) (ws' := [(h_me, .inr (0, [z_rows, .ref h_gains, .int v_rank, z_below, .int v_across, z_base, .ref h_square, .ref h_spare])), (h_spare, .inl (cyJ, 3, .inr (.inl x1_g1))), (h_g1, .inr (3, [.ref h_g1_cells, .int v_g1_order, .ref h_g1_spare])), (h_g1_spare, .inl (cyJ, 3, .inr (.inl v_g1_spare))), (h_g1_cells, .inl (cyI, 15, .inl v_g1_cells)), (h_gains, .inl (cyJ, 3, .inr (.inl v_gains))), (h_square, .inl (cyA, 3, .inr (.inr (.inr (.inr (fn3 h_square_r0 h_square_r1 h_square_r2)))))), (h_square_r0, .inl (cyJ, 3, .inr (.inl v_square_r0))), (h_square_r1, .inl (cyJ, 3, .inr (.inl v_square_r1))), (h_square_r2, .inl (cyJ, 3, .inr (.inl v_square_r2)))]) (va_runSN (As := [.ref h_spare, .int l2]) (rest := []) ⟨hx, hb, hml, hown, hts⟩ (c_X4_setUnit l dC dI cyI cyJ cyA h_spare  v_spare l2 hz1 _) ⟨va_cnB 2 hts gX0_findGains_X4_setUnit_n78 rfl rfl rfl (NS.w_X0_78 hKK.2) (hts _ mX0_findGains_7) ndX4_setUnit.2 ⟨Nat.le_of_ble_eq_true rfl, Nat.le_of_ble_eq_true rfl⟩, hts _ mX0_findGains_6, trivial⟩ (pre_S hKK hP hD [1] (by decide) rfl rfl) rfl rfl hl.1 rfl (lv_room (Nat.le_of_ble_eq_true rfl)) dX0_findGains_12 ⟨Nat.le_of_ble_eq_true rfl, Nat.le_of_ble_eq_true rfl⟩) hP hD hS hA [1] [0, 2, 3, 4, 5, 6, 7, 8, 9] [0, 9, 1, 2, 3, 4, 5, 6, 7, 8] rfl rfl (by decide) (by decide) (by decide) rfl rfl (fun H locs hP hD hS => ?_)
        refine lv_aload_n hx hb dX0_findGains_15 rfl (lv_at hl 1 rfl) ?_
        refine lv_aload_n hx hb dX0_findGains_16 rfl (lv_at hl 0 rfl) ?_
        refine my_get (D := (dC, dI)) (ci := 0) (v := .int v_across) (C := RX0) (T := TX0) (N := 8) hx hb hts iX0_findGains_X0 hown hK hP 0 rfl rfl 4 (by decide) (hts _ mX0_findGains_2) rfl rfl dX0_findGains_17 ?_
        refine lv_aload_n hx hb dX0_findGains_20 rfl (lv_at hl 0 rfl) ?_
        refine my_get (D := (dC, dI)) (ci := 0) (v := .ref h_spare) (C := RX0) (T := TX0) (N := 8) hx hb hts iX0_findGains_X0 hown hK hP 0 rfl rfl 7 (by decide) (hts _ mX0_findGains_1) rfl rfl dX0_findGains_21 ?_
        refine lv_aload_n hx hb dX0_findGains_24 rfl (lv_at hl 1 rfl) ?_
        refine my_get (D := (dC, dI)) (ci := 3) (v := .int v_g1_order) (C := RX3) (T := TX3) (N := 3) hx hb hts iX0_findGains_X3 hown hK hP 2 rfl rfl 1 (by decide) (hts _ mX0_findGains_3) rfl rfl dX0_findGains_25 ?_
        obtain ⟨x2_spare, x2_g2, hz2, hF⟩ := bd2_e hF
        refine kc_v (wr := [(h_me, .inr (0, [z_rows, .ref h_gains, .int v_rank, z_below, .int v_across, z_base, .ref h_square, .ref h_spare])), (h_gains, .inl (cyJ, 3, .inr (.inl v_gains))), (h_square, .inl (cyA, 3, .inr (.inr (.inr (.inr (fn3 h_square_r0 h_square_r1 h_square_r2)))))), (h_square_r0, .inl (cyJ, 3, .inr (.inl v_square_r0))), (h_square_r1, .inl (cyJ, 3, .inr (.inl v_square_r1))), (h_square_r2, .inl (cyJ, 3, .inr (.inl v_square_r2)))]) (ws' := [(h_me, .inr (0, [z_rows, .ref h_gains, .int v_rank, z_below, .int v_across, z_base, .ref h_square, .ref h_spare])), (h_spare, .inl (cyJ, 3, .inr (.inl x2_g2))), (h_g1, .inr (3, [.ref h_g1_cells, .int v_g1_order, .ref h_g1_spare])), (h_g1_spare, .inl (cyJ, 3, .inr (.inl x2_spare))), (h_g1_cells, .inl (cyI, 15, .inl v_g1_cells)), (h_gains, .inl (cyJ, 3, .inr (.inl v_gains))), (h_square, .inl (cyA, 3, .inr (.inr (.inr (.inr (fn3 h_square_r0 h_square_r1 h_square_r2)))))), (h_square_r0, .inl (cyJ, 3, .inr (.inl v_square_r0))), (h_square_r1, .inl (cyJ, 3, .inr (.inl v_square_r1))), (h_square_r2, .inl (cyJ, 3, .inr (.inl v_square_r2)))]) (va_runV (As := [.int v_across, .ref h_spare, .int v_g1_order]) (rest := []) ⟨hx, hb, hml, hown, hts⟩ (c_X3_carry l dC dI cyI cyJ cyA h_g1 h_g1_spare h_g1_cells h_spare (.int v_g1_order) v_g1_spare v_g1_cells x1_g1 v_across v_g1_order hz2 _) (cwV 3 hts gX0_findGains_X3_carry rfl rfl rfl ndX3_carry ⟨Nat.le_of_ble_eq_true rfl, Nat.le_of_ble_eq_true rfl⟩) (pre_V hKK hP hD 2 rfl rfl [2, 3, 4, 1] (by decide) rfl rfl) rfl rfl hl.1 rfl (lv_room (Nat.le_of_ble_eq_true rfl)) dX0_findGains_28 ⟨Nat.le_of_ble_eq_true rfl, Nat.le_of_ble_eq_true rfl⟩) hP hD hS hA [2, 3, 4, 1] [0, 5, 6, 7, 8, 9] [0, 9, 6, 7, 8, 1, 2, 3, 4, 5] rfl rfl (by decide) (by decide) (by decide) rfl rfl (fun H locs hP hD hS => ?_)
        refine lv_aload_n hx hb dX0_findGains_31 rfl (lv_at hl 1 rfl) ?_
        refine my_get (D := (dC, dI)) (ci := 3) (v := .int v_g1_order) (C := RX3) (T := TX3) (N := 3) hx hb hts iX0_findGains_X3 hown hK hP 2 rfl rfl 1 (by decide) (hts _ mX0_findGains_3) rfl rfl dX0_findGains_32 ?_
        refine lv_if_le (tgt := 53) hx hb dX0_findGains_35 (by decide) (fun c_ => ?_) (fun c_ => ?_)
        · have hF := gif c_ hF
          exact t_X0_findGains_53 C0 hA (fun l2 v_rank v_across v_spare v_g1_order v_g1_spare v_g1_cells v_gains v_square_r0 v_square_r1 v_square_r2 => F_X0_findGains_2  n l2 v_rank v_across v_spare v_g1_order v_g1_spare v_g1_cells v_gains v_square_r0 v_square_r1 v_square_r2) ih l2 v_rank v_across x2_g2 v_g1_order x2_spare v_g1_cells v_gains v_square_r0 v_square_r1 v_square_r2 hF hP hD hS (lv_sub hl [0, 1, 2] rfl)
        · have hF := gel c_ hF
          refine lv_aload_n hx hb dX0_findGains_38 rfl (lv_at hl 0 rfl) ?_
          refine my_get (D := (dC, dI)) (ci := 0) (v := .int v_rank) (C := RX0) (T := TX0) (N := 8) hx hb hts iX0_findGains_X0 hown hK hP 0 rfl rfl 2 (by decide) (hts _ mX0_findGains_4) rfl rfl dX0_findGains_39 ?_
          refine lv_aload_n hx hb dX0_findGains_42 rfl (lv_at hl 1 rfl) ?_
          refine my_get (D := (dC, dI)) (ci := 3) (v := .int v_g1_order) (C := RX3) (T := TX3) (N := 3) hx hb hts iX0_findGains_X3 hown hK hP 2 rfl rfl 1 (by decide) (hts _ mX0_findGains_3) rfl rfl dX0_findGains_43 ?_
          refine lv_icmp_ne (tgt := 53) hx hb dX0_findGains_46 (by decide) (fun c_ => ?_) (fun c_ => ?_)
          · have hF := gel c_ hF
            exact t_X0_findGains_53 C0 hA (fun l2 v_rank v_across v_spare v_g1_order v_g1_spare v_g1_cells v_gains v_square_r0 v_square_r1 v_square_r2 => F_X0_findGains_2  n l2 v_rank v_across v_spare v_g1_order v_g1_spare v_g1_cells v_gains v_square_r0 v_square_r1 v_square_r2) ih l2 v_rank v_across x2_g2 v_g1_order x2_spare v_g1_cells v_gains v_square_r0 v_square_r1 v_square_r2 hF hP hD hS (lv_sub hl [0, 1, 2] rfl)
          · have hF := gif c_ hF
            refine lv_iconst (v := (1 : Int32)) hx hb dX0_findGains_49 (by decide) ?_
            refine lv_goto (tgt := 54) hx hb dX0_findGains_50 (by decide) ?_
            exact t_X0_findGains_54 C0 hA (fun l2 v_rank v_across v_spare v_g1_order v_g1_spare v_g1_cells v_gains v_square_r0 v_square_r1 v_square_r2 => F_X0_findGains_2  n l2 v_rank v_across v_spare v_g1_order v_g1_spare v_g1_cells v_gains v_square_r0 v_square_r1 v_square_r2) ih (1 : Int32) l2 v_rank v_across x2_g2 v_g1_order x2_spare v_g1_cells v_gains v_square_r0 v_square_r1 v_square_r2 hF hP hD hS (lv_sub hl [0, 1, 2] rfl)
set_option maxHeartbeats 4000000 in
set_option maxRecDepth 100000 in
theorem c_X0_findGains (l : Launch) (dC : Nat → ClassId) (dI : Nat → Nat → Nat) (cyI cyJ cyA : ClassId) (h_me h_spare h_g1 h_g1_spare h_g1_cells h_gains h_square h_square_r0 h_square_r1 h_square_r2 : Nat) (z_rows z_below z_base : Value) (v_rank : Int32) (v_across : Int32) (v_spare : Nat → Int64) (v_g1_order : Int32) (v_g1_spare : Nat → Int64) (v_g1_cells : Nat → Int32) (v_gains : Nat → Int64) (v_square_r0 : Nat → Int64) (v_square_r1 : Nat → Int64) (v_square_r2 : Nat → Int64)  {q_spare : Nat → Int64} {q_g1_spare : Nat → Int64} {q_gains : Nat → Int64} (hF : F_X0_findGains v_rank v_across v_spare v_g1_order v_g1_spare v_g1_cells v_gains v_square_r0 v_square_r1 v_square_r2 = some (q_spare, q_g1_spare, q_gains)) (sz : Nat) : Met l yX0_findGains wsX0_findGains rmX0_findGains (va_Pc [.ref h_me, .ref h_g1] (PC (dC, dI) cyI cyJ cyA [(h_me, .inr (0, [z_rows, .ref h_gains, .int v_rank, z_below, .int v_across, z_base, .ref h_square, .ref h_spare])), (h_spare, .inl (cyJ, 3, .inr (.inl v_spare))), (h_g1, .inr (3, [.ref h_g1_cells, .int v_g1_order, .ref h_g1_spare])), (h_g1_spare, .inl (cyJ, 3, .inr (.inl v_g1_spare))), (h_g1_cells, .inl (cyI, 15, .inl v_g1_cells)), (h_gains, .inl (cyJ, 3, .inr (.inl v_gains))), (h_square, .inl (cyA, 3, .inr (.inr (.inr (.inr (fn3 h_square_r0 h_square_r1 h_square_r2)))))), (h_square_r0, .inl (cyJ, 3, .inr (.inl v_square_r0))), (h_square_r1, .inl (cyJ, 3, .inr (.inl v_square_r1))), (h_square_r2, .inl (cyJ, 3, .inr (.inl v_square_r2)))] sz)) (QV (dC, dI) (va_A [(h_me, .inr (0, [z_rows, .ref h_gains, .int v_rank, z_below, .int v_across, z_base, .ref h_square, .ref h_spare])), (h_spare, .inl (cyJ, 3, .inr (.inl v_spare))), (h_g1, .inr (3, [.ref h_g1_cells, .int v_g1_order, .ref h_g1_spare])), (h_g1_spare, .inl (cyJ, 3, .inr (.inl v_g1_spare))), (h_g1_cells, .inl (cyI, 15, .inl v_g1_cells)), (h_gains, .inl (cyJ, 3, .inr (.inl v_gains))), (h_square, .inl (cyA, 3, .inr (.inr (.inr (.inr (fn3 h_square_r0 h_square_r1 h_square_r2)))))), (h_square_r0, .inl (cyJ, 3, .inr (.inl v_square_r0))), (h_square_r1, .inl (cyJ, 3, .inr (.inl v_square_r1))), (h_square_r2, .inl (cyJ, 3, .inr (.inl v_square_r2)))] sz) [(h_me, .inr (0, [z_rows, .ref h_gains, .int v_rank, z_below, .int v_across, z_base, .ref h_square, .ref h_spare])), (h_spare, .inl (cyJ, 3, .inr (.inl q_spare))), (h_g1, .inr (3, [.ref h_g1_cells, .int v_g1_order, .ref h_g1_spare])), (h_g1_spare, .inl (cyJ, 3, .inr (.inl q_g1_spare))), (h_g1_cells, .inl (cyI, 15, .inl v_g1_cells)), (h_gains, .inl (cyJ, 3, .inr (.inl q_gains))), (h_square, .inl (cyA, 3, .inr (.inr (.inr (.inr (fn3 h_square_r0 h_square_r1 h_square_r2)))))), (h_square_r0, .inl (cyJ, 3, .inr (.inl v_square_r0))), (h_square_r1, .inl (cyJ, 3, .inr (.inl v_square_r1))), (h_square_r2, .inl (cyJ, 3, .inr (.inl v_square_r2)))]) 0 0 (va_A [(h_me, .inr (0, [z_rows, .ref h_gains, .int v_rank, z_below, .int v_across, z_base, .ref h_square, .ref h_spare])), (h_spare, .inl (cyJ, 3, .inr (.inl v_spare))), (h_g1, .inr (3, [.ref h_g1_cells, .int v_g1_order, .ref h_g1_spare])), (h_g1_spare, .inl (cyJ, 3, .inr (.inl v_g1_spare))), (h_g1_cells, .inl (cyI, 15, .inl v_g1_cells)), (h_gains, .inl (cyJ, 3, .inr (.inl v_gains))), (h_square, .inl (cyA, 3, .inr (.inr (.inr (.inr (fn3 h_square_r0 h_square_r1 h_square_r2)))))), (h_square_r0, .inl (cyJ, 3, .inr (.inl v_square_r0))), (h_square_r1, .inl (cyJ, 3, .inr (.inl v_square_r1))), (h_square_r2, .inl (cyJ, 3, .inr (.inl v_square_r2)))] sz) := by
  refine Met.ofW (cc := cX0_findGains) (maxL := 4) (ret := none) (by decide) rfl ?_
  intro p e s m args below meth c s₁ B hml hv
  obtain ⟨rfl, hsz, hP, hKK, hD0⟩ := hv
  have hx := B.exec
  have hb := B.bytes
  have hr := B.returns
  have hts := atoms_spec (ws := wsX0_findGains) B.pre
  have hown : s.vm.findClass RX0 = some m.cls := findClass_of_methodNamed B.named
  have hlocks := B.notSynchronized
  have C0 : Cx p s m ([.ref h_me, .ref h_g1] : List Value).toArray meth c cX0_findGains 4 none wsX0_findGains RX0 (dC, dI) cyI cyJ cyA := ⟨hx, hb, hr, hml, hown, hts, hKK, hlocks⟩
  have hK := hKK.1
  subst hsz
  have hD := hD0.self (sz := s.heap.size)
  generalize hAe : va_A [(h_me, .inr (0, [z_rows, .ref h_gains, .int v_rank, z_below, .int v_across, z_base, .ref h_square, .ref h_spare])), (h_spare, .inl (cyJ, 3, .inr (.inl v_spare))), (h_g1, .inr (3, [.ref h_g1_cells, .int v_g1_order, .ref h_g1_spare])), (h_g1_spare, .inl (cyJ, 3, .inr (.inl v_g1_spare))), (h_g1_cells, .inl (cyI, 15, .inl v_g1_cells)), (h_gains, .inl (cyJ, 3, .inr (.inl v_gains))), (h_square, .inl (cyA, 3, .inr (.inr (.inr (.inr (fn3 h_square_r0 h_square_r1 h_square_r2)))))), (h_square_r0, .inl (cyJ, 3, .inr (.inl v_square_r0))), (h_square_r1, .inl (cyJ, 3, .inr (.inl v_square_r1))), (h_square_r2, .inl (cyJ, 3, .inr (.inl v_square_r2)))] s.heap.size = A at hD ⊢
  have hA : ∀ q : Nat, s.heap.size ≤ q → A q := fun q h => by rw [← hAe]; exact Or.inr h
  have hS : va_S A s.heap s.heap [] := va_S.rf
  have hl := lv_entry ([.ref h_me, .ref h_g1]) (n := 4) (Nat.le_of_ble_eq_true rfl)
  rw [lg_entry_eq]
  generalize (lg_sl ([.ref h_me, .ref h_g1]) ++ List.replicate (4 - (lg_sl ([.ref h_me, .ref h_g1])).length) Slot.unset).toArray = ls at hl ⊢
  have hl : lv_has ls 4 [(0, .ref h_me), (1, .ref h_g1)] := hl
  unfold F_X0_findGains at hF
  refine lv_iconst (v := (0 : Int32)) hx hb dX0_findGains_0 (by decide) ?_
  refine lv_istore_n (lv' := [(2, .int (0 : Int32)), (0, .ref h_me), (1, .ref h_g1)]) hx hb dX0_findGains_1 rfl hl (by decide) rfl (fun ls hl => ?_)
  exact t_X0_findGains_2 C0 hA   3000 (0 : Int32) v_rank v_across v_spare v_g1_order v_g1_spare v_g1_cells v_gains v_square_r0 v_square_r1 v_square_r2 hF hP hD hS (lv_sub hl [1, 2, 0] rfl)
/-! RestGains$Chain.build (LRestGains$Plant;)V -/
def rmX0_build : Room := { frames := 3, cells := 0, slots := 0, locals := 75 }
def F_X0_build_32 (k_2 : Int32 → Int32 → Int64 → Int32 → (Nat → Int64) → (Nat → Int64) → (Nat → Int64) → Int32 → (Nat → Int32) → (Nat → Int64) → (Nat → Int64) → (Nat → Int64) → (Nat → Int64) → (Nat → Int64) → (Nat → Int64) → (Nat → Int64) → (Nat → Int64) → (Nat → Int64) → Option (Int32 × Int64 × (Nat → Int64) × (Nat → Int64) × (Nat → Int64) × (Nat → Int64) × (Nat → Int64) × (Nat → Int64) × (Nat → Int64) × (Nat → Int64) × (Nat → Int64) × (Nat → Int64) × (Nat → Int64) × (Nat → Int64))) (s1 : Int32) (s3 : Int32) (l2 : Int32) (v_rank : Int32) (v_below : Int64) (v_across : Int32) (v_rows_r0 : Nat → Int64) (v_rows_r1 : Nat → Int64) (v_rows_r2 : Nat → Int64) (v_g1_order : Int32) (v_g1_cells : Nat → Int32) (v_spare : Nat → Int64) (v_base_r0 : Nat → Int64) (v_base_r1 : Nat → Int64) (v_base_r2 : Nat → Int64) (v_square_r0 : Nat → Int64) (v_square_r1 : Nat → Int64) (v_square_r2 : Nat → Int64) (v_g1_spare : Nat → Int64) (v_gains : Nat → Int64) : Option (Int32 × Int64 × (Nat → Int64) × (Nat → Int64) × (Nat → Int64) × (Nat → Int64) × (Nat → Int64) × (Nat → Int64) × (Nat → Int64) × (Nat → Int64) × (Nat → Int64) × (Nat → Int64) × (Nat → Int64) × (Nat → Int64)) :=
  if (s3 + l2) < 0 ∨ 15 ≤ (s3 + l2).toNatClampNeg then none else if s1 < 0 ∨ 3 ≤ s1.toNatClampNeg then none else k_2 (l2 + (1 : Int32)) v_rank v_below v_across (vp_updL v_rows_r0 s1.toNatClampNeg ((v_g1_cells (s3 + l2).toNatClampNeg).toInt64)) v_rows_r1 v_rows_r2 v_g1_order v_g1_cells v_spare v_base_r0 v_base_r1 v_base_r2 v_square_r0 v_square_r1 v_square_r2 v_g1_spare v_gains
def F_X0_build_2  : Nat → Int32 → Int32 → Int64 → Int32 → (Nat → Int64) → (Nat → Int64) → (Nat → Int64) → Int32 → (Nat → Int32) → (Nat → Int64) → (Nat → Int64) → (Nat → Int64) → (Nat → Int64) → (Nat → Int64) → (Nat → Int64) → (Nat → Int64) → (Nat → Int64) → (Nat → Int64) → Option (Int32 × Int64 × (Nat → Int64) × (Nat → Int64) × (Nat → Int64) × (Nat → Int64) × (Nat → Int64) × (Nat → Int64) × (Nat → Int64) × (Nat → Int64) × (Nat → Int64) × (Nat → Int64) × (Nat → Int64) × (Nat → Int64))
  | 0, _, _, _, _, _, _, _, _, _, _, _, _, _, _, _, _, _, _ => none
  | n + 1, l2, v_rank, v_below, v_across, v_rows_r0, v_rows_r1, v_rows_r2, v_g1_order, v_g1_cells, v_spare, v_base_r0, v_base_r1, v_base_r2, v_square_r0, v_square_r1, v_square_r2, v_g1_spare, v_gains => if (3 : Int32) ≤ l2 then (bd1 (F_X3_goOn v_across v_rows_r1 v_g1_cells v_rows_r0) (fun x1_g3 => bd1 (F_X3_goOn v_across v_rows_r2 v_g1_cells x1_g3) (fun x2_g3 => bd5 (F_X0_fillBase v_rank v_rows_r0 x1_g3 x2_g3 v_spare v_base_r0 v_base_r1 v_base_r2) (fun x3_rank x3_spare x3_base_r0 x3_base_r1 x3_base_r2 => bd1 (F_X4_cross x3_base_r1 x3_base_r2 v_square_r0) (fun x4_g3 => bd1 (F_X4_cross x3_base_r2 x3_base_r0 v_square_r1) (fun x5_g3 => bd1 (F_X4_cross x3_base_r0 x3_base_r1 v_square_r2) (fun x6_g3 => bd1 (F_X4_dot x3_base_r0 x4_g3) (fun r7 => bd3 (F_X0_findGains x3_rank v_across x3_spare v_g1_order v_g1_spare v_g1_cells v_gains x4_g3 x5_g3 x6_g3) (fun x8_spare x8_g1_spare x8_gains => some (x3_rank, r7, v_rows_r0, x1_g3, x2_g3, x8_spare, x3_base_r0, x3_base_r1, x3_base_r2, x4_g3, x5_g3, x6_g3, x8_g1_spare, x8_gains)))))))))) else (if v_across = 0 then (F_X0_build_32 (fun l2 v_rank v_below v_across v_rows_r0 v_rows_r1 v_rows_r2 v_g1_order v_g1_cells v_spare v_base_r0 v_base_r1 v_base_r2 v_square_r0 v_square_r1 v_square_r2 v_g1_spare v_gains => F_X0_build_2  n l2 v_rank v_below v_across v_rows_r0 v_rows_r1 v_rows_r2 v_g1_order v_g1_cells v_spare v_base_r0 v_base_r1 v_base_r2 v_square_r0 v_square_r1 v_square_r2 v_g1_spare v_gains) l2 (9 : Int32) l2 v_rank v_below v_across v_rows_r0 v_rows_r1 v_rows_r2 v_g1_order v_g1_cells v_spare v_base_r0 v_base_r1 v_base_r2 v_square_r0 v_square_r1 v_square_r2 v_g1_spare v_gains) else (F_X0_build_32 (fun l2 v_rank v_below v_across v_rows_r0 v_rows_r1 v_rows_r2 v_g1_order v_g1_cells v_spare v_base_r0 v_base_r1 v_base_r2 v_square_r0 v_square_r1 v_square_r2 v_g1_spare v_gains => F_X0_build_2  n l2 v_rank v_below v_across v_rows_r0 v_rows_r1 v_rows_r2 v_g1_order v_g1_cells v_spare v_base_r0 v_base_r1 v_base_r2 v_square_r0 v_square_r1 v_square_r2 v_g1_spare v_gains) l2 (12 : Int32) l2 v_rank v_below v_across v_rows_r0 v_rows_r1 v_rows_r2 v_g1_order v_g1_cells v_spare v_base_r0 v_base_r1 v_base_r2 v_square_r0 v_square_r1 v_square_r2 v_g1_spare v_gains))
def F_X0_build (v_rank : Int32) (v_below : Int64) (v_across : Int32) (v_rows_r0 : Nat → Int64) (v_rows_r1 : Nat → Int64) (v_rows_r2 : Nat → Int64) (v_g1_order : Int32) (v_g1_cells : Nat → Int32) (v_spare : Nat → Int64) (v_base_r0 : Nat → Int64) (v_base_r1 : Nat → Int64) (v_base_r2 : Nat → Int64) (v_square_r0 : Nat → Int64) (v_square_r1 : Nat → Int64) (v_square_r2 : Nat → Int64) (v_g1_spare : Nat → Int64) (v_gains : Nat → Int64) : Option (Int32 × Int64 × (Nat → Int64) × (Nat → Int64) × (Nat → Int64) × (Nat → Int64) × (Nat → Int64) × (Nat → Int64) × (Nat → Int64) × (Nat → Int64) × (Nat → Int64) × (Nat → Int64) × (Nat → Int64) × (Nat → Int64)) :=
  F_X0_build_2  3000 (0 : Int32) v_rank v_below v_across v_rows_r0 v_rows_r1 v_rows_r2 v_g1_order v_g1_cells v_spare v_base_r0 v_base_r1 v_base_r2 v_square_r0 v_square_r1 v_square_r2 v_g1_spare v_gains
set_option maxHeartbeats 4000000 in
set_option maxRecDepth 100000 in
theorem t_X0_build_32 {p : Program} {l : Launch} {e : Env} {s : State} {m : MethodId} {args : Array Value} {below : List Frame} {meth : Method} {c : Code} {dC : Nat → ClassId} {dI : Nat → Nat → Nat} {cyI cyJ cyA : ClassId} {A : Nat → Prop} {h_me h_rows h_rows_r0 h_rows_r1 h_rows_r2 h_g1 h_g1_cells h_spare h_base h_base_r0 h_base_r1 h_base_r2 h_square h_square_r0 h_square_r1 h_square_r2 h_g1_spare h_gains : Nat} {q_rank : Int32} {q_below : Int64} {q_rows_r0 : Nat → Int64} {q_rows_r1 : Nat → Int64} {q_rows_r2 : Nat → Int64} {q_spare : Nat → Int64} {q_base_r0 : Nat → Int64} {q_base_r1 : Nat → Int64} {q_base_r2 : Nat → Int64} {q_square_r0 : Nat → Int64} {q_square_r1 : Nat → Int64} {q_square_r2 : Nat → Int64} {q_g1_spare : Nat → Int64} {q_gains : Nat → Int64} (C0 : Cx p s m args meth c cX0_build 3 none wsX0_build RX0 (dC, dI) cyI cyJ cyA) (hA : ∀ q : Nat, s.heap.size ≤ q → A q) (k_2 : Int32 → Int32 → Int64 → Int32 → (Nat → Int64) → (Nat → Int64) → (Nat → Int64) → Int32 → (Nat → Int32) → (Nat → Int64) → (Nat → Int64) → (Nat → Int64) → (Nat → Int64) → (Nat → Int64) → (Nat → Int64) → (Nat → Int64) → (Nat → Int64) → (Nat → Int64) → Option (Int32 × Int64 × (Nat → Int64) × (Nat → Int64) × (Nat → Int64) × (Nat → Int64) × (Nat → Int64) × (Nat → Int64) × (Nat → Int64) × (Nat → Int64) × (Nat → Int64) × (Nat → Int64) × (Nat → Int64) × (Nat → Int64))) (hk_2 : ∀ (l2 : Int32) (v_rank : Int32) (v_below : Int64) (v_across : Int32) (v_rows_r0 : Nat → Int64) (v_rows_r1 : Nat → Int64) (v_rows_r2 : Nat → Int64) (v_g1_order : Int32) (v_g1_cells : Nat → Int32) (v_spare : Nat → Int64) (v_base_r0 : Nat → Int64) (v_base_r1 : Nat → Int64) (v_base_r2 : Nat → Int64) (v_square_r0 : Nat → Int64) (v_square_r1 : Nat → Int64) (v_square_r2 : Nat → Int64) (v_g1_spare : Nat → Int64) (v_gains : Nat → Int64), k_2 l2 v_rank v_below v_across v_rows_r0 v_rows_r1 v_rows_r2 v_g1_order v_g1_cells v_spare v_base_r0 v_base_r1 v_base_r2 v_square_r0 v_square_r1 v_square_r2 v_g1_spare v_gains = some (q_rank, q_below, q_rows_r0, q_rows_r1, q_rows_r2, q_spare, q_base_r0, q_base_r1, q_base_r2, q_square_r0, q_square_r1, q_square_r2, q_g1_spare, q_gains) → ∀ {H : Heap} {locs : List Loc} {ls : Array Slot}, va_P (dC, dI) vwCl [(h_me, .inr (0, [.ref h_rows, .ref h_gains, .int v_rank, .long v_below, .int v_across, .ref h_base, .ref h_square, .ref h_spare])), (h_rows, .inl (cyA, 3, .inr (.inr (.inr (.inr (fn3 h_rows_r0 h_rows_r1 h_rows_r2)))))), (h_rows_r0, .inl (cyJ, 3, .inr (.inl v_rows_r0))), (h_rows_r1, .inl (cyJ, 3, .inr (.inl v_rows_r1))), (h_rows_r2, .inl (cyJ, 3, .inr (.inl v_rows_r2))), (h_g1, .inr (3, [.ref h_g1_cells, .int v_g1_order, .ref h_g1_spare])), (h_g1_cells, .inl (cyI, 15, .inl v_g1_cells)), (h_spare, .inl (cyJ, 3, .inr (.inl v_spare))), (h_base, .inl (cyA, 3, .inr (.inr (.inr (.inr (fn3 h_base_r0 h_base_r1 h_base_r2)))))), (h_base_r0, .inl (cyJ, 3, .inr (.inl v_base_r0))), (h_base_r1, .inl (cyJ, 3, .inr (.inl v_base_r1))), (h_base_r2, .inl (cyJ, 3, .inr (.inl v_base_r2))), (h_square, .inl (cyA, 3, .inr (.inr (.inr (.inr (fn3 h_square_r0 h_square_r1 h_square_r2)))))), (h_square_r0, .inl (cyJ, 3, .inr (.inl v_square_r0))), (h_square_r1, .inl (cyJ, 3, .inr (.inl v_square_r1))), (h_square_r2, .inl (cyJ, 3, .inr (.inl v_square_r2))), (h_g1_spare, .inl (cyJ, 3, .inr (.inl v_g1_spare))), (h_gains, .inl (cyJ, 3, .inr (.inl v_gains)))] H → va_D A [(h_me, .inr (0, [.ref h_rows, .ref h_gains, .int v_rank, .long v_below, .int v_across, .ref h_base, .ref h_square, .ref h_spare])), (h_rows, .inl (cyA, 3, .inr (.inr (.inr (.inr (fn3 h_rows_r0 h_rows_r1 h_rows_r2)))))), (h_rows_r0, .inl (cyJ, 3, .inr (.inl v_rows_r0))), (h_rows_r1, .inl (cyJ, 3, .inr (.inl v_rows_r1))), (h_rows_r2, .inl (cyJ, 3, .inr (.inl v_rows_r2))), (h_g1, .inr (3, [.ref h_g1_cells, .int v_g1_order, .ref h_g1_spare])), (h_g1_cells, .inl (cyI, 15, .inl v_g1_cells)), (h_spare, .inl (cyJ, 3, .inr (.inl v_spare))), (h_base, .inl (cyA, 3, .inr (.inr (.inr (.inr (fn3 h_base_r0 h_base_r1 h_base_r2)))))), (h_base_r0, .inl (cyJ, 3, .inr (.inl v_base_r0))), (h_base_r1, .inl (cyJ, 3, .inr (.inl v_base_r1))), (h_base_r2, .inl (cyJ, 3, .inr (.inl v_base_r2))), (h_square, .inl (cyA, 3, .inr (.inr (.inr (.inr (fn3 h_square_r0 h_square_r1 h_square_r2)))))), (h_square_r0, .inl (cyJ, 3, .inr (.inl v_square_r0))), (h_square_r1, .inl (cyJ, 3, .inr (.inl v_square_r1))), (h_square_r2, .inl (cyJ, 3, .inr (.inl v_square_r2))), (h_g1_spare, .inl (cyJ, 3, .inr (.inl v_g1_spare))), (h_gains, .inl (cyJ, 3, .inr (.inl v_gains)))] → va_S A s.heap H locs → lv_has ls 3 [(0, .ref h_me), (1, .ref h_g1), (2, .int l2)] → W p l e rmX0_build s m args below meth c H locs 0 0 (MQ below (QV (dC, dI) A [(h_me, .inr (0, [.ref h_rows, .ref h_gains, .int q_rank, .long q_below, .int v_across, .ref h_base, .ref h_square, .ref h_spare])), (h_rows, .inl (cyA, 3, .inr (.inr (.inr (.inr (fn3 h_rows_r0 h_rows_r1 h_rows_r2)))))), (h_rows_r0, .inl (cyJ, 3, .inr (.inl q_rows_r0))), (h_rows_r1, .inl (cyJ, 3, .inr (.inl q_rows_r1))), (h_rows_r2, .inl (cyJ, 3, .inr (.inl q_rows_r2))), (h_g1, .inr (3, [.ref h_g1_cells, .int v_g1_order, .ref h_g1_spare])), (h_g1_cells, .inl (cyI, 15, .inl v_g1_cells)), (h_spare, .inl (cyJ, 3, .inr (.inl q_spare))), (h_base, .inl (cyA, 3, .inr (.inr (.inr (.inr (fn3 h_base_r0 h_base_r1 h_base_r2)))))), (h_base_r0, .inl (cyJ, 3, .inr (.inl q_base_r0))), (h_base_r1, .inl (cyJ, 3, .inr (.inl q_base_r1))), (h_base_r2, .inl (cyJ, 3, .inr (.inl q_base_r2))), (h_square, .inl (cyA, 3, .inr (.inr (.inr (.inr (fn3 h_square_r0 h_square_r1 h_square_r2)))))), (h_square_r0, .inl (cyJ, 3, .inr (.inl q_square_r0))), (h_square_r1, .inl (cyJ, 3, .inr (.inl q_square_r1))), (h_square_r2, .inl (cyJ, 3, .inr (.inl q_square_r2))), (h_g1_spare, .inl (cyJ, 3, .inr (.inl q_g1_spare))), (h_gains, .inl (cyJ, 3, .inr (.inl q_gains)))]) args s 0 0 A) (F0 m 2 ls [])) : ∀ (s1 : Int32) (s3 : Int32) (l2 : Int32) (v_rank : Int32) (v_below : Int64) (v_across : Int32) (v_rows_r0 : Nat → Int64) (v_rows_r1 : Nat → Int64) (v_rows_r2 : Nat → Int64) (v_g1_order : Int32) (v_g1_cells : Nat → Int32) (v_spare : Nat → Int64) (v_base_r0 : Nat → Int64) (v_base_r1 : Nat → Int64) (v_base_r2 : Nat → Int64) (v_square_r0 : Nat → Int64) (v_square_r1 : Nat → Int64) (v_square_r2 : Nat → Int64) (v_g1_spare : Nat → Int64) (v_gains : Nat → Int64), F_X0_build_32 k_2 s1 s3 l2 v_rank v_below v_across v_rows_r0 v_rows_r1 v_rows_r2 v_g1_order v_g1_cells v_spare v_base_r0 v_base_r1 v_base_r2 v_square_r0 v_square_r1 v_square_r2 v_g1_spare v_gains = some (q_rank, q_below, q_rows_r0, q_rows_r1, q_rows_r2, q_spare, q_base_r0, q_base_r1, q_base_r2, q_square_r0, q_square_r1, q_square_r2, q_g1_spare, q_gains) → ∀ {H : Heap} {locs : List Loc} {ls : Array Slot}, va_P (dC, dI) vwCl [(h_me, .inr (0, [.ref h_rows, .ref h_gains, .int v_rank, .long v_below, .int v_across, .ref h_base, .ref h_square, .ref h_spare])), (h_rows, .inl (cyA, 3, .inr (.inr (.inr (.inr (fn3 h_rows_r0 h_rows_r1 h_rows_r2)))))), (h_rows_r0, .inl (cyJ, 3, .inr (.inl v_rows_r0))), (h_rows_r1, .inl (cyJ, 3, .inr (.inl v_rows_r1))), (h_rows_r2, .inl (cyJ, 3, .inr (.inl v_rows_r2))), (h_g1, .inr (3, [.ref h_g1_cells, .int v_g1_order, .ref h_g1_spare])), (h_g1_cells, .inl (cyI, 15, .inl v_g1_cells)), (h_spare, .inl (cyJ, 3, .inr (.inl v_spare))), (h_base, .inl (cyA, 3, .inr (.inr (.inr (.inr (fn3 h_base_r0 h_base_r1 h_base_r2)))))), (h_base_r0, .inl (cyJ, 3, .inr (.inl v_base_r0))), (h_base_r1, .inl (cyJ, 3, .inr (.inl v_base_r1))), (h_base_r2, .inl (cyJ, 3, .inr (.inl v_base_r2))), (h_square, .inl (cyA, 3, .inr (.inr (.inr (.inr (fn3 h_square_r0 h_square_r1 h_square_r2)))))), (h_square_r0, .inl (cyJ, 3, .inr (.inl v_square_r0))), (h_square_r1, .inl (cyJ, 3, .inr (.inl v_square_r1))), (h_square_r2, .inl (cyJ, 3, .inr (.inl v_square_r2))), (h_g1_spare, .inl (cyJ, 3, .inr (.inl v_g1_spare))), (h_gains, .inl (cyJ, 3, .inr (.inl v_gains)))] H → va_D A [(h_me, .inr (0, [.ref h_rows, .ref h_gains, .int v_rank, .long v_below, .int v_across, .ref h_base, .ref h_square, .ref h_spare])), (h_rows, .inl (cyA, 3, .inr (.inr (.inr (.inr (fn3 h_rows_r0 h_rows_r1 h_rows_r2)))))), (h_rows_r0, .inl (cyJ, 3, .inr (.inl v_rows_r0))), (h_rows_r1, .inl (cyJ, 3, .inr (.inl v_rows_r1))), (h_rows_r2, .inl (cyJ, 3, .inr (.inl v_rows_r2))), (h_g1, .inr (3, [.ref h_g1_cells, .int v_g1_order, .ref h_g1_spare])), (h_g1_cells, .inl (cyI, 15, .inl v_g1_cells)), (h_spare, .inl (cyJ, 3, .inr (.inl v_spare))), (h_base, .inl (cyA, 3, .inr (.inr (.inr (.inr (fn3 h_base_r0 h_base_r1 h_base_r2)))))), (h_base_r0, .inl (cyJ, 3, .inr (.inl v_base_r0))), (h_base_r1, .inl (cyJ, 3, .inr (.inl v_base_r1))), (h_base_r2, .inl (cyJ, 3, .inr (.inl v_base_r2))), (h_square, .inl (cyA, 3, .inr (.inr (.inr (.inr (fn3 h_square_r0 h_square_r1 h_square_r2)))))), (h_square_r0, .inl (cyJ, 3, .inr (.inl v_square_r0))), (h_square_r1, .inl (cyJ, 3, .inr (.inl v_square_r1))), (h_square_r2, .inl (cyJ, 3, .inr (.inl v_square_r2))), (h_g1_spare, .inl (cyJ, 3, .inr (.inl v_g1_spare))), (h_gains, .inl (cyJ, 3, .inr (.inl v_gains)))] → va_S A s.heap H locs → lv_has ls 3 [(0, .ref h_me), (1, .ref h_g1), (2, .int l2)] → W p l e rmX0_build s m args below meth c H locs 0 0 (MQ below (QV (dC, dI) A [(h_me, .inr (0, [.ref h_rows, .ref h_gains, .int q_rank, .long q_below, .int v_across, .ref h_base, .ref h_square, .ref h_spare])), (h_rows, .inl (cyA, 3, .inr (.inr (.inr (.inr (fn3 h_rows_r0 h_rows_r1 h_rows_r2)))))), (h_rows_r0, .inl (cyJ, 3, .inr (.inl q_rows_r0))), (h_rows_r1, .inl (cyJ, 3, .inr (.inl q_rows_r1))), (h_rows_r2, .inl (cyJ, 3, .inr (.inl q_rows_r2))), (h_g1, .inr (3, [.ref h_g1_cells, .int v_g1_order, .ref h_g1_spare])), (h_g1_cells, .inl (cyI, 15, .inl v_g1_cells)), (h_spare, .inl (cyJ, 3, .inr (.inl q_spare))), (h_base, .inl (cyA, 3, .inr (.inr (.inr (.inr (fn3 h_base_r0 h_base_r1 h_base_r2)))))), (h_base_r0, .inl (cyJ, 3, .inr (.inl q_base_r0))), (h_base_r1, .inl (cyJ, 3, .inr (.inl q_base_r1))), (h_base_r2, .inl (cyJ, 3, .inr (.inl q_base_r2))), (h_square, .inl (cyA, 3, .inr (.inr (.inr (.inr (fn3 h_square_r0 h_square_r1 h_square_r2)))))), (h_square_r0, .inl (cyJ, 3, .inr (.inl q_square_r0))), (h_square_r1, .inl (cyJ, 3, .inr (.inl q_square_r1))), (h_square_r2, .inl (cyJ, 3, .inr (.inl q_square_r2))), (h_g1_spare, .inl (cyJ, 3, .inr (.inl q_g1_spare))), (h_gains, .inl (cyJ, 3, .inr (.inl q_gains)))]) args s 0 0 A) (F0 m 32 ls [.int s3, .ref h_g1_cells, .int s1, .ref h_rows_r0]) := by
  obtain ⟨hx, hb, hr, hml, hown, hts, hKK, hlocks⟩ := id C0
  have hK := hKK.1
  intro s1 s3 l2 v_rank v_below v_across v_rows_r0 v_rows_r1 v_rows_r2 v_g1_order v_g1_cells v_spare v_base_r0 v_base_r1 v_base_r2 v_square_r0 v_square_r1 v_square_r2 v_g1_spare v_gains hF H locs ls hP hD hS hl
  unfold F_X0_build_32 at hF
  refine lv_iload_n hx hb dX0_build_32 rfl (lv_at hl 2 rfl) ?_
  refine lv_iadd hx hb dX0_build_33 ?_
  obtain ⟨g_1, hF⟩ := gno hF
  refine va_iald hx hb hK hP 6 0 rfl rfl g_1 dX0_build_34 ?_
  refine lv_i2l hx hb dX0_build_35 rfl ?_
  obtain ⟨g_2, hF⟩ := gno hF
  refine my_last (ws' := [(h_me, .inr (0, [.ref h_rows, .ref h_gains, .int v_rank, .long v_below, .int v_across, .ref h_base, .ref h_square, .ref h_spare])), (h_rows, .inl (cyA, 3, .inr (.inr (.inr (.inr (fn3 h_rows_r0 h_rows_r1 h_rows_r2)))))), (h_rows_r0, .inl (cyJ, 3, .inr (.inl (vp_updL v_rows_r0 s1.toNatClampNeg ((v_g1_cells (s3 + l2).toNatClampNeg).toInt64))))), (h_rows_r1, .inl (cyJ, 3, .inr (.inl v_rows_r1))), (h_rows_r2, .inl (cyJ, 3, .inr (.inl v_rows_r2))), (h_g1, .inr (3, [.ref h_g1_cells, .int v_g1_order, .ref h_g1_spare])), (h_g1_cells, .inl (cyI, 15, .inl v_g1_cells)), (h_spare, .inl (cyJ, 3, .inr (.inl v_spare))), (h_base, .inl (cyA, 3, .inr (.inr (.inr (.inr (fn3 h_base_r0 h_base_r1 h_base_r2)))))), (h_base_r0, .inl (cyJ, 3, .inr (.inl v_base_r0))), (h_base_r1, .inl (cyJ, 3, .inr (.inl v_base_r1))), (h_base_r2, .inl (cyJ, 3, .inr (.inl v_base_r2))), (h_square, .inl (cyA, 3, .inr (.inr (.inr (.inr (fn3 h_square_r0 h_square_r1 h_square_r2)))))), (h_square_r0, .inl (cyJ, 3, .inr (.inl v_square_r0))), (h_square_r1, .inl (cyJ, 3, .inr (.inl v_square_r1))), (h_square_r2, .inl (cyJ, 3, .inr (.inl v_square_r2))), (h_g1_spare, .inl (cyJ, 3, .inr (.inl v_g1_spare))), (h_gains, .inl (cyJ, 3, .inr (.inl v_gains)))]) hx hb hK hP hD hS 2 1 rfl rfl g_2 dX0_build_36 rfl (fun H locs hP hD hS => ?_)
  refine lv_iinc (v := (l2 + (1 : Int32))) (lv' := [(2, .int (l2 + (1 : Int32))), (0, .ref h_me), (1, .ref h_g1)]) hx hb dX0_build_37 hl (k := 2) rfl (by rfl) (by decide) rfl (fun ls hl => ?_)
  refine lv_goto (tgt := 2) hx hb dX0_build_40 (by decide) ?_
  exact hk_2 (l2 + (1 : Int32)) v_rank v_below v_across (vp_updL v_rows_r0 s1.toNatClampNeg ((v_g1_cells (s3 + l2).toNatClampNeg).toInt64)) v_rows_r1 v_rows_r2 v_g1_order v_g1_cells v_spare v_base_r0 v_base_r1 v_base_r2 v_square_r0 v_square_r1 v_square_r2 v_g1_spare v_gains hF hP hD hS (lv_sub hl [1, 2, 0] rfl)
set_option maxHeartbeats 4000000 in
set_option maxRecDepth 100000 in
theorem t_X0_build_2 {p : Program} {l : Launch} {e : Env} {s : State} {m : MethodId} {args : Array Value} {below : List Frame} {meth : Method} {c : Code} {dC : Nat → ClassId} {dI : Nat → Nat → Nat} {cyI cyJ cyA : ClassId} {A : Nat → Prop} {h_me h_rows h_rows_r0 h_rows_r1 h_rows_r2 h_g1 h_g1_cells h_spare h_base h_base_r0 h_base_r1 h_base_r2 h_square h_square_r0 h_square_r1 h_square_r2 h_g1_spare h_gains : Nat} {q_rank : Int32} {q_below : Int64} {q_rows_r0 : Nat → Int64} {q_rows_r1 : Nat → Int64} {q_rows_r2 : Nat → Int64} {q_spare : Nat → Int64} {q_base_r0 : Nat → Int64} {q_base_r1 : Nat → Int64} {q_base_r2 : Nat → Int64} {q_square_r0 : Nat → Int64} {q_square_r1 : Nat → Int64} {q_square_r2 : Nat → Int64} {q_g1_spare : Nat → Int64} {q_gains : Nat → Int64} (C0 : Cx p s m args meth c cX0_build 3 none wsX0_build RX0 (dC, dI) cyI cyJ cyA) (hA : ∀ q : Nat, s.heap.size ≤ q → A q)  : ∀ (n : Nat) (l2 : Int32) (v_rank : Int32) (v_below : Int64) (v_across : Int32) (v_rows_r0 : Nat → Int64) (v_rows_r1 : Nat → Int64) (v_rows_r2 : Nat → Int64) (v_g1_order : Int32) (v_g1_cells : Nat → Int32) (v_spare : Nat → Int64) (v_base_r0 : Nat → Int64) (v_base_r1 : Nat → Int64) (v_base_r2 : Nat → Int64) (v_square_r0 : Nat → Int64) (v_square_r1 : Nat → Int64) (v_square_r2 : Nat → Int64) (v_g1_spare : Nat → Int64) (v_gains : Nat → Int64), F_X0_build_2  n l2 v_rank v_below v_across v_rows_r0 v_rows_r1 v_rows_r2 v_g1_order v_g1_cells v_spare v_base_r0 v_base_r1 v_base_r2 v_square_r0 v_square_r1 v_square_r2 v_g1_spare v_gains = some (q_rank, q_below, q_rows_r0, q_rows_r1, q_rows_r2, q_spare, q_base_r0, q_base_r1, q_base_r2, q_square_r0, q_square_r1, q_square_r2, q_g1_spare, q_gains) → ∀ {H : Heap} {locs : List Loc} {ls : Array Slot}, va_P (dC, dI) vwCl [(h_me, .inr (0, [.ref h_rows, .ref h_gains, .int v_rank, .long v_below, .int v_across, .ref h_base, .ref h_square, .ref h_spare])), (h_rows, .inl (cyA, 3, .inr (.inr (.inr (.inr (fn3 h_rows_r0 h_rows_r1 h_rows_r2)))))), (h_rows_r0, .inl (cyJ, 3, .inr (.inl v_rows_r0))), (h_rows_r1, .inl (cyJ, 3, .inr (.inl v_rows_r1))), (h_rows_r2, .inl (cyJ, 3, .inr (.inl v_rows_r2))), (h_g1, .inr (3, [.ref h_g1_cells, .int v_g1_order, .ref h_g1_spare])), (h_g1_cells, .inl (cyI, 15, .inl v_g1_cells)), (h_spare, .inl (cyJ, 3, .inr (.inl v_spare))), (h_base, .inl (cyA, 3, .inr (.inr (.inr (.inr (fn3 h_base_r0 h_base_r1 h_base_r2)))))), (h_base_r0, .inl (cyJ, 3, .inr (.inl v_base_r0))), (h_base_r1, .inl (cyJ, 3, .inr (.inl v_base_r1))), (h_base_r2, .inl (cyJ, 3, .inr (.inl v_base_r2))), (h_square, .inl (cyA, 3, .inr (.inr (.inr (.inr (fn3 h_square_r0 h_square_r1 h_square_r2)))))), (h_square_r0, .inl (cyJ, 3, .inr (.inl v_square_r0))), (h_square_r1, .inl (cyJ, 3, .inr (.inl v_square_r1))), (h_square_r2, .inl (cyJ, 3, .inr (.inl v_square_r2))), (h_g1_spare, .inl (cyJ, 3, .inr (.inl v_g1_spare))), (h_gains, .inl (cyJ, 3, .inr (.inl v_gains)))] H → va_D A [(h_me, .inr (0, [.ref h_rows, .ref h_gains, .int v_rank, .long v_below, .int v_across, .ref h_base, .ref h_square, .ref h_spare])), (h_rows, .inl (cyA, 3, .inr (.inr (.inr (.inr (fn3 h_rows_r0 h_rows_r1 h_rows_r2)))))), (h_rows_r0, .inl (cyJ, 3, .inr (.inl v_rows_r0))), (h_rows_r1, .inl (cyJ, 3, .inr (.inl v_rows_r1))), (h_rows_r2, .inl (cyJ, 3, .inr (.inl v_rows_r2))), (h_g1, .inr (3, [.ref h_g1_cells, .int v_g1_order, .ref h_g1_spare])), (h_g1_cells, .inl (cyI, 15, .inl v_g1_cells)), (h_spare, .inl (cyJ, 3, .inr (.inl v_spare))), (h_base, .inl (cyA, 3, .inr (.inr (.inr (.inr (fn3 h_base_r0 h_base_r1 h_base_r2)))))), (h_base_r0, .inl (cyJ, 3, .inr (.inl v_base_r0))), (h_base_r1, .inl (cyJ, 3, .inr (.inl v_base_r1))), (h_base_r2, .inl (cyJ, 3, .inr (.inl v_base_r2))), (h_square, .inl (cyA, 3, .inr (.inr (.inr (.inr (fn3 h_square_r0 h_square_r1 h_square_r2)))))), (h_square_r0, .inl (cyJ, 3, .inr (.inl v_square_r0))), (h_square_r1, .inl (cyJ, 3, .inr (.inl v_square_r1))), (h_square_r2, .inl (cyJ, 3, .inr (.inl v_square_r2))), (h_g1_spare, .inl (cyJ, 3, .inr (.inl v_g1_spare))), (h_gains, .inl (cyJ, 3, .inr (.inl v_gains)))] → va_S A s.heap H locs → lv_has ls 3 [(0, .ref h_me), (1, .ref h_g1), (2, .int l2)] → W p l e rmX0_build s m args below meth c H locs 0 0 (MQ below (QV (dC, dI) A [(h_me, .inr (0, [.ref h_rows, .ref h_gains, .int q_rank, .long q_below, .int v_across, .ref h_base, .ref h_square, .ref h_spare])), (h_rows, .inl (cyA, 3, .inr (.inr (.inr (.inr (fn3 h_rows_r0 h_rows_r1 h_rows_r2)))))), (h_rows_r0, .inl (cyJ, 3, .inr (.inl q_rows_r0))), (h_rows_r1, .inl (cyJ, 3, .inr (.inl q_rows_r1))), (h_rows_r2, .inl (cyJ, 3, .inr (.inl q_rows_r2))), (h_g1, .inr (3, [.ref h_g1_cells, .int v_g1_order, .ref h_g1_spare])), (h_g1_cells, .inl (cyI, 15, .inl v_g1_cells)), (h_spare, .inl (cyJ, 3, .inr (.inl q_spare))), (h_base, .inl (cyA, 3, .inr (.inr (.inr (.inr (fn3 h_base_r0 h_base_r1 h_base_r2)))))), (h_base_r0, .inl (cyJ, 3, .inr (.inl q_base_r0))), (h_base_r1, .inl (cyJ, 3, .inr (.inl q_base_r1))), (h_base_r2, .inl (cyJ, 3, .inr (.inl q_base_r2))), (h_square, .inl (cyA, 3, .inr (.inr (.inr (.inr (fn3 h_square_r0 h_square_r1 h_square_r2)))))), (h_square_r0, .inl (cyJ, 3, .inr (.inl q_square_r0))), (h_square_r1, .inl (cyJ, 3, .inr (.inl q_square_r1))), (h_square_r2, .inl (cyJ, 3, .inr (.inl q_square_r2))), (h_g1_spare, .inl (cyJ, 3, .inr (.inl q_g1_spare))), (h_gains, .inl (cyJ, 3, .inr (.inl q_gains)))]) args s 0 0 A) (F0 m 2 ls []) := by
  obtain ⟨hx, hb, hr, hml, hown, hts, hKK, hlocks⟩ := id C0
  have hK := hKK.1
  intro n
  induction n with
  | zero => intro l2 v_rank v_below v_across v_rows_r0 v_rows_r1 v_rows_r2 v_g1_order v_g1_cells v_spare v_base_r0 v_base_r1 v_base_r2 v_square_r0 v_square_r1 v_square_r2 v_g1_spare v_gains hF; rw [F_X0_build_2] at hF; cases hF
  | succ n ih =>
      intro l2 v_rank v_below v_across v_rows_r0 v_rows_r1 v_rows_r2 v_g1_order v_g1_cells v_spare v_base_r0 v_base_r1 v_base_r2 v_square_r0 v_square_r1 v_square_r2 v_g1_spare v_gains hF H locs ls hP hD hS hl
      rw [F_X0_build_2] at hF
      refine lv_iload_n hx hb dX0_build_2 rfl (lv_at hl 2 rfl) ?_
      refine lv_iconst (v := (3 : Int32)) hx hb dX0_build_3 (by decide) ?_
      refine lv_icmp_ge (tgt := 43) hx hb dX0_build_4 (by decide) (fun c_ => ?_) (fun c_ => ?_)
      · have hF := gif c_ hF
        refine lv_aload_n hx hb dX0_build_43 rfl (lv_at hl 1 rfl) ?_
        refine lv_aload_n hx hb dX0_build_44 rfl (lv_at hl 0 rfl) ?_
        refine my_get (D := (dC, dI)) (ci := 0) (v := .int v_across) (C := RX0) (T := TX0) (N := 8) hx hb hts iX0_build_X0 hown hK hP 0 rfl rfl 4 (by decide) (hts _ mX0_build_3) rfl rfl dX0_build_45 ?_
        refine lv_aload_n hx hb dX0_build_48 rfl (lv_at hl 0 rfl) ?_
        refine my_get (D := (dC, dI)) (ci := 0) (v := .ref h_rows) (C := RX0) (T := TX0) (N := 8) hx hb hts iX0_build_X0 hown hK hP 0 rfl rfl 0 (by decide) (hts _ mX0_build_1) rfl rfl dX0_build_49 ?_
        refine lv_iconst (v := (0 : Int32)) hx hb dX0_build_52 (by decide) ?_
        refine my_ald2 hx hb hK hP 1 2 rfl rfl (in3_0 rfl) dX0_build_53 (v := .ref h_rows_r0) rfl ?_
        refine lv_aload_n hx hb dX0_build_54 rfl (lv_at hl 0 rfl) ?_
        refine my_get (D := (dC, dI)) (ci := 0) (v := .ref h_rows) (C := RX0) (T := TX0) (N := 8) hx hb hts iX0_build_X0 hown hK hP 0 rfl rfl 0 (by decide) (hts _ mX0_build_1) rfl rfl dX0_build_55 ?_
        refine lv_iconst (v := (1 : Int32)) hx hb dX0_build_58 (by decide) ?_
        refine my_ald2 hx hb hK hP 1 2 rfl rfl (in3_1 rfl) dX0_build_59 (v := .ref h_rows_r1) rfl ?_
        obtain ⟨x1_g3, hz1, hF⟩ := bd1_e hF
        refine kc_v (wr := [(h_me, .inr (0, [.ref h_rows, .ref h_gains, .int v_rank, .long v_below, .int v_across, .ref h_base, .ref h_square, .ref h_spare])), (h_rows, .inl (cyA, 3, .inr (.inr (.inr (.inr (fn3 h_rows_r0 h_rows_r1 h_rows_r2)))))), (h_rows_r2, .inl (cyJ, 3, .inr (.inl v_rows_r2))), (h_spare, .inl (cyJ, 3, .inr (.inl v_spare))), (h_base, .inl (cyA, 3, .inr (.inr (.inr (.inr (fn3 h_base_r0 h_base_r1 h_base_r2)))))), (h_base_r0, .inl (cyJ, 3, .inr (.inl v_base_r0))), (h_base_r1, .inl (cyJ, 3, .inr (.inl v_base_r1))), (h_base_r2, .inl (cyJ, 3, .inr (.inl v_base_r2))), (h_square, .inl (cyA, 3, .inr (.inr (.inr (.inr (fn3 h_square_r0 h_square_r1 h_square_r2)))))), (h_square_r0, .inl (cyJ, 3, .inr (.inl v_square_r0))), (h_square_r1, .inl (cyJ, 3, .inr (.inl v_square_r1))), (h_square_r2, .inl (cyJ, 3, .inr (.inl v_square_r2))), (h_g1_spare, .inl (cyJ, 3, .inr (.inl v_g1_spare))), (h_gains, .inl (cyJ, 3, .inr (.inl v_gains)))]) (ws' := [(h_me, .inr (0, [.ref h_rows, .ref h_gains, .int v_rank, .long v_below, .int v_across, .ref h_base, .ref h_square, .ref h_spare])), (h_rows, .inl (cyA, 3, .inr (.inr (.inr (.inr (fn3 h_rows_r0 h_rows_r1 h_rows_r2)))))), (h_rows_r0, .inl (cyJ, 3, .inr (.inl v_rows_r0))), (h_rows_r1, .inl (cyJ, 3, .inr (.inl x1_g3))), (h_rows_r2, .inl (cyJ, 3, .inr (.inl v_rows_r2))), (h_g1, .inr (3, [.ref h_g1_cells, .int v_g1_order, .ref h_g1_spare])), (h_g1_cells, .inl (cyI, 15, .inl v_g1_cells)), (h_spare, .inl (cyJ, 3, .inr (.inl v_spare))), (h_base, .inl (cyA, 3, .inr (.inr (.inr (.inr (fn3 h_base_r0 h_base_r1 h_base_r2)))))), (h_base_r0, .inl (cyJ, 3, .inr (.inl v_base_r0))), (h_base_r1, .inl (cyJ, 3, .inr (.inl v_base_r1))), (h_base_r2, .inl (cyJ, 3, .inr (.inl v_base_r2))), (h_square, .inl (cyA, 3, .inr (.inr (.inr (.inr (fn3 h_square_r0 h_square_r1 h_square_r2)))))), (h_square_r0, .inl (cyJ, 3, .inr (.inl v_square_r0))), (h_square_r1, .inl (cyJ, 3, .inr (.inl v_square_r1))), (h_square_r2, .inl (cyJ, 3, .inr (.inl v_square_r2))), (h_g1_spare, .inl (cyJ, 3, .inr (.inl v_g1_spare))), (h_gains, .inl (cyJ, 3, .inr (.inl v_gains)))]) (va_runV (As := [.int v_across, .ref h_rows_r0, .ref h_rows_r1]) (rest := []) ⟨hx, hb, hml, hown, hts⟩ (c_X3_goOn l dC dI cyI cyJ cyA h_rows_r1 h_g1 h_g1_cells h_rows_r0 (.int v_g1_order) (.ref h_g1_spare) v_rows_r1 v_g1_cells v_rows_r0 v_across hz1 _) (cwV 3 hts gX0_build_X3_goOn rfl rfl rfl ndX3_goOn ⟨Nat.le_of_ble_eq_true rfl, Nat.le_of_ble_eq_true rfl⟩) (pre_V hKK hP hD 5 rfl rfl [3, 5, 6, 2] (by decide) rfl rfl) rfl rfl hl.1 rfl (lv_room (Nat.le_of_ble_eq_true rfl)) dX0_build_60 ⟨Nat.le_of_ble_eq_true rfl, Nat.le_of_ble_eq_true rfl⟩) hP hD hS hA [3, 5, 6, 2] [0, 1, 4, 7, 8, 9, 10, 11, 12, 13, 14, 15, 16, 17] [0, 1, 17, 14, 2, 15, 16, 3, 4, 5, 6, 7, 8, 9, 10, 11, 12, 13] rfl rfl (by decide) (by decide) (by decide) rfl rfl (fun H locs hP hD hS => ?_)
        refine lv_aload_n hx hb dX0_build_63 rfl (lv_at hl 1 rfl) ?_
        refine lv_aload_n hx hb dX0_build_64 rfl (lv_at hl 0 rfl) ?_
        refine my_get (D := (dC, dI)) (ci := 0) (v := .int v_across) (C := RX0) (T := TX0) (N := 8) hx hb hts iX0_build_X0 hown hK hP 0 rfl rfl 4 (by decide) (hts _ mX0_build_3) rfl rfl dX0_build_65 ?_
        refine lv_aload_n hx hb dX0_build_68 rfl (lv_at hl 0 rfl) ?_
        refine my_get (D := (dC, dI)) (ci := 0) (v := .ref h_rows) (C := RX0) (T := TX0) (N := 8) hx hb hts iX0_build_X0 hown hK hP 0 rfl rfl 0 (by decide) (hts _ mX0_build_1) rfl rfl dX0_build_69 ?_
        refine lv_iconst (v := (1 : Int32)) hx hb dX0_build_72 (by decide) ?_
        refine my_ald2 hx hb hK hP 1 2 rfl rfl (in3_1 rfl) dX0_build_73 (v := .ref h_rows_r1) rfl ?_
        refine lv_aload_n hx hb dX0_build_74 rfl (lv_at hl 0 rfl) ?_
        refine my_get (D := (dC, dI)) (ci := 0) (v := .ref h_rows) (C := RX0) (T := TX0) (N := 8) hx hb hts iX0_build_X0 hown hK hP 0 rfl rfl 0 (by decide) (hts _ mX0_build_1) rfl rfl dX0_build_75 ?_
        refine lv_iconst (v := (2 : Int32)) hx hb dX0_build_78 (by decide) ?_
        refine my_ald2 hx hb hK hP 1 2 rfl rfl (in3_2 rfl) dX0_build_79 (v := .ref h_rows_r2) rfl ?_
        obtain ⟨x2_g3, hz2, hF⟩ := bd1_e hF
        refine kc_v (wr := [(h_me, .inr (0, [.ref h_rows, .ref h_gains, .int v_rank, .long v_below, .int v_across, .ref h_base, .ref h_square, .ref h_spare])), (h_rows, .inl (cyA, 3, .inr (.inr (.inr (.inr (fn3 h_rows_r0 h_rows_r1 h_rows_r2)))))), (h_rows_r0, .inl (cyJ, 3, .inr (.inl v_rows_r0))), (h_spare, .inl (cyJ, 3, .inr (.inl v_spare))), (h_base, .inl (cyA, 3, .inr (.inr (.inr (.inr (fn3 h_base_r0 h_base_r1 h_base_r2)))))), (h_base_r0, .inl (cyJ, 3, .inr (.inl v_base_r0))), (h_base_r1, .inl (cyJ, 3, .inr (.inl v_base_r1))), (h_base_r2, .inl (cyJ, 3, .inr (.inl v_base_r2))), (h_square, .inl (cyA, 3, .inr (.inr (.inr (.inr (fn3 h_square_r0 h_square_r1 h_square_r2)))))), (h_square_r0, .inl (cyJ, 3, .inr (.inl v_square_r0))), (h_square_r1, .inl (cyJ, 3, .inr (.inl v_square_r1))), (h_square_r2, .inl (cyJ, 3, .inr (.inl v_square_r2))), (h_g1_spare, .inl (cyJ, 3, .inr (.inl v_g1_spare))), (h_gains, .inl (cyJ, 3, .inr (.inl v_gains)))]) (ws' := [(h_me, .inr (0, [.ref h_rows, .ref h_gains, .int v_rank, .long v_below, .int v_across, .ref h_base, .ref h_square, .ref h_spare])), (h_rows, .inl (cyA, 3, .inr (.inr (.inr (.inr (fn3 h_rows_r0 h_rows_r1 h_rows_r2)))))), (h_rows_r0, .inl (cyJ, 3, .inr (.inl v_rows_r0))), (h_rows_r1, .inl (cyJ, 3, .inr (.inl x1_g3))), (h_rows_r2, .inl (cyJ, 3, .inr (.inl x2_g3))), (h_g1, .inr (3, [.ref h_g1_cells, .int v_g1_order, .ref h_g1_spare])), (h_g1_cells, .inl (cyI, 15, .inl v_g1_cells)), (h_spare, .inl (cyJ, 3, .inr (.inl v_spare))), (h_base, .inl (cyA, 3, .inr (.inr (.inr (.inr (fn3 h_base_r0 h_base_r1 h_base_r2)))))), (h_base_r0, .inl (cyJ, 3, .inr (.inl v_base_r0))), (h_base_r1, .inl (cyJ, 3, .inr (.inl v_base_r1))), (h_base_r2, .inl (cyJ, 3, .inr (.inl v_base_r2))), (h_square, .inl (cyA, 3, .inr (.inr (.inr (.inr (fn3 h_square_r0 h_square_r1 h_square_r2)))))), (h_square_r0, .inl (cyJ, 3, .inr (.inl v_square_r0))), (h_square_r1, .inl (cyJ, 3, .inr (.inl v_square_r1))), (h_square_r2, .inl (cyJ, 3, .inr (.inl v_square_r2))), (h_g1_spare, .inl (cyJ, 3, .inr (.inl v_g1_spare))), (h_gains, .inl (cyJ, 3, .inr (.inl v_gains)))]) (va_runV (As := [.int v_across, .ref h_rows_r1, .ref h_rows_r2]) (rest := []) ⟨hx, hb, hml, hown, hts⟩ (c_X3_goOn l dC dI cyI cyJ cyA h_rows_r2 h_g1 h_g1_cells h_rows_r1 (.int v_g1_order) (.ref h_g1_spare) v_rows_r2 v_g1_cells x1_g3 v_across hz2 _) (cwV 3 hts gX0_build_X3_goOn rfl rfl rfl ndX3_goOn ⟨Nat.le_of_ble_eq_true rfl, Nat.le_of_ble_eq_true rfl⟩) (pre_V hKK hP hD 5 rfl rfl [4, 5, 6, 3] (by decide) rfl rfl) rfl rfl hl.1 rfl (lv_room (Nat.le_of_ble_eq_true rfl)) dX0_build_80 ⟨Nat.le_of_ble_eq_true rfl, Nat.le_of_ble_eq_true rfl⟩) hP hD hS hA [4, 5, 6, 3] [0, 1, 2, 7, 8, 9, 10, 11, 12, 13, 14, 15, 16, 17] [0, 1, 2, 17, 14, 15, 16, 3, 4, 5, 6, 7, 8, 9, 10, 11, 12, 13] rfl rfl (by decide) (by decide) (by decide) rfl rfl (fun H locs hP hD hS => ?_)
        refine lv_aload_n hx hb dX0_build_83 rfl (lv_at hl 0 rfl) ?_
        obtain ⟨x3_rank, x3_spare, x3_base_r0, x3_base_r1, x3_base_r2, hz3, hF⟩ := bd5_e hF
        refine kc_v (wr := [(h_g1, .inr (3, [.ref h_g1_cells, .int v_g1_order, .ref h_g1_spare])), (h_g1_cells, .inl (cyI, 15, .inl v_g1_cells)), (h_square, .inl (cyA, 3, .inr (.inr (.inr (.inr (fn3 h_square_r0 h_square_r1 h_square_r2)))))), (h_square_r0, .inl (cyJ, 3, .inr (.inl v_square_r0))), (h_square_r1, .inl (cyJ, 3, .inr (.inl v_square_r1))), (h_square_r2, .inl (cyJ, 3, .inr (.inl v_square_r2))), (h_g1_spare, .inl (cyJ, 3, .inr (.inl v_g1_spare))), (h_gains, .inl (cyJ, 3, .inr (.inl v_gains)))]) (ws' := [(h_me, .inr (0, [.ref h_rows, .ref h_gains, .int x3_rank, .long v_below, .int v_across, .ref h_base, .ref h_square, .ref h_spare])), (h_rows, .inl (cyA, 3, .inr (.inr (.inr (.inr (fn3 h_rows_r0 h_rows_r1 h_rows_r2)))))), (h_rows_r0, .inl (cyJ, 3, .inr (.inl v_rows_r0))), (h_rows_r1, .inl (cyJ, 3, .inr (.inl x1_g3))), (h_rows_r2, .inl (cyJ, 3, .inr (.inl x2_g3))), (h_g1, .inr (3, [.ref h_g1_cells, .int v_g1_order, .ref h_g1_spare])), (h_g1_cells, .inl (cyI, 15, .inl v_g1_cells)), (h_spare, .inl (cyJ, 3, .inr (.inl x3_spare))), (h_base, .inl (cyA, 3, .inr (.inr (.inr (.inr (fn3 h_base_r0 h_base_r1 h_base_r2)))))), (h_base_r0, .inl (cyJ, 3, .inr (.inl x3_base_r0))), (h_base_r1, .inl (cyJ, 3, .inr (.inl x3_base_r1))), (h_base_r2, .inl (cyJ, 3, .inr (.inl x3_base_r2))), (h_square, .inl (cyA, 3, .inr (.inr (.inr (.inr (fn3 h_square_r0 h_square_r1 h_square_r2)))))), (h_square_r0, .inl (cyJ, 3, .inr (.inl v_square_r0))), (h_square_r1, .inl (cyJ, 3, .inr (.inl v_square_r1))), (h_square_r2, .inl (cyJ, 3, .inr (.inl v_square_r2))), (h_g1_spare, .inl (cyJ, 3, .inr (.inl v_g1_spare))), (h_gains, .inl (cyJ, 3, .inr (.inl v_gains)))]) (va_runV (As := []) (rest := []) ⟨hx, hb, hml, hown, hts⟩ (c_X0_fillBase l dC dI cyI cyJ cyA h_me h_rows h_rows_r0 h_rows_r1 h_rows_r2 h_spare h_base h_base_r0 h_base_r1 h_base_r2 (.ref h_gains) (.long v_below) (.int v_across) (.ref h_square) v_rank v_rows_r0 x1_g3 x2_g3 v_spare v_base_r0 v_base_r1 v_base_r2  hz3 _) (cwV 0 hts gX0_build_X0_fillBase rfl rfl rfl ndX0_fillBase ⟨Nat.le_of_ble_eq_true rfl, Nat.le_of_ble_eq_true rfl⟩) (pre_V hKK hP hD 0 rfl rfl [0, 1, 2, 3, 4, 7, 8, 9, 10, 11] (by decide) rfl rfl) rfl rfl hl.1 rfl (lv_room (Nat.le_of_ble_eq_true rfl)) dX0_build_84 ⟨Nat.le_of_ble_eq_true rfl, Nat.le_of_ble_eq_true rfl⟩) hP hD hS hA [0, 1, 2, 3, 4, 7, 8, 9, 10, 11] [5, 6, 12, 13, 14, 15, 16, 17] [8, 9, 10, 11, 12, 0, 1, 13, 14, 15, 16, 17, 2, 3, 4, 5, 6, 7] rfl rfl (by decide) (by decide) (by decide) rfl rfl (fun H locs hP hD hS => ?_)
        refine lv_aload_n hx hb dX0_build_87 rfl (lv_at hl 0 rfl) ?_
        refine my_get (D := (dC, dI)) (ci := 0) (v := .ref h_base) (C := RX0) (T := TX0) (N := 8) hx hb hts iX0_build_X0 hown hK hP 0 rfl rfl 5 (by decide) (hts _ mX0_build_4) rfl rfl dX0_build_88 ?_
        refine lv_iconst (v := (1 : Int32)) hx hb dX0_build_91 (by decide) ?_
        refine my_ald2 hx hb hK hP 8 2 rfl rfl (in3_1 rfl) dX0_build_92 (v := .ref h_base_r1) rfl ?_
        refine lv_aload_n hx hb dX0_build_93 rfl (lv_at hl 0 rfl) ?_
        refine my_get (D := (dC, dI)) (ci := 0) (v := .ref h_base) (C := RX0) (T := TX0) (N := 8) hx hb hts iX0_build_X0 hown hK hP 0 rfl rfl 5 (by decide) (hts _ mX0_build_4) rfl rfl dX0_build_94 ?_
        refine lv_iconst (v := (2 : Int32)) hx hb dX0_build_97 (by decide) ?_
        refine my_ald2 hx hb hK hP 8 2 rfl rfl (in3_2 rfl) dX0_build_98 (v := .ref h_base_r2) rfl ?_
        refine lv_aload_n hx hb dX0_build_99 rfl (lv_at hl 0 rfl) ?_
        refine my_get (D := (dC, dI)) (ci := 0) (v := .ref h_square) (C := RX0) (T := TX0) (N := 8) hx hb hts iX0_build_X0 hown hK hP 0 rfl rfl 6 (by decide) (hts _ mX0_build_5) rfl rfl dX0_build_100 ?_
        refine lv_iconst (v := (0 : Int32)) hx hb dX0_build_103 (by decide) ?_
        refine my_ald2 hx hb hK hP 12 2 rfl rfl (in3_0 rfl) dX0_build_104 (v := .ref h_square_r0) rfl ?_
        obtain ⟨x4_g3, hz4, hF⟩ := bd1_e hF
        refine kc_v (wr := [(h_me, .inr (0, [.ref h_rows, .ref h_gains, .int x3_rank, .long v_below, .int v_across, .ref h_base, .ref h_square, .ref h_spare])), (h_rows, .inl (cyA, 3, .inr (.inr (.inr (.inr (fn3 h_rows_r0 h_rows_r1 h_rows_r2)))))), (h_rows_r0, .inl (cyJ, 3, .inr (.inl v_rows_r0))), (h_rows_r1, .inl (cyJ, 3, .inr (.inl x1_g3))), (h_rows_r2, .inl (cyJ, 3, .inr (.inl x2_g3))), (h_g1, .inr (3, [.ref h_g1_cells, .int v_g1_order, .ref h_g1_spare])), (h_g1_cells, .inl (cyI, 15, .inl v_g1_cells)), (h_spare, .inl (cyJ, 3, .inr (.inl x3_spare))), (h_base, .inl (cyA, 3, .inr (.inr (.inr (.inr (fn3 h_base_r0 h_base_r1 h_base_r2)))))), (h_base_r0, .inl (cyJ, 3, .inr (.inl x3_base_r0))), (h_square, .inl (cyA, 3, .inr (.inr (.inr (.inr (fn3 h_square_r0 h_square_r1 h_square_r2)))))), (h_square_r1, .inl (cyJ, 3, .inr (.inl v_square_r1))), (h_square_r2, .inl (cyJ, 3, .inr (.inl v_square_r2))), (h_g1_spare, .inl (cyJ, 3, .inr (.inl v_g1_spare))), (h_gains, .inl (cyJ, 3, .inr (.inl v_gains)))]) (ws' := [(h_me, .inr (0, [.ref h_rows, .ref h_gains, .int x3_rank, .long v_below, .int v_across, .ref h_base, .ref h_square, .ref h_spare])), (h_rows, .inl (cyA, 3, .inr (.inr (.inr (.inr (fn3 h_rows_r0 h_rows_r1 h_rows_r2)))))), (h_rows_r0, .inl (cyJ, 3, .inr (.inl v_rows_r0))), (h_rows_r1, .inl (cyJ, 3, .inr (.inl x1_g3))), (h_rows_r2, .inl (cyJ, 3, .inr (.inl x2_g3))), (h_g1, .inr (3, [.ref h_g1_cells, .int v_g1_order, .ref h_g1_spare])), (h_g1_cells, .inl (cyI, 15, .inl v_g1_cells)), (h_spare, .inl (cyJ, 3, .inr (.inl x3_spare))), (h_base, .inl (cyA, 3, .inr (.inr (.inr (.inr (fn3 h_base_r0 h_base_r1 h_base_r2)))))), (h_base_r0, .inl (cyJ, 3, .inr (.inl x3_base_r0))), (h_base_r1, .inl (cyJ, 3, .inr (.inl x3_base_r1))), (h_base_r2, .inl (cyJ, 3, .inr (.inl x3_base_r2))), (h_square, .inl (cyA, 3, .inr (.inr (.inr (.inr (fn3 h_square_r0 h_square_r1 h_square_r2)))))), (h_square_r0, .inl (cyJ, 3, .inr (.inl x4_g3))), (h_square_r1, .inl (cyJ, 3, .inr (.inl v_square_r1))), (h_square_r2, .inl (cyJ, 3, .inr (.inl v_square_r2))), (h_g1_spare, .inl (cyJ, 3, .inr (.inl v_g1_spare))), (h_gains, .inl (cyJ, 3, .inr (.inl v_gains)))]) (va_runSN (As := [.ref h_base_r1, .ref h_base_r2, .ref h_square_r0]) (rest := []) ⟨hx, hb, hml, hown, hts⟩ (c_X4_cross l dC dI cyI cyJ cyA h_base_r1 h_base_r2 h_square_r0  x3_base_r1 x3_base_r2 v_square_r0  hz4 _) ⟨va_cnB 3 hts gX0_build_X4_cross_n54 rfl rfl rfl (NS.w_X0_54 hKK.2) (hts _ mX0_build_21) ndX4_cross.2 ⟨Nat.le_of_ble_eq_true rfl, Nat.le_of_ble_eq_true rfl⟩, hts _ mX0_build_20, trivial⟩ (pre_S hKK hP hD [10, 11, 13] (by decide) rfl rfl) rfl rfl hl.1 rfl (lv_room (Nat.le_of_ble_eq_true rfl)) dX0_build_105 ⟨Nat.le_of_ble_eq_true rfl, Nat.le_of_ble_eq_true rfl⟩) hP hD hS hA [10, 11, 13] [0, 1, 2, 3, 4, 5, 6, 7, 8, 9, 12, 14, 15, 16, 17] [0, 1, 2, 3, 4, 5, 6, 7, 8, 9, 15, 16, 10, 17, 11, 12, 13, 14] rfl rfl (by decide) (by decide) (by decide) rfl rfl (fun H locs hP hD hS => ?_)
        refine lv_aload_n hx hb dX0_build_108 rfl (lv_at hl 0 rfl) ?_
        refine my_get (D := (dC, dI)) (ci := 0) (v := .ref h_base) (C := RX0) (T := TX0) (N := 8) hx hb hts iX0_build_X0 hown hK hP 0 rfl rfl 5 (by decide) (hts _ mX0_build_4) rfl rfl dX0_build_109 ?_
        refine lv_iconst (v := (2 : Int32)) hx hb dX0_build_112 (by decide) ?_
        refine my_ald2 hx hb hK hP 8 2 rfl rfl (in3_2 rfl) dX0_build_113 (v := .ref h_base_r2) rfl ?_
        refine lv_aload_n hx hb dX0_build_114 rfl (lv_at hl 0 rfl) ?_
        refine my_get (D := (dC, dI)) (ci := 0) (v := .ref h_base) (C := RX0) (T := TX0) (N := 8) hx hb hts iX0_build_X0 hown hK hP 0 rfl rfl 5 (by decide) (hts _ mX0_build_4) rfl rfl dX0_build_115 ?_
        refine lv_iconst (v := (0 : Int32)) hx hb dX0_build_118 (by decide) ?_
        refine my_ald2 hx hb hK hP 8 2 rfl rfl (in3_0 rfl) dX0_build_119 (v := .ref h_base_r0) rfl ?_
        refine lv_aload_n hx hb dX0_build_120 rfl (lv_at hl 0 rfl) ?_
        refine my_get (D := (dC, dI)) (ci := 0) (v := .ref h_square) (C := RX0) (T := TX0) (N := 8) hx hb hts iX0_build_X0 hown hK hP 0 rfl rfl 6 (by decide) (hts _ mX0_build_5) rfl rfl dX0_build_121 ?_
        refine lv_iconst (v := (1 : Int32)) hx hb dX0_build_124 (by decide) ?_
        refine my_ald2 hx hb hK hP 12 2 rfl rfl (in3_1 rfl) dX0_build_125 (v := .ref h_square_r1) rfl ?_
        obtain ⟨x5_g3, hz5, hF⟩ := bd1_e hF
        refine kc_v (wr := [(h_me, .inr (0, [.ref h_rows, .ref h_gains, .int x3_rank, .long v_below, .int v_across, .ref h_base, .ref h_square, .ref h_spare])), (h_rows, .inl (cyA, 3, .inr (.inr (.inr (.inr (fn3 h_rows_r0 h_rows_r1 h_rows_r2)))))), (h_rows_r0, .inl (cyJ, 3, .inr (.inl v_rows_r0))), (h_rows_r1, .inl (cyJ, 3, .inr (.inl x1_g3))), (h_rows_r2, .inl (cyJ, 3, .inr (.inl x2_g3))), (h_g1, .inr (3, [.ref h_g1_cells, .int v_g1_order, .ref h_g1_spare])), (h_g1_cells, .inl (cyI, 15, .inl v_g1_cells)), (h_spare, .inl (cyJ, 3, .inr (.inl x3_spare))), (h_base, .inl (cyA, 3, .inr (.inr (.inr (.inr (fn3 h_base_r0 h_base_r1 h_base_r2)))))), (h_base_r1, .inl (cyJ, 3, .inr (.inl x3_base_r1))), (h_square, .inl (cyA, 3, .inr (.inr (.inr (.inr (fn3 h_square_r0 h_square_r1 h_square_r2)))))), (h_square_r0, .inl (cyJ, 3, .inr (.inl x4_g3))), (h_square_r2, .inl (cyJ, 3, .inr (.inl v_square_r2))), (h_g1_spare, .inl (cyJ, 3, .inr (.inl v_g1_spare))), (h_gains, .inl (cyJ, 3, .inr (.inl v_gains)))]) (ws' := [(h_me, .inr (0, [.ref h_rows, .ref h_gains, .int x3_rank, .long v_below, .int v_across, .ref h_base, .ref h_square, .ref h_spare])), (h_rows, .inl (cyA, 3, .inr (.inr (.inr (.inr (fn3 h_rows_r0 h_rows_r1 h_rows_r2)))))), (h_rows_r0, .inl (cyJ, 3, .inr (.inl v_rows_r0))), (h_rows_r1, .inl (cyJ, 3, .inr (.inl x1_g3))), (h_rows_r2, .inl (cyJ, 3, .inr (.inl x2_g3))), (h_g1, .inr (3, [.ref h_g1_cells, .int v_g1_order, .ref h_g1_spare])), (h_g1_cells, .inl (cyI, 15, .inl v_g1_cells)), (h_spare, .inl (cyJ, 3, .inr (.inl x3_spare))), (h_base, .inl (cyA, 3, .inr (.inr (.inr (.inr (fn3 h_base_r0 h_base_r1 h_base_r2)))))), (h_base_r0, .inl (cyJ, 3, .inr (.inl x3_base_r0))), (h_base_r1, .inl (cyJ, 3, .inr (.inl x3_base_r1))), (h_base_r2, .inl (cyJ, 3, .inr (.inl x3_base_r2))), (h_square, .inl (cyA, 3, .inr (.inr (.inr (.inr (fn3 h_square_r0 h_square_r1 h_square_r2)))))), (h_square_r0, .inl (cyJ, 3, .inr (.inl x4_g3))), (h_square_r1, .inl (cyJ, 3, .inr (.inl x5_g3))), (h_square_r2, .inl (cyJ, 3, .inr (.inl v_square_r2))), (h_g1_spare, .inl (cyJ, 3, .inr (.inl v_g1_spare))), (h_gains, .inl (cyJ, 3, .inr (.inl v_gains)))]) (va_runSN (As := [.ref h_base_r2, .ref h_base_r0, .ref h_square_r1]) (rest := []) ⟨hx, hb, hml, hown, hts⟩ (c_X4_cross l dC dI cyI cyJ cyA h_base_r2 h_base_r0 h_square_r1  x3_base_r2 x3_base_r0 v_square_r1  hz5 _) ⟨va_cnB 3 hts gX0_build_X4_cross_n54 rfl rfl rfl (NS.w_X0_54 hKK.2) (hts _ mX0_build_21) ndX4_cross.2 ⟨Nat.le_of_ble_eq_true rfl, Nat.le_of_ble_eq_true rfl⟩, hts _ mX0_build_20, trivial⟩ (pre_S hKK hP hD [11, 9, 14] (by decide) rfl rfl) rfl rfl hl.1 rfl (lv_room (Nat.le_of_ble_eq_true rfl)) dX0_build_126 ⟨Nat.le_of_ble_eq_true rfl, Nat.le_of_ble_eq_true rfl⟩) hP hD hS hA [11, 9, 14] [0, 1, 2, 3, 4, 5, 6, 7, 8, 10, 12, 13, 15, 16, 17] [0, 1, 2, 3, 4, 5, 6, 7, 8, 16, 9, 15, 10, 11, 17, 12, 13, 14] rfl rfl (by decide) (by decide) (by decide) rfl rfl (fun H locs hP hD hS => ?_)
        refine lv_aload_n hx hb dX0_build_129 rfl (lv_at hl 0 rfl) ?_
        refine my_get (D := (dC, dI)) (ci := 0) (v := .ref h_base) (C := RX0) (T := TX0) (N := 8) hx hb hts iX0_build_X0 hown hK hP 0 rfl rfl 5 (by decide) (hts _ mX0_build_4) rfl rfl dX0_build_130 ?_
        refine lv_iconst (v := (0 : Int32)) hx hb dX0_build_133 (by decide) ?_
        refine my_ald2 hx hb hK hP 8 2 rfl rfl (in3_0 rfl) dX0_build_134 (v := .ref h_base_r0) rfl ?_
        refine lv_aload_n hx hb dX0_build_135 rfl (lv_at hl 0 rfl) ?_
        refine my_get (D := (dC, dI)) (ci := 0) (v := .ref h_base) (C := RX0) (T := TX0) (N := 8) hx hb hts iX0_build_X0 hown hK hP 0 rfl rfl 5 (by decide) (hts _ mX0_build_4) rfl rfl dX0_build_136 ?_
        refine lv_iconst (v := (1 : Int32)) hx hb dX0_build_139 (by decide) ?_
        refine my_ald2 hx hb hK hP 8 2 rfl rfl (in3_1 rfl) dX0_build_140 (v := .ref h_base_r1) rfl ?_
        refine lv_aload_n hx hb dX0_build_141 rfl (lv_at hl 0 rfl) ?_
        refine my_get (D := (dC, dI)) (ci := 0) (v := .ref h_square) (C := RX0) (T := TX0) (N := 8) hx hb hts iX0_build_X0 hown hK hP 0 rfl rfl 6 (by decide) (hts _ mX0_build_5) rfl rfl dX0_build_142 ?_
        refine lv_iconst (v := (2 : Int32)) hx hb dX0_build_145 (by decide) ?_
        refine my_ald2 hx hb hK hP 12 2 rfl rfl (in3_2 rfl) dX0_build_146 (v := .ref h_square_r2) rfl ?_
        obtain ⟨x6_g3, hz6, hF⟩ := bd1_e hF
        refine kc_v (wr := [(h_me, .inr (0, [.ref h_rows, .ref h_gains, .int x3_rank, .long v_below, .int v_across, .ref h_base, .ref h_square, .ref h_spare])), (h_rows, .inl (cyA, 3, .inr (.inr (.inr (.inr (fn3 h_rows_r0 h_rows_r1 h_rows_r2)))))), (h_rows_r0, .inl (cyJ, 3, .inr (.inl v_rows_r0))), (h_rows_r1, .inl (cyJ, 3, .inr (.inl x1_g3))), (h_rows_r2, .inl (cyJ, 3, .inr (.inl x2_g3))), (h_g1, .inr (3, [.ref h_g1_cells, .int v_g1_order, .ref h_g1_spare])), (h_g1_cells, .inl (cyI, 15, .inl v_g1_cells)), (h_spare, .inl (cyJ, 3, .inr (.inl x3_spare))), (h_base, .inl (cyA, 3, .inr (.inr (.inr (.inr (fn3 h_base_r0 h_base_r1 h_base_r2)))))), (h_base_r2, .inl (cyJ, 3, .inr (.inl x3_base_r2))), (h_square, .inl (cyA, 3, .inr (.inr (.inr (.inr (fn3 h_square_r0 h_square_r1 h_square_r2)))))), (h_square_r0, .inl (cyJ, 3, .inr (.inl x4_g3))), (h_square_r1, .inl (cyJ, 3, .inr (.inl x5_g3))), (h_g1_spare, .inl (cyJ, 3, .inr (.inl v_g1_spare))), (h_gains, .inl (cyJ, 3, .inr (.inl v_gains)))]) (ws' := [(h_me, .inr (0, [.ref h_rows, .ref h_gains, .int x3_rank, .long v_below, .int v_across, .ref h_base, .ref h_square, .ref h_spare])), (h_rows, .inl (cyA, 3, .inr (.inr (.inr (.inr (fn3 h_rows_r0 h_rows_r1 h_rows_r2)))))), (h_rows_r0, .inl (cyJ, 3, .inr (.inl v_rows_r0))), (h_rows_r1, .inl (cyJ, 3, .inr (.inl x1_g3))), (h_rows_r2, .inl (cyJ, 3, .inr (.inl x2_g3))), (h_g1, .inr (3, [.ref h_g1_cells, .int v_g1_order, .ref h_g1_spare])), (h_g1_cells, .inl (cyI, 15, .inl v_g1_cells)), (h_spare, .inl (cyJ, 3, .inr (.inl x3_spare))), (h_base, .inl (cyA, 3, .inr (.inr (.inr (.inr (fn3 h_base_r0 h_base_r1 h_base_r2)))))), (h_base_r0, .inl (cyJ, 3, .inr (.inl x3_base_r0))), (h_base_r1, .inl (cyJ, 3, .inr (.inl x3_base_r1))), (h_base_r2, .inl (cyJ, 3, .inr (.inl x3_base_r2))), (h_square, .inl (cyA, 3, .inr (.inr (.inr (.inr (fn3 h_square_r0 h_square_r1 h_square_r2)))))), (h_square_r0, .inl (cyJ, 3, .inr (.inl x4_g3))), (h_square_r1, .inl (cyJ, 3, .inr (.inl x5_g3))), (h_square_r2, .inl (cyJ, 3, .inr (.inl x6_g3))), (h_g1_spare, .inl (cyJ, 3, .inr (.inl v_g1_spare))), (h_gains, .inl (cyJ, 3, .inr (.inl v_gains)))]) (va_runSN (As := [.ref h_base_r0, .ref h_base_r1, .ref h_square_r2]) (rest := []) ⟨hx, hb, hml, hown, hts⟩ (c_X4_cross l dC dI cyI cyJ cyA h_base_r0 h_base_r1 h_square_r2  x3_base_r0 x3_base_r1 v_square_r2  hz6 _) ⟨va_cnB 3 hts gX0_build_X4_cross_n54 rfl rfl rfl (NS.w_X0_54 hKK.2) (hts _ mX0_build_21) ndX4_cross.2 ⟨Nat.le_of_ble_eq_true rfl, Nat.le_of_ble_eq_true rfl⟩, hts _ mX0_build_20, trivial⟩ (pre_S hKK hP hD [9, 10, 15] (by decide) rfl rfl) rfl rfl hl.1 rfl (lv_room (Nat.le_of_ble_eq_true rfl)) dX0_build_147 ⟨Nat.le_of_ble_eq_true rfl, Nat.le_of_ble_eq_true rfl⟩) hP hD hS hA [9, 10, 15] [0, 1, 2, 3, 4, 5, 6, 7, 8, 11, 12, 13, 14, 16, 17] [0, 1, 2, 3, 4, 5, 6, 7, 8, 15, 16, 9, 10, 11, 12, 17, 13, 14] rfl rfl (by decide) (by decide) (by decide) rfl rfl (fun H locs hP hD hS => ?_)
        refine lv_aload_n hx hb dX0_build_150 rfl (lv_at hl 0 rfl) ?_
        refine lv_aload_n hx hb dX0_build_151 rfl (lv_at hl 0 rfl) ?_
        refine my_get (D := (dC, dI)) (ci := 0) (v := .ref h_base) (C := RX0) (T := TX0) (N := 8) hx hb hts iX0_build_X0 hown hK hP 0 rfl rfl 5 (by decide) (hts _ mX0_build_4) rfl rfl dX0_build_152 ?_
        refine lv_iconst (v := (0 : Int32)) hx hb dX0_build_155 (by decide) ?_
        refine my_ald2 hx hb hK hP 8 2 rfl rfl (in3_0 rfl) dX0_build_156 (v := .ref h_base_r0) rfl ?_
        refine lv_aload_n hx hb dX0_build_157 rfl (lv_at hl 0 rfl) ?_
        refine my_get (D := (dC, dI)) (ci := 0) (v := .ref h_square) (C := RX0) (T := TX0) (N := 8) hx hb hts iX0_build_X0 hown hK hP 0 rfl rfl 6 (by decide) (hts _ mX0_build_5) rfl rfl dX0_build_158 ?_
        refine lv_iconst (v := (0 : Int32)) hx hb dX0_build_161 (by decide) ?_
        refine my_ald2 hx hb hK hP 12 2 rfl rfl (in3_0 rfl) dX0_build_162 (v := .ref h_square_r0) rfl ?_
        obtain ⟨r7, hz7, hF⟩ := bd1_e hF
        refine kc_l (wr := [(h_me, .inr (0, [.ref h_rows, .ref h_gains, .int x3_rank, .long v_below, .int v_across, .ref h_base, .ref h_square, .ref h_spare])), (h_rows, .inl (cyA, 3, .inr (.inr (.inr (.inr (fn3 h_rows_r0 h_rows_r1 h_rows_r2)))))), (h_rows_r0, .inl (cyJ, 3, .inr (.inl v_rows_r0))), (h_rows_r1, .inl (cyJ, 3, .inr (.inl x1_g3))), (h_rows_r2, .inl (cyJ, 3, .inr (.inl x2_g3))), (h_g1, .inr (3, [.ref h_g1_cells, .int v_g1_order, .ref h_g1_spare])), (h_g1_cells, .inl (cyI, 15, .inl v_g1_cells)), (h_spare, .inl (cyJ, 3, .inr (.inl x3_spare))), (h_base, .inl (cyA, 3, .inr (.inr (.inr (.inr (fn3 h_base_r0 h_base_r1 h_base_r2)))))), (h_base_r1, .inl (cyJ, 3, .inr (.inl x3_base_r1))), (h_base_r2, .inl (cyJ, 3, .inr (.inl x3_base_r2))), (h_square, .inl (cyA, 3, .inr (.inr (.inr (.inr (fn3 h_square_r0 h_square_r1 h_square_r2)))))), (h_square_r1, .inl (cyJ, 3, .inr (.inl x5_g3))), (h_square_r2, .inl (cyJ, 3, .inr (.inl x6_g3))), (h_g1_spare, .inl (cyJ, 3, .inr (.inl v_g1_spare))), (h_gains, .inl (cyJ, 3, .inr (.inl v_gains)))]) (ws' := [(h_me, .inr (0, [.ref h_rows, .ref h_gains, .int x3_rank, .long v_below, .int v_across, .ref h_base, .ref h_square, .ref h_spare])), (h_rows, .inl (cyA, 3, .inr (.inr (.inr (.inr (fn3 h_rows_r0 h_rows_r1 h_rows_r2)))))), (h_rows_r0, .inl (cyJ, 3, .inr (.inl v_rows_r0))), (h_rows_r1, .inl (cyJ, 3, .inr (.inl x1_g3))), (h_rows_r2, .inl (cyJ, 3, .inr (.inl x2_g3))), (h_g1, .inr (3, [.ref h_g1_cells, .int v_g1_order, .ref h_g1_spare])), (h_g1_cells, .inl (cyI, 15, .inl v_g1_cells)), (h_spare, .inl (cyJ, 3, .inr (.inl x3_spare))), (h_base, .inl (cyA, 3, .inr (.inr (.inr (.inr (fn3 h_base_r0 h_base_r1 h_base_r2)))))), (h_base_r0, .inl (cyJ, 3, .inr (.inl x3_base_r0))), (h_base_r1, .inl (cyJ, 3, .inr (.inl x3_base_r1))), (h_base_r2, .inl (cyJ, 3, .inr (.inl x3_base_r2))), (h_square, .inl (cyA, 3, .inr (.inr (.inr (.inr (fn3 h_square_r0 h_square_r1 h_square_r2)))))), (h_square_r0, .inl (cyJ, 3, .inr (.inl x4_g3))), (h_square_r1, .inl (cyJ, 3, .inr (.inl x5_g3))), (h_square_r2, .inl (cyJ, 3, .inr (.inl x6_g3))), (h_g1_spare, .inl (cyJ, 3, .inr (.inl v_g1_spare))), (h_gains, .inl (cyJ, 3, .inr (.inl v_gains)))]) (va_runSN (As := [.ref h_base_r0, .ref h_square_r0]) (rest := [.ref h_me]) ⟨hx, hb, hml, hown, hts⟩ (c_X4_dot l dC dI cyI cyJ cyA h_base_r0 h_square_r0  x3_base_r0 x4_g3  hz7 _) ⟨va_cnB 2 hts gX0_build_X4_dot_n58 rfl rfl rfl (NS.w_X0_58 hKK.2) (hts _ mX0_build_21) ndX4_dot.2 ⟨Nat.le_of_ble_eq_true rfl, Nat.le_of_ble_eq_true rfl⟩, hts _ mX0_build_25, trivial⟩ (pre_S hKK hP hD [9, 13] (by decide) rfl rfl) rfl rfl hl.1 rfl (lv_room (Nat.le_of_ble_eq_true rfl)) dX0_build_163 ⟨Nat.le_of_ble_eq_true rfl, Nat.le_of_ble_eq_true rfl⟩) hP hD hS hA [9, 13] [0, 1, 2, 3, 4, 5, 6, 7, 8, 10, 11, 12, 14, 15, 16, 17] [0, 1, 2, 3, 4, 5, 6, 7, 8, 16, 9, 10, 11, 17, 12, 13, 14, 15] rfl rfl (by decide) (by decide) (by decide) rfl rfl (fun H locs hP hD hS => ?_)
        refine my_put (D := (dC, dI)) (ci := 0) (v := .long r7) (ty := .long) (C := RX0) (T := TX0) (N := 8) (ws' := [(h_me, .inr (0, [.ref h_rows, .ref h_gains, .int x3_rank, .long r7, .int v_across, .ref h_base, .ref h_square, .ref h_spare])), (h_rows, .inl (cyA, 3, .inr (.inr (.inr (.inr (fn3 h_rows_r0 h_rows_r1 h_rows_r2)))))), (h_rows_r0, .inl (cyJ, 3, .inr (.inl v_rows_r0))), (h_rows_r1, .inl (cyJ, 3, .inr (.inl x1_g3))), (h_rows_r2, .inl (cyJ, 3, .inr (.inl x2_g3))), (h_g1, .inr (3, [.ref h_g1_cells, .int v_g1_order, .ref h_g1_spare])), (h_g1_cells, .inl (cyI, 15, .inl v_g1_cells)), (h_spare, .inl (cyJ, 3, .inr (.inl x3_spare))), (h_base, .inl (cyA, 3, .inr (.inr (.inr (.inr (fn3 h_base_r0 h_base_r1 h_base_r2)))))), (h_base_r0, .inl (cyJ, 3, .inr (.inl x3_base_r0))), (h_base_r1, .inl (cyJ, 3, .inr (.inl x3_base_r1))), (h_base_r2, .inl (cyJ, 3, .inr (.inl x3_base_r2))), (h_square, .inl (cyA, 3, .inr (.inr (.inr (.inr (fn3 h_square_r0 h_square_r1 h_square_r2)))))), (h_square_r0, .inl (cyJ, 3, .inr (.inl x4_g3))), (h_square_r1, .inl (cyJ, 3, .inr (.inl x5_g3))), (h_square_r2, .inl (cyJ, 3, .inr (.inl x6_g3))), (h_g1_spare, .inl (cyJ, 3, .inr (.inl v_g1_spare))), (h_gains, .inl (cyJ, 3, .inr (.inl v_gains)))]) hx hb hts iX0_build_X0 tyX0 tyX0_ok nmX0 hown hK hP hD hS 0 rfl rfl 3 (by decide) (hts _ mX0_build_6) rfl rfl rfl rfl rfl (Nat.le_of_ble_eq_true rfl) dX0_build_166 rfl (fun H locs hP hD hS => ?_)
        refine lv_aload_n hx hb dX0_build_169 rfl (lv_at hl 0 rfl) ?_
        refine lv_aload_n hx hb dX0_build_170 rfl (lv_at hl 1 rfl) ?_
        obtain ⟨x8_spare, x8_g1_spare, x8_gains, hz8, hF⟩ := bd3_e hF
        refine kc_v (wr := [(h_rows, .inl (cyA, 3, .inr (.inr (.inr (.inr (fn3 h_rows_r0 h_rows_r1 h_rows_r2)))))), (h_rows_r0, .inl (cyJ, 3, .inr (.inl v_rows_r0))), (h_rows_r1, .inl (cyJ, 3, .inr (.inl x1_g3))), (h_rows_r2, .inl (cyJ, 3, .inr (.inl x2_g3))), (h_base, .inl (cyA, 3, .inr (.inr (.inr (.inr (fn3 h_base_r0 h_base_r1 h_base_r2)))))), (h_base_r0, .inl (cyJ, 3, .inr (.inl x3_base_r0))), (h_base_r1, .inl (cyJ, 3, .inr (.inl x3_base_r1))), (h_base_r2, .inl (cyJ, 3, .inr (.inl x3_base_r2)))]) (ws' := [(h_me, .inr (0, [.ref h_rows, .ref h_gains, .int x3_rank, .long r7, .int v_across, .ref h_base, .ref h_square, .ref h_spare])), (h_rows, .inl (cyA, 3, .inr (.inr (.inr (.inr (fn3 h_rows_r0 h_rows_r1 h_rows_r2)))))), (h_rows_r0, .inl (cyJ, 3, .inr (.inl v_rows_r0))), (h_rows_r1, .inl (cyJ, 3, .inr (.inl x1_g3))), (h_rows_r2, .inl (cyJ, 3, .inr (.inl x2_g3))), (h_g1, .inr (3, [.ref h_g1_cells, .int v_g1_order, .ref h_g1_spare])), (h_g1_cells, .inl (cyI, 15, .inl v_g1_cells)), (h_spare, .inl (cyJ, 3, .inr (.inl x8_spare))), (h_base, .inl (cyA, 3, .inr (.inr (.inr (.inr (fn3 h_base_r0 h_base_r1 h_base_r2)))))), (h_base_r0, .inl (cyJ, 3, .inr (.inl x3_base_r0))), (h_base_r1, .inl (cyJ, 3, .inr (.inl x3_base_r1))), (h_base_r2, .inl (cyJ, 3, .inr (.inl x3_base_r2))), (h_square, .inl (cyA, 3, .inr (.inr (.inr (.inr (fn3 h_square_r0 h_square_r1 h_square_r2)))))), (h_square_r0, .inl (cyJ, 3, .inr (.inl x4_g3))), (h_square_r1, .inl (cyJ, 3, .inr (.inl x5_g3))), (h_square_r2, .inl (cyJ, 3, .inr (.inl x6_g3))), (h_g1_spare, .inl (cyJ, 3, .inr (.inl x8_g1_spare))), (h_gains, .inl (cyJ, 3, .inr (.inl x8_gains)))]) (va_runV (As := [.ref h_g1]) (rest := []) ⟨hx, hb, hml, hown, hts⟩ (c_X0_findGains l dC dI cyI cyJ cyA h_me h_spare h_g1 h_g1_spare h_g1_cells h_gains h_square h_square_r0 h_square_r1 h_square_r2 (.ref h_rows) (.long r7) (.ref h_base) x3_rank v_across x3_spare v_g1_order v_g1_spare v_g1_cells v_gains x4_g3 x5_g3 x6_g3  hz8 _) (cwV 1 hts gX0_build_X0_findGains rfl rfl rfl ndX0_findGains ⟨Nat.le_of_ble_eq_true rfl, Nat.le_of_ble_eq_true rfl⟩) (pre_V hKK hP hD 0 rfl rfl [0, 7, 5, 16, 6, 17, 12, 13, 14, 15] (by decide) rfl rfl) rfl rfl hl.1 rfl (lv_room (Nat.le_of_ble_eq_true rfl)) dX0_build_171 ⟨Nat.le_of_ble_eq_true rfl, Nat.le_of_ble_eq_true rfl⟩) hP hD hS hA [0, 7, 5, 16, 6, 17, 12, 13, 14, 15] [1, 2, 3, 4, 8, 9, 10, 11] [8, 0, 1, 2, 3, 10, 12, 9, 4, 5, 6, 7, 14, 15, 16, 17, 11, 13] rfl rfl (by decide) (by decide) (by decide) rfl rfl (fun H locs hP hD hS => ?_)
        cases hF
        exact W.vret hx hb hr (fun t ht hW => ⟨⟨(), rfl, trivial, by rw [ht]; exact hP, hD⟩, hS.F ht⟩) hS.2.2 dX0_build_174
      · have hF := gel c_ hF
        refine lv_aload_n hx hb dX0_build_7 rfl (lv_at hl 0 rfl) ?_
        refine my_get (D := (dC, dI)) (ci := 0) (v := .ref h_rows) (C := RX0) (T := TX0) (N := 8) hx hb hts iX0_build_X0 hown hK hP 0 rfl rfl 0 (by decide) (hts _ mX0_build_1) rfl rfl dX0_build_8 ?_
        refine lv_iconst (v := (0 : Int32)) hx hb dX0_build_11 (by decide) ?_
        refine my_ald2 hx hb hK hP 1 2 rfl rfl (in3_0 rfl) dX0_build_12 (v := .ref h_rows_r0) rfl ?_
        refine lv_iload_n hx hb dX0_build_13 rfl (lv_at hl 2 rfl) ?_
        refine lv_aload_n hx hb dX0_build_14 rfl (lv_at hl 1 rfl) ?_
        refine my_get (D := (dC, dI)) (ci := 3) (v := .ref h_g1_cells) (C := RX3) (T := TX3) (N := 3) hx hb hts iX0_build_X3 hown hK hP 5 rfl rfl 0 (by decide) (hts _ mX0_build_2) rfl rfl dX0_build_15 ?_
        refine lv_aload_n hx hb dX0_build_18 rfl (lv_at hl 0 rfl) ?_
        refine my_get (D := (dC, dI)) (ci := 0) (v := .int v_across) (C := RX0) (T := TX0) (N := 8) hx hb hts iX0_build_X0 hown hK hP 0 rfl rfl 4 (by decide) (hts _ mX0_build_3) rfl rfl dX0_build_19 ?_
        refine lv_if_eq (tgt := 30) hx hb dX0_build_22 (by decide) (fun c_ => ?_) (fun c_ => ?_)
        · have hF := gif c_ hF
          refine lv_bipush (v := (9 : Int32)) hx hb dX0_build_30 (by decide) ?_
          exact t_X0_build_32 C0 hA (fun l2 v_rank v_below v_across v_rows_r0 v_rows_r1 v_rows_r2 v_g1_order v_g1_cells v_spare v_base_r0 v_base_r1 v_base_r2 v_square_r0 v_square_r1 v_square_r2 v_g1_spare v_gains => F_X0_build_2  n l2 v_rank v_below v_across v_rows_r0 v_rows_r1 v_rows_r2 v_g1_order v_g1_cells v_spare v_base_r0 v_base_r1 v_base_r2 v_square_r0 v_square_r1 v_square_r2 v_g1_spare v_gains) ih l2 (9 : Int32) l2 v_rank v_below v_across v_rows_r0 v_rows_r1 v_rows_r2 v_g1_order v_g1_cells v_spare v_base_r0 v_base_r1 v_base_r2 v_square_r0 v_square_r1 v_square_r2 v_g1_spare v_gains hF hP hD hS (lv_sub hl [0, 1, 2] rfl)
        · have hF := gel c_ hF
          refine lv_bipush (v := (12 : Int32)) hx hb dX0_build_25 (by decide) ?_
          refine lv_goto (tgt := 32) hx hb dX0_build_27 (by decide) ?_
          exact t_X0_build_32 C0 hA (fun l2 v_rank v_below v_across v_rows_r0 v_rows_r1 v_rows_r2 v_g1_order v_g1_cells v_spare v_base_r0 v_base_r1 v_base_r2 v_square_r0 v_square_r1 v_square_r2 v_g1_spare v_gains => F_X0_build_2  n l2 v_rank v_below v_across v_rows_r0 v_rows_r1 v_rows_r2 v_g1_order v_g1_cells v_spare v_base_r0 v_base_r1 v_base_r2 v_square_r0 v_square_r1 v_square_r2 v_g1_spare v_gains) ih l2 (12 : Int32) l2 v_rank v_below v_across v_rows_r0 v_rows_r1 v_rows_r2 v_g1_order v_g1_cells v_spare v_base_r0 v_base_r1 v_base_r2 v_square_r0 v_square_r1 v_square_r2 v_g1_spare v_gains hF hP hD hS (lv_sub hl [0, 1, 2] rfl)
set_option maxHeartbeats 4000000 in
set_option maxRecDepth 100000 in
theorem c_X0_build (l : Launch) (dC : Nat → ClassId) (dI : Nat → Nat → Nat) (cyI cyJ cyA : ClassId) (h_me h_rows h_rows_r0 h_rows_r1 h_rows_r2 h_g1 h_g1_cells h_spare h_base h_base_r0 h_base_r1 h_base_r2 h_square h_square_r0 h_square_r1 h_square_r2 h_g1_spare h_gains : Nat) (v_rank : Int32) (v_below : Int64) (v_across : Int32) (v_rows_r0 : Nat → Int64) (v_rows_r1 : Nat → Int64) (v_rows_r2 : Nat → Int64) (v_g1_order : Int32) (v_g1_cells : Nat → Int32) (v_spare : Nat → Int64) (v_base_r0 : Nat → Int64) (v_base_r1 : Nat → Int64) (v_base_r2 : Nat → Int64) (v_square_r0 : Nat → Int64) (v_square_r1 : Nat → Int64) (v_square_r2 : Nat → Int64) (v_g1_spare : Nat → Int64) (v_gains : Nat → Int64)  {q_rank : Int32} {q_below : Int64} {q_rows_r0 : Nat → Int64} {q_rows_r1 : Nat → Int64} {q_rows_r2 : Nat → Int64} {q_spare : Nat → Int64} {q_base_r0 : Nat → Int64} {q_base_r1 : Nat → Int64} {q_base_r2 : Nat → Int64} {q_square_r0 : Nat → Int64} {q_square_r1 : Nat → Int64} {q_square_r2 : Nat → Int64} {q_g1_spare : Nat → Int64} {q_gains : Nat → Int64} (hF : F_X0_build v_rank v_below v_across v_rows_r0 v_rows_r1 v_rows_r2 v_g1_order v_g1_cells v_spare v_base_r0 v_base_r1 v_base_r2 v_square_r0 v_square_r1 v_square_r2 v_g1_spare v_gains = some (q_rank, q_below, q_rows_r0, q_rows_r1, q_rows_r2, q_spare, q_base_r0, q_base_r1, q_base_r2, q_square_r0, q_square_r1, q_square_r2, q_g1_spare, q_gains)) (sz : Nat) : Met l yX0_build wsX0_build rmX0_build (va_Pc [.ref h_me, .ref h_g1] (PC (dC, dI) cyI cyJ cyA [(h_me, .inr (0, [.ref h_rows, .ref h_gains, .int v_rank, .long v_below, .int v_across, .ref h_base, .ref h_square, .ref h_spare])), (h_rows, .inl (cyA, 3, .inr (.inr (.inr (.inr (fn3 h_rows_r0 h_rows_r1 h_rows_r2)))))), (h_rows_r0, .inl (cyJ, 3, .inr (.inl v_rows_r0))), (h_rows_r1, .inl (cyJ, 3, .inr (.inl v_rows_r1))), (h_rows_r2, .inl (cyJ, 3, .inr (.inl v_rows_r2))), (h_g1, .inr (3, [.ref h_g1_cells, .int v_g1_order, .ref h_g1_spare])), (h_g1_cells, .inl (cyI, 15, .inl v_g1_cells)), (h_spare, .inl (cyJ, 3, .inr (.inl v_spare))), (h_base, .inl (cyA, 3, .inr (.inr (.inr (.inr (fn3 h_base_r0 h_base_r1 h_base_r2)))))), (h_base_r0, .inl (cyJ, 3, .inr (.inl v_base_r0))), (h_base_r1, .inl (cyJ, 3, .inr (.inl v_base_r1))), (h_base_r2, .inl (cyJ, 3, .inr (.inl v_base_r2))), (h_square, .inl (cyA, 3, .inr (.inr (.inr (.inr (fn3 h_square_r0 h_square_r1 h_square_r2)))))), (h_square_r0, .inl (cyJ, 3, .inr (.inl v_square_r0))), (h_square_r1, .inl (cyJ, 3, .inr (.inl v_square_r1))), (h_square_r2, .inl (cyJ, 3, .inr (.inl v_square_r2))), (h_g1_spare, .inl (cyJ, 3, .inr (.inl v_g1_spare))), (h_gains, .inl (cyJ, 3, .inr (.inl v_gains)))] sz)) (QV (dC, dI) (va_A [(h_me, .inr (0, [.ref h_rows, .ref h_gains, .int v_rank, .long v_below, .int v_across, .ref h_base, .ref h_square, .ref h_spare])), (h_rows, .inl (cyA, 3, .inr (.inr (.inr (.inr (fn3 h_rows_r0 h_rows_r1 h_rows_r2)))))), (h_rows_r0, .inl (cyJ, 3, .inr (.inl v_rows_r0))), (h_rows_r1, .inl (cyJ, 3, .inr (.inl v_rows_r1))), (h_rows_r2, .inl (cyJ, 3, .inr (.inl v_rows_r2))), (h_g1, .inr (3, [.ref h_g1_cells, .int v_g1_order, .ref h_g1_spare])), (h_g1_cells, .inl (cyI, 15, .inl v_g1_cells)), (h_spare, .inl (cyJ, 3, .inr (.inl v_spare))), (h_base, .inl (cyA, 3, .inr (.inr (.inr (.inr (fn3 h_base_r0 h_base_r1 h_base_r2)))))), (h_base_r0, .inl (cyJ, 3, .inr (.inl v_base_r0))), (h_base_r1, .inl (cyJ, 3, .inr (.inl v_base_r1))), (h_base_r2, .inl (cyJ, 3, .inr (.inl v_base_r2))), (h_square, .inl (cyA, 3, .inr (.inr (.inr (.inr (fn3 h_square_r0 h_square_r1 h_square_r2)))))), (h_square_r0, .inl (cyJ, 3, .inr (.inl v_square_r0))), (h_square_r1, .inl (cyJ, 3, .inr (.inl v_square_r1))), (h_square_r2, .inl (cyJ, 3, .inr (.inl v_square_r2))), (h_g1_spare, .inl (cyJ, 3, .inr (.inl v_g1_spare))), (h_gains, .inl (cyJ, 3, .inr (.inl v_gains)))] sz) [(h_me, .inr (0, [.ref h_rows, .ref h_gains, .int q_rank, .long q_below, .int v_across, .ref h_base, .ref h_square, .ref h_spare])), (h_rows, .inl (cyA, 3, .inr (.inr (.inr (.inr (fn3 h_rows_r0 h_rows_r1 h_rows_r2)))))), (h_rows_r0, .inl (cyJ, 3, .inr (.inl q_rows_r0))), (h_rows_r1, .inl (cyJ, 3, .inr (.inl q_rows_r1))), (h_rows_r2, .inl (cyJ, 3, .inr (.inl q_rows_r2))), (h_g1, .inr (3, [.ref h_g1_cells, .int v_g1_order, .ref h_g1_spare])), (h_g1_cells, .inl (cyI, 15, .inl v_g1_cells)), (h_spare, .inl (cyJ, 3, .inr (.inl q_spare))), (h_base, .inl (cyA, 3, .inr (.inr (.inr (.inr (fn3 h_base_r0 h_base_r1 h_base_r2)))))), (h_base_r0, .inl (cyJ, 3, .inr (.inl q_base_r0))), (h_base_r1, .inl (cyJ, 3, .inr (.inl q_base_r1))), (h_base_r2, .inl (cyJ, 3, .inr (.inl q_base_r2))), (h_square, .inl (cyA, 3, .inr (.inr (.inr (.inr (fn3 h_square_r0 h_square_r1 h_square_r2)))))), (h_square_r0, .inl (cyJ, 3, .inr (.inl q_square_r0))), (h_square_r1, .inl (cyJ, 3, .inr (.inl q_square_r1))), (h_square_r2, .inl (cyJ, 3, .inr (.inl q_square_r2))), (h_g1_spare, .inl (cyJ, 3, .inr (.inl q_g1_spare))), (h_gains, .inl (cyJ, 3, .inr (.inl q_gains)))]) 0 0 (va_A [(h_me, .inr (0, [.ref h_rows, .ref h_gains, .int v_rank, .long v_below, .int v_across, .ref h_base, .ref h_square, .ref h_spare])), (h_rows, .inl (cyA, 3, .inr (.inr (.inr (.inr (fn3 h_rows_r0 h_rows_r1 h_rows_r2)))))), (h_rows_r0, .inl (cyJ, 3, .inr (.inl v_rows_r0))), (h_rows_r1, .inl (cyJ, 3, .inr (.inl v_rows_r1))), (h_rows_r2, .inl (cyJ, 3, .inr (.inl v_rows_r2))), (h_g1, .inr (3, [.ref h_g1_cells, .int v_g1_order, .ref h_g1_spare])), (h_g1_cells, .inl (cyI, 15, .inl v_g1_cells)), (h_spare, .inl (cyJ, 3, .inr (.inl v_spare))), (h_base, .inl (cyA, 3, .inr (.inr (.inr (.inr (fn3 h_base_r0 h_base_r1 h_base_r2)))))), (h_base_r0, .inl (cyJ, 3, .inr (.inl v_base_r0))), (h_base_r1, .inl (cyJ, 3, .inr (.inl v_base_r1))), (h_base_r2, .inl (cyJ, 3, .inr (.inl v_base_r2))), (h_square, .inl (cyA, 3, .inr (.inr (.inr (.inr (fn3 h_square_r0 h_square_r1 h_square_r2)))))), (h_square_r0, .inl (cyJ, 3, .inr (.inl v_square_r0))), (h_square_r1, .inl (cyJ, 3, .inr (.inl v_square_r1))), (h_square_r2, .inl (cyJ, 3, .inr (.inl v_square_r2))), (h_g1_spare, .inl (cyJ, 3, .inr (.inl v_g1_spare))), (h_gains, .inl (cyJ, 3, .inr (.inl v_gains)))] sz) := by
  refine Met.ofW (cc := cX0_build) (maxL := 3) (ret := none) (by decide) rfl ?_
  intro p e s m args below meth c s₁ B hml hv
  obtain ⟨rfl, hsz, hP, hKK, hD0⟩ := hv
  have hx := B.exec
  have hb := B.bytes
  have hr := B.returns
  have hts := atoms_spec (ws := wsX0_build) B.pre
  have hown : s.vm.findClass RX0 = some m.cls := findClass_of_methodNamed B.named
  have hlocks := B.notSynchronized
  have C0 : Cx p s m ([.ref h_me, .ref h_g1] : List Value).toArray meth c cX0_build 3 none wsX0_build RX0 (dC, dI) cyI cyJ cyA := ⟨hx, hb, hr, hml, hown, hts, hKK, hlocks⟩
  have hK := hKK.1
  subst hsz
  have hD := hD0.self (sz := s.heap.size)
  generalize hAe : va_A [(h_me, .inr (0, [.ref h_rows, .ref h_gains, .int v_rank, .long v_below, .int v_across, .ref h_base, .ref h_square, .ref h_spare])), (h_rows, .inl (cyA, 3, .inr (.inr (.inr (.inr (fn3 h_rows_r0 h_rows_r1 h_rows_r2)))))), (h_rows_r0, .inl (cyJ, 3, .inr (.inl v_rows_r0))), (h_rows_r1, .inl (cyJ, 3, .inr (.inl v_rows_r1))), (h_rows_r2, .inl (cyJ, 3, .inr (.inl v_rows_r2))), (h_g1, .inr (3, [.ref h_g1_cells, .int v_g1_order, .ref h_g1_spare])), (h_g1_cells, .inl (cyI, 15, .inl v_g1_cells)), (h_spare, .inl (cyJ, 3, .inr (.inl v_spare))), (h_base, .inl (cyA, 3, .inr (.inr (.inr (.inr (fn3 h_base_r0 h_base_r1 h_base_r2)))))), (h_base_r0, .inl (cyJ, 3, .inr (.inl v_base_r0))), (h_base_r1, .inl (cyJ, 3, .inr (.inl v_base_r1))), (h_base_r2, .inl (cyJ, 3, .inr (.inl v_base_r2))), (h_square, .inl (cyA, 3, .inr (.inr (.inr (.inr (fn3 h_square_r0 h_square_r1 h_square_r2)))))), (h_square_r0, .inl (cyJ, 3, .inr (.inl v_square_r0))), (h_square_r1, .inl (cyJ, 3, .inr (.inl v_square_r1))), (h_square_r2, .inl (cyJ, 3, .inr (.inl v_square_r2))), (h_g1_spare, .inl (cyJ, 3, .inr (.inl v_g1_spare))), (h_gains, .inl (cyJ, 3, .inr (.inl v_gains)))] s.heap.size = A at hD ⊢
  have hA : ∀ q : Nat, s.heap.size ≤ q → A q := fun q h => by rw [← hAe]; exact Or.inr h
  have hS : va_S A s.heap s.heap [] := va_S.rf
  have hl := lv_entry ([.ref h_me, .ref h_g1]) (n := 3) (Nat.le_of_ble_eq_true rfl)
  rw [lg_entry_eq]
  generalize (lg_sl ([.ref h_me, .ref h_g1]) ++ List.replicate (3 - (lg_sl ([.ref h_me, .ref h_g1])).length) Slot.unset).toArray = ls at hl ⊢
  have hl : lv_has ls 3 [(0, .ref h_me), (1, .ref h_g1)] := hl
  unfold F_X0_build at hF
  refine lv_iconst (v := (0 : Int32)) hx hb dX0_build_0 (by decide) ?_
  refine lv_istore_n (lv' := [(2, .int (0 : Int32)), (0, .ref h_me), (1, .ref h_g1)]) hx hb dX0_build_1 rfl hl (by decide) rfl (fun ls hl => ?_)
  exact t_X0_build_2 C0 hA   3000 (0 : Int32) v_rank v_below v_across v_rows_r0 v_rows_r1 v_rows_r2 v_g1_order v_g1_cells v_spare v_base_r0 v_base_r1 v_base_r2 v_square_r0 v_square_r1 v_square_r2 v_g1_spare v_gains hF hP hD hS (lv_sub hl [1, 2, 0] rfl)
/-! RestGains$Chain.spans ([JI)Z -/
def rmX0_spans : Room := { frames := 2, cells := 0, slots := 0, locals := 43 }
def F_X0_spans_2  : Nat → Int32 → (Nat → Int64) → (Nat → Int64) → (Nat → Int64) → (Nat → Int64) → Option (Int32)
  | 0, _, _, _, _, _ => none
  | n + 1, l3, v_square_r0, v_square_r1, v_square_r2, v_g1 => if (3 : Int32) ≤ l3 then (some (1 : Int32)) else (bd1 (F_X0_share l3 v_square_r0 v_square_r1 v_square_r2 v_g1) (fun r1 => if (lg_cmp r1 (0 : Int64)) = 0 then (F_X0_spans_2  n (l3 + (1 : Int32)) v_square_r0 v_square_r1 v_square_r2 v_g1) else (some (0 : Int32))))
def F_X0_spans (l2 : Int32) (v_square_r0 : Nat → Int64) (v_square_r1 : Nat → Int64) (v_square_r2 : Nat → Int64) (v_g1 : Nat → Int64) : Option (Int32) :=
  F_X0_spans_2  3000 l2 v_square_r0 v_square_r1 v_square_r2 v_g1
set_option maxHeartbeats 4000000 in
set_option maxRecDepth 100000 in
theorem t_X0_spans_2 {p : Program} {l : Launch} {e : Env} {s : State} {m : MethodId} {args : Array Value} {below : List Frame} {meth : Method} {c : Code} {dC : Nat → ClassId} {dI : Nat → Nat → Nat} {cyI cyJ cyA : ClassId} {A : Nat → Prop} {h_me h_square h_square_r0 h_square_r1 h_square_r2 h_g1 : Nat} {z_rows z_gains z_rank z_below z_across z_base z_spare : Value} {r : Int32} (C0 : Cx p s m args meth c cX0_spans 4 (some .boolean) wsX0_spans RX0 (dC, dI) cyI cyJ cyA) (hA : ∀ q : Nat, s.heap.size ≤ q → A q)  : ∀ (n : Nat) (l3 : Int32) (v_square_r0 : Nat → Int64) (v_square_r1 : Nat → Int64) (v_square_r2 : Nat → Int64) (v_g1 : Nat → Int64), F_X0_spans_2  n l3 v_square_r0 v_square_r1 v_square_r2 v_g1 = some r → ∀ {H : Heap} {locs : List Loc} {ls : Array Slot}, va_P (dC, dI) vwCl [(h_me, .inr (0, [z_rows, z_gains, z_rank, z_below, z_across, z_base, .ref h_square, z_spare])), (h_square, .inl (cyA, 3, .inr (.inr (.inr (.inr (fn3 h_square_r0 h_square_r1 h_square_r2)))))), (h_square_r0, .inl (cyJ, 3, .inr (.inl v_square_r0))), (h_square_r1, .inl (cyJ, 3, .inr (.inl v_square_r1))), (h_square_r2, .inl (cyJ, 3, .inr (.inl v_square_r2))), (h_g1, .inl (cyJ, 3, .inr (.inl v_g1)))] H → va_D A [(h_me, .inr (0, [z_rows, z_gains, z_rank, z_below, z_across, z_base, .ref h_square, z_spare])), (h_square, .inl (cyA, 3, .inr (.inr (.inr (.inr (fn3 h_square_r0 h_square_r1 h_square_r2)))))), (h_square_r0, .inl (cyJ, 3, .inr (.inl v_square_r0))), (h_square_r1, .inl (cyJ, 3, .inr (.inl v_square_r1))), (h_square_r2, .inl (cyJ, 3, .inr (.inl v_square_r2))), (h_g1, .inl (cyJ, 3, .inr (.inl v_g1)))] → va_S A s.heap H locs → lv_has ls 4 [(0, .ref h_me), (1, .ref h_g1), (3, .int l3)] → W p l e rmX0_spans s m args below meth c H locs 0 0 (MQ below (QI (dC, dI) A [(h_me, .inr (0, [z_rows, z_gains, z_rank, z_below, z_across, z_base, .ref h_square, z_spare])), (h_square, .inl (cyA, 3, .inr (.inr (.inr (.inr (fn3 h_square_r0 h_square_r1 h_square_r2)))))), (h_square_r0, .inl (cyJ, 3, .inr (.inl v_square_r0))), (h_square_r1, .inl (cyJ, 3, .inr (.inl v_square_r1))), (h_square_r2, .inl (cyJ, 3, .inr (.inl v_square_r2))), (h_g1, .inl (cyJ, 3, .inr (.inl v_g1)))] r) args s 0 0 A) (F0 m 2 ls []) := by
  obtain ⟨hx, hb, hr, hml, hown, hts, hKK, hlocks⟩ := id C0
  have hK := hKK.1
  intro n
  induction n with
  | zero => intro l3 v_square_r0 v_square_r1 v_square_r2 v_g1 hF; rw [F_X0_spans_2] at hF; cases hF
  | succ n ih =>
      intro l3 v_square_r0 v_square_r1 v_square_r2 v_g1 hF H locs ls hP hD hS hl
      rw [F_X0_spans_2] at hF
      refine lv_iload_n hx hb dX0_spans_2 rfl (lv_at hl 2 rfl) ?_
      refine lv_iconst (v := (3 : Int32)) hx hb dX0_spans_3 (by decide) ?_
      refine lv_icmp_ge (tgt := 26) hx hb dX0_spans_4 (by decide) (fun c_ => ?_) (fun c_ => ?_)
      · have hF := gif c_ hF
        refine lv_iconst (v := (1 : Int32)) hx hb dX0_spans_26 (by decide) ?_
        cases hF
        exact W.zret hx hb hr (by decide) (fun t ht hW => ⟨⟨_, (), rfl, rfl, by rw [ht]; exact hP, hD⟩, hS.F ht⟩) hS.2.2 dX0_spans_27
      · have hF := gel c_ hF
        refine lv_aload_n hx hb dX0_spans_7 rfl (lv_at hl 0 rfl) ?_
        refine lv_iload_n hx hb dX0_spans_8 rfl (lv_at hl 2 rfl) ?_
        refine lv_aload_n hx hb dX0_spans_9 rfl (lv_at hl 1 rfl) ?_
        obtain ⟨r1, hz1, hF⟩ := bd1_e hF
        refine kc_l (wr := []) (ws' := [(h_me, .inr (0, [z_rows, z_gains, z_rank, z_below, z_across, z_base, .ref h_square, z_spare])), (h_square, .inl (cyA, 3, .inr (.inr (.inr (.inr (fn3 h_square_r0 h_square_r1 h_square_r2)))))), (h_square_r0, .inl (cyJ, 3, .inr (.inl v_square_r0))), (h_square_r1, .inl (cyJ, 3, .inr (.inl v_square_r1))), (h_square_r2, .inl (cyJ, 3, .inr (.inl v_square_r2))), (h_g1, .inl (cyJ, 3, .inr (.inl v_g1)))]) (va_runV (As := [.int l3, .ref h_g1]) (rest := []) ⟨hx, hb, hml, hown, hts⟩ (c_X0_share l dC dI cyI cyJ cyA h_me h_square h_square_r0 h_square_r1 h_square_r2 h_g1 z_rows z_gains z_rank z_below z_across z_base z_spare v_square_r0 v_square_r1 v_square_r2 v_g1 l3 hz1 _) (cwV 2 hts gX0_spans_X0_share rfl rfl rfl ndX0_share ⟨Nat.le_of_ble_eq_true rfl, Nat.le_of_ble_eq_true rfl⟩) (pre_V hKK hP hD 0 rfl rfl [0, 1, 2, 3, 4, 5] (by decide) rfl rfl) rfl rfl hl.1 rfl (lv_room (Nat.le_of_ble_eq_true rfl)) dX0_spans_10 ⟨Nat.le_of_ble_eq_true rfl, Nat.le_of_ble_eq_true rfl⟩) hP hD hS hA [0, 1, 2, 3, 4, 5] [] [0, 1, 2, 3, 4, 5] rfl rfl (by decide) (by decide) (by decide) rfl rfl (fun H locs hP hD hS => ?_)
        refine lv_lconst (v := (0 : Int64)) hx hb dX0_spans_13 (by decide) ?_
        refine W.lcmp hx hb dX0_spans_14 ?_
        refine lv_if_eq (tgt := 20) hx hb dX0_spans_15 (by decide) (fun c_ => ?_) (fun c_ => ?_)
        · have hF := gif c_ hF
          refine lv_iinc (v := (l3 + (1 : Int32))) (lv' := [(3, .int (l3 + (1 : Int32))), (0, .ref h_me), (1, .ref h_g1)]) hx hb dX0_spans_20 hl (k := 2) rfl (by rfl) (by decide) rfl (fun ls hl => ?_)
          refine lv_goto (tgt := 2) hx hb dX0_spans_23 (by decide) ?_
          exact ih (l3 + (1 : Int32)) v_square_r0 v_square_r1 v_square_r2 v_g1 hF hP hD hS (lv_sub hl [1, 2, 0] rfl)
        · have hF := gel c_ hF
          refine lv_iconst (v := (0 : Int32)) hx hb dX0_spans_18 (by decide) ?_
          cases hF
          exact W.zret hx hb hr (by decide) (fun t ht hW => ⟨⟨_, (), rfl, rfl, by rw [ht]; exact hP, hD⟩, hS.F ht⟩) hS.2.2 dX0_spans_19
set_option maxHeartbeats 4000000 in
set_option maxRecDepth 100000 in
theorem c_X0_spans (l : Launch) (dC : Nat → ClassId) (dI : Nat → Nat → Nat) (cyI cyJ cyA : ClassId) (h_me h_square h_square_r0 h_square_r1 h_square_r2 h_g1 : Nat) (z_rows z_gains z_rank z_below z_across z_base z_spare : Value) (v_square_r0 : Nat → Int64) (v_square_r1 : Nat → Int64) (v_square_r2 : Nat → Int64) (v_g1 : Nat → Int64) (l2 : Int32) {r : Int32} (hF : F_X0_spans l2 v_square_r0 v_square_r1 v_square_r2 v_g1 = some r) (sz : Nat) : Met l yX0_spans wsX0_spans rmX0_spans (va_Pc [.ref h_me, .ref h_g1, .int l2] (PC (dC, dI) cyI cyJ cyA [(h_me, .inr (0, [z_rows, z_gains, z_rank, z_below, z_across, z_base, .ref h_square, z_spare])), (h_square, .inl (cyA, 3, .inr (.inr (.inr (.inr (fn3 h_square_r0 h_square_r1 h_square_r2)))))), (h_square_r0, .inl (cyJ, 3, .inr (.inl v_square_r0))), (h_square_r1, .inl (cyJ, 3, .inr (.inl v_square_r1))), (h_square_r2, .inl (cyJ, 3, .inr (.inl v_square_r2))), (h_g1, .inl (cyJ, 3, .inr (.inl v_g1)))] sz)) (QI (dC, dI) (va_A [(h_me, .inr (0, [z_rows, z_gains, z_rank, z_below, z_across, z_base, .ref h_square, z_spare])), (h_square, .inl (cyA, 3, .inr (.inr (.inr (.inr (fn3 h_square_r0 h_square_r1 h_square_r2)))))), (h_square_r0, .inl (cyJ, 3, .inr (.inl v_square_r0))), (h_square_r1, .inl (cyJ, 3, .inr (.inl v_square_r1))), (h_square_r2, .inl (cyJ, 3, .inr (.inl v_square_r2))), (h_g1, .inl (cyJ, 3, .inr (.inl v_g1)))] sz) [(h_me, .inr (0, [z_rows, z_gains, z_rank, z_below, z_across, z_base, .ref h_square, z_spare])), (h_square, .inl (cyA, 3, .inr (.inr (.inr (.inr (fn3 h_square_r0 h_square_r1 h_square_r2)))))), (h_square_r0, .inl (cyJ, 3, .inr (.inl v_square_r0))), (h_square_r1, .inl (cyJ, 3, .inr (.inl v_square_r1))), (h_square_r2, .inl (cyJ, 3, .inr (.inl v_square_r2))), (h_g1, .inl (cyJ, 3, .inr (.inl v_g1)))] r) 0 0 (va_A [(h_me, .inr (0, [z_rows, z_gains, z_rank, z_below, z_across, z_base, .ref h_square, z_spare])), (h_square, .inl (cyA, 3, .inr (.inr (.inr (.inr (fn3 h_square_r0 h_square_r1 h_square_r2)))))), (h_square_r0, .inl (cyJ, 3, .inr (.inl v_square_r0))), (h_square_r1, .inl (cyJ, 3, .inr (.inl v_square_r1))), (h_square_r2, .inl (cyJ, 3, .inr (.inl v_square_r2))), (h_g1, .inl (cyJ, 3, .inr (.inl v_g1)))] sz) := by
  refine Met.ofW (cc := cX0_spans) (maxL := 4) (ret := (some .boolean)) (by decide) rfl ?_
  intro p e s m args below meth c s₁ B hml hv
  obtain ⟨rfl, hsz, hP, hKK, hD0⟩ := hv
  have hx := B.exec
  have hb := B.bytes
  have hr := B.returns
  have hts := atoms_spec (ws := wsX0_spans) B.pre
  have hown : s.vm.findClass RX0 = some m.cls := findClass_of_methodNamed B.named
  have hlocks := B.notSynchronized
  have C0 : Cx p s m ([.ref h_me, .ref h_g1, .int l2] : List Value).toArray meth c cX0_spans 4 (some .boolean) wsX0_spans RX0 (dC, dI) cyI cyJ cyA := ⟨hx, hb, hr, hml, hown, hts, hKK, hlocks⟩
  have hK := hKK.1
  subst hsz
  have hD := hD0.self (sz := s.heap.size)
  generalize hAe : va_A [(h_me, .inr (0, [z_rows, z_gains, z_rank, z_below, z_across, z_base, .ref h_square, z_spare])), (h_square, .inl (cyA, 3, .inr (.inr (.inr (.inr (fn3 h_square_r0 h_square_r1 h_square_r2)))))), (h_square_r0, .inl (cyJ, 3, .inr (.inl v_square_r0))), (h_square_r1, .inl (cyJ, 3, .inr (.inl v_square_r1))), (h_square_r2, .inl (cyJ, 3, .inr (.inl v_square_r2))), (h_g1, .inl (cyJ, 3, .inr (.inl v_g1)))] s.heap.size = A at hD ⊢
  have hA : ∀ q : Nat, s.heap.size ≤ q → A q := fun q h => by rw [← hAe]; exact Or.inr h
  have hS : va_S A s.heap s.heap [] := va_S.rf
  have hl := lv_entry ([.ref h_me, .ref h_g1, .int l2]) (n := 4) (Nat.le_of_ble_eq_true rfl)
  rw [lg_entry_eq]
  generalize (lg_sl ([.ref h_me, .ref h_g1, .int l2]) ++ List.replicate (4 - (lg_sl ([.ref h_me, .ref h_g1, .int l2])).length) Slot.unset).toArray = ls at hl ⊢
  have hl : lv_has ls 4 [(0, .ref h_me), (1, .ref h_g1), (2, .int l2)] := hl
  unfold F_X0_spans at hF
  refine lv_iload_n hx hb dX0_spans_0 rfl (lv_at hl 2 rfl) ?_
  refine lv_istore_n (lv' := [(3, .int l2), (0, .ref h_me), (1, .ref h_g1), (2, .int l2)]) hx hb dX0_spans_1 rfl hl (by decide) rfl (fun ls hl => ?_)
  exact t_X0_spans_2 C0 hA   3000 l2 v_square_r0 v_square_r1 v_square_r2 v_g1 hF hP hD hS (lv_sub hl [1, 2, 0] rfl)
/-! RestGains$Page.write (I)V -/
def rmX1_write : Room := { frames := 0, cells := 0, slots := 0, locals := 0 }
def F_X1_write (l1 : Int32) (v_length : Int32) (v_letters : Nat → Int32) : Option (Int32 × (Nat → Int32)) :=
  if (46 : Int32) ≤ v_length then (some (v_length, v_letters)) else (if v_length < 0 ∨ 46 ≤ v_length.toNatClampNeg then none else some ((v_length + (1 : Int32)), (upd v_letters v_length.toNatClampNeg l1)))
set_option maxHeartbeats 4000000 in
set_option maxRecDepth 100000 in
theorem c_X1_write (l : Launch) (dC : Nat → ClassId) (dI : Nat → Nat → Nat) (cyI cyJ cyA : ClassId) (h_me h_letters : Nat) (z_numbers z_order z_done z_due : Value) (v_length : Int32) (v_letters : Nat → Int32) (l1 : Int32) {q_length : Int32} {q_letters : Nat → Int32} (hF : F_X1_write l1 v_length v_letters = some (q_length, q_letters)) (sz : Nat) : Met l yX1_write wsX1_write rmX1_write (va_Pc [.ref h_me, .int l1] (PC (dC, dI) cyI cyJ cyA [(h_me, .inr (1, [.ref h_letters, .int v_length, z_numbers, z_order, z_done, z_due])), (h_letters, .inl (cyI, 46, .inl v_letters))] sz)) (QV (dC, dI) (va_A [(h_me, .inr (1, [.ref h_letters, .int v_length, z_numbers, z_order, z_done, z_due])), (h_letters, .inl (cyI, 46, .inl v_letters))] sz) [(h_me, .inr (1, [.ref h_letters, .int q_length, z_numbers, z_order, z_done, z_due])), (h_letters, .inl (cyI, 46, .inl q_letters))]) 0 0 (va_A [(h_me, .inr (1, [.ref h_letters, .int v_length, z_numbers, z_order, z_done, z_due])), (h_letters, .inl (cyI, 46, .inl v_letters))] sz) := by
  refine Met.ofW (cc := cX1_write) (maxL := 2) (ret := none) (by decide) rfl ?_
  intro p e s m args below meth c s₁ B hml hv
  obtain ⟨rfl, hsz, hP, hKK, hD0⟩ := hv
  have hx := B.exec
  have hb := B.bytes
  have hr := B.returns
  have hts := atoms_spec (ws := wsX1_write) B.pre
  have hown : s.vm.findClass RX1 = some m.cls := findClass_of_methodNamed B.named
  have hlocks := B.notSynchronized
  have C0 : Cx p s m ([.ref h_me, .int l1] : List Value).toArray meth c cX1_write 2 none wsX1_write RX1 (dC, dI) cyI cyJ cyA := ⟨hx, hb, hr, hml, hown, hts, hKK, hlocks⟩
  have hK := hKK.1
  subst hsz
  have hD := hD0.self (sz := s.heap.size)
  generalize hAe : va_A [(h_me, .inr (1, [.ref h_letters, .int v_length, z_numbers, z_order, z_done, z_due])), (h_letters, .inl (cyI, 46, .inl v_letters))] s.heap.size = A at hD ⊢
  have hA : ∀ q : Nat, s.heap.size ≤ q → A q := fun q h => by rw [← hAe]; exact Or.inr h
  have hS : va_S A s.heap s.heap [] := va_S.rf
  have hl := lv_entry ([.ref h_me, .int l1]) (n := 2) (Nat.le_of_ble_eq_true rfl)
  rw [lg_entry_eq]
  generalize (lg_sl ([.ref h_me, .int l1]) ++ List.replicate (2 - (lg_sl ([.ref h_me, .int l1])).length) Slot.unset).toArray = ls at hl ⊢
  have hl : lv_has ls 2 [(0, .ref h_me), (1, .int l1)] := hl
  unfold F_X1_write at hF
  refine lv_aload_n hx hb dX1_write_0 rfl (lv_at hl 0 rfl) ?_
  refine my_get (D := (dC, dI)) (ci := 1) (v := .int v_length) (C := RX1) (T := TX1) (N := 6) hx hb hts iX1_write_X1 hown hK hP 0 rfl rfl 1 (by decide) (hts _ mX1_write_1) rfl rfl dX1_write_1 ?_
  refine lv_bipush (v := (46 : Int32)) hx hb dX1_write_4 (by decide) ?_
  refine lv_icmp_ge (tgt := 29) hx hb dX1_write_6 (by decide) (fun c_ => ?_) (fun c_ => ?_)
  · have hF := gif c_ hF
    cases hF
    exact W.vret hx hb hr (fun t ht hW => ⟨⟨(), rfl, trivial, by rw [ht]; exact hP, hD⟩, hS.F ht⟩) hS.2.2 dX1_write_29
  · have hF := gel c_ hF
    refine lv_aload_n hx hb dX1_write_9 rfl (lv_at hl 0 rfl) ?_
    refine my_get (D := (dC, dI)) (ci := 1) (v := .ref h_letters) (C := RX1) (T := TX1) (N := 6) hx hb hts iX1_write_X1 hown hK hP 0 rfl rfl 0 (by decide) (hts _ mX1_write_2) rfl rfl dX1_write_10 ?_
    refine lv_aload_n hx hb dX1_write_13 rfl (lv_at hl 0 rfl) ?_
    refine my_get (D := (dC, dI)) (ci := 1) (v := .int v_length) (C := RX1) (T := TX1) (N := 6) hx hb hts iX1_write_X1 hown hK hP 0 rfl rfl 1 (by decide) (hts _ mX1_write_1) rfl rfl dX1_write_14 ?_
    refine lv_iload_n hx hb dX1_write_17 rfl (lv_at hl 1 rfl) ?_
    obtain ⟨g_1, hF⟩ := gno hF
    refine my_iast (ws' := [(h_me, .inr (1, [.ref h_letters, .int v_length, z_numbers, z_order, z_done, z_due])), (h_letters, .inl (cyI, 46, .inl (upd v_letters v_length.toNatClampNeg l1)))]) hx hb hK hP hD hS 1 0 rfl rfl g_1 dX1_write_18 rfl (fun H locs hP hD hS => ?_)
    refine lv_aload_n hx hb dX1_write_19 rfl (lv_at hl 0 rfl) ?_
    refine lv_dup hx hb dX1_write_20 rfl ?_
    refine my_get (D := (dC, dI)) (ci := 1) (v := .int v_length) (C := RX1) (T := TX1) (N := 6) hx hb hts iX1_write_X1 hown hK hP 0 rfl rfl 1 (by decide) (hts _ mX1_write_1) rfl rfl dX1_write_21 ?_
    refine lv_iconst (v := (1 : Int32)) hx hb dX1_write_24 (by decide) ?_
    refine lv_iadd hx hb dX1_write_25 ?_
    refine my_put (D := (dC, dI)) (ci := 1) (v := .int (v_length + (1 : Int32))) (ty := .int) (C := RX1) (T := TX1) (N := 6) (ws' := [(h_me, .inr (1, [.ref h_letters, .int (v_length + (1 : Int32)), z_numbers, z_order, z_done, z_due])), (h_letters, .inl (cyI, 46, .inl (upd v_letters v_length.toNatClampNeg l1)))]) hx hb hts iX1_write_X1 tyX1 tyX1_ok nmX1 hown hK hP hD hS 0 rfl rfl 1 (by decide) (hts _ mX1_write_1) rfl rfl rfl rfl rfl (Nat.le_of_ble_eq_true rfl) dX1_write_26 rfl (fun H locs hP hD hS => ?_)
    cases hF
    exact W.vret hx hb hr (fun t ht hW => ⟨⟨(), rfl, trivial, by rw [ht]; exact hP, hD⟩, hS.F ht⟩) hS.2.2 dX1_write_29
/-! RestGains$Page.takesOrder (I)Z -/
def rmX1_takesOrder : Room := { frames := 0, cells := 0, slots := 0, locals := 0 }
def F_X1_takesOrder (l1 : Int32) (v_order : Int32) (v_due : Int32) : Option (Int32 × Int32 × Int32) :=
  if l1 < (49 : Int32) then (some ((0 : Int32), v_order, v_due)) else (if l1 ≤ (51 : Int32) then (some ((1 : Int32), (l1 - (48 : Int32)), (1 : Int32))) else (some ((0 : Int32), v_order, v_due)))
set_option maxHeartbeats 4000000 in
set_option maxRecDepth 100000 in
theorem c_X1_takesOrder (l : Launch) (dC : Nat → ClassId) (dI : Nat → Nat → Nat) (cyI cyJ cyA : ClassId) (h_me : Nat) (z_letters z_length z_numbers z_done : Value) (v_order : Int32) (v_due : Int32) (l1 : Int32) {r : Int32} {q_order : Int32} {q_due : Int32} (hF : F_X1_takesOrder l1 v_order v_due = some (r, q_order, q_due)) (sz : Nat) : Met l yX1_takesOrder wsX1_takesOrder rmX1_takesOrder (va_Pc [.ref h_me, .int l1] (PC (dC, dI) cyI cyJ cyA [(h_me, .inr (1, [z_letters, z_length, z_numbers, .int v_order, z_done, .int v_due]))] sz)) (QI (dC, dI) (va_A [(h_me, .inr (1, [z_letters, z_length, z_numbers, .int v_order, z_done, .int v_due]))] sz) [(h_me, .inr (1, [z_letters, z_length, z_numbers, .int q_order, z_done, .int q_due]))] r) 0 0 (va_A [(h_me, .inr (1, [z_letters, z_length, z_numbers, .int v_order, z_done, .int v_due]))] sz) := by
  refine Met.ofW (cc := cX1_takesOrder) (maxL := 2) (ret := (some .boolean)) (by decide) rfl ?_
  intro p e s m args below meth c s₁ B hml hv
  obtain ⟨rfl, hsz, hP, hKK, hD0⟩ := hv
  have hx := B.exec
  have hb := B.bytes
  have hr := B.returns
  have hts := atoms_spec (ws := wsX1_takesOrder) B.pre
  have hown : s.vm.findClass RX1 = some m.cls := findClass_of_methodNamed B.named
  have hlocks := B.notSynchronized
  have C0 : Cx p s m ([.ref h_me, .int l1] : List Value).toArray meth c cX1_takesOrder 2 (some .boolean) wsX1_takesOrder RX1 (dC, dI) cyI cyJ cyA := ⟨hx, hb, hr, hml, hown, hts, hKK, hlocks⟩
  have hK := hKK.1
  subst hsz
  have hD := hD0.self (sz := s.heap.size)
  generalize hAe : va_A [(h_me, .inr (1, [z_letters, z_length, z_numbers, .int v_order, z_done, .int v_due]))] s.heap.size = A at hD ⊢
  have hA : ∀ q : Nat, s.heap.size ≤ q → A q := fun q h => by rw [← hAe]; exact Or.inr h
  have hS : va_S A s.heap s.heap [] := va_S.rf
  have hl := lv_entry ([.ref h_me, .int l1]) (n := 2) (Nat.le_of_ble_eq_true rfl)
  rw [lg_entry_eq]
  generalize (lg_sl ([.ref h_me, .int l1]) ++ List.replicate (2 - (lg_sl ([.ref h_me, .int l1])).length) Slot.unset).toArray = ls at hl ⊢
  have hl : lv_has ls 2 [(0, .ref h_me), (1, .int l1)] := hl
  unfold F_X1_takesOrder at hF
  refine lv_iload_n hx hb dX1_takesOrder_0 rfl (lv_at hl 1 rfl) ?_
  refine lv_bipush (v := (49 : Int32)) hx hb dX1_takesOrder_1 (by decide) ?_
  refine lv_icmp_lt (tgt := 12) hx hb dX1_takesOrder_3 (by decide) (fun c_ => ?_) (fun c_ => ?_)
  · have hF := gif c_ hF
    refine lv_iconst (v := (0 : Int32)) hx hb dX1_takesOrder_12 (by decide) ?_
    cases hF
    exact W.zret hx hb hr (by decide) (fun t ht hW => ⟨⟨_, (), rfl, rfl, by rw [ht]; exact hP, hD⟩, hS.F ht⟩) hS.2.2 dX1_takesOrder_13
  · have hF := gel c_ hF
    refine lv_iload_n hx hb dX1_takesOrder_6 rfl (lv_at hl 1 rfl) ?_
    refine lv_bipush (v := (51 : Int32)) hx hb dX1_takesOrder_7 (by decide) ?_
    refine lv_icmp_le (tgt := 14) hx hb dX1_takesOrder_9 (by decide) (fun c_ => ?_) (fun c_ => ?_)
    · have hF := gif c_ hF
      refine lv_aload_n hx hb dX1_takesOrder_14 rfl (lv_at hl 0 rfl) ?_
      refine lv_iload_n hx hb dX1_takesOrder_15 rfl (lv_at hl 1 rfl) ?_
      refine lv_bipush (v := (48 : Int32)) hx hb dX1_takesOrder_16 (by decide) ?_
      refine lv_isub hx hb dX1_takesOrder_18 ?_
      refine my_put (D := (dC, dI)) (ci := 1) (v := .int (l1 - (48 : Int32))) (ty := .int) (C := RX1) (T := TX1) (N := 6) (ws' := [(h_me, .inr (1, [z_letters, z_length, z_numbers, .int (l1 - (48 : Int32)), z_done, .int v_due]))]) hx hb hts iX1_takesOrder_X1 tyX1 tyX1_ok nmX1 hown hK hP hD hS 0 rfl rfl 3 (by decide) (hts _ mX1_takesOrder_1) rfl rfl rfl rfl rfl (Nat.le_of_ble_eq_true rfl) dX1_takesOrder_19 rfl (fun H locs hP hD hS => ?_)
      refine lv_aload_n hx hb dX1_takesOrder_22 rfl (lv_at hl 0 rfl) ?_
      refine lv_iconst (v := (1 : Int32)) hx hb dX1_takesOrder_23 (by decide) ?_
      refine my_put (D := (dC, dI)) (ci := 1) (v := .int (1 : Int32)) (ty := .int) (C := RX1) (T := TX1) (N := 6) (ws' := [(h_me, .inr (1, [z_letters, z_length, z_numbers, .int (l1 - (48 : Int32)), z_done, .int (1 : Int32)]))]) hx hb hts iX1_takesOrder_X1 tyX1 tyX1_ok nmX1 hown hK hP hD hS 0 rfl rfl 5 (by decide) (hts _ mX1_takesOrder_2) rfl rfl rfl rfl rfl (Nat.le_of_ble_eq_true rfl) dX1_takesOrder_24 rfl (fun H locs hP hD hS => ?_)
      refine lv_iconst (v := (1 : Int32)) hx hb dX1_takesOrder_27 (by decide) ?_
      cases hF
      exact W.zret hx hb hr (by decide) (fun t ht hW => ⟨⟨_, (), rfl, rfl, by rw [ht]; exact hP, hD⟩, hS.F ht⟩) hS.2.2 dX1_takesOrder_28
    · have hF := gel c_ hF
      refine lv_iconst (v := (0 : Int32)) hx hb dX1_takesOrder_12 (by decide) ?_
      cases hF
      exact W.zret hx hb hr (by decide) (fun t ht hW => ⟨⟨_, (), rfl, rfl, by rw [ht]; exact hP, hD⟩, hS.F ht⟩) hS.2.2 dX1_takesOrder_13
/-! RestGains$Page.needed ()I -/
def rmX1_needed : Room := { frames := 0, cells := 0, slots := 0, locals := 0 }
def F_X1_needed (v_order : Int32) : Option (Int32) :=
  some ((v_order * v_order) + ((2 : Int32) * v_order))
set_option maxHeartbeats 4000000 in
set_option maxRecDepth 100000 in
theorem c_X1_needed (l : Launch) (dC : Nat → ClassId) (dI : Nat → Nat → Nat) (cyI cyJ cyA : ClassId) (h_me : Nat) (z_letters z_length z_numbers z_done z_due : Value) (v_order : Int32)  {r : Int32} (hF : F_X1_needed v_order = some r) (sz : Nat) : Met l yX1_needed wsX1_needed rmX1_needed (va_Pc [.ref h_me] (PC (dC, dI) cyI cyJ cyA [(h_me, .inr (1, [z_letters, z_length, z_numbers, .int v_order, z_done, z_due]))] sz)) (QI (dC, dI) (va_A [(h_me, .inr (1, [z_letters, z_length, z_numbers, .int v_order, z_done, z_due]))] sz) [(h_me, .inr (1, [z_letters, z_length, z_numbers, .int v_order, z_done, z_due]))] r) 0 0 (va_A [(h_me, .inr (1, [z_letters, z_length, z_numbers, .int v_order, z_done, z_due]))] sz) := by
  refine Met.ofW (cc := cX1_needed) (maxL := 1) (ret := (some .int)) (by decide) rfl ?_
  intro p e s m args below meth c s₁ B hml hv
  obtain ⟨rfl, hsz, hP, hKK, hD0⟩ := hv
  have hx := B.exec
  have hb := B.bytes
  have hr := B.returns
  have hts := atoms_spec (ws := wsX1_needed) B.pre
  have hown : s.vm.findClass RX1 = some m.cls := findClass_of_methodNamed B.named
  have hlocks := B.notSynchronized
  have C0 : Cx p s m ([.ref h_me] : List Value).toArray meth c cX1_needed 1 (some .int) wsX1_needed RX1 (dC, dI) cyI cyJ cyA := ⟨hx, hb, hr, hml, hown, hts, hKK, hlocks⟩
  have hK := hKK.1
  subst hsz
  have hD := hD0.self (sz := s.heap.size)
  generalize hAe : va_A [(h_me, .inr (1, [z_letters, z_length, z_numbers, .int v_order, z_done, z_due]))] s.heap.size = A at hD ⊢
  have hA : ∀ q : Nat, s.heap.size ≤ q → A q := fun q h => by rw [← hAe]; exact Or.inr h
  have hS : va_S A s.heap s.heap [] := va_S.rf
  have hl := lv_entry ([.ref h_me]) (n := 1) (Nat.le_of_ble_eq_true rfl)
  rw [lg_entry_eq]
  generalize (lg_sl ([.ref h_me]) ++ List.replicate (1 - (lg_sl ([.ref h_me])).length) Slot.unset).toArray = ls at hl ⊢
  have hl : lv_has ls 1 [(0, .ref h_me)] := hl
  unfold F_X1_needed at hF
  refine lv_aload_n hx hb dX1_needed_0 rfl (lv_at hl 0 rfl) ?_
  refine my_get (D := (dC, dI)) (ci := 1) (v := .int v_order) (C := RX1) (T := TX1) (N := 6) hx hb hts iX1_needed_X1 hown hK hP 0 rfl rfl 3 (by decide) (hts _ mX1_needed_1) rfl rfl dX1_needed_1 ?_
  refine lv_aload_n hx hb dX1_needed_4 rfl (lv_at hl 0 rfl) ?_
  refine my_get (D := (dC, dI)) (ci := 1) (v := .int v_order) (C := RX1) (T := TX1) (N := 6) hx hb hts iX1_needed_X1 hown hK hP 0 rfl rfl 3 (by decide) (hts _ mX1_needed_1) rfl rfl dX1_needed_5 ?_
  refine lv_imul hx hb dX1_needed_8 ?_
  refine lv_iconst (v := (2 : Int32)) hx hb dX1_needed_9 (by decide) ?_
  refine lv_aload_n hx hb dX1_needed_10 rfl (lv_at hl 0 rfl) ?_
  refine my_get (D := (dC, dI)) (ci := 1) (v := .int v_order) (C := RX1) (T := TX1) (N := 6) hx hb hts iX1_needed_X1 hown hK hP 0 rfl rfl 3 (by decide) (hts _ mX1_needed_1) rfl rfl dX1_needed_11 ?_
  refine lv_imul hx hb dX1_needed_14 ?_
  refine lv_iadd hx hb dX1_needed_15 ?_
  cases hF
  exact W.iret hx hb hr (fun t ht hW => ⟨⟨_, (), rfl, rfl, by rw [ht]; exact hP, hD⟩, hS.F ht⟩) hS.2.2 dX1_needed_16
/-! RestGains$Page.takesSign (I)Z -/
def rmX1_takesSign : Room := { frames := 1, cells := 0, slots := 0, locals := 20 }
def F_X1_takesSign_75  (s0 : Int32) (s1 : Int32) (v_order : Int32) (v_done : Int32) (v_due : Int32) : Option (Int32 × Int32) :=
  if s0 = s1 then (some ((1 : Int32), (2 : Int32))) else (some ((0 : Int32), v_due))
def F_X1_takesSign_62  (s0 : Int32) (l1 : Int32) (v_order : Int32) (v_done : Int32) (v_due : Int32) : Option (Int32 × Int32) :=
  if s0 = 0 then (F_X1_takesSign_75  l1 (44 : Int32) v_order v_done v_due) else (F_X1_takesSign_75  l1 (59 : Int32) v_order v_done v_due)
def F_X1_takesSign_57  (l1 : Int32) (v_order : Int32) (v_done : Int32) (v_due : Int32) : Option (Int32 × Int32) :=
  F_X1_takesSign_62  (1 : Int32) l1 v_order v_done v_due
def F_X1_takesSign (l1 : Int32) (v_order : Int32) (v_done : Int32) (v_due : Int32) : Option (Int32 × Int32) :=
  bd1 (F_X1_needed v_order) (fun r1 => if v_done < r1 then (if v_done = 0 then (F_X1_takesSign_57  l1 v_order v_done v_due) else (if v_done = (v_order * v_order) then (F_X1_takesSign_57  l1 v_order v_done v_due) else (if v_done = ((v_order * v_order) + v_order) then (F_X1_takesSign_57  l1 v_order v_done v_due) else (F_X1_takesSign_62  (0 : Int32) l1 v_order v_done v_due)))) else (some ((0 : Int32), v_due)))
set_option maxHeartbeats 4000000 in
set_option maxRecDepth 100000 in
theorem t_X1_takesSign_75 {p : Program} {l : Launch} {e : Env} {s : State} {m : MethodId} {args : Array Value} {below : List Frame} {meth : Method} {c : Code} {dC : Nat → ClassId} {dI : Nat → Nat → Nat} {cyI cyJ cyA : ClassId} {A : Nat → Prop} {h_me : Nat} {z_letters z_length z_numbers : Value} {r : Int32} {q_due : Int32} (C0 : Cx p s m args meth c cX1_takesSign 3 (some .boolean) wsX1_takesSign RX1 (dC, dI) cyI cyJ cyA) (hA : ∀ q : Nat, s.heap.size ≤ q → A q)  : ∀ (s0 : Int32) (s1 : Int32) (v_order : Int32) (v_done : Int32) (v_due : Int32), F_X1_takesSign_75  s0 s1 v_order v_done v_due = some (r, q_due) → ∀ {H : Heap} {locs : List Loc} {ls : Array Slot}, va_P (dC, dI) vwCl [(h_me, .inr (1, [z_letters, z_length, z_numbers, .int v_order, .int v_done, .int v_due]))] H → va_D A [(h_me, .inr (1, [z_letters, z_length, z_numbers, .int v_order, .int v_done, .int v_due]))] → va_S A s.heap H locs → lv_has ls 3 [(0, .ref h_me)] → W p l e rmX1_takesSign s m args below meth c H locs 0 0 (MQ below (QI (dC, dI) A [(h_me, .inr (1, [z_letters, z_length, z_numbers, .int v_order, .int v_done, .int q_due]))] r) args s 0 0 A) (F0 m 75 ls [.int s1, .int s0]) := by
  obtain ⟨hx, hb, hr, hml, hown, hts, hKK, hlocks⟩ := id C0
  have hK := hKK.1
  intro s0 s1 v_order v_done v_due hF H locs ls hP hD hS hl
  unfold F_X1_takesSign_75 at hF
  refine lv_icmp_eq (tgt := 80) hx hb dX1_takesSign_75 (by decide) (fun c_ => ?_) (fun c_ => ?_)
  · have hF := gif c_ hF
    refine lv_aload_n hx hb dX1_takesSign_80 rfl (lv_at hl 0 rfl) ?_
    refine lv_iconst (v := (2 : Int32)) hx hb dX1_takesSign_81 (by decide) ?_
    refine my_put (D := (dC, dI)) (ci := 1) (v := .int (2 : Int32)) (ty := .int) (C := RX1) (T := TX1) (N := 6) (ws' := [(h_me, .inr (1, [z_letters, z_length, z_numbers, .int v_order, .int v_done, .int (2 : Int32)]))]) hx hb hts iX1_takesSign_X1 tyX1 tyX1_ok nmX1 hown hK hP hD hS 0 rfl rfl 5 (by decide) (hts _ mX1_takesSign_3) rfl rfl rfl rfl rfl (Nat.le_of_ble_eq_true rfl) dX1_takesSign_82 rfl (fun H locs hP hD hS => ?_)
    refine lv_iconst (v := (1 : Int32)) hx hb dX1_takesSign_85 (by decide) ?_
    cases hF
    exact W.zret hx hb hr (by decide) (fun t ht hW => ⟨⟨_, (), rfl, rfl, by rw [ht]; exact hP, hD⟩, hS.F ht⟩) hS.2.2 dX1_takesSign_86
  · have hF := gel c_ hF
    refine lv_iconst (v := (0 : Int32)) hx hb dX1_takesSign_78 (by decide) ?_
    cases hF
    exact W.zret hx hb hr (by decide) (fun t ht hW => ⟨⟨_, (), rfl, rfl, by rw [ht]; exact hP, hD⟩, hS.F ht⟩) hS.2.2 dX1_takesSign_79
set_option maxHeartbeats 4000000 in
set_option maxRecDepth 100000 in
theorem t_X1_takesSign_62 {p : Program} {l : Launch} {e : Env} {s : State} {m : MethodId} {args : Array Value} {below : List Frame} {meth : Method} {c : Code} {dC : Nat → ClassId} {dI : Nat → Nat → Nat} {cyI cyJ cyA : ClassId} {A : Nat → Prop} {h_me : Nat} {z_letters z_length z_numbers : Value} {r : Int32} {q_due : Int32} (C0 : Cx p s m args meth c cX1_takesSign 3 (some .boolean) wsX1_takesSign RX1 (dC, dI) cyI cyJ cyA) (hA : ∀ q : Nat, s.heap.size ≤ q → A q)  : ∀ (s0 : Int32) (l1 : Int32) (v_order : Int32) (v_done : Int32) (v_due : Int32), F_X1_takesSign_62  s0 l1 v_order v_done v_due = some (r, q_due) → ∀ {H : Heap} {locs : List Loc} {ls : Array Slot}, va_P (dC, dI) vwCl [(h_me, .inr (1, [z_letters, z_length, z_numbers, .int v_order, .int v_done, .int v_due]))] H → va_D A [(h_me, .inr (1, [z_letters, z_length, z_numbers, .int v_order, .int v_done, .int v_due]))] → va_S A s.heap H locs → lv_has ls 3 [(0, .ref h_me), (1, .int l1)] → W p l e rmX1_takesSign s m args below meth c H locs 0 0 (MQ below (QI (dC, dI) A [(h_me, .inr (1, [z_letters, z_length, z_numbers, .int v_order, .int v_done, .int q_due]))] r) args s 0 0 A) (F0 m 62 ls [.int s0]) := by
  obtain ⟨hx, hb, hr, hml, hown, hts, hKK, hlocks⟩ := id C0
  have hK := hKK.1
  intro s0 l1 v_order v_done v_due hF H locs ls hP hD hS hl
  unfold F_X1_takesSign_62 at hF
  refine lv_istore_n (lv' := [(2, .int s0), (0, .ref h_me), (1, .int l1)]) hx hb dX1_takesSign_62 rfl hl (by decide) rfl (fun ls hl => ?_)
  refine lv_iload_n hx hb dX1_takesSign_63 rfl (lv_at hl 2 rfl) ?_
  refine lv_iload_n hx hb dX1_takesSign_64 rfl (lv_at hl 0 rfl) ?_
  refine lv_if_eq (tgt := 73) hx hb dX1_takesSign_65 (by decide) (fun c_ => ?_) (fun c_ => ?_)
  · have hF := gif c_ hF
    refine lv_bipush (v := (44 : Int32)) hx hb dX1_takesSign_73 (by decide) ?_
    exact t_X1_takesSign_75 C0 hA   l1 (44 : Int32) v_order v_done v_due hF hP hD hS (lv_sub hl [1] rfl)
  · have hF := gel c_ hF
    refine lv_bipush (v := (59 : Int32)) hx hb dX1_takesSign_68 (by decide) ?_
    refine lv_goto (tgt := 75) hx hb dX1_takesSign_70 (by decide) ?_
    exact t_X1_takesSign_75 C0 hA   l1 (59 : Int32) v_order v_done v_due hF hP hD hS (lv_sub hl [1] rfl)
set_option maxHeartbeats 4000000 in
set_option maxRecDepth 100000 in
theorem t_X1_takesSign_57 {p : Program} {l : Launch} {e : Env} {s : State} {m : MethodId} {args : Array Value} {below : List Frame} {meth : Method} {c : Code} {dC : Nat → ClassId} {dI : Nat → Nat → Nat} {cyI cyJ cyA : ClassId} {A : Nat → Prop} {h_me : Nat} {z_letters z_length z_numbers : Value} {r : Int32} {q_due : Int32} (C0 : Cx p s m args meth c cX1_takesSign 3 (some .boolean) wsX1_takesSign RX1 (dC, dI) cyI cyJ cyA) (hA : ∀ q : Nat, s.heap.size ≤ q → A q)  : ∀ (l1 : Int32) (v_order : Int32) (v_done : Int32) (v_due : Int32), F_X1_takesSign_57  l1 v_order v_done v_due = some (r, q_due) → ∀ {H : Heap} {locs : List Loc} {ls : Array Slot}, va_P (dC, dI) vwCl [(h_me, .inr (1, [z_letters, z_length, z_numbers, .int v_order, .int v_done, .int v_due]))] H → va_D A [(h_me, .inr (1, [z_letters, z_length, z_numbers, .int v_order, .int v_done, .int v_due]))] → va_S A s.heap H locs → lv_has ls 3 [(0, .ref h_me), (1, .int l1)] → W p l e rmX1_takesSign s m args below meth c H locs 0 0 (MQ below (QI (dC, dI) A [(h_me, .inr (1, [z_letters, z_length, z_numbers, .int v_order, .int v_done, .int q_due]))] r) args s 0 0 A) (F0 m 57 ls []) := by
  obtain ⟨hx, hb, hr, hml, hown, hts, hKK, hlocks⟩ := id C0
  have hK := hKK.1
  intro l1 v_order v_done v_due hF H locs ls hP hD hS hl
  unfold F_X1_takesSign_57 at hF
  refine lv_iconst (v := (1 : Int32)) hx hb dX1_takesSign_57 (by decide) ?_
  refine lv_goto (tgt := 62) hx hb dX1_takesSign_58 (by decide) ?_
  exact t_X1_takesSign_62 C0 hA   (1 : Int32) l1 v_order v_done v_due hF hP hD hS (lv_sub hl [0, 1] rfl)
set_option maxHeartbeats 4000000 in
set_option maxRecDepth 100000 in
theorem c_X1_takesSign (l : Launch) (dC : Nat → ClassId) (dI : Nat → Nat → Nat) (cyI cyJ cyA : ClassId) (h_me : Nat) (z_letters z_length z_numbers : Value) (v_order : Int32) (v_done : Int32) (v_due : Int32) (l1 : Int32) {r : Int32} {q_due : Int32} (hF : F_X1_takesSign l1 v_order v_done v_due = some (r, q_due)) (sz : Nat) : Met l yX1_takesSign wsX1_takesSign rmX1_takesSign (va_Pc [.ref h_me, .int l1] (PC (dC, dI) cyI cyJ cyA [(h_me, .inr (1, [z_letters, z_length, z_numbers, .int v_order, .int v_done, .int v_due]))] sz)) (QI (dC, dI) (va_A [(h_me, .inr (1, [z_letters, z_length, z_numbers, .int v_order, .int v_done, .int v_due]))] sz) [(h_me, .inr (1, [z_letters, z_length, z_numbers, .int v_order, .int v_done, .int q_due]))] r) 0 0 (va_A [(h_me, .inr (1, [z_letters, z_length, z_numbers, .int v_order, .int v_done, .int v_due]))] sz) := by
  refine Met.ofW (cc := cX1_takesSign) (maxL := 3) (ret := (some .boolean)) (by decide) rfl ?_
  intro p e s m args below meth c s₁ B hml hv
  obtain ⟨rfl, hsz, hP, hKK, hD0⟩ := hv
  have hx := B.exec
  have hb := B.bytes
  have hr := B.returns
  have hts := atoms_spec (ws := wsX1_takesSign) B.pre
  have hown : s.vm.findClass RX1 = some m.cls := findClass_of_methodNamed B.named
  have hlocks := B.notSynchronized
  have C0 : Cx p s m ([.ref h_me, .int l1] : List Value).toArray meth c cX1_takesSign 3 (some .boolean) wsX1_takesSign RX1 (dC, dI) cyI cyJ cyA := ⟨hx, hb, hr, hml, hown, hts, hKK, hlocks⟩
  have hK := hKK.1
  subst hsz
  have hD := hD0.self (sz := s.heap.size)
  generalize hAe : va_A [(h_me, .inr (1, [z_letters, z_length, z_numbers, .int v_order, .int v_done, .int v_due]))] s.heap.size = A at hD ⊢
  have hA : ∀ q : Nat, s.heap.size ≤ q → A q := fun q h => by rw [← hAe]; exact Or.inr h
  have hS : va_S A s.heap s.heap [] := va_S.rf
  have hl := lv_entry ([.ref h_me, .int l1]) (n := 3) (Nat.le_of_ble_eq_true rfl)
  rw [lg_entry_eq]
  generalize (lg_sl ([.ref h_me, .int l1]) ++ List.replicate (3 - (lg_sl ([.ref h_me, .int l1])).length) Slot.unset).toArray = ls at hl ⊢
  have hl : lv_has ls 3 [(0, .ref h_me), (1, .int l1)] := hl
  unfold F_X1_takesSign at hF
  refine lv_aload_n hx hb dX1_takesSign_0 rfl (lv_at hl 0 rfl) ?_
  refine my_get (D := (dC, dI)) (ci := 1) (v := .int v_done) (C := RX1) (T := TX1) (N := 6) hx hb hts iX1_takesSign_X1 hown hK hP 0 rfl rfl 4 (by decide) (hts _ mX1_takesSign_1) rfl rfl dX1_takesSign_1 ?_
  refine lv_aload_n hx hb dX1_takesSign_4 rfl (lv_at hl 0 rfl) ?_
  obtain ⟨r1, hz1, hF⟩ := bd1_e hF
  refine kc_i (wr := []) (ws' := [(h_me, .inr (1, [z_letters, z_length, z_numbers, .int v_order, .int v_done, .int v_due]))]) (va_runV (As := []) (rest := [.int v_done]) ⟨hx, hb, hml, hown, hts⟩ (c_X1_needed l dC dI cyI cyJ cyA h_me z_letters z_length z_numbers (.int v_done) (.int v_due) v_order  hz1 _) (cwV 0 hts gX1_takesSign_X1_needed rfl rfl rfl ndX1_needed ⟨Nat.le_of_ble_eq_true rfl, Nat.le_of_ble_eq_true rfl⟩) (pre_V hKK hP hD 0 rfl rfl [0] (by decide) rfl rfl) rfl rfl hl.1 rfl (lv_room (Nat.le_of_ble_eq_true rfl)) dX1_takesSign_5 ⟨Nat.le_of_ble_eq_true rfl, Nat.le_of_ble_eq_true rfl⟩) hP hD hS hA [0] [] [0] rfl rfl (by decide) (by decide) (by decide) rfl rfl (fun H locs hP hD hS => ?_)
  refine lv_icmp_lt (tgt := 13) hx hb dX1_takesSign_8 (by decide) (fun c_ => ?_) (fun c_ => ?_)
  · have hF := gif c_ hF
    refine lv_aload_n hx hb dX1_takesSign_13 rfl (lv_at hl 0 rfl) ?_
    refine my_get (D := (dC, dI)) (ci := 1) (v := .int v_done) (C := RX1) (T := TX1) (N := 6) hx hb hts iX1_takesSign_X1 hown hK hP 0 rfl rfl 4 (by decide) (hts _ mX1_takesSign_1) rfl rfl dX1_takesSign_14 ?_
    refine lv_if_eq (tgt := 57) hx hb dX1_takesSign_17 (by decide) (fun c_ => ?_) (fun c_ => ?_)
    · have hF := gif c_ hF
      exact t_X1_takesSign_57 C0 hA   l1 v_order v_done v_due hF hP hD hS (lv_sub hl [0, 1] rfl)
    · have hF := gel c_ hF
      refine lv_aload_n hx hb dX1_takesSign_20 rfl (lv_at hl 0 rfl) ?_
      refine my_get (D := (dC, dI)) (ci := 1) (v := .int v_done) (C := RX1) (T := TX1) (N := 6) hx hb hts iX1_takesSign_X1 hown hK hP 0 rfl rfl 4 (by decide) (hts _ mX1_takesSign_1) rfl rfl dX1_takesSign_21 ?_
      refine lv_aload_n hx hb dX1_takesSign_24 rfl (lv_at hl 0 rfl) ?_
      refine my_get (D := (dC, dI)) (ci := 1) (v := .int v_order) (C := RX1) (T := TX1) (N := 6) hx hb hts iX1_takesSign_X1 hown hK hP 0 rfl rfl 3 (by decide) (hts _ mX1_takesSign_2) rfl rfl dX1_takesSign_25 ?_
      refine lv_aload_n hx hb dX1_takesSign_28 rfl (lv_at hl 0 rfl) ?_
      refine my_get (D := (dC, dI)) (ci := 1) (v := .int v_order) (C := RX1) (T := TX1) (N := 6) hx hb hts iX1_takesSign_X1 hown hK hP 0 rfl rfl 3 (by decide) (hts _ mX1_takesSign_2) rfl rfl dX1_takesSign_29 ?_
      refine lv_imul hx hb dX1_takesSign_32 ?_
      refine lv_icmp_eq (tgt := 57) hx hb dX1_takesSign_33 (by decide) (fun c_ => ?_) (fun c_ => ?_)
      · have hF := gif c_ hF
        exact t_X1_takesSign_57 C0 hA   l1 v_order v_done v_due hF hP hD hS (lv_sub hl [0, 1] rfl)
      · have hF := gel c_ hF
        refine lv_aload_n hx hb dX1_takesSign_36 rfl (lv_at hl 0 rfl) ?_
        refine my_get (D := (dC, dI)) (ci := 1) (v := .int v_done) (C := RX1) (T := TX1) (N := 6) hx hb hts iX1_takesSign_X1 hown hK hP 0 rfl rfl 4 (by decide) (hts _ mX1_takesSign_1) rfl rfl dX1_takesSign_37 ?_
        refine lv_aload_n hx hb dX1_takesSign_40 rfl (lv_at hl 0 rfl) ?_
        refine my_get (D := (dC, dI)) (ci := 1) (v := .int v_order) (C := RX1) (T := TX1) (N := 6) hx hb hts iX1_takesSign_X1 hown hK hP 0 rfl rfl 3 (by decide) (hts _ mX1_takesSign_2) rfl rfl dX1_takesSign_41 ?_
        refine lv_aload_n hx hb dX1_takesSign_44 rfl (lv_at hl 0 rfl) ?_
        refine my_get (D := (dC, dI)) (ci := 1) (v := .int v_order) (C := RX1) (T := TX1) (N := 6) hx hb hts iX1_takesSign_X1 hown hK hP 0 rfl rfl 3 (by decide) (hts _ mX1_takesSign_2) rfl rfl dX1_takesSign_45 ?_
        refine lv_imul hx hb dX1_takesSign_48 ?_
        refine lv_aload_n hx hb dX1_takesSign_49 rfl (lv_at hl 0 rfl) ?_
        refine my_get (D := (dC, dI)) (ci := 1) (v := .int v_order) (C := RX1) (T := TX1) (N := 6) hx hb hts iX1_takesSign_X1 hown hK hP 0 rfl rfl 3 (by decide) (hts _ mX1_takesSign_2) rfl rfl dX1_takesSign_50 ?_
        refine lv_iadd hx hb dX1_takesSign_53 ?_
        refine lv_icmp_ne (tgt := 61) hx hb dX1_takesSign_54 (by decide) (fun c_ => ?_) (fun c_ => ?_)
        · have hF := gel c_ hF
          refine lv_iconst (v := (0 : Int32)) hx hb dX1_takesSign_61 (by decide) ?_
          exact t_X1_takesSign_62 C0 hA   (0 : Int32) l1 v_order v_done v_due hF hP hD hS (lv_sub hl [0, 1] rfl)
        · have hF := gif c_ hF
          exact t_X1_takesSign_57 C0 hA   l1 v_order v_done v_due hF hP hD hS (lv_sub hl [0, 1] rfl)
  · have hF := gel c_ hF
    refine lv_iconst (v := (0 : Int32)) hx hb dX1_takesSign_11 (by decide) ?_
    cases hF
    exact W.zret hx hb hr (by decide) (fun t ht hW => ⟨⟨_, (), rfl, rfl, by rw [ht]; exact hP, hD⟩, hS.F ht⟩) hS.2.2 dX1_takesSign_12
/-! RestGains$Page.keeps (I)Z -/
def rmX1_keeps : Room := { frames := 0, cells := 0, slots := 0, locals := 0 }
def F_X1_keeps (l1 : Int32) (v_done : Int32) (v_due : Int32) (v_numbers : Nat → Int32) : Option (Int32 × Int32 × Int32 × (Nat → Int32)) :=
  if v_done < (15 : Int32) then (if v_done < 0 ∨ 15 ≤ v_done.toNatClampNeg then none else some ((1 : Int32), (v_done + (1 : Int32)), (1 : Int32), (upd v_numbers v_done.toNatClampNeg l1))) else (some ((0 : Int32), v_done, v_due, v_numbers))
set_option maxHeartbeats 4000000 in
set_option maxRecDepth 100000 in
theorem c_X1_keeps (l : Launch) (dC : Nat → ClassId) (dI : Nat → Nat → Nat) (cyI cyJ cyA : ClassId) (h_me h_numbers : Nat) (z_letters z_length z_order : Value) (v_done : Int32) (v_due : Int32) (v_numbers : Nat → Int32) (l1 : Int32) {r : Int32} {q_done : Int32} {q_due : Int32} {q_numbers : Nat → Int32} (hF : F_X1_keeps l1 v_done v_due v_numbers = some (r, q_done, q_due, q_numbers)) (sz : Nat) : Met l yX1_keeps wsX1_keeps rmX1_keeps (va_Pc [.ref h_me, .int l1] (PC (dC, dI) cyI cyJ cyA [(h_me, .inr (1, [z_letters, z_length, .ref h_numbers, z_order, .int v_done, .int v_due])), (h_numbers, .inl (cyI, 15, .inl v_numbers))] sz)) (QI (dC, dI) (va_A [(h_me, .inr (1, [z_letters, z_length, .ref h_numbers, z_order, .int v_done, .int v_due])), (h_numbers, .inl (cyI, 15, .inl v_numbers))] sz) [(h_me, .inr (1, [z_letters, z_length, .ref h_numbers, z_order, .int q_done, .int q_due])), (h_numbers, .inl (cyI, 15, .inl q_numbers))] r) 0 0 (va_A [(h_me, .inr (1, [z_letters, z_length, .ref h_numbers, z_order, .int v_done, .int v_due])), (h_numbers, .inl (cyI, 15, .inl v_numbers))] sz) := by
  refine Met.ofW (cc := cX1_keeps) (maxL := 2) (ret := (some .boolean)) (by decide) rfl ?_
  intro p e s m args below meth c s₁ B hml hv
  obtain ⟨rfl, hsz, hP, hKK, hD0⟩ := hv
  have hx := B.exec
  have hb := B.bytes
  have hr := B.returns
  have hts := atoms_spec (ws := wsX1_keeps) B.pre
  have hown : s.vm.findClass RX1 = some m.cls := findClass_of_methodNamed B.named
  have hlocks := B.notSynchronized
  have C0 : Cx p s m ([.ref h_me, .int l1] : List Value).toArray meth c cX1_keeps 2 (some .boolean) wsX1_keeps RX1 (dC, dI) cyI cyJ cyA := ⟨hx, hb, hr, hml, hown, hts, hKK, hlocks⟩
  have hK := hKK.1
  subst hsz
  have hD := hD0.self (sz := s.heap.size)
  generalize hAe : va_A [(h_me, .inr (1, [z_letters, z_length, .ref h_numbers, z_order, .int v_done, .int v_due])), (h_numbers, .inl (cyI, 15, .inl v_numbers))] s.heap.size = A at hD ⊢
  have hA : ∀ q : Nat, s.heap.size ≤ q → A q := fun q h => by rw [← hAe]; exact Or.inr h
  have hS : va_S A s.heap s.heap [] := va_S.rf
  have hl := lv_entry ([.ref h_me, .int l1]) (n := 2) (Nat.le_of_ble_eq_true rfl)
  rw [lg_entry_eq]
  generalize (lg_sl ([.ref h_me, .int l1]) ++ List.replicate (2 - (lg_sl ([.ref h_me, .int l1])).length) Slot.unset).toArray = ls at hl ⊢
  have hl : lv_has ls 2 [(0, .ref h_me), (1, .int l1)] := hl
  unfold F_X1_keeps at hF
  refine lv_aload_n hx hb dX1_keeps_0 rfl (lv_at hl 0 rfl) ?_
  refine my_get (D := (dC, dI)) (ci := 1) (v := .int v_done) (C := RX1) (T := TX1) (N := 6) hx hb hts iX1_keeps_X1 hown hK hP 0 rfl rfl 4 (by decide) (hts _ mX1_keeps_1) rfl rfl dX1_keeps_1 ?_
  refine lv_bipush (v := (15 : Int32)) hx hb dX1_keeps_4 (by decide) ?_
  refine lv_icmp_lt (tgt := 11) hx hb dX1_keeps_6 (by decide) (fun c_ => ?_) (fun c_ => ?_)
  · have hF := gif c_ hF
    refine lv_aload_n hx hb dX1_keeps_11 rfl (lv_at hl 0 rfl) ?_
    refine my_get (D := (dC, dI)) (ci := 1) (v := .ref h_numbers) (C := RX1) (T := TX1) (N := 6) hx hb hts iX1_keeps_X1 hown hK hP 0 rfl rfl 2 (by decide) (hts _ mX1_keeps_2) rfl rfl dX1_keeps_12 ?_
    refine lv_aload_n hx hb dX1_keeps_15 rfl (lv_at hl 0 rfl) ?_
    refine my_get (D := (dC, dI)) (ci := 1) (v := .int v_done) (C := RX1) (T := TX1) (N := 6) hx hb hts iX1_keeps_X1 hown hK hP 0 rfl rfl 4 (by decide) (hts _ mX1_keeps_1) rfl rfl dX1_keeps_16 ?_
    refine lv_iload_n hx hb dX1_keeps_19 rfl (lv_at hl 1 rfl) ?_
    obtain ⟨g_1, hF⟩ := gno hF
    refine my_iast (ws' := [(h_me, .inr (1, [z_letters, z_length, .ref h_numbers, z_order, .int v_done, .int v_due])), (h_numbers, .inl (cyI, 15, .inl (upd v_numbers v_done.toNatClampNeg l1)))]) hx hb hK hP hD hS 1 0 rfl rfl g_1 dX1_keeps_20 rfl (fun H locs hP hD hS => ?_)
    refine lv_aload_n hx hb dX1_keeps_21 rfl (lv_at hl 0 rfl) ?_
    refine lv_dup hx hb dX1_keeps_22 rfl ?_
    refine my_get (D := (dC, dI)) (ci := 1) (v := .int v_done) (C := RX1) (T := TX1) (N := 6) hx hb hts iX1_keeps_X1 hown hK hP 0 rfl rfl 4 (by decide) (hts _ mX1_keeps_1) rfl rfl dX1_keeps_23 ?_
    refine lv_iconst (v := (1 : Int32)) hx hb dX1_keeps_26 (by decide) ?_
    refine lv_iadd hx hb dX1_keeps_27 ?_
    refine my_put (D := (dC, dI)) (ci := 1) (v := .int (v_done + (1 : Int32))) (ty := .int) (C := RX1) (T := TX1) (N := 6) (ws' := [(h_me, .inr (1, [z_letters, z_length, .ref h_numbers, z_order, .int (v_done + (1 : Int32)), .int v_due])), (h_numbers, .inl (cyI, 15, .inl (upd v_numbers v_done.toNatClampNeg l1)))]) hx hb hts iX1_keeps_X1 tyX1 tyX1_ok nmX1 hown hK hP hD hS 0 rfl rfl 4 (by decide) (hts _ mX1_keeps_1) rfl rfl rfl rfl rfl (Nat.le_of_ble_eq_true rfl) dX1_keeps_28 rfl (fun H locs hP hD hS => ?_)
    refine lv_aload_n hx hb dX1_keeps_31 rfl (lv_at hl 0 rfl) ?_
    refine lv_iconst (v := (1 : Int32)) hx hb dX1_keeps_32 (by decide) ?_
    refine my_put (D := (dC, dI)) (ci := 1) (v := .int (1 : Int32)) (ty := .int) (C := RX1) (T := TX1) (N := 6) (ws' := [(h_me, .inr (1, [z_letters, z_length, .ref h_numbers, z_order, .int (v_done + (1 : Int32)), .int (1 : Int32)])), (h_numbers, .inl (cyI, 15, .inl (upd v_numbers v_done.toNatClampNeg l1)))]) hx hb hts iX1_keeps_X1 tyX1 tyX1_ok nmX1 hown hK hP hD hS 0 rfl rfl 5 (by decide) (hts _ mX1_keeps_3) rfl rfl rfl rfl rfl (Nat.le_of_ble_eq_true rfl) dX1_keeps_33 rfl (fun H locs hP hD hS => ?_)
    refine lv_iconst (v := (1 : Int32)) hx hb dX1_keeps_36 (by decide) ?_
    cases hF
    exact W.zret hx hb hr (by decide) (fun t ht hW => ⟨⟨_, (), rfl, rfl, by rw [ht]; exact hP, hD⟩, hS.F ht⟩) hS.2.2 dX1_keeps_37
  · have hF := gel c_ hF
    refine lv_iconst (v := (0 : Int32)) hx hb dX1_keeps_9 (by decide) ?_
    cases hF
    exact W.zret hx hb hr (by decide) (fun t ht hW => ⟨⟨_, (), rfl, rfl, by rw [ht]; exact hP, hD⟩, hS.F ht⟩) hS.2.2 dX1_keeps_10
/-! RestGains$Page.takesNumber (I)Z -/
def rmX1_takesNumber : Room := { frames := 1, cells := 0, slots := 0, locals := 21 }
def F_X1_takesNumber (l1 : Int32) (v_done : Int32) (v_due : Int32) (v_numbers : Nat → Int32) : Option (Int32 × Int32 × Int32 × (Nat → Int32)) :=
  if l1 = (45 : Int32) then (some ((1 : Int32), v_done, (3 : Int32), v_numbers)) else (if l1 < (48 : Int32) then (some ((0 : Int32), v_done, v_due, v_numbers)) else (if (50 : Int32) < l1 then (some ((0 : Int32), v_done, v_due, v_numbers)) else (bd4 (F_X1_keeps (l1 - (48 : Int32)) v_done v_due v_numbers) (fun r1 x1_done x1_due x1_numbers => if r1 = 0 then (some ((0 : Int32), x1_done, x1_due, x1_numbers)) else (some ((1 : Int32), x1_done, x1_due, x1_numbers))))))
set_option maxHeartbeats 4000000 in
set_option maxRecDepth 100000 in
theorem c_X1_takesNumber (l : Launch) (dC : Nat → ClassId) (dI : Nat → Nat → Nat) (cyI cyJ cyA : ClassId) (h_me h_numbers : Nat) (z_letters z_length z_order : Value) (v_done : Int32) (v_due : Int32) (v_numbers : Nat → Int32) (l1 : Int32) {r : Int32} {q_done : Int32} {q_due : Int32} {q_numbers : Nat → Int32} (hF : F_X1_takesNumber l1 v_done v_due v_numbers = some (r, q_done, q_due, q_numbers)) (sz : Nat) : Met l yX1_takesNumber wsX1_takesNumber rmX1_takesNumber (va_Pc [.ref h_me, .int l1] (PC (dC, dI) cyI cyJ cyA [(h_me, .inr (1, [z_letters, z_length, .ref h_numbers, z_order, .int v_done, .int v_due])), (h_numbers, .inl (cyI, 15, .inl v_numbers))] sz)) (QI (dC, dI) (va_A [(h_me, .inr (1, [z_letters, z_length, .ref h_numbers, z_order, .int v_done, .int v_due])), (h_numbers, .inl (cyI, 15, .inl v_numbers))] sz) [(h_me, .inr (1, [z_letters, z_length, .ref h_numbers, z_order, .int q_done, .int q_due])), (h_numbers, .inl (cyI, 15, .inl q_numbers))] r) 0 0 (va_A [(h_me, .inr (1, [z_letters, z_length, .ref h_numbers, z_order, .int v_done, .int v_due])), (h_numbers, .inl (cyI, 15, .inl v_numbers))] sz) := by
  refine Met.ofW (cc := cX1_takesNumber) (maxL := 2) (ret := (some .boolean)) (by decide) rfl ?_
  intro p e s m args below meth c s₁ B hml hv
  obtain ⟨rfl, hsz, hP, hKK, hD0⟩ := hv
  have hx := B.exec
  have hb := B.bytes
  have hr := B.returns
  have hts := atoms_spec (ws := wsX1_takesNumber) B.pre
  have hown : s.vm.findClass RX1 = some m.cls := findClass_of_methodNamed B.named
  have hlocks := B.notSynchronized
  have C0 : Cx p s m ([.ref h_me, .int l1] : List Value).toArray meth c cX1_takesNumber 2 (some .boolean) wsX1_takesNumber RX1 (dC, dI) cyI cyJ cyA := ⟨hx, hb, hr, hml, hown, hts, hKK, hlocks⟩
  have hK := hKK.1
  subst hsz
  have hD := hD0.self (sz := s.heap.size)
  generalize hAe : va_A [(h_me, .inr (1, [z_letters, z_length, .ref h_numbers, z_order, .int v_done, .int v_due])), (h_numbers, .inl (cyI, 15, .inl v_numbers))] s.heap.size = A at hD ⊢
  have hA : ∀ q : Nat, s.heap.size ≤ q → A q := fun q h => by rw [← hAe]; exact Or.inr h
  have hS : va_S A s.heap s.heap [] := va_S.rf
  have hl := lv_entry ([.ref h_me, .int l1]) (n := 2) (Nat.le_of_ble_eq_true rfl)
  rw [lg_entry_eq]
  generalize (lg_sl ([.ref h_me, .int l1]) ++ List.replicate (2 - (lg_sl ([.ref h_me, .int l1])).length) Slot.unset).toArray = ls at hl ⊢
  have hl : lv_has ls 2 [(0, .ref h_me), (1, .int l1)] := hl
  unfold F_X1_takesNumber at hF
  refine lv_iload_n hx hb dX1_takesNumber_0 rfl (lv_at hl 1 rfl) ?_
  refine lv_bipush (v := (45 : Int32)) hx hb dX1_takesNumber_1 (by decide) ?_
  refine lv_icmp_ne (tgt := 13) hx hb dX1_takesNumber_3 (by decide) (fun c_ => ?_) (fun c_ => ?_)
  · have hF := gel c_ hF
    refine lv_iload_n hx hb dX1_takesNumber_13 rfl (lv_at hl 1 rfl) ?_
    refine lv_bipush (v := (48 : Int32)) hx hb dX1_takesNumber_14 (by decide) ?_
    refine lv_icmp_lt (tgt := 40) hx hb dX1_takesNumber_16 (by decide) (fun c_ => ?_) (fun c_ => ?_)
    · have hF := gif c_ hF
      refine lv_iconst (v := (0 : Int32)) hx hb dX1_takesNumber_40 (by decide) ?_
      cases hF
      exact W.zret hx hb hr (by decide) (fun t ht hW => ⟨⟨_, (), rfl, rfl, by rw [ht]; exact hP, hD⟩, hS.F ht⟩) hS.2.2 dX1_takesNumber_41
    · have hF := gel c_ hF
      refine lv_iload_n hx hb dX1_takesNumber_19 rfl (lv_at hl 1 rfl) ?_
      refine lv_bipush (v := (50 : Int32)) hx hb dX1_takesNumber_20 (by decide) ?_
      refine lv_icmp_gt (tgt := 40) hx hb dX1_takesNumber_22 (by decide) (fun c_ => ?_) (fun c_ => ?_)
      · have hF := gif c_ hF
        refine lv_iconst (v := (0 : Int32)) hx hb dX1_takesNumber_40 (by decide) ?_
        cases hF
        exact W.zret hx hb hr (by decide) (fun t ht hW => ⟨⟨_, (), rfl, rfl, by rw [ht]; exact hP, hD⟩, hS.F ht⟩) hS.2.2 dX1_takesNumber_41
      · have hF := gel c_ hF
        refine lv_aload_n hx hb dX1_takesNumber_25 rfl (lv_at hl 0 rfl) ?_
        refine lv_iload_n hx hb dX1_takesNumber_26 rfl (lv_at hl 1 rfl) ?_
        refine lv_bipush (v := (48 : Int32)) hx hb dX1_takesNumber_27 (by decide) ?_
        refine lv_isub hx hb dX1_takesNumber_29 ?_
        obtain ⟨r1, x1_done, x1_due, x1_numbers, hz1, hF⟩ := bd4_e hF
        refine kc_i (wr := []) (ws' := [(h_me, .inr (1, [z_letters, z_length, .ref h_numbers, z_order, .int x1_done, .int x1_due])), (h_numbers, .inl (cyI, 15, .inl x1_numbers))]) (va_runV (As := [.int (l1 - (48 : Int32))]) (rest := []) ⟨hx, hb, hml, hown, hts⟩ (c_X1_keeps l dC dI cyI cyJ cyA h_me h_numbers z_letters z_length z_order v_done v_due v_numbers (l1 - (48 : Int32)) hz1 _) (cwV 1 hts gX1_takesNumber_X1_keeps rfl rfl rfl ndX1_keeps ⟨Nat.le_of_ble_eq_true rfl, Nat.le_of_ble_eq_true rfl⟩) (pre_V hKK hP hD 0 rfl rfl [0, 1] (by decide) rfl rfl) rfl rfl hl.1 rfl (lv_room (Nat.le_of_ble_eq_true rfl)) dX1_takesNumber_30 ⟨Nat.le_of_ble_eq_true rfl, Nat.le_of_ble_eq_true rfl⟩) hP hD hS hA [0, 1] [] [0, 1] rfl rfl (by decide) (by decide) (by decide) rfl rfl (fun H locs hP hD hS => ?_)
        refine lv_if_eq (tgt := 40) hx hb dX1_takesNumber_33 (by decide) (fun c_ => ?_) (fun c_ => ?_)
        · have hF := gif c_ hF
          refine lv_iconst (v := (0 : Int32)) hx hb dX1_takesNumber_40 (by decide) ?_
          cases hF
          exact W.zret hx hb hr (by decide) (fun t ht hW => ⟨⟨_, (), rfl, rfl, by rw [ht]; exact hP, hD⟩, hS.F ht⟩) hS.2.2 dX1_takesNumber_41
        · have hF := gel c_ hF
          refine lv_iconst (v := (1 : Int32)) hx hb dX1_takesNumber_36 (by decide) ?_
          refine lv_goto (tgt := 41) hx hb dX1_takesNumber_37 (by decide) ?_
          cases hF
          exact W.zret hx hb hr (by decide) (fun t ht hW => ⟨⟨_, (), rfl, rfl, by rw [ht]; exact hP, hD⟩, hS.F ht⟩) hS.2.2 dX1_takesNumber_41
  · have hF := gif c_ hF
    refine lv_aload_n hx hb dX1_takesNumber_6 rfl (lv_at hl 0 rfl) ?_
    refine lv_iconst (v := (3 : Int32)) hx hb dX1_takesNumber_7 (by decide) ?_
    refine my_put (D := (dC, dI)) (ci := 1) (v := .int (3 : Int32)) (ty := .int) (C := RX1) (T := TX1) (N := 6) (ws' := [(h_me, .inr (1, [z_letters, z_length, .ref h_numbers, z_order, .int v_done, .int (3 : Int32)])), (h_numbers, .inl (cyI, 15, .inl v_numbers))]) hx hb hts iX1_takesNumber_X1 tyX1 tyX1_ok nmX1 hown hK hP hD hS 0 rfl rfl 5 (by decide) (hts _ mX1_takesNumber_1) rfl rfl rfl rfl rfl (Nat.le_of_ble_eq_true rfl) dX1_takesNumber_8 rfl (fun H locs hP hD hS => ?_)
    refine lv_iconst (v := (1 : Int32)) hx hb dX1_takesNumber_11 (by decide) ?_
    cases hF
    exact W.zret hx hb hr (by decide) (fun t ht hW => ⟨⟨_, (), rfl, rfl, by rw [ht]; exact hP, hD⟩, hS.F ht⟩) hS.2.2 dX1_takesNumber_12
/-! RestGains$Page.takesFigure (I)Z -/
def rmX1_takesFigure : Room := { frames := 1, cells := 0, slots := 0, locals := 21 }
def F_X1_takesFigure (l1 : Int32) (v_done : Int32) (v_due : Int32) (v_numbers : Nat → Int32) : Option (Int32 × Int32 × Int32 × (Nat → Int32)) :=
  if l1 < (49 : Int32) then (some ((0 : Int32), v_done, v_due, v_numbers)) else (if (50 : Int32) < l1 then (some ((0 : Int32), v_done, v_due, v_numbers)) else (bd4 (F_X1_keeps ((48 : Int32) - l1) v_done v_due v_numbers) (fun r1 x1_done x1_due x1_numbers => if r1 = 0 then (some ((0 : Int32), x1_done, x1_due, x1_numbers)) else (some ((1 : Int32), x1_done, x1_due, x1_numbers)))))
set_option maxHeartbeats 4000000 in
set_option maxRecDepth 100000 in
theorem c_X1_takesFigure (l : Launch) (dC : Nat → ClassId) (dI : Nat → Nat → Nat) (cyI cyJ cyA : ClassId) (h_me h_numbers : Nat) (z_letters z_length z_order : Value) (v_done : Int32) (v_due : Int32) (v_numbers : Nat → Int32) (l1 : Int32) {r : Int32} {q_done : Int32} {q_due : Int32} {q_numbers : Nat → Int32} (hF : F_X1_takesFigure l1 v_done v_due v_numbers = some (r, q_done, q_due, q_numbers)) (sz : Nat) : Met l yX1_takesFigure wsX1_takesFigure rmX1_takesFigure (va_Pc [.ref h_me, .int l1] (PC (dC, dI) cyI cyJ cyA [(h_me, .inr (1, [z_letters, z_length, .ref h_numbers, z_order, .int v_done, .int v_due])), (h_numbers, .inl (cyI, 15, .inl v_numbers))] sz)) (QI (dC, dI) (va_A [(h_me, .inr (1, [z_letters, z_length, .ref h_numbers, z_order, .int v_done, .int v_due])), (h_numbers, .inl (cyI, 15, .inl v_numbers))] sz) [(h_me, .inr (1, [z_letters, z_length, .ref h_numbers, z_order, .int q_done, .int q_due])), (h_numbers, .inl (cyI, 15, .inl q_numbers))] r) 0 0 (va_A [(h_me, .inr (1, [z_letters, z_length, .ref h_numbers, z_order, .int v_done, .int v_due])), (h_numbers, .inl (cyI, 15, .inl v_numbers))] sz) := by
  refine Met.ofW (cc := cX1_takesFigure) (maxL := 2) (ret := (some .boolean)) (by decide) rfl ?_
  intro p e s m args below meth c s₁ B hml hv
  obtain ⟨rfl, hsz, hP, hKK, hD0⟩ := hv
  have hx := B.exec
  have hb := B.bytes
  have hr := B.returns
  have hts := atoms_spec (ws := wsX1_takesFigure) B.pre
  have hown : s.vm.findClass RX1 = some m.cls := findClass_of_methodNamed B.named
  have hlocks := B.notSynchronized
  have C0 : Cx p s m ([.ref h_me, .int l1] : List Value).toArray meth c cX1_takesFigure 2 (some .boolean) wsX1_takesFigure RX1 (dC, dI) cyI cyJ cyA := ⟨hx, hb, hr, hml, hown, hts, hKK, hlocks⟩
  have hK := hKK.1
  subst hsz
  have hD := hD0.self (sz := s.heap.size)
  generalize hAe : va_A [(h_me, .inr (1, [z_letters, z_length, .ref h_numbers, z_order, .int v_done, .int v_due])), (h_numbers, .inl (cyI, 15, .inl v_numbers))] s.heap.size = A at hD ⊢
  have hA : ∀ q : Nat, s.heap.size ≤ q → A q := fun q h => by rw [← hAe]; exact Or.inr h
  have hS : va_S A s.heap s.heap [] := va_S.rf
  have hl := lv_entry ([.ref h_me, .int l1]) (n := 2) (Nat.le_of_ble_eq_true rfl)
  rw [lg_entry_eq]
  generalize (lg_sl ([.ref h_me, .int l1]) ++ List.replicate (2 - (lg_sl ([.ref h_me, .int l1])).length) Slot.unset).toArray = ls at hl ⊢
  have hl : lv_has ls 2 [(0, .ref h_me), (1, .int l1)] := hl
  unfold F_X1_takesFigure at hF
  refine lv_iload_n hx hb dX1_takesFigure_0 rfl (lv_at hl 1 rfl) ?_
  refine lv_bipush (v := (49 : Int32)) hx hb dX1_takesFigure_1 (by decide) ?_
  refine lv_icmp_lt (tgt := 27) hx hb dX1_takesFigure_3 (by decide) (fun c_ => ?_) (fun c_ => ?_)
  · have hF := gif c_ hF
    refine lv_iconst (v := (0 : Int32)) hx hb dX1_takesFigure_27 (by decide) ?_
    cases hF
    exact W.zret hx hb hr (by decide) (fun t ht hW => ⟨⟨_, (), rfl, rfl, by rw [ht]; exact hP, hD⟩, hS.F ht⟩) hS.2.2 dX1_takesFigure_28
  · have hF := gel c_ hF
    refine lv_iload_n hx hb dX1_takesFigure_6 rfl (lv_at hl 1 rfl) ?_
    refine lv_bipush (v := (50 : Int32)) hx hb dX1_takesFigure_7 (by decide) ?_
    refine lv_icmp_gt (tgt := 27) hx hb dX1_takesFigure_9 (by decide) (fun c_ => ?_) (fun c_ => ?_)
    · have hF := gif c_ hF
      refine lv_iconst (v := (0 : Int32)) hx hb dX1_takesFigure_27 (by decide) ?_
      cases hF
      exact W.zret hx hb hr (by decide) (fun t ht hW => ⟨⟨_, (), rfl, rfl, by rw [ht]; exact hP, hD⟩, hS.F ht⟩) hS.2.2 dX1_takesFigure_28
    · have hF := gel c_ hF
      refine lv_aload_n hx hb dX1_takesFigure_12 rfl (lv_at hl 0 rfl) ?_
      refine lv_bipush (v := (48 : Int32)) hx hb dX1_takesFigure_13 (by decide) ?_
      refine lv_iload_n hx hb dX1_takesFigure_15 rfl (lv_at hl 1 rfl) ?_
      refine lv_isub hx hb dX1_takesFigure_16 ?_
      obtain ⟨r1, x1_done, x1_due, x1_numbers, hz1, hF⟩ := bd4_e hF
      refine kc_i (wr := []) (ws' := [(h_me, .inr (1, [z_letters, z_length, .ref h_numbers, z_order, .int x1_done, .int x1_due])), (h_numbers, .inl (cyI, 15, .inl x1_numbers))]) (va_runV (As := [.int ((48 : Int32) - l1)]) (rest := []) ⟨hx, hb, hml, hown, hts⟩ (c_X1_keeps l dC dI cyI cyJ cyA h_me h_numbers z_letters z_length z_order v_done v_due v_numbers ((48 : Int32) - l1) hz1 _) (cwV 1 hts gX1_takesFigure_X1_keeps rfl rfl rfl ndX1_keeps ⟨Nat.le_of_ble_eq_true rfl, Nat.le_of_ble_eq_true rfl⟩) (pre_V hKK hP hD 0 rfl rfl [0, 1] (by decide) rfl rfl) rfl rfl hl.1 rfl (lv_room (Nat.le_of_ble_eq_true rfl)) dX1_takesFigure_17 ⟨Nat.le_of_ble_eq_true rfl, Nat.le_of_ble_eq_true rfl⟩) hP hD hS hA [0, 1] [] [0, 1] rfl rfl (by decide) (by decide) (by decide) rfl rfl (fun H locs hP hD hS => ?_)
      refine lv_if_eq (tgt := 27) hx hb dX1_takesFigure_20 (by decide) (fun c_ => ?_) (fun c_ => ?_)
      · have hF := gif c_ hF
        refine lv_iconst (v := (0 : Int32)) hx hb dX1_takesFigure_27 (by decide) ?_
        cases hF
        exact W.zret hx hb hr (by decide) (fun t ht hW => ⟨⟨_, (), rfl, rfl, by rw [ht]; exact hP, hD⟩, hS.F ht⟩) hS.2.2 dX1_takesFigure_28
      · have hF := gel c_ hF
        refine lv_iconst (v := (1 : Int32)) hx hb dX1_takesFigure_23 (by decide) ?_
        refine lv_goto (tgt := 28) hx hb dX1_takesFigure_24 (by decide) ?_
        cases hF
        exact W.zret hx hb hr (by decide) (fun t ht hW => ⟨⟨_, (), rfl, rfl, by rw [ht]; exact hP, hD⟩, hS.F ht⟩) hS.2.2 dX1_takesFigure_28
/-! RestGains$Page.takes (I)Z -/
def rmX1_takes : Room := { frames := 2, cells := 0, slots := 0, locals := 42 }
def F_X1_takes (l1 : Int32) (v_order : Int32) (v_done : Int32) (v_due : Int32) (v_numbers : Nat → Int32) : Option (Int32 × Int32 × Int32 × Int32 × (Nat → Int32)) :=
  if v_due = 0 then (bd3 (F_X1_takesOrder l1 v_order v_due) (fun r1 x1_order x1_due => if ¬ r1 &&& 1 = r1 then none else some (r1, x1_order, v_done, x1_due, v_numbers))) else if v_due = 1 then (bd2 (F_X1_takesSign l1 v_order v_done v_due) (fun r3 x3_due => if ¬ r3 &&& 1 = r3 then none else some (r3, v_order, v_done, x3_due, v_numbers))) else if v_due = 2 then (bd4 (F_X1_takesNumber l1 v_done v_due v_numbers) (fun r5 x5_done x5_due x5_numbers => if ¬ r5 &&& 1 = r5 then none else some (r5, v_order, x5_done, x5_due, x5_numbers))) else (bd4 (F_X1_takesFigure l1 v_done v_due v_numbers) (fun r7 x7_done x7_due x7_numbers => if ¬ r7 &&& 1 = r7 then none else some (r7, v_order, x7_done, x7_due, x7_numbers)))
set_option maxHeartbeats 4000000 in
set_option maxRecDepth 100000 in
theorem c_X1_takes (l : Launch) (dC : Nat → ClassId) (dI : Nat → Nat → Nat) (cyI cyJ cyA : ClassId) (h_me h_numbers : Nat) (z_letters z_length : Value) (v_order : Int32) (v_done : Int32) (v_due : Int32) (v_numbers : Nat → Int32) (l1 : Int32) {r : Int32} {q_order : Int32} {q_done : Int32} {q_due : Int32} {q_numbers : Nat → Int32} (hF : F_X1_takes l1 v_order v_done v_due v_numbers = some (r, q_order, q_done, q_due, q_numbers)) (sz : Nat) : Met l yX1_takes wsX1_takes rmX1_takes (va_Pc [.ref h_me, .int l1] (PC (dC, dI) cyI cyJ cyA [(h_me, .inr (1, [z_letters, z_length, .ref h_numbers, .int v_order, .int v_done, .int v_due])), (h_numbers, .inl (cyI, 15, .inl v_numbers))] sz)) (QI (dC, dI) (va_A [(h_me, .inr (1, [z_letters, z_length, .ref h_numbers, .int v_order, .int v_done, .int v_due])), (h_numbers, .inl (cyI, 15, .inl v_numbers))] sz) [(h_me, .inr (1, [z_letters, z_length, .ref h_numbers, .int q_order, .int q_done, .int q_due])), (h_numbers, .inl (cyI, 15, .inl q_numbers))] r) 0 0 (va_A [(h_me, .inr (1, [z_letters, z_length, .ref h_numbers, .int v_order, .int v_done, .int v_due])), (h_numbers, .inl (cyI, 15, .inl v_numbers))] sz) := by
  refine Met.ofW (cc := cX1_takes) (maxL := 2) (ret := (some .boolean)) (by decide) rfl ?_
  intro p e s m args below meth c s₁ B hml hv
  obtain ⟨rfl, hsz, hP, hKK, hD0⟩ := hv
  have hx := B.exec
  have hb := B.bytes
  have hr := B.returns
  have hts := atoms_spec (ws := wsX1_takes) B.pre
  have hown : s.vm.findClass RX1 = some m.cls := findClass_of_methodNamed B.named
  have hlocks := B.notSynchronized
  have C0 : Cx p s m ([.ref h_me, .int l1] : List Value).toArray meth c cX1_takes 2 (some .boolean) wsX1_takes RX1 (dC, dI) cyI cyJ cyA := ⟨hx, hb, hr, hml, hown, hts, hKK, hlocks⟩
  have hK := hKK.1
  subst hsz
  have hD := hD0.self (sz := s.heap.size)
  generalize hAe : va_A [(h_me, .inr (1, [z_letters, z_length, .ref h_numbers, .int v_order, .int v_done, .int v_due])), (h_numbers, .inl (cyI, 15, .inl v_numbers))] s.heap.size = A at hD ⊢
  have hA : ∀ q : Nat, s.heap.size ≤ q → A q := fun q h => by rw [← hAe]; exact Or.inr h
  have hS : va_S A s.heap s.heap [] := va_S.rf
  have hl := lv_entry ([.ref h_me, .int l1]) (n := 2) (Nat.le_of_ble_eq_true rfl)
  rw [lg_entry_eq]
  generalize (lg_sl ([.ref h_me, .int l1]) ++ List.replicate (2 - (lg_sl ([.ref h_me, .int l1])).length) Slot.unset).toArray = ls at hl ⊢
  have hl : lv_has ls 2 [(0, .ref h_me), (1, .int l1)] := hl
  unfold F_X1_takes at hF
  refine lv_aload_n hx hb dX1_takes_0 rfl (lv_at hl 0 rfl) ?_
  refine my_get (D := (dC, dI)) (ci := 1) (v := .int v_due) (C := RX1) (T := TX1) (N := 6) hx hb hts iX1_takes_X1 hown hK hP 0 rfl rfl 5 (by decide) (hts _ mX1_takes_1) rfl rfl dX1_takes_1 ?_
  by_cases c0_ : v_due = 0
  · have hF := gif c0_ hF
    refine lv_tableIn (tgt := 32) hx hb dX1_takes_4 (by rw [c0_]; decide) (by rw [c0_]; decide) (off := 28) (by rw [c0_]; rfl) (by decide) ?_
    refine lv_aload_n hx hb dX1_takes_32 rfl (lv_at hl 0 rfl) ?_
    refine lv_iload_n hx hb dX1_takes_33 rfl (lv_at hl 1 rfl) ?_
    obtain ⟨r1, x1_order, x1_due, hz1, hF⟩ := bd3_e hF
    refine kc_i (wr := [(h_numbers, .inl (cyI, 15, .inl v_numbers))]) (ws' := [(h_me, .inr (1, [z_letters, z_length, .ref h_numbers, .int x1_order, .int v_done, .int x1_due])), (h_numbers, .inl (cyI, 15, .inl v_numbers))]) (va_runV (As := [.int l1]) (rest := []) ⟨hx, hb, hml, hown, hts⟩ (c_X1_takesOrder l dC dI cyI cyJ cyA h_me z_letters z_length (.ref h_numbers) (.int v_done) v_order v_due l1 hz1 _) (cwV 1 hts gX1_takes_X1_takesOrder rfl rfl rfl ndX1_takesOrder ⟨Nat.le_of_ble_eq_true rfl, Nat.le_of_ble_eq_true rfl⟩) (pre_V hKK hP hD 0 rfl rfl [0] (by decide) rfl rfl) rfl rfl hl.1 rfl (lv_room (Nat.le_of_ble_eq_true rfl)) dX1_takes_34 ⟨Nat.le_of_ble_eq_true rfl, Nat.le_of_ble_eq_true rfl⟩) hP hD hS hA [0] [1] [1, 0] rfl rfl (by decide) (by decide) (by decide) rfl rfl (fun H locs hP hD hS => ?_)
    obtain ⟨g_2, hF⟩ := gno hF
    cases hF
    exact W.zret hx hb hr (bd_zt (gnn g_2)) (fun t ht hW => ⟨⟨_, (), rfl, rfl, by rw [ht]; exact hP, hD⟩, hS.F ht⟩) hS.2.2 dX1_takes_37
  have hF := gel c0_ hF
  by_cases c1_ : v_due = 1
  · have hF := gif c1_ hF
    refine lv_tableIn (tgt := 38) hx hb dX1_takes_4 (by rw [c1_]; decide) (by rw [c1_]; decide) (off := 34) (by rw [c1_]; rfl) (by decide) ?_
    refine lv_aload_n hx hb dX1_takes_38 rfl (lv_at hl 0 rfl) ?_
    refine lv_iload_n hx hb dX1_takes_39 rfl (lv_at hl 1 rfl) ?_
    obtain ⟨r3, x3_due, hz3, hF⟩ := bd2_e hF
    refine kc_i (wr := [(h_numbers, .inl (cyI, 15, .inl v_numbers))]) (ws' := [(h_me, .inr (1, [z_letters, z_length, .ref h_numbers, .int v_order, .int v_done, .int x3_due])), (h_numbers, .inl (cyI, 15, .inl v_numbers))]) (va_runV (As := [.int l1]) (rest := []) ⟨hx, hb, hml, hown, hts⟩ (c_X1_takesSign l dC dI cyI cyJ cyA h_me z_letters z_length (.ref h_numbers) v_order v_done v_due l1 hz3 _) (cwV 1 hts gX1_takes_X1_takesSign rfl rfl rfl ndX1_takesSign ⟨Nat.le_of_ble_eq_true rfl, Nat.le_of_ble_eq_true rfl⟩) (pre_V hKK hP hD 0 rfl rfl [0] (by decide) rfl rfl) rfl rfl hl.1 rfl (lv_room (Nat.le_of_ble_eq_true rfl)) dX1_takes_40 ⟨Nat.le_of_ble_eq_true rfl, Nat.le_of_ble_eq_true rfl⟩) hP hD hS hA [0] [1] [1, 0] rfl rfl (by decide) (by decide) (by decide) rfl rfl (fun H locs hP hD hS => ?_)
    obtain ⟨g_4, hF⟩ := gno hF
    cases hF
    exact W.zret hx hb hr (bd_zt (gnn g_4)) (fun t ht hW => ⟨⟨_, (), rfl, rfl, by rw [ht]; exact hP, hD⟩, hS.F ht⟩) hS.2.2 dX1_takes_43
  have hF := gel c1_ hF
  by_cases c2_ : v_due = 2
  · have hF := gif c2_ hF
    refine lv_tableIn (tgt := 44) hx hb dX1_takes_4 (by rw [c2_]; decide) (by rw [c2_]; decide) (off := 40) (by rw [c2_]; rfl) (by decide) ?_
    refine lv_aload_n hx hb dX1_takes_44 rfl (lv_at hl 0 rfl) ?_
    refine lv_iload_n hx hb dX1_takes_45 rfl (lv_at hl 1 rfl) ?_
    obtain ⟨r5, x5_done, x5_due, x5_numbers, hz5, hF⟩ := bd4_e hF
    refine kc_i (wr := []) (ws' := [(h_me, .inr (1, [z_letters, z_length, .ref h_numbers, .int v_order, .int x5_done, .int x5_due])), (h_numbers, .inl (cyI, 15, .inl x5_numbers))]) (va_runV (As := [.int l1]) (rest := []) ⟨hx, hb, hml, hown, hts⟩ (c_X1_takesNumber l dC dI cyI cyJ cyA h_me h_numbers z_letters z_length (.int v_order) v_done v_due v_numbers l1 hz5 _) (cwV 1 hts gX1_takes_X1_takesNumber rfl rfl rfl ndX1_takesNumber ⟨Nat.le_of_ble_eq_true rfl, Nat.le_of_ble_eq_true rfl⟩) (pre_V hKK hP hD 0 rfl rfl [0, 1] (by decide) rfl rfl) rfl rfl hl.1 rfl (lv_room (Nat.le_of_ble_eq_true rfl)) dX1_takes_46 ⟨Nat.le_of_ble_eq_true rfl, Nat.le_of_ble_eq_true rfl⟩) hP hD hS hA [0, 1] [] [0, 1] rfl rfl (by decide) (by decide) (by decide) rfl rfl (fun H locs hP hD hS => ?_)
    obtain ⟨g_6, hF⟩ := gno hF
    cases hF
    exact W.zret hx hb hr (bd_zt (gnn g_6)) (fun t ht hW => ⟨⟨_, (), rfl, rfl, by rw [ht]; exact hP, hD⟩, hS.F ht⟩) hS.2.2 dX1_takes_49
  have hF := gel c2_ hF
  have e0_ := lv_neT (a := 0) c0_ rfl
  have e1_ := lv_neT (a := 1) c1_ rfl
  have e2_ := lv_neT (a := 2) c2_ rfl
  refine lv_tableOut (tgt := 50) hx hb dX1_takes_4 (by omega) (by decide) ?_
  refine lv_aload_n hx hb dX1_takes_50 rfl (lv_at hl 0 rfl) ?_
  refine lv_iload_n hx hb dX1_takes_51 rfl (lv_at hl 1 rfl) ?_
  obtain ⟨r7, x7_done, x7_due, x7_numbers, hz7, hF⟩ := bd4_e hF
  refine kc_i (wr := []) (ws' := [(h_me, .inr (1, [z_letters, z_length, .ref h_numbers, .int v_order, .int x7_done, .int x7_due])), (h_numbers, .inl (cyI, 15, .inl x7_numbers))]) (va_runV (As := [.int l1]) (rest := []) ⟨hx, hb, hml, hown, hts⟩ (c_X1_takesFigure l dC dI cyI cyJ cyA h_me h_numbers z_letters z_length (.int v_order) v_done v_due v_numbers l1 hz7 _) (cwV 1 hts gX1_takes_X1_takesFigure rfl rfl rfl ndX1_takesFigure ⟨Nat.le_of_ble_eq_true rfl, Nat.le_of_ble_eq_true rfl⟩) (pre_V hKK hP hD 0 rfl rfl [0, 1] (by decide) rfl rfl) rfl rfl hl.1 rfl (lv_room (Nat.le_of_ble_eq_true rfl)) dX1_takes_52 ⟨Nat.le_of_ble_eq_true rfl, Nat.le_of_ble_eq_true rfl⟩) hP hD hS hA [0, 1] [] [0, 1] rfl rfl (by decide) (by decide) (by decide) rfl rfl (fun H locs hP hD hS => ?_)
  obtain ⟨g_8, hF⟩ := gno hF
  cases hF
  exact W.zret hx hb hr (bd_zt (gnn g_8)) (fun t ht hW => ⟨⟨_, (), rfl, rfl, by rw [ht]; exact hP, hD⟩, hS.F ht⟩) hS.2.2 dX1_takes_55
