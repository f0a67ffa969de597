/-! the words of nest mates, what all contracts share, and calls -/
def NS (U : State) : Prop := va_Nw (.methodLinkNest RX4 9 yX1_init "RestGains") U ∧ va_Nw (.methodLinkNest RX4 18 yX3_init "RestGains") U ∧ va_Nw (.methodLinkNest RX4 37 yX2_init "RestGains") U ∧ va_Nw (.methodLinkNest RX0 54 yX4_cross "RestGains") U ∧ va_Nw (.methodLinkNest RX0 58 yX4_dot "RestGains") U ∧ va_Nw (.methodLinkNest RX0 70 yX4_copy "RestGains") U ∧ va_Nw (.methodLinkNest RX0 74 yX4_firstNotZero "RestGains") U ∧ va_Nw (.methodLinkNest RX0 78 yX4_setUnit "RestGains") U ∧ va_Nw (.methodLinkNest RX2 63 yX4_copy "RestGains") U ∧ va_Nw (.methodLinkNest RX2 91 yX4_quotient "RestGains") U ∧ va_Nw (.methodLinkNest RX3 27 yX4_copy "RestGains") U
theorem NS.warm {s U : State} (hW : s.WarmedH U.vm) (h : NS s) : NS U := ⟨va_Nw.warmM hW h.1, va_Nw.warmM hW h.2.1, va_Nw.warmM hW h.2.2.1, va_Nw.warmM hW h.2.2.2.1, va_Nw.warmM hW h.2.2.2.2.1, va_Nw.warmM hW h.2.2.2.2.2.1, va_Nw.warmM hW h.2.2.2.2.2.2.1, va_Nw.warmM hW h.2.2.2.2.2.2.2.1, va_Nw.warmM hW h.2.2.2.2.2.2.2.2.1, va_Nw.warmM hW h.2.2.2.2.2.2.2.2.2.1, va_Nw.warmM hW h.2.2.2.2.2.2.2.2.2.2⟩
theorem NS.same {u U : State} (hv : u.vm = U.vm) (h : NS u) : NS U := ⟨va_Nw.same rfl hv h.1, va_Nw.same rfl hv h.2.1, va_Nw.same rfl hv h.2.2.1, va_Nw.same rfl hv h.2.2.2.1, va_Nw.same rfl hv h.2.2.2.2.1, va_Nw.same rfl hv h.2.2.2.2.2.1, va_Nw.same rfl hv h.2.2.2.2.2.2.1, va_Nw.same rfl hv h.2.2.2.2.2.2.2.1, va_Nw.same rfl hv h.2.2.2.2.2.2.2.2.1, va_Nw.same rfl hv h.2.2.2.2.2.2.2.2.2.1, va_Nw.same rfl hv h.2.2.2.2.2.2.2.2.2.2⟩
theorem NS.w_X4_9 {U : State} (h : NS U) : va_Nw (.methodLinkNest RX4 9 yX1_init "RestGains") U := h.1
theorem NS.w_X4_18 {U : State} (h : NS U) : va_Nw (.methodLinkNest RX4 18 yX3_init "RestGains") U := h.2.1
theorem NS.w_X4_37 {U : State} (h : NS U) : va_Nw (.methodLinkNest RX4 37 yX2_init "RestGains") U := h.2.2.1
theorem NS.w_X0_54 {U : State} (h : NS U) : va_Nw (.methodLinkNest RX0 54 yX4_cross "RestGains") U := h.2.2.2.1
theorem NS.w_X0_58 {U : State} (h : NS U) : va_Nw (.methodLinkNest RX0 58 yX4_dot "RestGains") U := h.2.2.2.2.1
theorem NS.w_X0_70 {U : State} (h : NS U) : va_Nw (.methodLinkNest RX0 70 yX4_copy "RestGains") U := h.2.2.2.2.2.1
theorem NS.w_X0_74 {U : State} (h : NS U) : va_Nw (.methodLinkNest RX0 74 yX4_firstNotZero "RestGains") U := h.2.2.2.2.2.2.1
theorem NS.w_X0_78 {U : State} (h : NS U) : va_Nw (.methodLinkNest RX0 78 yX4_setUnit "RestGains") U := h.2.2.2.2.2.2.2.1
theorem NS.w_X2_63 {U : State} (h : NS U) : va_Nw (.methodLinkNest RX2 63 yX4_copy "RestGains") U := h.2.2.2.2.2.2.2.2.1
theorem NS.w_X2_91 {U : State} (h : NS U) : va_Nw (.methodLinkNest RX2 91 yX4_quotient "RestGains") U := h.2.2.2.2.2.2.2.2.2.1
theorem NS.w_X3_27 {U : State} (h : NS U) : va_Nw (.methodLinkNest RX3 27 yX4_copy "RestGains") U := h.2.2.2.2.2.2.2.2.2.2

/-- the tables: the classes, the three array classes, the nest mates -/
def KK (D : va_G) (cyI cyJ cyA : ClassId) (U : State) : Prop := va_K D vwCl [(cyI, .int), (cyJ, .long), (cyA, .array .long)] U ∧ NS U
theorem KK.warm {D : va_G} {cyI cyJ cyA : ClassId} {s U : State} (hW : s.WarmedH U.vm) (h : KK D cyI cyJ cyA s) : KK D cyI cyJ cyA U := ⟨va_K.moved hW.alike h.1, h.2.warm hW⟩
theorem KK.same {D : va_G} {cyI cyJ cyA : ClassId} {u U : State} (hv : u.vm = U.vm) (h : KK D cyI cyJ cyA u) : KK D cyI cyJ cyA U := ⟨va_K.moved (by rw [hv]; exact Vm.Alike.refl U.vm) h.1, h.2.same hv⟩
/-- a contract's start: the cells ws, and no others of them -/
def PC (D : va_G) (cyI cyJ cyA : ClassId) (ws : va_W) (sz : Nat) (U : State) : Prop := U.heap.size = sz ∧ va_P D vwCl ws U.heap ∧ KK D cyI cyJ cyA U ∧ va_D (fun _ => True) ws
/-- a contract's end -/
def QB (D : va_G) (A : Nat → Prop) (ws : va_W) (_ : Unit) (t : State) : Prop := va_P D vwCl ws t.heap ∧ va_D A ws
def QBr (D : va_G) (A : Nat → Prop) (ws : va_W) (a : Nat) (_ : Unit) (b : Nat) (t : State) : Prop := b = a ∧ va_P D vwCl ws t.heap ∧ va_D A ws
abbrev QL (D : va_G) (A : Nat → Prop) (ws : va_W) (r : Int64) : Array Value → State → Outcome → State → Prop := va_Ql (fun r' (_ : Unit) => r' = r) (QB D A ws) A
abbrev QI (D : va_G) (A : Nat → Prop) (ws : va_W) (r : Int32) : Array Value → State → Outcome → State → Prop := va_Qi (fun r' (_ : Unit) => r' = r) (QB D A ws) A
abbrev QV (D : va_G) (A : Nat → Prop) (ws : va_W) : Array Value → State → Outcome → State → Prop := va_Qv (fun (_ : Unit) => True) (QB D A ws) A
abbrev QR (D : va_G) (A : Nat → Prop) (ws : va_W) (a : Nat) : Array Value → State → Outcome → State → Prop := va_Qr (fun (_ : Unit) => True) (QBr D A ws a) A
theorem PC.blind {D : va_G} {cyI cyJ cyA : ClassId} {ws : va_W} {sz : Nat} {av : List Value} : FrameBlind (va_Pc av (PC D cyI cyJ cyA ws sz)) := fun a U g mk q => by
  obtain ⟨q0, q1, qP, qK, qD⟩ := q
  exact ⟨q0, q1, qP, KK.same (u := U) (U := U.calling g mk a) rfl qK, qD⟩
/-- what holds in a method's body, all along -/
def Cx (p : Program) (s : State) (m : MethodId) (args : Array Value) (meth : Method) (c : Code) (cc : ByteArray) (nL : Nat) (ret : Option FieldType) (Ts : List Cond) (own : String) (D : va_G) (cyI cyJ cyA : ClassId) : Prop :=
  p.tables.exec = Jvm.exec ∧ c.code = cc ∧ meth.sig.returnType = ret ∧ c.maxLocals = nL ∧ s.vm.findClass own = some m.cls ∧ (∀ w ∈ Ts, w.before args s = true) ∧ KK D cyI cyJ cyA s ∧ meth.locks = false
theorem gif {α : Type} {c : Prop} {i : Decidable c} {a b r : α} (h : c) (hF : (@ite α c i a b) = r) : a = r := (if_pos h).symm.trans hF
theorem gel {α : Type} {c : Prop} {i : Decidable c} {a b r : α} (h : ¬ c) (hF : (@ite α c i a b) = r) : b = r := (if_neg h).symm.trans hF
theorem gno {α : Type} {c : Prop} {i : Decidable c} {b : Option α} {r : α} (hF : (@ite (Option α) c i none b) = some r) : ¬ c ∧ b = some r := by
  by_cases h : c
  · rw [if_pos h] at hF; cases hF
  · rw [if_neg h] at hF; exact ⟨h, hF⟩
theorem gnn {c : Prop} (h : ¬ ¬ c) : c := Classical.byContradiction h
theorem sel3 {α : Type} {i : Int32} {a b c : Option α} {r : α} (hF : (if i = 0 then a else if i = 1 then b else if i = 2 then c else none) = some r) : (i = 0 ∧ a = some r) ∨ (i = 1 ∧ b = some r) ∨ (i = 2 ∧ c = some r) := by
  by_cases h0 : i = 0
  · rw [if_pos h0] at hF; exact Or.inl ⟨h0, hF⟩
  · rw [if_neg h0] at hF
    by_cases h1 : i = 1
    · rw [if_pos h1] at hF; exact Or.inr (Or.inl ⟨h1, hF⟩)
    · rw [if_neg h1] at hF
      by_cases h2 : i = 2
      · rw [if_pos h2] at hF; exact Or.inr (Or.inr ⟨h2, hF⟩)
      · rw [if_neg h2] at hF; cases hF
theorem in3_0 {i : Int32} (h : i = 0) : vp_in i 3 := by rw [h]; exact (by decide : ¬ ((0 : Int32) < 0 ∨ 3 ≤ (0 : Int32).toNatClampNeg))
theorem in3_1 {i : Int32} (h : i = 1) : vp_in i 3 := by rw [h]; exact (by decide : ¬ ((1 : Int32) < 0 ∨ 3 ≤ (1 : Int32).toNatClampNeg))
theorem in3_2 {i : Int32} (h : i = 2) : vp_in i 3 := by rw [h]; exact (by decide : ¬ ((2 : Int32) < 0 ∨ 3 ≤ (2 : Int32).toNatClampNeg))
/-- the rows of a grid of three -/
def fn3 (a b c : Nat) : Nat → Option Nat := fun k => if k = 0 then some a else if k = 1 then some b else if k = 2 then some c else none
theorem bd_zt {v : Int32} (h : v &&& 1 = v) : narrow .boolean (.int v) = .int v := congrArg Value.int h
section K2
variable {p : Program} {l : Launch} {e : Env} {R : Room} {s : State} {m : MethodId} {args : Array Value} {below : List Frame} {meth : Method} {c : Code} {H : Heap} {locs : List Loc} {cells slots : Nat} {Q : State → Prop}
variable {cc : ByteArray} {pc : Nat} {ls : Array Slot} {rest st0 : List Value} {D : va_G} {cl : List vw_C} {A : Nat → Prop} {a : Nat} {tys : List (ClassId × FieldType)} {ws ws' wc wc' wr : va_W} {H0 : Heap} {cyI cyJ cyA : ClassId} {av : Array Value}
theorem my_ald2 (hexec : p.tables.exec = Jvm.exec) (hb : c.code = cc) (hK : va_K D cl tys s) (hP : va_P D cl ws H) (q0 t0 : Nat) {cA : ClassId} {n : Nat} {f : Nat → Option Nat} (ha : ws[q0]? = some (a, .inl (cA, n, .inr (.inr (.inr (.inr f)))))) (ht : tys[t0]? = some (cA, .array .long)) {i : Int32} (hin : vp_in i n) (hdg : decode cc pc = .ok (.aaload, 1)) {v : Value} (hv : va_rf (f i.toNatClampNeg) = v)
    (kk : W p l e R s m args below meth c H locs cells slots Q (F0 m (pc + 1) ls (v :: rest))) : W p l e R s m args below meth c H locs cells slots Q (F0 m pc ls (.int i :: .ref a :: rest)) := by
  subst hv
  have hlt : i.toNatClampNeg < n := Nat.not_le.mp fun q => hin (Or.inr q)
  exact W.aald (v := va_rf (f i.toNatClampNeg)) (ty := .array .long) hexec hb (hP q0 _ ha) ((hK.2 t0 _ ht).1 n (fun j => va_rf (f j))) rfl (fun q => by cases q) (by show ¬ (i < 0 ∨ (arrV _ _ _).slots.size ≤ _); rw [arrV_size]; exact hin) (by show (arrV _ _ _).slots[_]? = _; rw [arrV_read _ _ hlt]) rfl rfl hdg kk
theorem my_iast (hexec : p.tables.exec = Jvm.exec) (hb : c.code = cc) (hK : va_K D cl tys s) (hP : va_P D cl ws H) (hD : va_D A ws) (hS : va_S A H0 H locs) (q0 t0 : Nat) {cA : ClassId} {n : Nat} {f : Nat → Int32} (ha : ws[q0]? = some (a, .inl (cA, n, .inl f))) (ht : tys[t0]? = some (cA, .int)) {i : Int32} {x : Int32} (hin : vp_in i n) (hdg : decode cc pc = .ok (.iastore, 1)) (hw : ws.set q0 (a, .inl (cA, n, .inl (upd f i.toNatClampNeg x))) = ws')
    (kk : ∀ (H1 : Heap) (locs1 : List Loc), va_P D cl ws' H1 → va_D A ws' → va_S A H0 H1 locs1 → W p l e R s m args below meth c H1 locs1 cells slots Q (F0 m (pc + 1) ls rest)) : W p l e R s m args below meth c H locs cells slots Q (F0 m pc ls (.int x :: .int i :: .ref a :: rest)) := by
  subst hw
  exact va_iast hexec hb hK hP hD hS q0 t0 ha ht hin hdg kk
theorem my_last (hexec : p.tables.exec = Jvm.exec) (hb : c.code = cc) (hK : va_K D cl tys s) (hP : va_P D cl ws H) (hD : va_D A ws) (hS : va_S A H0 H locs) (q0 t0 : Nat) {cA : ClassId} {n : Nat} {f : Nat → Int64} (ha : ws[q0]? = some (a, .inl (cA, n, .inr (.inl f)))) (ht : tys[t0]? = some (cA, .long)) {i : Int32} {x : Int64} (hin : vp_in i n) (hdg : decode cc pc = .ok (.lastore, 1)) (hw : ws.set q0 (a, .inl (cA, n, .inr (.inl (vp_updL f i.toNatClampNeg x)))) = ws')
    (kk : ∀ (H1 : Heap) (locs1 : List Loc), va_P D cl ws' H1 → va_D A ws' → va_S A H0 H1 locs1 → W p l e R s m args below meth c H1 locs1 cells slots Q (F0 m (pc + 1) ls rest)) : W p l e R s m args below meth c H locs cells slots Q (F0 m pc ls (.long x :: .int i :: .ref a :: rest)) := by
  subst hw
  exact va_last hexec hb hK hP hD hS q0 t0 ha ht hin hdg kk
theorem my_put (hexec : p.tables.exec = Jvm.exec) (hb : c.code = cc) {own ref C : String} {T : u_T} {N ci index : Nat} {Ts : List Cond} (hts : ∀ w ∈ Ts, w.before args s = true) (hin : ∀ w ∈ u_ws C T N, w ∈ Ts) (ty0 : Nat → FieldType) (hty : ∀ k, k < N → parseFieldDescriptor (T k).2.2.1 = some (ty0 k)) (hnm : ∀ a, a < N → ∀ b, b < N → a ≠ b → (T a).2.1 ≠ (T b).2.1) (hown : s.vm.findClass own = some m.cls) (hK : va_K D cl tys s) (hP : va_P D cl ws H) (hD : va_D A ws) (hS0 : va_S A H0 H locs) (q0 : Nat) {fs : List Value} (he : ws[q0]? = some (a, .inr (ci, fs))) (hc : cl[ci]? = some (C, T, N)) (k : Nat) (hk : k < N) (hlink : (Cond.fieldLink own index ref (T k).2.1 (T k).2.2.1).before args s = true) (hsame : (T k).1 = ref) (hfin : (T k).2.2.2 = false) {ty : FieldType} {v : Value} (hd : ty0 k = ty) (hn : narrow ty v = v) (hfit : fits ty v = true) (hl : k < fs.length)
    (hdg : decode cc pc = .ok (.putfield index, 3)) (hw : ws.set q0 (a, .inr (ci, fs.set k v)) = ws') (kk : ∀ (H1 : Heap) (locs1 : List Loc), va_P D cl ws' H1 → va_D A ws' → va_S A H0 H1 locs1 → W p l e R s m args below meth c H1 locs1 cells slots Q (F0 m (pc + 3) ls rest)) : W p l e R s m args below meth c H locs cells slots Q (F0 m pc ls (v :: .ref a :: rest)) := by
  subst hw
  exact va_put hexec hb hts hin ty0 hty hnm hown hK hP hD hS0 q0 he hc k hk hlink (by rw [hsame]; exact fun _ h => h) hfin (by rw [← hd]; exact hty k hk) hn hfit hl hdg kk
theorem my_get (hexec : p.tables.exec = Jvm.exec) (hb : c.code = cc) {own ref C : String} {T : u_T} {N ci index : Nat} {Ts : List Cond} (hts : ∀ w ∈ Ts, w.before args s = true) (hin : ∀ w ∈ u_ws C T N, w ∈ Ts) (hown : s.vm.findClass own = some m.cls) (hK : va_K D cl tys s) (hP : va_P D cl ws H) (q0 : Nat) {fs : List Value} (he : ws[q0]? = some (a, .inr (ci, fs))) (hc : cl[ci]? = some (C, T, N)) (k : Nat) (hk : k < N) (hlink : (Cond.fieldLink own index ref (T k).2.1 (T k).2.2.1).before args s = true) (hsame : (T k).1 = ref) {v : Value} (hv : fs[k]? = some v) (hdg : decode cc pc = .ok (.getfield index, 3))
    (kk : W p l e R s m args below meth c H locs cells slots Q (F0 m (pc + 3) ls (v :: rest))) : W p l e R s m args below meth c H locs cells slots Q (F0 m pc ls (.ref a :: rest)) :=
  va_get hexec hb hts hin hown hK hP q0 he hc k hk hlink (by rw [hsame]; exact fun _ h => h) hv hdg kk
theorem pre_S {As : List Value} (hKK : KK D cyI cyJ cyA s) (hP : va_P D vwCl ws H) (hD : va_D A ws) (is : List Nat) (hn : va_nd is = true) (hC : is.map (fun i => ws[i]?) = wc.map some) (hC2 : is.filterMap (fun i => ws[i]?) = wc) : PreS s H (va_Pc As (PC D cyI cyJ cyA wc H.size)) As :=
  ⟨PC.blind, fun U hU hW => ⟨rfl, by rw [hU], by rw [hU]; exact hP.sub is hC2, hKK.warm hW, (hD.sub is hn hC).weaken (fun _ _ _ _ => trivial)⟩⟩
theorem pre_V {As : List Value} {b : Nat} {C : String} {T : u_T} {N ci : Nat} {fs : List Value} (hKK : KK D cyI cyJ cyA s) (hP : va_P D vwCl ws H) (hD : va_D A ws) (q0 : Nat) (he : ws[q0]? = some (b, .inr (ci, fs))) (hc : vwCl[ci]? = some (C, T, N)) (is : List Nat) (hn : va_nd is = true) (hC : is.map (fun i => ws[i]?) = wc.map some) (hC2 : is.filterMap (fun i => ws[i]?) = wc) : PreV s H C b (va_Pc (.ref b :: As) (PC D cyI cyJ cyA wc H.size)) As :=
  ⟨PC.blind, va_recv hKK.1 hP hc he, fun U hU hW => ⟨rfl, by rw [hU], by rw [hU]; exact hP.sub is hC2, hKK.warm hW, (hD.sub is hn hC).weaken (fun _ _ _ _ => trivial)⟩⟩
theorem back (hP : va_P D vwCl ws H) (hD : va_D A ws) (hS : va_S A H0 H locs) (hA : ∀ q, H0.size ≤ q → A q) (isC isR isP : List Nat) (hC : isC.map (fun i => ws[i]?) = wc.map some) (hR : isR.map (fun i => ws[i]?) = wr.map some) (hn : va_nd isR = true) (hdis : ∀ i ∈ isR, i ∉ isC) (hnp : va_nd isP = true) (hp : isP.map (fun i => (wr ++ wc')[i]?) = ws'.map some) (hp2 : isP.filterMap (fun i => (wr ++ wc')[i]?) = ws') {H1 : Heap}
    (hk : ∀ q : Nat, q < H.size → ¬ va_A wc H.size q → H1[q]? = H[q]?) (hP1 : va_P D vwCl wc' H1) (hD1 : va_D (va_A wc H.size) wc') : va_P D vwCl ws' H1 ∧ va_D A ws' := by
  obtain ⟨h1, h2⟩ := va_join hP hD isC isR hC hR hn hdis hk (va_free hD hS hA isC hC) hP1 hD1
  exact ⟨h1.sub isP hp2, h2.sub isP hnp hp⟩

theorem kc_l {r : Int64} (hr : va_Run p l e R s m args below meth c H locs cells slots 0 0 (F0 m pc ls st0) rest (QL D (va_A wc H.size) wc' r av) (va_A wc H.size)) (hP : va_P D vwCl ws H) (hD : va_D A ws) (hS : va_S A H0 H locs) (hA : ∀ q, H0.size ≤ q → A q) (isC isR isP : List Nat) (hC : isC.map (fun i => ws[i]?) = wc.map some) (hR : isR.map (fun i => ws[i]?) = wr.map some) (hn : va_nd isR = true) (hdis : ∀ i ∈ isR, i ∉ isC) (hnp : va_nd isP = true) (hp : isP.map (fun i => (wr ++ wc')[i]?) = ws'.map some) (hp2 : isP.filterMap (fun i => (wr ++ wc')[i]?) = ws')
    (kk : ∀ (H1 : Heap) (locs1 : List Loc), va_P D vwCl ws' H1 → va_D A ws' → va_S A H0 H1 locs1 → W p l e R s m args below meth c H1 locs1 cells slots Q (F0 m (pc + 3) ls (.long r :: rest))) : W p l e R s m args below meth c H locs cells slots Q (F0 m pc ls st0) := by
  have hF := va_free hD hS hA isC hC
  refine va_calll hr hS (fun q _ h => hF q h) hF (fun r' u t H1 locs1 ht hvm hw hB hz hk hS1 => ?_)
  obtain ⟨hP1, hD1⟩ := hB
  subst hw
  rw [ht] at hP1
  obtain ⟨h1, h2⟩ := back hP hD hS hA isC isR isP hC hR hn hdis hnp hp hp2 hk hP1 hD1
  exact kk H1 locs1 h1 h2 hS1
theorem kc_i {r : Int32} (hr : va_Run p l e R s m args below meth c H locs cells slots 0 0 (F0 m pc ls st0) rest (QI D (va_A wc H.size) wc' r av) (va_A wc H.size)) (hP : va_P D vwCl ws H) (hD : va_D A ws) (hS : va_S A H0 H locs) (hA : ∀ q, H0.size ≤ q → A q) (isC isR isP : List Nat) (hC : isC.map (fun i => ws[i]?) = wc.map some) (hR : isR.map (fun i => ws[i]?) = wr.map some) (hn : va_nd isR = true) (hdis : ∀ i ∈ isR, i ∉ isC) (hnp : va_nd isP = true) (hp : isP.map (fun i => (wr ++ wc')[i]?) = ws'.map some) (hp2 : isP.filterMap (fun i => (wr ++ wc')[i]?) = ws')
    (kk : ∀ (H1 : Heap) (locs1 : List Loc), va_P D vwCl ws' H1 → va_D A ws' → va_S A H0 H1 locs1 → W p l e R s m args below meth c H1 locs1 cells slots Q (F0 m (pc + 3) ls (.int r :: rest))) : W p l e R s m args below meth c H locs cells slots Q (F0 m pc ls st0) := by
  have hF := va_free hD hS hA isC hC
  refine va_calli hr hS (fun q _ h => hF q h) hF (fun r' u t H1 locs1 ht hvm hw hB hz hk hS1 => ?_)
  obtain ⟨hP1, hD1⟩ := hB
  subst hw
  rw [ht] at hP1
  obtain ⟨h1, h2⟩ := back hP hD hS hA isC isR isP hC hR hn hdis hnp hp hp2 hk hP1 hD1
  exact kk H1 locs1 h1 h2 hS1
theorem kc_v (hr : va_Run p l e R s m args below meth c H locs cells slots 0 0 (F0 m pc ls st0) rest (QV D (va_A wc H.size) wc'  av) (va_A wc H.size)) (hP : va_P D vwCl ws H) (hD : va_D A ws) (hS : va_S A H0 H locs) (hA : ∀ q, H0.size ≤ q → A q) (isC isR isP : List Nat) (hC : isC.map (fun i => ws[i]?) = wc.map some) (hR : isR.map (fun i => ws[i]?) = wr.map some) (hn : va_nd isR = true) (hdis : ∀ i ∈ isR, i ∉ isC) (hnp : va_nd isP = true) (hp : isP.map (fun i => (wr ++ wc')[i]?) = ws'.map some) (hp2 : isP.filterMap (fun i => (wr ++ wc')[i]?) = ws')
    (kk : ∀ (H1 : Heap) (locs1 : List Loc), va_P D vwCl ws' H1 → va_D A ws' → va_S A H0 H1 locs1 → W p l e R s m args below meth c H1 locs1 cells slots Q (F0 m (pc + 3) ls (rest))) : W p l e R s m args below meth c H locs cells slots Q (F0 m pc ls st0) := by
  have hF := va_free hD hS hA isC hC
  refine va_callv hr hS (fun q _ h => hF q h) hF (fun u t H1 locs1 ht hvm hw hB hz hk hS1 => ?_)
  obtain ⟨hP1, hD1⟩ := hB
  rw [ht] at hP1
  obtain ⟨h1, h2⟩ := back hP hD hS hA isC isR isP hC hR hn hdis hnp hp hp2 hk hP1 hD1
  exact kk H1 locs1 h1 h2 hS1
theorem kc_r {r : Nat} (hr : va_Run p l e R s m args below meth c H locs cells slots 0 0 (F0 m pc ls st0) rest (QR D (va_A wc H.size) wc' r av) (va_A wc H.size)) (hP : va_P D vwCl ws H) (hD : va_D A ws) (hS : va_S A H0 H locs) (hA : ∀ q, H0.size ≤ q → A q) (isC isR isP : List Nat) (hC : isC.map (fun i => ws[i]?) = wc.map some) (hR : isR.map (fun i => ws[i]?) = wr.map some) (hn : va_nd isR = true) (hdis : ∀ i ∈ isR, i ∉ isC) (hnp : va_nd isP = true) (hp : isP.map (fun i => (wr ++ wc')[i]?) = ws'.map some) (hp2 : isP.filterMap (fun i => (wr ++ wc')[i]?) = ws')
    (kk : ∀ (H1 : Heap) (locs1 : List Loc), va_P D vwCl ws' H1 → va_D A ws' → va_S A H0 H1 locs1 → W p l e R s m args below meth c H1 locs1 cells slots Q (F0 m (pc + 3) ls (.ref r :: rest))) : W p l e R s m args below meth c H locs cells slots Q (F0 m pc ls st0) := by
  have hF := va_free hD hS hA isC hC
  refine va_callr hr hS (fun q _ h => hF q h) hF (fun r' u t H1 locs1 ht hvm hw hB hz hk hS1 => ?_)
  obtain ⟨he, hP1, hD1⟩ := hB
  subst he
  rw [ht] at hP1
  obtain ⟨h1, h2⟩ := back hP hD hS hA isC isR isP hC hR hn hdis hnp hp hp2 hk hP1 hD1
  exact kk H1 locs1 h1 h2 hS1
end K2
