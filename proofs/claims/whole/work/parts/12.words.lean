/-! words, heads and binds that the walks use -/
def bd1 {A0 R : Type} (x : Option (A0)) (f : A0 → Option R) : Option R := x.bind (fun p => f p)
theorem bd1_e {A0 R : Type} {x : Option (A0)} {f : A0 → Option R} {r : R} (h : bd1 x f = some r) : ∃ a0, x = some a0 ∧ f a0 = some r := by
  cases x with
  | none => cases h
  | some p => exact ⟨p, rfl, h⟩
theorem bd1_s {A0 R : Type} {f : A0 → Option R} {a0 : A0} : bd1 (some a0) f = f a0 := rfl
def bd2 {A0 A1 R : Type} (x : Option (A0 × A1)) (f : A0 → A1 → Option R) : Option R := x.bind (fun p => f p.1 p.2)
theorem bd2_e {A0 A1 R : Type} {x : Option (A0 × A1)} {f : A0 → A1 → Option R} {r : R} (h : bd2 x f = some r) : ∃ a0 a1, x = some (a0, a1) ∧ f a0 a1 = some r := by
  cases x with
  | none => cases h
  | some p => exact ⟨p.1, p.2, rfl, h⟩
theorem bd2_s {A0 A1 R : Type} {f : A0 → A1 → Option R} {a0 : A0} {a1 : A1} : bd2 (some (a0, a1)) f = f a0 a1 := rfl
def bd3 {A0 A1 A2 R : Type} (x : Option (A0 × A1 × A2)) (f : A0 → A1 → A2 → Option R) : Option R := x.bind (fun p => f p.1 p.2.1 p.2.2)
theorem bd3_e {A0 A1 A2 R : Type} {x : Option (A0 × A1 × A2)} {f : A0 → A1 → A2 → Option R} {r : R} (h : bd3 x f = some r) : ∃ a0 a1 a2, x = some (a0, a1, a2) ∧ f a0 a1 a2 = some r := by
  cases x with
  | none => cases h
  | some p => exact ⟨p.1, p.2.1, p.2.2, rfl, h⟩
theorem bd3_s {A0 A1 A2 R : Type} {f : A0 → A1 → A2 → Option R} {a0 : A0} {a1 : A1} {a2 : A2} : bd3 (some (a0, a1, a2)) f = f a0 a1 a2 := rfl
def bd4 {A0 A1 A2 A3 R : Type} (x : Option (A0 × A1 × A2 × A3)) (f : A0 → A1 → A2 → A3 → Option R) : Option R := x.bind (fun p => f p.1 p.2.1 p.2.2.1 p.2.2.2)
theorem bd4_e {A0 A1 A2 A3 R : Type} {x : Option (A0 × A1 × A2 × A3)} {f : A0 → A1 → A2 → A3 → Option R} {r : R} (h : bd4 x f = some r) : ∃ a0 a1 a2 a3, x = some (a0, a1, a2, a3) ∧ f a0 a1 a2 a3 = some r := by
  cases x with
  | none => cases h
  | some p => exact ⟨p.1, p.2.1, p.2.2.1, p.2.2.2, rfl, h⟩
theorem bd4_s {A0 A1 A2 A3 R : Type} {f : A0 → A1 → A2 → A3 → Option R} {a0 : A0} {a1 : A1} {a2 : A2} {a3 : A3} : bd4 (some (a0, a1, a2, a3)) f = f a0 a1 a2 a3 := rfl
def bd5 {A0 A1 A2 A3 A4 R : Type} (x : Option (A0 × A1 × A2 × A3 × A4)) (f : A0 → A1 → A2 → A3 → A4 → Option R) : Option R := x.bind (fun p => f p.1 p.2.1 p.2.2.1 p.2.2.2.1 p.2.2.2.2)
theorem bd5_e {A0 A1 A2 A3 A4 R : Type} {x : Option (A0 × A1 × A2 × A3 × A4)} {f : A0 → A1 → A2 → A3 → A4 → Option R} {r : R} (h : bd5 x f = some r) : ∃ a0 a1 a2 a3 a4, x = some (a0, a1, a2, a3, a4) ∧ f a0 a1 a2 a3 a4 = some r := by
  cases x with
  | none => cases h
  | some p => exact ⟨p.1, p.2.1, p.2.2.1, p.2.2.2.1, p.2.2.2.2, rfl, h⟩
theorem bd5_s {A0 A1 A2 A3 A4 R : Type} {f : A0 → A1 → A2 → A3 → A4 → Option R} {a0 : A0} {a1 : A1} {a2 : A2} {a3 : A3} {a4 : A4} : bd5 (some (a0, a1, a2, a3, a4)) f = f a0 a1 a2 a3 a4 := rfl
def bd6 {A0 A1 A2 A3 A4 A5 R : Type} (x : Option (A0 × A1 × A2 × A3 × A4 × A5)) (f : A0 → A1 → A2 → A3 → A4 → A5 → Option R) : Option R := x.bind (fun p => f p.1 p.2.1 p.2.2.1 p.2.2.2.1 p.2.2.2.2.1 p.2.2.2.2.2)
theorem bd6_e {A0 A1 A2 A3 A4 A5 R : Type} {x : Option (A0 × A1 × A2 × A3 × A4 × A5)} {f : A0 → A1 → A2 → A3 → A4 → A5 → Option R} {r : R} (h : bd6 x f = some r) : ∃ a0 a1 a2 a3 a4 a5, x = some (a0, a1, a2, a3, a4, a5) ∧ f a0 a1 a2 a3 a4 a5 = some r := by
  cases x with
  | none => cases h
  | some p => exact ⟨p.1, p.2.1, p.2.2.1, p.2.2.2.1, p.2.2.2.2.1, p.2.2.2.2.2, rfl, h⟩
theorem bd6_s {A0 A1 A2 A3 A4 A5 R : Type} {f : A0 → A1 → A2 → A3 → A4 → A5 → Option R} {a0 : A0} {a1 : A1} {a2 : A2} {a3 : A3} {a4 : A4} {a5 : A5} : bd6 (some (a0, a1, a2, a3, a4, a5)) f = f a0 a1 a2 a3 a4 a5 := rfl
def bd7 {A0 A1 A2 A3 A4 A5 A6 R : Type} (x : Option (A0 × A1 × A2 × A3 × A4 × A5 × A6)) (f : A0 → A1 → A2 → A3 → A4 → A5 → A6 → Option R) : Option R := x.bind (fun p => f p.1 p.2.1 p.2.2.1 p.2.2.2.1 p.2.2.2.2.1 p.2.2.2.2.2.1 p.2.2.2.2.2.2)
theorem bd7_e {A0 A1 A2 A3 A4 A5 A6 R : Type} {x : Option (A0 × A1 × A2 × A3 × A4 × A5 × A6)} {f : A0 → A1 → A2 → A3 → A4 → A5 → A6 → Option R} {r : R} (h : bd7 x f = some r) : ∃ a0 a1 a2 a3 a4 a5 a6, x = some (a0, a1, a2, a3, a4, a5, a6) ∧ f a0 a1 a2 a3 a4 a5 a6 = some r := by
  cases x with
  | none => cases h
  | some p => exact ⟨p.1, p.2.1, p.2.2.1, p.2.2.2.1, p.2.2.2.2.1, p.2.2.2.2.2.1, p.2.2.2.2.2.2, rfl, h⟩
theorem bd7_s {A0 A1 A2 A3 A4 A5 A6 R : Type} {f : A0 → A1 → A2 → A3 → A4 → A5 → A6 → Option R} {a0 : A0} {a1 : A1} {a2 : A2} {a3 : A3} {a4 : A4} {a5 : A5} {a6 : A6} : bd7 (some (a0, a1, a2, a3, a4, a5, a6)) f = f a0 a1 a2 a3 a4 a5 a6 := rfl
def bd9 {A0 A1 A2 A3 A4 A5 A6 A7 A8 R : Type} (x : Option (A0 × A1 × A2 × A3 × A4 × A5 × A6 × A7 × A8)) (f : A0 → A1 → A2 → A3 → A4 → A5 → A6 → A7 → A8 → Option R) : Option R := x.bind (fun p => f p.1 p.2.1 p.2.2.1 p.2.2.2.1 p.2.2.2.2.1 p.2.2.2.2.2.1 p.2.2.2.2.2.2.1 p.2.2.2.2.2.2.2.1 p.2.2.2.2.2.2.2.2)
theorem bd9_e {A0 A1 A2 A3 A4 A5 A6 A7 A8 R : Type} {x : Option (A0 × A1 × A2 × A3 × A4 × A5 × A6 × A7 × A8)} {f : A0 → A1 → A2 → A3 → A4 → A5 → A6 → A7 → A8 → Option R} {r : R} (h : bd9 x f = some r) : ∃ a0 a1 a2 a3 a4 a5 a6 a7 a8, x = some (a0, a1, a2, a3, a4, a5, a6, a7, a8) ∧ f a0 a1 a2 a3 a4 a5 a6 a7 a8 = some r := by
  cases x with
  | none => cases h
  | some p => exact ⟨p.1, p.2.1, p.2.2.1, p.2.2.2.1, p.2.2.2.2.1, p.2.2.2.2.2.1, p.2.2.2.2.2.2.1, p.2.2.2.2.2.2.2.1, p.2.2.2.2.2.2.2.2, rfl, h⟩
theorem bd9_s {A0 A1 A2 A3 A4 A5 A6 A7 A8 R : Type} {f : A0 → A1 → A2 → A3 → A4 → A5 → A6 → A7 → A8 → Option R} {a0 : A0} {a1 : A1} {a2 : A2} {a3 : A3} {a4 : A4} {a5 : A5} {a6 : A6} {a7 : A7} {a8 : A8} : bd9 (some (a0, a1, a2, a3, a4, a5, a6, a7, a8)) f = f a0 a1 a2 a3 a4 a5 a6 a7 a8 := rfl
def bd11 {A0 A1 A2 A3 A4 A5 A6 A7 A8 A9 A10 R : Type} (x : Option (A0 × A1 × A2 × A3 × A4 × A5 × A6 × A7 × A8 × A9 × A10)) (f : A0 → A1 → A2 → A3 → A4 → A5 → A6 → A7 → A8 → A9 → A10 → Option R) : Option R := x.bind (fun p => f p.1 p.2.1 p.2.2.1 p.2.2.2.1 p.2.2.2.2.1 p.2.2.2.2.2.1 p.2.2.2.2.2.2.1 p.2.2.2.2.2.2.2.1 p.2.2.2.2.2.2.2.2.1 p.2.2.2.2.2.2.2.2.2.1 p.2.2.2.2.2.2.2.2.2.2)
theorem bd11_e {A0 A1 A2 A3 A4 A5 A6 A7 A8 A9 A10 R : Type} {x : Option (A0 × A1 × A2 × A3 × A4 × A5 × A6 × A7 × A8 × A9 × A10)} {f : A0 → A1 → A2 → A3 → A4 → A5 → A6 → A7 → A8 → A9 → A10 → Option R} {r : R} (h : bd11 x f = some r) : ∃ a0 a1 a2 a3 a4 a5 a6 a7 a8 a9 a10, x = some (a0, a1, a2, a3, a4, a5, a6, a7, a8, a9, a10) ∧ f a0 a1 a2 a3 a4 a5 a6 a7 a8 a9 a10 = some r := by
  cases x with
  | none => cases h
  | some p => exact ⟨p.1, p.2.1, p.2.2.1, p.2.2.2.1, p.2.2.2.2.1, p.2.2.2.2.2.1, p.2.2.2.2.2.2.1, p.2.2.2.2.2.2.2.1, p.2.2.2.2.2.2.2.2.1, p.2.2.2.2.2.2.2.2.2.1, p.2.2.2.2.2.2.2.2.2.2, rfl, h⟩
theorem bd11_s {A0 A1 A2 A3 A4 A5 A6 A7 A8 A9 A10 R : Type} {f : A0 → A1 → A2 → A3 → A4 → A5 → A6 → A7 → A8 → A9 → A10 → Option R} {a0 : A0} {a1 : A1} {a2 : A2} {a3 : A3} {a4 : A4} {a5 : A5} {a6 : A6} {a7 : A7} {a8 : A8} {a9 : A9} {a10 : A10} : bd11 (some (a0, a1, a2, a3, a4, a5, a6, a7, a8, a9, a10)) f = f a0 a1 a2 a3 a4 a5 a6 a7 a8 a9 a10 := rfl
def bd13 {A0 A1 A2 A3 A4 A5 A6 A7 A8 A9 A10 A11 A12 R : Type} (x : Option (A0 × A1 × A2 × A3 × A4 × A5 × A6 × A7 × A8 × A9 × A10 × A11 × A12)) (f : A0 → A1 → A2 → A3 → A4 → A5 → A6 → A7 → A8 → A9 → A10 → A11 → A12 → Option R) : Option R := x.bind (fun p => f p.1 p.2.1 p.2.2.1 p.2.2.2.1 p.2.2.2.2.1 p.2.2.2.2.2.1 p.2.2.2.2.2.2.1 p.2.2.2.2.2.2.2.1 p.2.2.2.2.2.2.2.2.1 p.2.2.2.2.2.2.2.2.2.1 p.2.2.2.2.2.2.2.2.2.2.1 p.2.2.2.2.2.2.2.2.2.2.2.1 p.2.2.2.2.2.2.2.2.2.2.2.2)
theorem bd13_e {A0 A1 A2 A3 A4 A5 A6 A7 A8 A9 A10 A11 A12 R : Type} {x : Option (A0 × A1 × A2 × A3 × A4 × A5 × A6 × A7 × A8 × A9 × A10 × A11 × A12)} {f : A0 → A1 → A2 → A3 → A4 → A5 → A6 → A7 → A8 → A9 → A10 → A11 → A12 → Option R} {r : R} (h : bd13 x f = some r) : ∃ a0 a1 a2 a3 a4 a5 a6 a7 a8 a9 a10 a11 a12, x = some (a0, a1, a2, a3, a4, a5, a6, a7, a8, a9, a10, a11, a12) ∧ f a0 a1 a2 a3 a4 a5 a6 a7 a8 a9 a10 a11 a12 = some r := by
  cases x with
  | none => cases h
  | some p => exact ⟨p.1, p.2.1, p.2.2.1, p.2.2.2.1, p.2.2.2.2.1, p.2.2.2.2.2.1, p.2.2.2.2.2.2.1, p.2.2.2.2.2.2.2.1, p.2.2.2.2.2.2.2.2.1, p.2.2.2.2.2.2.2.2.2.1, p.2.2.2.2.2.2.2.2.2.2.1, p.2.2.2.2.2.2.2.2.2.2.2.1, p.2.2.2.2.2.2.2.2.2.2.2.2, rfl, h⟩
theorem bd13_s {A0 A1 A2 A3 A4 A5 A6 A7 A8 A9 A10 A11 A12 R : Type} {f : A0 → A1 → A2 → A3 → A4 → A5 → A6 → A7 → A8 → A9 → A10 → A11 → A12 → Option R} {a0 : A0} {a1 : A1} {a2 : A2} {a3 : A3} {a4 : A4} {a5 : A5} {a6 : A6} {a7 : A7} {a8 : A8} {a9 : A9} {a10 : A10} {a11 : A11} {a12 : A12} : bd13 (some (a0, a1, a2, a3, a4, a5, a6, a7, a8, a9, a10, a11, a12)) f = f a0 a1 a2 a3 a4 a5 a6 a7 a8 a9 a10 a11 a12 := rfl
def bd14 {A0 A1 A2 A3 A4 A5 A6 A7 A8 A9 A10 A11 A12 A13 R : Type} (x : Option (A0 × A1 × A2 × A3 × A4 × A5 × A6 × A7 × A8 × A9 × A10 × A11 × A12 × A13)) (f : A0 → A1 → A2 → A3 → A4 → A5 → A6 → A7 → A8 → A9 → A10 → A11 → A12 → A13 → Option R) : Option R := x.bind (fun p => f p.1 p.2.1 p.2.2.1 p.2.2.2.1 p.2.2.2.2.1 p.2.2.2.2.2.1 p.2.2.2.2.2.2.1 p.2.2.2.2.2.2.2.1 p.2.2.2.2.2.2.2.2.1 p.2.2.2.2.2.2.2.2.2.1 p.2.2.2.2.2.2.2.2.2.2.1 p.2.2.2.2.2.2.2.2.2.2.2.1 p.2.2.2.2.2.2.2.2.2.2.2.2.1 p.2.2.2.2.2.2.2.2.2.2.2.2.2)
theorem bd14_e {A0 A1 A2 A3 A4 A5 A6 A7 A8 A9 A10 A11 A12 A13 R : Type} {x : Option (A0 × A1 × A2 × A3 × A4 × A5 × A6 × A7 × A8 × A9 × A10 × A11 × A12 × A13)} {f : A0 → A1 → A2 → A3 → A4 → A5 → A6 → A7 → A8 → A9 → A10 → A11 → A12 → A13 → Option R} {r : R} (h : bd14 x f = some r) : ∃ a0 a1 a2 a3 a4 a5 a6 a7 a8 a9 a10 a11 a12 a13, x = some (a0, a1, a2, a3, a4, a5, a6, a7, a8, a9, a10, a11, a12, a13) ∧ f a0 a1 a2 a3 a4 a5 a6 a7 a8 a9 a10 a11 a12 a13 = some r := by
  cases x with
  | none => cases h
  | some p => exact ⟨p.1, p.2.1, p.2.2.1, p.2.2.2.1, p.2.2.2.2.1, p.2.2.2.2.2.1, p.2.2.2.2.2.2.1, p.2.2.2.2.2.2.2.1, p.2.2.2.2.2.2.2.2.1, p.2.2.2.2.2.2.2.2.2.1, p.2.2.2.2.2.2.2.2.2.2.1, p.2.2.2.2.2.2.2.2.2.2.2.1, p.2.2.2.2.2.2.2.2.2.2.2.2.1, p.2.2.2.2.2.2.2.2.2.2.2.2.2, rfl, h⟩
theorem bd14_s {A0 A1 A2 A3 A4 A5 A6 A7 A8 A9 A10 A11 A12 A13 R : Type} {f : A0 → A1 → A2 → A3 → A4 → A5 → A6 → A7 → A8 → A9 → A10 → A11 → A12 → A13 → Option R} {a0 : A0} {a1 : A1} {a2 : A2} {a3 : A3} {a4 : A4} {a5 : A5} {a6 : A6} {a7 : A7} {a8 : A8} {a9 : A9} {a10 : A10} {a11 : A11} {a12 : A12} {a13 : A13} : bd14 (some (a0, a1, a2, a3, a4, a5, a6, a7, a8, a9, a10, a11, a12, a13)) f = f a0 a1 a2 a3 a4 a5 a6 a7 a8 a9 a10 a11 a12 a13 := rfl
def bd15 {A0 A1 A2 A3 A4 A5 A6 A7 A8 A9 A10 A11 A12 A13 A14 R : Type} (x : Option (A0 × A1 × A2 × A3 × A4 × A5 × A6 × A7 × A8 × A9 × A10 × A11 × A12 × A13 × A14)) (f : A0 → A1 → A2 → A3 → A4 → A5 → A6 → A7 → A8 → A9 → A10 → A11 → A12 → A13 → A14 → Option R) : Option R := x.bind (fun p => f p.1 p.2.1 p.2.2.1 p.2.2.2.1 p.2.2.2.2.1 p.2.2.2.2.2.1 p.2.2.2.2.2.2.1 p.2.2.2.2.2.2.2.1 p.2.2.2.2.2.2.2.2.1 p.2.2.2.2.2.2.2.2.2.1 p.2.2.2.2.2.2.2.2.2.2.1 p.2.2.2.2.2.2.2.2.2.2.2.1 p.2.2.2.2.2.2.2.2.2.2.2.2.1 p.2.2.2.2.2.2.2.2.2.2.2.2.2.1 p.2.2.2.2.2.2.2.2.2.2.2.2.2.2)
theorem bd15_e {A0 A1 A2 A3 A4 A5 A6 A7 A8 A9 A10 A11 A12 A13 A14 R : Type} {x : Option (A0 × A1 × A2 × A3 × A4 × A5 × A6 × A7 × A8 × A9 × A10 × A11 × A12 × A13 × A14)} {f : A0 → A1 → A2 → A3 → A4 → A5 → A6 → A7 → A8 → A9 → A10 → A11 → A12 → A13 → A14 → Option R} {r : R} (h : bd15 x f = some r) : ∃ a0 a1 a2 a3 a4 a5 a6 a7 a8 a9 a10 a11 a12 a13 a14, x = some (a0, a1, a2, a3, a4, a5, a6, a7, a8, a9, a10, a11, a12, a13, a14) ∧ f a0 a1 a2 a3 a4 a5 a6 a7 a8 a9 a10 a11 a12 a13 a14 = some r := by
  cases x with
  | none => cases h
  | some p => exact ⟨p.1, p.2.1, p.2.2.1, p.2.2.2.1, p.2.2.2.2.1, p.2.2.2.2.2.1, p.2.2.2.2.2.2.1, p.2.2.2.2.2.2.2.1, p.2.2.2.2.2.2.2.2.1, p.2.2.2.2.2.2.2.2.2.1, p.2.2.2.2.2.2.2.2.2.2.1, p.2.2.2.2.2.2.2.2.2.2.2.1, p.2.2.2.2.2.2.2.2.2.2.2.2.1, p.2.2.2.2.2.2.2.2.2.2.2.2.2.1, p.2.2.2.2.2.2.2.2.2.2.2.2.2.2, rfl, h⟩
theorem bd15_s {A0 A1 A2 A3 A4 A5 A6 A7 A8 A9 A10 A11 A12 A13 A14 R : Type} {f : A0 → A1 → A2 → A3 → A4 → A5 → A6 → A7 → A8 → A9 → A10 → A11 → A12 → A13 → A14 → Option R} {a0 : A0} {a1 : A1} {a2 : A2} {a3 : A3} {a4 : A4} {a5 : A5} {a6 : A6} {a7 : A7} {a8 : A8} {a9 : A9} {a10 : A10} {a11 : A11} {a12 : A12} {a13 : A13} {a14 : A14} : bd15 (some (a0, a1, a2, a3, a4, a5, a6, a7, a8, a9, a10, a11, a12, a13, a14)) f = f a0 a1 a2 a3 a4 a5 a6 a7 a8 a9 a10 a11 a12 a13 a14 := rfl
def bd28 {A0 A1 A2 A3 A4 A5 A6 A7 A8 A9 A10 A11 A12 A13 A14 A15 A16 A17 A18 A19 A20 A21 A22 A23 A24 A25 A26 A27 R : Type} (x : Option (A0 × A1 × A2 × A3 × A4 × A5 × A6 × A7 × A8 × A9 × A10 × A11 × A12 × A13 × A14 × A15 × A16 × A17 × A18 × A19 × A20 × A21 × A22 × A23 × A24 × A25 × A26 × A27)) (f : A0 → A1 → A2 → A3 → A4 → A5 → A6 → A7 → A8 → A9 → A10 → A11 → A12 → A13 → A14 → A15 → A16 → A17 → A18 → A19 → A20 → A21 → A22 → A23 → A24 → A25 → A26 → A27 → Option R) : Option R := x.bind (fun p => f p.1 p.2.1 p.2.2.1 p.2.2.2.1 p.2.2.2.2.1 p.2.2.2.2.2.1 p.2.2.2.2.2.2.1 p.2.2.2.2.2.2.2.1 p.2.2.2.2.2.2.2.2.1 p.2.2.2.2.2.2.2.2.2.1 p.2.2.2.2.2.2.2.2.2.2.1 p.2.2.2.2.2.2.2.2.2.2.2.1 p.2.2.2.2.2.2.2.2.2.2.2.2.1 p.2.2.2.2.2.2.2.2.2.2.2.2.2.1 p.2.2.2.2.2.2.2.2.2.2.2.2.2.2.1 p.2.2.2.2.2.2.2.2.2.2.2.2.2.2.2.1 p.2.2.2.2.2.2.2.2.2.2.2.2.2.2.2.2.1 p.2.2.2.2.2.2.2.2.2.2.2.2.2.2.2.2.2.1 p.2.2.2.2.2.2.2.2.2.2.2.2.2.2.2.2.2.2.1 p.2.2.2.2.2.2.2.2.2.2.2.2.2.2.2.2.2.2.2.1 p.2.2.2.2.2.2.2.2.2.2.2.2.2.2.2.2.2.2.2.2.1 p.2.2.2.2.2.2.2.2.2.2.2.2.2.2.2.2.2.2.2.2.2.1 p.2.2.2.2.2.2.2.2.2.2.2.2.2.2.2.2.2.2.2.2.2.2.1 p.2.2.2.2.2.2.2.2.2.2.2.2.2.2.2.2.2.2.2.2.2.2.2.1 p.2.2.2.2.2.2.2.2.2.2.2.2.2.2.2.2.2.2.2.2.2.2.2.2.1 p.2.2.2.2.2.2.2.2.2.2.2.2.2.2.2.2.2.2.2.2.2.2.2.2.2.1 p.2.2.2.2.2.2.2.2.2.2.2.2.2.2.2.2.2.2.2.2.2.2.2.2.2.2.1 p.2.2.2.2.2.2.2.2.2.2.2.2.2.2.2.2.2.2.2.2.2.2.2.2.2.2.2)
theorem bd28_e {A0 A1 A2 A3 A4 A5 A6 A7 A8 A9 A10 A11 A12 A13 A14 A15 A16 A17 A18 A19 A20 A21 A22 A23 A24 A25 A26 A27 R : Type} {x : Option (A0 × A1 × A2 × A3 × A4 × A5 × A6 × A7 × A8 × A9 × A10 × A11 × A12 × A13 × A14 × A15 × A16 × A17 × A18 × A19 × A20 × A21 × A22 × A23 × A24 × A25 × A26 × A27)} {f : A0 → A1 → A2 → A3 → A4 → A5 → A6 → A7 → A8 → A9 → A10 → A11 → A12 → A13 → A14 → A15 → A16 → A17 → A18 → A19 → A20 → A21 → A22 → A23 → A24 → A25 → A26 → A27 → Option R} {r : R} (h : bd28 x f = some r) : ∃ a0 a1 a2 a3 a4 a5 a6 a7 a8 a9 a10 a11 a12 a13 a14 a15 a16 a17 a18 a19 a20 a21 a22 a23 a24 a25 a26 a27, x = some (a0, a1, a2, a3, a4, a5, a6, a7, a8, a9, a10, a11, a12, a13, a14, a15, a16, a17, a18, a19, a20, a21, a22, a23, a24, a25, a26, a27) ∧ f a0 a1 a2 a3 a4 a5 a6 a7 a8 a9 a10 a11 a12 a13 a14 a15 a16 a17 a18 a19 a20 a21 a22 a23 a24 a25 a26 a27 = some r := by
  cases x with
  | none => cases h
  | some p => exact ⟨p.1, p.2.1, p.2.2.1, p.2.2.2.1, p.2.2.2.2.1, p.2.2.2.2.2.1, p.2.2.2.2.2.2.1, p.2.2.2.2.2.2.2.1, p.2.2.2.2.2.2.2.2.1, p.2.2.2.2.2.2.2.2.2.1, p.2.2.2.2.2.2.2.2.2.2.1, p.2.2.2.2.2.2.2.2.2.2.2.1, p.2.2.2.2.2.2.2.2.2.2.2.2.1, p.2.2.2.2.2.2.2.2.2.2.2.2.2.1, p.2.2.2.2.2.2.2.2.2.2.2.2.2.2.1, p.2.2.2.2.2.2.2.2.2.2.2.2.2.2.2.1, p.2.2.2.2.2.2.2.2.2.2.2.2.2.2.2.2.1, p.2.2.2.2.2.2.2.2.2.2.2.2.2.2.2.2.2.1, p.2.2.2.2.2.2.2.2.2.2.2.2.2.2.2.2.2.2.1, p.2.2.2.2.2.2.2.2.2.2.2.2.2.2.2.2.2.2.2.1, p.2.2.2.2.2.2.2.2.2.2.2.2.2.2.2.2.2.2.2.2.1, p.2.2.2.2.2.2.2.2.2.2.2.2.2.2.2.2.2.2.2.2.2.1, p.2.2.2.2.2.2.2.2.2.2.2.2.2.2.2.2.2.2.2.2.2.2.1, p.2.2.2.2.2.2.2.2.2.2.2.2.2.2.2.2.2.2.2.2.2.2.2.1, p.2.2.2.2.2.2.2.2.2.2.2.2.2.2.2.2.2.2.2.2.2.2.2.2.1, p.2.2.2.2.2.2.2.2.2.2.2.2.2.2.2.2.2.2.2.2.2.2.2.2.2.1, p.2.2.2.2.2.2.2.2.2.2.2.2.2.2.2.2.2.2.2.2.2.2.2.2.2.2.1, p.2.2.2.2.2.2.2.2.2.2.2.2.2.2.2.2.2.2.2.2.2.2.2.2.2.2.2, rfl, h⟩
theorem bd28_s {A0 A1 A2 A3 A4 A5 A6 A7 A8 A9 A10 A11 A12 A13 A14 A15 A16 A17 A18 A19 A20 A21 A22 A23 A24 A25 A26 A27 R : Type} {f : A0 → A1 → A2 → A3 → A4 → A5 → A6 → A7 → A8 → A9 → A10 → A11 → A12 → A13 → A14 → A15 → A16 → A17 → A18 → A19 → A20 → A21 → A22 → A23 → A24 → A25 → A26 → A27 → Option R} {a0 : A0} {a1 : A1} {a2 : A2} {a3 : A3} {a4 : A4} {a5 : A5} {a6 : A6} {a7 : A7} {a8 : A8} {a9 : A9} {a10 : A10} {a11 : A11} {a12 : A12} {a13 : A13} {a14 : A14} {a15 : A15} {a16 : A16} {a17 : A17} {a18 : A18} {a19 : A19} {a20 : A20} {a21 : A21} {a22 : A22} {a23 : A23} {a24 : A24} {a25 : A25} {a26 : A26} {a27 : A27} : bd28 (some (a0, a1, a2, a3, a4, a5, a6, a7, a8, a9, a10, a11, a12, a13, a14, a15, a16, a17, a18, a19, a20, a21, a22, a23, a24, a25, a26, a27)) f = f a0 a1 a2 a3 a4 a5 a6 a7 a8 a9 a10 a11 a12 a13 a14 a15 a16 a17 a18 a19 a20 a21 a22 a23 a24 a25 a26 a27 := rfl
theorem mX3_goOn_1 : Cond.fieldLink RX3 9 "RestGains$Plant" "cells" "[I" ∈ wsX3_goOn := List.mem_of_getElem? (i := 1) rfl
theorem mX0_fillBase_3 : Cond.fieldLink RX0 28 "RestGains$Chain" "base" "[[J" ∈ wsX0_fillBase := List.mem_of_getElem? (i := 3) rfl
theorem mX0_fillBase_6 : Cond.initialized RX4 ∈ wsX0_fillBase := List.mem_of_getElem? (i := 6) rfl
theorem mX0_fillBase_14 : Cond.static yX4_setUnit ∈ wsX0_fillBase := List.mem_of_getElem? (i := 14) rfl
theorem mX0_fillBase_4 : Cond.fieldLink RX0 20 "RestGains$Chain" "rank" "I" ∈ wsX0_fillBase := List.mem_of_getElem? (i := 4) rfl
theorem mX0_fillBase_2 : Cond.fieldLink RX0 34 "RestGains$Chain" "spare" "[J" ∈ wsX0_fillBase := List.mem_of_getElem? (i := 2) rfl
theorem mX0_fillBase_1 : Cond.fieldLink RX0 11 "RestGains$Chain" "rows" "[[J" ∈ wsX0_fillBase := List.mem_of_getElem? (i := 1) rfl
theorem mX0_fillBase_10 : Cond.static yX4_dot ∈ wsX0_fillBase := List.mem_of_getElem? (i := 10) rfl
theorem mX0_fillBase_12 : Cond.static yX4_firstNotZero ∈ wsX0_fillBase := List.mem_of_getElem? (i := 12) rfl
theorem mX0_fillBase_8 : Cond.static yX4_copy ∈ wsX0_fillBase := List.mem_of_getElem? (i := 8) rfl
theorem mX0_fillBase_5 : Cond.static yX4_cross ∈ wsX0_fillBase := List.mem_of_getElem? (i := 5) rfl
theorem mX3_carry_1 : Cond.fieldLink RX3 19 "RestGains$Plant" "spare" "[J" ∈ wsX3_carry := List.mem_of_getElem? (i := 1) rfl
theorem mX3_carry_9 : Cond.initialized RX4 ∈ wsX3_carry := List.mem_of_getElem? (i := 9) rfl
theorem mX3_carry_8 : Cond.static yX4_copy ∈ wsX3_carry := List.mem_of_getElem? (i := 8) rfl
theorem mX0_share_1 : Cond.fieldLink RX0 31 "RestGains$Chain" "square" "[[J" ∈ wsX0_share := List.mem_of_getElem? (i := 1) rfl
theorem mX0_share_3 : Cond.initialized RX4 ∈ wsX0_share := List.mem_of_getElem? (i := 3) rfl
theorem mX0_share_2 : Cond.static yX4_dot ∈ wsX0_share := List.mem_of_getElem? (i := 2) rfl
theorem mX0_findGains_5 : Cond.fieldLink RX0 16 "RestGains$Chain" "gains" "[J" ∈ wsX0_findGains := List.mem_of_getElem? (i := 5) rfl
theorem mX0_findGains_3 : Cond.fieldLink RX0 82 "RestGains$Plant" "order" "I" ∈ wsX0_findGains := List.mem_of_getElem? (i := 3) rfl
theorem mX0_findGains_1 : Cond.fieldLink RX0 34 "RestGains$Chain" "spare" "[J" ∈ wsX0_findGains := List.mem_of_getElem? (i := 1) rfl
theorem mX0_findGains_7 : Cond.initialized RX4 ∈ wsX0_findGains := List.mem_of_getElem? (i := 7) rfl
theorem mX0_findGains_6 : Cond.static yX4_setUnit ∈ wsX0_findGains := List.mem_of_getElem? (i := 6) rfl
theorem mX0_findGains_2 : Cond.fieldLink RX0 37 "RestGains$Chain" "across" "Z" ∈ wsX0_findGains := List.mem_of_getElem? (i := 2) rfl
theorem mX0_findGains_4 : Cond.fieldLink RX0 20 "RestGains$Chain" "rank" "I" ∈ wsX0_findGains := List.mem_of_getElem? (i := 4) rfl
theorem mX0_build_3 : Cond.fieldLink RX0 37 "RestGains$Chain" "across" "Z" ∈ wsX0_build := List.mem_of_getElem? (i := 3) rfl
theorem mX0_build_1 : Cond.fieldLink RX0 11 "RestGains$Chain" "rows" "[[J" ∈ wsX0_build := List.mem_of_getElem? (i := 1) rfl
theorem mX0_build_4 : Cond.fieldLink RX0 28 "RestGains$Chain" "base" "[[J" ∈ wsX0_build := List.mem_of_getElem? (i := 4) rfl
theorem mX0_build_5 : Cond.fieldLink RX0 31 "RestGains$Chain" "square" "[[J" ∈ wsX0_build := List.mem_of_getElem? (i := 5) rfl
theorem mX0_build_21 : Cond.initialized RX4 ∈ wsX0_build := List.mem_of_getElem? (i := 21) rfl
theorem mX0_build_20 : Cond.static yX4_cross ∈ wsX0_build := List.mem_of_getElem? (i := 20) rfl
theorem mX0_build_25 : Cond.static yX4_dot ∈ wsX0_build := List.mem_of_getElem? (i := 25) rfl
theorem mX0_build_6 : Cond.fieldLink RX0 24 "RestGains$Chain" "below" "J" ∈ wsX0_build := List.mem_of_getElem? (i := 6) rfl
theorem mX0_build_2 : Cond.fieldLink RX0 41 "RestGains$Plant" "cells" "[I" ∈ wsX0_build := List.mem_of_getElem? (i := 2) rfl
theorem mX1_write_1 : Cond.fieldLink RX1 15 "RestGains$Page" "length" "I" ∈ wsX1_write := List.mem_of_getElem? (i := 1) rfl
theorem mX1_write_2 : Cond.fieldLink RX1 9 "RestGains$Page" "letters" "[I" ∈ wsX1_write := List.mem_of_getElem? (i := 2) rfl
theorem mX1_takesOrder_1 : Cond.fieldLink RX1 22 "RestGains$Page" "order" "I" ∈ wsX1_takesOrder := List.mem_of_getElem? (i := 1) rfl
theorem mX1_takesOrder_2 : Cond.fieldLink RX1 28 "RestGains$Page" "due" "I" ∈ wsX1_takesOrder := List.mem_of_getElem? (i := 2) rfl
theorem mX1_needed_1 : Cond.fieldLink RX1 22 "RestGains$Page" "order" "I" ∈ wsX1_needed := List.mem_of_getElem? (i := 1) rfl
theorem mX1_takesSign_3 : Cond.fieldLink RX1 28 "RestGains$Page" "due" "I" ∈ wsX1_takesSign := List.mem_of_getElem? (i := 3) rfl
theorem mX1_takesSign_1 : Cond.fieldLink RX1 25 "RestGains$Page" "done" "I" ∈ wsX1_takesSign := List.mem_of_getElem? (i := 1) rfl
theorem mX1_takesSign_2 : Cond.fieldLink RX1 22 "RestGains$Page" "order" "I" ∈ wsX1_takesSign := List.mem_of_getElem? (i := 2) rfl
theorem mX1_keeps_1 : Cond.fieldLink RX1 25 "RestGains$Page" "done" "I" ∈ wsX1_keeps := List.mem_of_getElem? (i := 1) rfl
theorem mX1_keeps_2 : Cond.fieldLink RX1 19 "RestGains$Page" "numbers" "[I" ∈ wsX1_keeps := List.mem_of_getElem? (i := 2) rfl
theorem mX1_keeps_3 : Cond.fieldLink RX1 28 "RestGains$Page" "due" "I" ∈ wsX1_keeps := List.mem_of_getElem? (i := 3) rfl
theorem mX1_takesNumber_1 : Cond.fieldLink RX1 28 "RestGains$Page" "due" "I" ∈ wsX1_takesNumber := List.mem_of_getElem? (i := 1) rfl
theorem mX1_takes_1 : Cond.fieldLink RX1 28 "RestGains$Page" "due" "I" ∈ wsX1_takes := List.mem_of_getElem? (i := 1) rfl
theorem mX1_wellBegun_4 : Cond.fieldLink RX1 15 "RestGains$Page" "length" "I" ∈ wsX1_wellBegun := List.mem_of_getElem? (i := 4) rfl
theorem mX1_wellBegun_5 : Cond.fieldLink RX1 9 "RestGains$Page" "letters" "[I" ∈ wsX1_wellBegun := List.mem_of_getElem? (i := 5) rfl
theorem mX1_wellBegun_1 : Cond.fieldLink RX1 22 "RestGains$Page" "order" "I" ∈ wsX1_wellBegun := List.mem_of_getElem? (i := 1) rfl
theorem mX1_wellBegun_2 : Cond.fieldLink RX1 25 "RestGains$Page" "done" "I" ∈ wsX1_wellBegun := List.mem_of_getElem? (i := 2) rfl
theorem mX1_wellBegun_3 : Cond.fieldLink RX1 28 "RestGains$Page" "due" "I" ∈ wsX1_wellBegun := List.mem_of_getElem? (i := 3) rfl
theorem mX1_isPlant_1 : Cond.fieldLink RX1 15 "RestGains$Page" "length" "I" ∈ wsX1_isPlant := List.mem_of_getElem? (i := 1) rfl
theorem mX1_isPlant_2 : Cond.fieldLink RX1 22 "RestGains$Page" "order" "I" ∈ wsX1_isPlant := List.mem_of_getElem? (i := 2) rfl
theorem mX1_isPlant_3 : Cond.fieldLink RX1 25 "RestGains$Page" "done" "I" ∈ wsX1_isPlant := List.mem_of_getElem? (i := 3) rfl
theorem mX3_hasCell_1 : Cond.fieldLink RX3 15 "RestGains$Plant" "order" "I" ∈ wsX3_hasCell := List.mem_of_getElem? (i := 1) rfl
theorem mX1_copyTo_1 : Cond.fieldLink RX1 42 "RestGains$Plant" "cells" "[I" ∈ wsX1_copyTo := List.mem_of_getElem? (i := 1) rfl
theorem mX1_copyTo_4 : Cond.fieldLink RX1 19 "RestGains$Page" "numbers" "[I" ∈ wsX1_copyTo := List.mem_of_getElem? (i := 4) rfl
theorem mX1_copyTo_2 : Cond.fieldLink RX1 22 "RestGains$Page" "order" "I" ∈ wsX1_copyTo := List.mem_of_getElem? (i := 2) rfl
theorem mX1_copyTo_3 : Cond.fieldLink RX1 47 "RestGains$Plant" "order" "I" ∈ wsX1_copyTo := List.mem_of_getElem? (i := 3) rfl
theorem mX2_isOpen_6 : Cond.fieldLink RX2 25 "RestGains$Planner" "shares" "[[J" ∈ wsX2_isOpen := List.mem_of_getElem? (i := 6) rfl
theorem mX2_isOpen_1 : Cond.fieldLink RX2 28 "RestGains$Planner" "spare" "[J" ∈ wsX2_isOpen := List.mem_of_getElem? (i := 1) rfl
theorem mX2_isOpen_2 : Cond.fieldLink RX2 34 "RestGains$Planner" "tried" "I" ∈ wsX2_isOpen := List.mem_of_getElem? (i := 2) rfl
theorem mX2_isOpen_5 : Cond.fieldLink RX2 81 "RestGains$Chain" "rows" "[[J" ∈ wsX2_isOpen := List.mem_of_getElem? (i := 5) rfl
theorem mX2_isOpen_8 : Cond.initialized RX4 ∈ wsX2_isOpen := List.mem_of_getElem? (i := 8) rfl
theorem mX2_isOpen_7 : Cond.static yX4_copy ∈ wsX2_isOpen := List.mem_of_getElem? (i := 7) rfl
theorem mX2_isOpen_3 : Cond.fieldLink RX2 37 "RestGains$Planner" "bound" "I" ∈ wsX2_isOpen := List.mem_of_getElem? (i := 3) rfl
theorem mX2_isOpen_4 : Cond.fieldLink RX2 19 "RestGains$Planner" "due" "[J" ∈ wsX2_isOpen := List.mem_of_getElem? (i := 4) rfl
theorem mX2_setTried_2 : Cond.fieldLink RX2 9 "RestGains$Planner" "inputs" "[I" ∈ wsX2_setTried := List.mem_of_getElem? (i := 2) rfl
theorem mX2_setTried_3 : Cond.fieldLink RX2 31 "RestGains$Planner" "limit" "I" ∈ wsX2_setTried := List.mem_of_getElem? (i := 3) rfl
theorem mX2_setTried_1 : Cond.fieldLink RX2 34 "RestGains$Planner" "tried" "I" ∈ wsX2_setTried := List.mem_of_getElem? (i := 1) rfl
theorem mX2_restFits_3 : Cond.fieldLink RX2 34 "RestGains$Planner" "tried" "I" ∈ wsX2_restFits := List.mem_of_getElem? (i := 3) rfl
theorem mX2_restFits_8 : Cond.initialized RX4 ∈ wsX2_restFits := List.mem_of_getElem? (i := 8) rfl
theorem mX2_restFits_7 : Cond.static yX4_quotient ∈ wsX2_restFits := List.mem_of_getElem? (i := 7) rfl
theorem mX2_restFits_6 : Cond.fieldLink RX2 31 "RestGains$Planner" "limit" "I" ∈ wsX2_restFits := List.mem_of_getElem? (i := 6) rfl
theorem mX2_restFits_4 : Cond.fieldLink RX2 9 "RestGains$Planner" "inputs" "[I" ∈ wsX2_restFits := List.mem_of_getElem? (i := 4) rfl
theorem mX2_restFits_1 : Cond.fieldLink RX2 37 "RestGains$Planner" "bound" "I" ∈ wsX2_restFits := List.mem_of_getElem? (i := 1) rfl
theorem mX2_restFits_5 : Cond.fieldLink RX2 25 "RestGains$Planner" "shares" "[[J" ∈ wsX2_restFits := List.mem_of_getElem? (i := 5) rfl
theorem mX2_restFits_2 : Cond.fieldLink RX2 19 "RestGains$Planner" "due" "[J" ∈ wsX2_restFits := List.mem_of_getElem? (i := 2) rfl
theorem mX2_isMet_2 : Cond.fieldLink RX2 34 "RestGains$Planner" "tried" "I" ∈ wsX2_isMet := List.mem_of_getElem? (i := 2) rfl
theorem mX2_isMet_1 : Cond.fieldLink RX2 31 "RestGains$Planner" "limit" "I" ∈ wsX2_isMet := List.mem_of_getElem? (i := 1) rfl
theorem mX2_seek_3 : Cond.fieldLink RX2 40 "RestGains$Chain" "rank" "I" ∈ wsX2_seek := List.mem_of_getElem? (i := 3) rfl
theorem mX2_seek_2 : Cond.fieldLink RX2 15 "RestGains$Planner" "ticks" "I" ∈ wsX2_seek := List.mem_of_getElem? (i := 2) rfl
theorem mX2_seek_4 : Cond.methodLink RX2 45 Lib.Math.min.name ∈ wsX2_seek := List.mem_of_getElem? (i := 4) rfl
theorem mX2_seek_5 : Cond.static Lib.Math.min.name ∈ wsX2_seek := List.mem_of_getElem? (i := 5) rfl
theorem mX2_seek_6 : Cond.initialized "java/lang/Math" ∈ wsX2_seek := List.mem_of_getElem? (i := 6) rfl
theorem mX2_seek_7 : Cond.code Lib.Math.min.name Lib.Math.min.code 2 (some .int) ∈ wsX2_seek := List.mem_of_getElem? (i := 7) rfl
theorem mX2_seek_8 : Cond.fieldLink RX2 37 "RestGains$Planner" "bound" "I" ∈ wsX2_seek := List.mem_of_getElem? (i := 8) rfl
theorem mX2_seek_9 : Cond.fieldLink RX2 34 "RestGains$Planner" "tried" "I" ∈ wsX2_seek := List.mem_of_getElem? (i := 9) rfl
theorem mX2_seek_10 : Cond.fieldLink RX2 55 "RestGains$Chain" "below" "J" ∈ wsX2_seek := List.mem_of_getElem? (i := 10) rfl
theorem mX2_seek_1 : Cond.fieldLink RX2 31 "RestGains$Planner" "limit" "I" ∈ wsX2_seek := List.mem_of_getElem? (i := 1) rfl
theorem mX3_hasPlace_1 : Cond.fieldLink RX3 15 "RestGains$Plant" "order" "I" ∈ wsX3_hasPlace := List.mem_of_getElem? (i := 1) rfl
theorem mX3_seen_1 : Cond.fieldLink RX3 9 "RestGains$Plant" "cells" "[I" ∈ wsX3_seen := List.mem_of_getElem? (i := 1) rfl
theorem mX4_letter_1 : Cond.constantLong RX4 66 (-10000000000003) ∈ wsX4_letter := List.mem_of_getElem? (i := 1) rfl
theorem mX4_letter_2 : Cond.fieldLink RX4 10 "RestGains" "page" "LRestGains$Page;" ∈ wsX4_letter := List.mem_of_getElem? (i := 2) rfl
theorem mX4_letter_3 : Cond.fieldLink RX4 68 "RestGains$Page" "length" "I" ∈ wsX4_letter := List.mem_of_getElem? (i := 3) rfl
theorem mX4_letter_4 : Cond.constantLong RX4 71 (-10000000000005) ∈ wsX4_letter := List.mem_of_getElem? (i := 4) rfl
theorem mX4_blank_1 : Cond.fieldLink RX4 10 "RestGains" "page" "LRestGains$Page;" ∈ wsX4_blank := List.mem_of_getElem? (i := 1) rfl
theorem mX4_blank_2 : Cond.fieldLink RX4 68 "RestGains$Page" "length" "I" ∈ wsX4_blank := List.mem_of_getElem? (i := 2) rfl
theorem mX4_fault_1 : Cond.fieldLink RX4 10 "RestGains" "page" "LRestGains$Page;" ∈ wsX4_fault := List.mem_of_getElem? (i := 1) rfl
theorem mX4_plantChanged_1 : Cond.fieldLink RX4 28 "RestGains" "reach" "LRestGains$Chain;" ∈ wsX4_plantChanged := List.mem_of_getElem? (i := 1) rfl
theorem mX4_plantChanged_2 : Cond.fieldLink RX4 19 "RestGains" "plant" "LRestGains$Plant;" ∈ wsX4_plantChanged := List.mem_of_getElem? (i := 2) rfl
theorem mX4_plantChanged_3 : Cond.fieldLink RX4 32 "RestGains" "sight" "LRestGains$Chain;" ∈ wsX4_plantChanged := List.mem_of_getElem? (i := 3) rfl
theorem mX4_plantChanged_4 : Cond.fieldLink RX4 62 "RestGains" "planned" "Z" ∈ wsX4_plantChanged := List.mem_of_getElem? (i := 4) rfl
theorem mX4_plant_6 : Cond.fieldLink RX4 56 "RestGains" "plantsRead" "I" ∈ wsX4_plant := List.mem_of_getElem? (i := 6) rfl
theorem mX4_plant_3 : Cond.fieldLink RX4 19 "RestGains" "plant" "LRestGains$Plant;" ∈ wsX4_plant := List.mem_of_getElem? (i := 3) rfl
theorem mX4_plant_7 : Cond.fieldLink RX4 94 "RestGains$Plant" "order" "I" ∈ wsX4_plant := List.mem_of_getElem? (i := 7) rfl
theorem mX4_plant_5 : Cond.fieldLink RX4 42 "RestGains" "start" "[J" ∈ wsX4_plant := List.mem_of_getElem? (i := 5) rfl
theorem mX4_plant_1 : Cond.fieldLink RX4 10 "RestGains" "page" "LRestGains$Page;" ∈ wsX4_plant := List.mem_of_getElem? (i := 1) rfl
theorem mX4_plant_4 : Cond.fieldLink RX4 68 "RestGains$Page" "length" "I" ∈ wsX4_plant := List.mem_of_getElem? (i := 4) rfl
theorem mX4_plant_2 : Cond.constantLong RX4 85 (-10000000000004) ∈ wsX4_plant := List.mem_of_getElem? (i := 2) rfl
theorem mX4_alter_1 : Cond.fieldLink RX4 19 "RestGains" "plant" "LRestGains$Plant;" ∈ wsX4_alter := List.mem_of_getElem? (i := 1) rfl
theorem mX4_alter_3 : Cond.constantLong RX4 66 (-10000000000003) ∈ wsX4_alter := List.mem_of_getElem? (i := 3) rfl
theorem mX4_alter_4 : Cond.fieldLink RX4 103 "RestGains$Plant" "cells" "[I" ∈ wsX4_alter := List.mem_of_getElem? (i := 4) rfl
theorem mX4_alter_2 : Cond.constantLong RX4 101 (-10000000000002) ∈ wsX4_alter := List.mem_of_getElem? (i := 2) rfl
theorem mX4_has_1 : Cond.fieldLink RX4 19 "RestGains" "plant" "LRestGains$Plant;" ∈ wsX4_has := List.mem_of_getElem? (i := 1) rfl
theorem mX4_has_3 : Cond.constantLong RX4 101 (-10000000000002) ∈ wsX4_has := List.mem_of_getElem? (i := 3) rfl
theorem mX4_has_2 : Cond.fieldLink RX4 103 "RestGains$Plant" "cells" "[I" ∈ wsX4_has := List.mem_of_getElem? (i := 2) rfl
theorem mX4_start_1 : Cond.fieldLink RX4 19 "RestGains" "plant" "LRestGains$Plant;" ∈ wsX4_start := List.mem_of_getElem? (i := 1) rfl
theorem mX4_start_3 : Cond.constantLong RX4 66 (-10000000000003) ∈ wsX4_start := List.mem_of_getElem? (i := 3) rfl
theorem mX4_start_4 : Cond.fieldLink RX4 42 "RestGains" "start" "[J" ∈ wsX4_start := List.mem_of_getElem? (i := 4) rfl
theorem mX4_start_5 : Cond.fieldLink RX4 62 "RestGains" "planned" "Z" ∈ wsX4_start := List.mem_of_getElem? (i := 5) rfl
theorem mX4_start_2 : Cond.constantLong RX4 101 (-10000000000002) ∈ wsX4_start := List.mem_of_getElem? (i := 2) rfl
theorem mX4_limit_1 : Cond.constantLong RX4 66 (-10000000000003) ∈ wsX4_limit := List.mem_of_getElem? (i := 1) rfl
theorem mX4_limit_2 : Cond.fieldLink RX4 52 "RestGains" "limit" "I" ∈ wsX4_limit := List.mem_of_getElem? (i := 2) rfl
theorem mX4_limit_3 : Cond.fieldLink RX4 62 "RestGains" "planned" "Z" ∈ wsX4_limit := List.mem_of_getElem? (i := 3) rfl
theorem mX4_tick_6 : Cond.fieldLink RX4 49 "RestGains" "next" "[J" ∈ wsX4_tick := List.mem_of_getElem? (i := 6) rfl
theorem mX4_tick_5 : Cond.fieldLink RX4 42 "RestGains" "start" "[J" ∈ wsX4_tick := List.mem_of_getElem? (i := 5) rfl
theorem mX4_tick_10 : Cond.fieldLink RX4 59 "RestGains" "ticksGone" "I" ∈ wsX4_tick := List.mem_of_getElem? (i := 10) rfl
theorem mX4_tick_11 : Cond.fieldLink RX4 62 "RestGains" "planned" "Z" ∈ wsX4_tick := List.mem_of_getElem? (i := 11) rfl
theorem mX4_tick_1 : Cond.fieldLink RX4 19 "RestGains" "plant" "LRestGains$Plant;" ∈ wsX4_tick := List.mem_of_getElem? (i := 1) rfl
theorem mX4_tick_7 : Cond.fieldLink RX4 103 "RestGains$Plant" "cells" "[I" ∈ wsX4_tick := List.mem_of_getElem? (i := 7) rfl
theorem mX4_tick_8 : Cond.constantLong RX4 114 (-1000000) ∈ wsX4_tick := List.mem_of_getElem? (i := 8) rfl
theorem mX4_tick_3 : Cond.constantLong RX4 85 (-10000000000004) ∈ wsX4_tick := List.mem_of_getElem? (i := 3) rfl
theorem mX4_tick_9 : Cond.constantLong RX4 116 (1000000) ∈ wsX4_tick := List.mem_of_getElem? (i := 9) rfl
theorem mX4_tick_2 : Cond.fieldLink RX4 94 "RestGains$Plant" "order" "I" ∈ wsX4_tick := List.mem_of_getElem? (i := 2) rfl
theorem mX4_tick_4 : Cond.constantLong RX4 66 (-10000000000003) ∈ wsX4_tick := List.mem_of_getElem? (i := 4) rfl
theorem mX4_chain_2 : Cond.fieldLink RX4 28 "RestGains" "reach" "LRestGains$Chain;" ∈ wsX4_chain := List.mem_of_getElem? (i := 2) rfl
theorem mX4_chain_1 : Cond.fieldLink RX4 32 "RestGains" "sight" "LRestGains$Chain;" ∈ wsX4_chain := List.mem_of_getElem? (i := 1) rfl
theorem mX4_row_1 : Cond.fieldLink RX4 19 "RestGains" "plant" "LRestGains$Plant;" ∈ wsX4_row := List.mem_of_getElem? (i := 1) rfl
theorem mX4_row_2 : Cond.constantLong RX4 101 (-10000000000002) ∈ wsX4_row := List.mem_of_getElem? (i := 2) rfl
theorem mX4_row_3 : Cond.fieldLink RX4 130 "RestGains$Chain" "rows" "[[J" ∈ wsX4_row := List.mem_of_getElem? (i := 3) rfl
theorem mX4_isFull_1 : Cond.fieldLink RX4 19 "RestGains" "plant" "LRestGains$Plant;" ∈ wsX4_isFull := List.mem_of_getElem? (i := 1) rfl
theorem mX4_isFull_2 : Cond.fieldLink RX4 94 "RestGains$Plant" "order" "I" ∈ wsX4_isFull := List.mem_of_getElem? (i := 2) rfl
theorem mX4_isFull_3 : Cond.fieldLink RX4 134 "RestGains$Chain" "rank" "I" ∈ wsX4_isFull := List.mem_of_getElem? (i := 3) rfl
theorem mX4_canRest_1 : Cond.fieldLink RX4 42 "RestGains" "start" "[J" ∈ wsX4_canRest := List.mem_of_getElem? (i := 1) rfl
theorem mX4_canRest_2 : Cond.fieldLink RX4 46 "RestGains" "way" "[J" ∈ wsX4_canRest := List.mem_of_getElem? (i := 2) rfl
theorem mX4_canRest_3 : Cond.fieldLink RX4 19 "RestGains" "plant" "LRestGains$Plant;" ∈ wsX4_canRest := List.mem_of_getElem? (i := 3) rfl
theorem mX4_canRest_4 : Cond.fieldLink RX4 94 "RestGains$Plant" "order" "I" ∈ wsX4_canRest := List.mem_of_getElem? (i := 4) rfl
theorem mX4_canRest_5 : Cond.fieldLink RX4 28 "RestGains" "reach" "LRestGains$Chain;" ∈ wsX4_canRest := List.mem_of_getElem? (i := 5) rfl
theorem mX4_canRest_6 : Cond.fieldLink RX4 134 "RestGains$Chain" "rank" "I" ∈ wsX4_canRest := List.mem_of_getElem? (i := 6) rfl
theorem mX4_about_1 : Cond.fieldLink RX4 19 "RestGains" "plant" "LRestGains$Plant;" ∈ wsX4_about := List.mem_of_getElem? (i := 1) rfl
theorem mX4_about_2 : Cond.fieldLink RX4 94 "RestGains$Plant" "order" "I" ∈ wsX4_about := List.mem_of_getElem? (i := 2) rfl
theorem mX4_about_4 : Cond.fieldLink RX4 28 "RestGains" "reach" "LRestGains$Chain;" ∈ wsX4_about := List.mem_of_getElem? (i := 4) rfl
theorem mX4_about_5 : Cond.fieldLink RX4 134 "RestGains$Chain" "rank" "I" ∈ wsX4_about := List.mem_of_getElem? (i := 5) rfl
theorem mX4_about_6 : Cond.fieldLink RX4 32 "RestGains" "sight" "LRestGains$Chain;" ∈ wsX4_about := List.mem_of_getElem? (i := 6) rfl
theorem mX4_about_7 : Cond.fieldLink RX4 42 "RestGains" "start" "[J" ∈ wsX4_about := List.mem_of_getElem? (i := 7) rfl
theorem mX4_about_8 : Cond.constantLong RX4 66 (-10000000000003) ∈ wsX4_about := List.mem_of_getElem? (i := 8) rfl
theorem mX4_about_3 : Cond.constantLong RX4 85 (-10000000000004) ∈ wsX4_about := List.mem_of_getElem? (i := 3) rfl
theorem mX4_fraction_1 : Cond.methodLink RX4 238 Lib.MathLoose.abs_long.x ∈ wsX4_fraction := List.mem_of_getElem? (i := 1) rfl
theorem mX4_fraction_2 : Cond.static Lib.MathLoose.abs_long.x ∈ wsX4_fraction := List.mem_of_getElem? (i := 2) rfl
theorem mX4_fraction_3 : Cond.initialized "java/lang/Math" ∈ wsX4_fraction := List.mem_of_getElem? (i := 3) rfl
theorem mX4_fraction_4 : Cond.code Lib.MathLoose.abs_long.x Lib.MathLoose.abs_long.code 2 (some .long) ∈ wsX4_fraction := List.mem_of_getElem? (i := 4) rfl
theorem mX4_gain_1 : Cond.fieldLink RX4 19 "RestGains" "plant" "LRestGains$Plant;" ∈ wsX4_gain := List.mem_of_getElem? (i := 1) rfl
theorem mX4_gain_6 : Cond.constantLong RX4 85 (-10000000000004) ∈ wsX4_gain := List.mem_of_getElem? (i := 6) rfl
theorem mX4_gain_4 : Cond.fieldLink RX4 147 "RestGains$Chain" "gains" "[J" ∈ wsX4_gain := List.mem_of_getElem? (i := 4) rfl
theorem mX4_gain_5 : Cond.fieldLink RX4 150 "RestGains$Chain" "below" "J" ∈ wsX4_gain := List.mem_of_getElem? (i := 5) rfl
theorem mX4_gain_3 : Cond.constantLong RX4 66 (-10000000000003) ∈ wsX4_gain := List.mem_of_getElem? (i := 3) rfl
theorem mX4_gain_2 : Cond.constantLong RX4 101 (-10000000000002) ∈ wsX4_gain := List.mem_of_getElem? (i := 2) rfl
theorem mX4_goTheWay_1 : Cond.fieldLink RX4 46 "RestGains" "way" "[J" ∈ wsX4_goTheWay := List.mem_of_getElem? (i := 1) rfl
theorem mX4_goTheWay_6 : Cond.fieldLink RX4 49 "RestGains" "next" "[J" ∈ wsX4_goTheWay := List.mem_of_getElem? (i := 6) rfl
theorem mX4_goTheWay_3 : Cond.fieldLink RX4 150 "RestGains$Chain" "below" "J" ∈ wsX4_goTheWay := List.mem_of_getElem? (i := 3) rfl
theorem mX4_goTheWay_4 : Cond.fieldLink RX4 19 "RestGains" "plant" "LRestGains$Plant;" ∈ wsX4_goTheWay := List.mem_of_getElem? (i := 4) rfl
theorem mX4_goTheWay_7 : Cond.fieldLink RX4 103 "RestGains$Plant" "cells" "[I" ∈ wsX4_goTheWay := List.mem_of_getElem? (i := 7) rfl
theorem mX4_goTheWay_5 : Cond.fieldLink RX4 147 "RestGains$Chain" "gains" "[J" ∈ wsX4_goTheWay := List.mem_of_getElem? (i := 5) rfl
theorem mX4_goTheWay_2 : Cond.fieldLink RX4 42 "RestGains" "start" "[J" ∈ wsX4_goTheWay := List.mem_of_getElem? (i := 2) rfl
theorem mX4_after_1 : Cond.fieldLink RX4 19 "RestGains" "plant" "LRestGains$Plant;" ∈ wsX4_after := List.mem_of_getElem? (i := 1) rfl
theorem mX4_after_3 : Cond.constantLong RX4 66 (-10000000000003) ∈ wsX4_after := List.mem_of_getElem? (i := 3) rfl
theorem mX4_after_5 : Cond.fieldLink RX4 46 "RestGains" "way" "[J" ∈ wsX4_after := List.mem_of_getElem? (i := 5) rfl
theorem mX4_after_6 : Cond.fieldLink RX4 150 "RestGains$Chain" "below" "J" ∈ wsX4_after := List.mem_of_getElem? (i := 6) rfl
theorem mX4_after_4 : Cond.constantLong RX4 85 (-10000000000004) ∈ wsX4_after := List.mem_of_getElem? (i := 4) rfl
theorem mX4_after_2 : Cond.constantLong RX4 101 (-10000000000002) ∈ wsX4_after := List.mem_of_getElem? (i := 2) rfl
theorem mX4_input_1 : Cond.fieldLink RX4 28 "RestGains" "reach" "LRestGains$Chain;" ∈ wsX4_input := List.mem_of_getElem? (i := 1) rfl
theorem mX4_input_3 : Cond.constantLong RX4 66 (-10000000000003) ∈ wsX4_input := List.mem_of_getElem? (i := 3) rfl
theorem mX4_input_4 : Cond.fieldLink RX4 147 "RestGains$Chain" "gains" "[J" ∈ wsX4_input := List.mem_of_getElem? (i := 4) rfl
theorem mX4_input_5 : Cond.fieldLink RX4 46 "RestGains" "way" "[J" ∈ wsX4_input := List.mem_of_getElem? (i := 5) rfl
theorem mX4_input_6 : Cond.fieldLink RX4 150 "RestGains$Chain" "below" "J" ∈ wsX4_input := List.mem_of_getElem? (i := 6) rfl
theorem mX4_input_2 : Cond.constantLong RX4 85 (-10000000000004) ∈ wsX4_input := List.mem_of_getElem? (i := 2) rfl
theorem mX4_most_3 : Cond.constantLong RX4 85 (-10000000000004) ∈ wsX4_most := List.mem_of_getElem? (i := 3) rfl
theorem mX4_most_1 : Cond.fieldLink RX4 19 "RestGains" "plant" "LRestGains$Plant;" ∈ wsX4_most := List.mem_of_getElem? (i := 1) rfl
theorem mX4_most_2 : Cond.fieldLink RX4 94 "RestGains$Plant" "order" "I" ∈ wsX4_most := List.mem_of_getElem? (i := 2) rfl
theorem mX4_plan_6 : Cond.fieldLink RX4 38 "RestGains" "planner" "LRestGains$Planner;" ∈ wsX4_plan := List.mem_of_getElem? (i := 6) rfl
theorem mX4_plan_10 : Cond.fieldLink RX4 174 "RestGains$Planner" "ticks" "I" ∈ wsX4_plan := List.mem_of_getElem? (i := 10) rfl
theorem mX4_plan_11 : Cond.constantLong RX4 177 (-10000000000001) ∈ wsX4_plan := List.mem_of_getElem? (i := 11) rfl
theorem mX4_plan_12 : Cond.fieldLink RX4 179 "RestGains$Planner" "inputs" "[I" ∈ wsX4_plan := List.mem_of_getElem? (i := 12) rfl
theorem mX4_plan_5 : Cond.fieldLink RX4 62 "RestGains" "planned" "Z" ∈ wsX4_plan := List.mem_of_getElem? (i := 5) rfl
theorem mX4_plan_1 : Cond.fieldLink RX4 19 "RestGains" "plant" "LRestGains$Plant;" ∈ wsX4_plan := List.mem_of_getElem? (i := 1) rfl
theorem mX4_plan_7 : Cond.fieldLink RX4 28 "RestGains" "reach" "LRestGains$Chain;" ∈ wsX4_plan := List.mem_of_getElem? (i := 7) rfl
theorem mX4_plan_8 : Cond.fieldLink RX4 42 "RestGains" "start" "[J" ∈ wsX4_plan := List.mem_of_getElem? (i := 8) rfl
theorem mX4_plan_9 : Cond.fieldLink RX4 52 "RestGains" "limit" "I" ∈ wsX4_plan := List.mem_of_getElem? (i := 9) rfl
theorem mX4_plan_2 : Cond.fieldLink RX4 94 "RestGains$Plant" "order" "I" ∈ wsX4_plan := List.mem_of_getElem? (i := 2) rfl
theorem mX4_plan_4 : Cond.constantLong RX4 66 (-10000000000003) ∈ wsX4_plan := List.mem_of_getElem? (i := 4) rfl
theorem mX4_plan_3 : Cond.constantLong RX4 85 (-10000000000004) ∈ wsX4_plan := List.mem_of_getElem? (i := 3) rfl
theorem mX4_count_1 : Cond.fieldLink RX4 19 "RestGains" "plant" "LRestGains$Plant;" ∈ wsX4_count := List.mem_of_getElem? (i := 1) rfl
theorem mX4_count_2 : Cond.fieldLink RX4 94 "RestGains$Plant" "order" "I" ∈ wsX4_count := List.mem_of_getElem? (i := 2) rfl
theorem mX4_count_3 : Cond.fieldLink RX4 10 "RestGains" "page" "LRestGains$Page;" ∈ wsX4_count := List.mem_of_getElem? (i := 3) rfl
theorem mX4_count_4 : Cond.fieldLink RX4 68 "RestGains$Page" "length" "I" ∈ wsX4_count := List.mem_of_getElem? (i := 4) rfl
theorem mX4_count_5 : Cond.fieldLink RX4 52 "RestGains" "limit" "I" ∈ wsX4_count := List.mem_of_getElem? (i := 5) rfl
theorem mX4_count_6 : Cond.fieldLink RX4 56 "RestGains" "plantsRead" "I" ∈ wsX4_count := List.mem_of_getElem? (i := 6) rfl
theorem mX4_count_7 : Cond.fieldLink RX4 59 "RestGains" "ticksGone" "I" ∈ wsX4_count := List.mem_of_getElem? (i := 7) rfl
theorem mX4_count_8 : Cond.constantLong RX4 66 (-10000000000003) ∈ wsX4_count := List.mem_of_getElem? (i := 8) rfl
theorem mX4_withRows_1 : Cond.fieldLink RX4 19 "RestGains" "plant" "LRestGains$Plant;" ∈ wsX4_withRows := List.mem_of_getElem? (i := 1) rfl
theorem mX4_withRows_2 : Cond.fieldLink RX4 94 "RestGains$Plant" "order" "I" ∈ wsX4_withRows := List.mem_of_getElem? (i := 2) rfl
theorem mX4_withRows_3 : Cond.constantLong RX4 184 (31) ∈ wsX4_withRows := List.mem_of_getElem? (i := 3) rfl
theorem mX4_withRows_4 : Cond.fieldLink RX4 130 "RestGains$Chain" "rows" "[[J" ∈ wsX4_withRows := List.mem_of_getElem? (i := 4) rfl
theorem mX4_withGains_1 : Cond.fieldLink RX4 19 "RestGains" "plant" "LRestGains$Plant;" ∈ wsX4_withGains := List.mem_of_getElem? (i := 1) rfl
theorem mX4_withGains_2 : Cond.fieldLink RX4 94 "RestGains$Plant" "order" "I" ∈ wsX4_withGains := List.mem_of_getElem? (i := 2) rfl
theorem mX4_withGains_3 : Cond.constantLong RX4 184 (31) ∈ wsX4_withGains := List.mem_of_getElem? (i := 3) rfl
theorem mX4_withPlant_3 : Cond.constantLong RX4 184 (31) ∈ wsX4_withPlant := List.mem_of_getElem? (i := 3) rfl
theorem mX4_withPlant_1 : Cond.fieldLink RX4 19 "RestGains" "plant" "LRestGains$Plant;" ∈ wsX4_withPlant := List.mem_of_getElem? (i := 1) rfl
theorem mX4_withPlant_2 : Cond.fieldLink RX4 94 "RestGains$Plant" "order" "I" ∈ wsX4_withPlant := List.mem_of_getElem? (i := 2) rfl
theorem mX4_withPlant_5 : Cond.fieldLink RX4 28 "RestGains" "reach" "LRestGains$Chain;" ∈ wsX4_withPlant := List.mem_of_getElem? (i := 5) rfl
theorem mX4_withPlant_6 : Cond.fieldLink RX4 32 "RestGains" "sight" "LRestGains$Chain;" ∈ wsX4_withPlant := List.mem_of_getElem? (i := 6) rfl
theorem mX4_withPlant_4 : Cond.fieldLink RX4 42 "RestGains" "start" "[J" ∈ wsX4_withPlant := List.mem_of_getElem? (i := 4) rfl
theorem mX4_digest_3 : Cond.constantLong RX4 184 (31) ∈ wsX4_digest := List.mem_of_getElem? (i := 3) rfl
theorem mX4_digest_6 : Cond.fieldLink RX4 10 "RestGains" "page" "LRestGains$Page;" ∈ wsX4_digest := List.mem_of_getElem? (i := 6) rfl
theorem mX4_digest_7 : Cond.fieldLink RX4 68 "RestGains$Page" "length" "I" ∈ wsX4_digest := List.mem_of_getElem? (i := 7) rfl
theorem mX4_digest_8 : Cond.fieldLink RX4 190 "RestGains$Page" "letters" "[I" ∈ wsX4_digest := List.mem_of_getElem? (i := 8) rfl
theorem mX4_digest_2 : Cond.fieldLink RX4 19 "RestGains" "plant" "LRestGains$Plant;" ∈ wsX4_digest := List.mem_of_getElem? (i := 2) rfl
theorem mX4_digest_5 : Cond.fieldLink RX4 94 "RestGains$Plant" "order" "I" ∈ wsX4_digest := List.mem_of_getElem? (i := 5) rfl
theorem mX4_digest_4 : Cond.fieldLink RX4 103 "RestGains$Plant" "cells" "[I" ∈ wsX4_digest := List.mem_of_getElem? (i := 4) rfl
theorem mX4_digest_1 : Cond.constantLong RX4 182 (1721) ∈ wsX4_digest := List.mem_of_getElem? (i := 1) rfl
theorem mX5_letter_2 : Cond.fieldLink RX5 63 "RestGainsModel" "pageLength" "I" ∈ wsX5_letter := List.mem_of_getElem? (i := 2) rfl
theorem mX5_letter_4 : Cond.fieldLink RX5 7 "RestGainsModel" "page" "[I" ∈ wsX5_letter := List.mem_of_getElem? (i := 4) rfl
theorem mX5_letter_3 : Cond.constantLong RX5 66 (-10000000000005) ∈ wsX5_letter := List.mem_of_getElem? (i := 3) rfl
theorem mX5_letter_1 : Cond.constantLong RX5 61 (-10000000000003) ∈ wsX5_letter := List.mem_of_getElem? (i := 1) rfl
theorem mX5_blank_1 : Cond.fieldLink RX5 63 "RestGainsModel" "pageLength" "I" ∈ wsX5_blank := List.mem_of_getElem? (i := 1) rfl
theorem mX5_due_1 : Cond.fieldLink RX5 68 "RestGainsModel" "part" "I" ∈ wsX5_due := List.mem_of_getElem? (i := 1) rfl
theorem mX5_due_2 : Cond.fieldLink RX5 71 "RestGainsModel" "newOrder" "I" ∈ wsX5_due := List.mem_of_getElem? (i := 2) rfl
theorem mX5_putNumber_2 : Cond.fieldLink RX5 74 "RestGainsModel" "numbers" "I" ∈ wsX5_putNumber := List.mem_of_getElem? (i := 2) rfl
theorem mX5_putNumber_6 : Cond.fieldLink RX5 81 "RestGainsModel" "isWhole" "Z" ∈ wsX5_putNumber := List.mem_of_getElem? (i := 6) rfl
theorem mX5_putNumber_5 : Cond.fieldLink RX5 77 "RestGainsModel" "isBelow" "Z" ∈ wsX5_putNumber := List.mem_of_getElem? (i := 5) rfl
theorem mX5_putNumber_4 : Cond.fieldLink RX5 24 "RestGainsModel" "newTold" "[I" ∈ wsX5_putNumber := List.mem_of_getElem? (i := 4) rfl
theorem mX5_putNumber_1 : Cond.fieldLink RX5 68 "RestGainsModel" "part" "I" ∈ wsX5_putNumber := List.mem_of_getElem? (i := 1) rfl
theorem mX5_putNumber_3 : Cond.fieldLink RX5 71 "RestGainsModel" "newOrder" "I" ∈ wsX5_putNumber := List.mem_of_getElem? (i := 3) rfl
theorem mX5_takesSplit_1 : Cond.fieldLink RX5 74 "RestGainsModel" "numbers" "I" ∈ wsX5_takesSplit := List.mem_of_getElem? (i := 1) rfl
theorem mX5_takesSplit_3 : Cond.fieldLink RX5 81 "RestGainsModel" "isWhole" "Z" ∈ wsX5_takesSplit := List.mem_of_getElem? (i := 3) rfl
theorem mX5_takesSplit_2 : Cond.fieldLink RX5 68 "RestGainsModel" "part" "I" ∈ wsX5_takesSplit := List.mem_of_getElem? (i := 2) rfl
theorem mX5_takes_3 : Cond.fieldLink RX5 77 "RestGainsModel" "isBelow" "Z" ∈ wsX5_takes := List.mem_of_getElem? (i := 3) rfl
theorem mX5_takes_2 : Cond.fieldLink RX5 81 "RestGainsModel" "isWhole" "Z" ∈ wsX5_takes := List.mem_of_getElem? (i := 2) rfl
theorem mX5_takes_1 : Cond.fieldLink RX5 71 "RestGainsModel" "newOrder" "I" ∈ wsX5_takes := List.mem_of_getElem? (i := 1) rfl
theorem mX5_goAlong_6 : Cond.fieldLink RX5 63 "RestGainsModel" "pageLength" "I" ∈ wsX5_goAlong := List.mem_of_getElem? (i := 6) rfl
theorem mX5_goAlong_7 : Cond.fieldLink RX5 7 "RestGainsModel" "page" "[I" ∈ wsX5_goAlong := List.mem_of_getElem? (i := 7) rfl
theorem mX5_goAlong_1 : Cond.fieldLink RX5 71 "RestGainsModel" "newOrder" "I" ∈ wsX5_goAlong := List.mem_of_getElem? (i := 1) rfl
theorem mX5_goAlong_2 : Cond.fieldLink RX5 68 "RestGainsModel" "part" "I" ∈ wsX5_goAlong := List.mem_of_getElem? (i := 2) rfl
theorem mX5_goAlong_3 : Cond.fieldLink RX5 74 "RestGainsModel" "numbers" "I" ∈ wsX5_goAlong := List.mem_of_getElem? (i := 3) rfl
theorem mX5_goAlong_4 : Cond.fieldLink RX5 81 "RestGainsModel" "isWhole" "Z" ∈ wsX5_goAlong := List.mem_of_getElem? (i := 4) rfl
theorem mX5_goAlong_5 : Cond.fieldLink RX5 77 "RestGainsModel" "isBelow" "Z" ∈ wsX5_goAlong := List.mem_of_getElem? (i := 5) rfl
theorem mX5_isPlace_1 : Cond.fieldLink RX5 104 "RestGainsModel" "order" "I" ∈ wsX5_isPlace := List.mem_of_getElem? (i := 1) rfl
theorem mX5_plant_11 : Cond.fieldLink RX5 110 "RestGainsModel" "plantsRead" "I" ∈ wsX5_plant := List.mem_of_getElem? (i := 11) rfl
theorem mX5_plant_1 : Cond.fieldLink RX5 63 "RestGainsModel" "pageLength" "I" ∈ wsX5_plant := List.mem_of_getElem? (i := 1) rfl
theorem mX5_plant_7 : Cond.fieldLink RX5 104 "RestGainsModel" "order" "I" ∈ wsX5_plant := List.mem_of_getElem? (i := 7) rfl
theorem mX5_plant_10 : Cond.fieldLink RX5 16 "RestGainsModel" "startAt" "[J" ∈ wsX5_plant := List.mem_of_getElem? (i := 10) rfl
theorem mX5_plant_8 : Cond.fieldLink RX5 13 "RestGainsModel" "told" "[I" ∈ wsX5_plant := List.mem_of_getElem? (i := 8) rfl
theorem mX5_plant_9 : Cond.fieldLink RX5 24 "RestGainsModel" "newTold" "[I" ∈ wsX5_plant := List.mem_of_getElem? (i := 9) rfl
theorem mX5_plant_6 : Cond.constantLong RX5 102 (-10000000000004) ∈ wsX5_plant := List.mem_of_getElem? (i := 6) rfl
theorem mX5_plant_2 : Cond.fieldLink RX5 68 "RestGainsModel" "part" "I" ∈ wsX5_plant := List.mem_of_getElem? (i := 2) rfl
theorem mX5_plant_3 : Cond.fieldLink RX5 74 "RestGainsModel" "numbers" "I" ∈ wsX5_plant := List.mem_of_getElem? (i := 3) rfl
theorem mX5_plant_4 : Cond.fieldLink RX5 71 "RestGainsModel" "newOrder" "I" ∈ wsX5_plant := List.mem_of_getElem? (i := 4) rfl
theorem mX5_plant_5 : Cond.fieldLink RX5 81 "RestGainsModel" "isWhole" "Z" ∈ wsX5_plant := List.mem_of_getElem? (i := 5) rfl
theorem mX5_alter_3 : Cond.fieldLink RX5 13 "RestGainsModel" "told" "[I" ∈ wsX5_alter := List.mem_of_getElem? (i := 3) rfl
theorem mX5_alter_2 : Cond.constantLong RX5 61 (-10000000000003) ∈ wsX5_alter := List.mem_of_getElem? (i := 2) rfl
theorem mX5_alter_1 : Cond.constantLong RX5 116 (-10000000000002) ∈ wsX5_alter := List.mem_of_getElem? (i := 1) rfl
theorem mX5_has_2 : Cond.constantLong RX5 116 (-10000000000002) ∈ wsX5_has := List.mem_of_getElem? (i := 2) rfl
theorem mX5_has_1 : Cond.fieldLink RX5 13 "RestGainsModel" "told" "[I" ∈ wsX5_has := List.mem_of_getElem? (i := 1) rfl
theorem mX5_start_3 : Cond.fieldLink RX5 16 "RestGainsModel" "startAt" "[J" ∈ wsX5_start := List.mem_of_getElem? (i := 3) rfl
theorem mX5_start_2 : Cond.constantLong RX5 61 (-10000000000003) ∈ wsX5_start := List.mem_of_getElem? (i := 2) rfl
theorem mX5_start_1 : Cond.constantLong RX5 116 (-10000000000002) ∈ wsX5_start := List.mem_of_getElem? (i := 1) rfl
theorem mX5_limit_2 : Cond.fieldLink RX5 20 "RestGainsModel" "limit" "I" ∈ wsX5_limit := List.mem_of_getElem? (i := 2) rfl
theorem mX5_limit_1 : Cond.constantLong RX5 61 (-10000000000003) ∈ wsX5_limit := List.mem_of_getElem? (i := 1) rfl
theorem mX5_goOn_1 : Cond.fieldLink RX5 104 "RestGainsModel" "order" "I" ∈ wsX5_goOn := List.mem_of_getElem? (i := 1) rfl
theorem mX5_goOn_2 : Cond.fieldLink RX5 27 "RestGainsModel" "nextAt" "[J" ∈ wsX5_goOn := List.mem_of_getElem? (i := 2) rfl
theorem mX5_goOn_3 : Cond.fieldLink RX5 13 "RestGainsModel" "told" "[I" ∈ wsX5_goOn := List.mem_of_getElem? (i := 3) rfl
theorem mX5_seenNow_1 : Cond.fieldLink RX5 104 "RestGainsModel" "order" "I" ∈ wsX5_seenNow := List.mem_of_getElem? (i := 1) rfl
theorem mX5_seenNow_2 : Cond.fieldLink RX5 13 "RestGainsModel" "told" "[I" ∈ wsX5_seenNow := List.mem_of_getElem? (i := 2) rfl
theorem mX5_seenNow_3 : Cond.fieldLink RX5 16 "RestGainsModel" "startAt" "[J" ∈ wsX5_seenNow := List.mem_of_getElem? (i := 3) rfl
theorem mX5_layTried_1 : Cond.fieldLink RX5 104 "RestGainsModel" "order" "I" ∈ wsX5_layTried := List.mem_of_getElem? (i := 1) rfl
theorem mX5_layTried_2 : Cond.fieldLink RX5 30 "RestGainsModel" "tried" "[J" ∈ wsX5_layTried := List.mem_of_getElem? (i := 2) rfl
theorem mX5_layTried_3 : Cond.fieldLink RX5 16 "RestGainsModel" "startAt" "[J" ∈ wsX5_layTried := List.mem_of_getElem? (i := 3) rfl
theorem mX5_tick_1 : Cond.fieldLink RX5 104 "RestGainsModel" "order" "I" ∈ wsX5_tick := List.mem_of_getElem? (i := 1) rfl
theorem mX5_tick_8 : Cond.fieldLink RX5 129 "RestGainsModel" "ticksEver" "I" ∈ wsX5_tick := List.mem_of_getElem? (i := 8) rfl
theorem mX5_tick_7 : Cond.fieldLink RX5 16 "RestGainsModel" "startAt" "[J" ∈ wsX5_tick := List.mem_of_getElem? (i := 7) rfl
theorem mX5_tick_4 : Cond.fieldLink RX5 30 "RestGainsModel" "tried" "[J" ∈ wsX5_tick := List.mem_of_getElem? (i := 4) rfl
theorem mX5_tick_5 : Cond.constantLong RX5 125 (-1000000) ∈ wsX5_tick := List.mem_of_getElem? (i := 5) rfl
theorem mX5_tick_2 : Cond.constantLong RX5 102 (-10000000000004) ∈ wsX5_tick := List.mem_of_getElem? (i := 2) rfl
theorem mX5_tick_6 : Cond.constantLong RX5 127 (1000000) ∈ wsX5_tick := List.mem_of_getElem? (i := 6) rfl
theorem mX5_tick_3 : Cond.constantLong RX5 61 (-10000000000003) ∈ wsX5_tick := List.mem_of_getElem? (i := 3) rfl
theorem mX5_tableAt_1 : Cond.fieldLink RX5 13 "RestGainsModel" "told" "[I" ∈ wsX5_tableAt := List.mem_of_getElem? (i := 1) rfl
theorem mX5_layRows_2 : Cond.fieldLink RX5 104 "RestGainsModel" "order" "I" ∈ wsX5_layRows := List.mem_of_getElem? (i := 2) rfl
theorem mX5_layRows_1 : Cond.fieldLink RX5 33 "RestGainsModel" "rows" "[J" ∈ wsX5_layRows := List.mem_of_getElem? (i := 1) rfl
theorem mX5_layRows_3 : Cond.fieldLink RX5 13 "RestGainsModel" "told" "[I" ∈ wsX5_layRows := List.mem_of_getElem? (i := 3) rfl
theorem mX5_row_1 : Cond.constantLong RX5 116 (-10000000000002) ∈ wsX5_row := List.mem_of_getElem? (i := 1) rfl
theorem mX5_row_2 : Cond.fieldLink RX5 33 "RestGainsModel" "rows" "[J" ∈ wsX5_row := List.mem_of_getElem? (i := 2) rfl
theorem mX5_areTwo_1 : Cond.fieldLink RX5 33 "RestGainsModel" "rows" "[J" ∈ wsX5_areTwo := List.mem_of_getElem? (i := 1) rfl
theorem mX5_isAny_1 : Cond.fieldLink RX5 33 "RestGainsModel" "rows" "[J" ∈ wsX5_isAny := List.mem_of_getElem? (i := 1) rfl
theorem mX5_rankNow_1 : Cond.fieldLink RX5 104 "RestGainsModel" "order" "I" ∈ wsX5_rankNow := List.mem_of_getElem? (i := 1) rfl
theorem mX5_rankNow_2 : Cond.fieldLink RX5 33 "RestGainsModel" "rows" "[J" ∈ wsX5_rankNow := List.mem_of_getElem? (i := 2) rfl
theorem mX5_isFull_1 : Cond.fieldLink RX5 104 "RestGainsModel" "order" "I" ∈ wsX5_isFull := List.mem_of_getElem? (i := 1) rfl
theorem mX5_turnOn_1 : Cond.fieldLink RX5 104 "RestGainsModel" "order" "I" ∈ wsX5_turnOn := List.mem_of_getElem? (i := 1) rfl
theorem mX5_turnOn_2 : Cond.fieldLink RX5 27 "RestGainsModel" "nextAt" "[J" ∈ wsX5_turnOn := List.mem_of_getElem? (i := 2) rfl
theorem mX5_layInputs_3 : Cond.fieldLink RX5 36 "RestGainsModel" "inputBy" "[J" ∈ wsX5_layInputs := List.mem_of_getElem? (i := 3) rfl
theorem mX5_layInputs_2 : Cond.fieldLink RX5 104 "RestGainsModel" "order" "I" ∈ wsX5_layInputs := List.mem_of_getElem? (i := 2) rfl
theorem mX5_layInputs_4 : Cond.fieldLink RX5 33 "RestGainsModel" "rows" "[J" ∈ wsX5_layInputs := List.mem_of_getElem? (i := 4) rfl
theorem mX5_layInputs_1 : Cond.fieldLink RX5 42 "RestGainsModel" "goal" "[J" ∈ wsX5_layInputs := List.mem_of_getElem? (i := 1) rfl
theorem mX5_layStates_6 : Cond.fieldLink RX5 36 "RestGainsModel" "inputBy" "[J" ∈ wsX5_layStates := List.mem_of_getElem? (i := 6) rfl
theorem mX5_layStates_3 : Cond.fieldLink RX5 104 "RestGainsModel" "order" "I" ∈ wsX5_layStates := List.mem_of_getElem? (i := 3) rfl
theorem mX5_layStates_1 : Cond.fieldLink RX5 42 "RestGainsModel" "goal" "[J" ∈ wsX5_layStates := List.mem_of_getElem? (i := 1) rfl
theorem mX5_layStates_5 : Cond.fieldLink RX5 13 "RestGainsModel" "told" "[I" ∈ wsX5_layStates := List.mem_of_getElem? (i := 5) rfl
theorem mX5_layStates_4 : Cond.fieldLink RX5 39 "RestGainsModel" "stateBy" "[J" ∈ wsX5_layStates := List.mem_of_getElem? (i := 4) rfl
theorem mX5_layStates_2 : Cond.fieldLink RX5 167 "RestGainsModel" "below" "J" ∈ wsX5_layStates := List.mem_of_getElem? (i := 2) rfl
theorem mX5_layRest_3 : Cond.fieldLink RX5 104 "RestGainsModel" "order" "I" ∈ wsX5_layRest := List.mem_of_getElem? (i := 3) rfl
theorem mX5_layRest_1 : Cond.fieldLink RX5 33 "RestGainsModel" "rows" "[J" ∈ wsX5_layRest := List.mem_of_getElem? (i := 1) rfl
theorem mX5_layRest_2 : Cond.fieldLink RX5 167 "RestGainsModel" "below" "J" ∈ wsX5_layRest := List.mem_of_getElem? (i := 2) rfl
theorem mX5_gainNow_1 : Cond.fieldLink RX5 36 "RestGainsModel" "inputBy" "[J" ∈ wsX5_gainNow := List.mem_of_getElem? (i := 1) rfl
theorem mX5_gainNow_2 : Cond.fieldLink RX5 167 "RestGainsModel" "below" "J" ∈ wsX5_gainNow := List.mem_of_getElem? (i := 2) rfl
theorem mX5_gain_3 : Cond.constantLong RX5 102 (-10000000000004) ∈ wsX5_gain := List.mem_of_getElem? (i := 3) rfl
theorem mX5_gain_2 : Cond.constantLong RX5 61 (-10000000000003) ∈ wsX5_gain := List.mem_of_getElem? (i := 2) rfl
theorem mX5_gain_1 : Cond.constantLong RX5 116 (-10000000000002) ∈ wsX5_gain := List.mem_of_getElem? (i := 1) rfl
theorem mX5_afterNow_3 : Cond.fieldLink RX5 16 "RestGainsModel" "startAt" "[J" ∈ wsX5_afterNow := List.mem_of_getElem? (i := 3) rfl
theorem mX5_afterNow_1 : Cond.fieldLink RX5 104 "RestGainsModel" "order" "I" ∈ wsX5_afterNow := List.mem_of_getElem? (i := 1) rfl
theorem mX5_afterNow_4 : Cond.fieldLink RX5 167 "RestGainsModel" "below" "J" ∈ wsX5_afterNow := List.mem_of_getElem? (i := 4) rfl
theorem mX5_afterNow_2 : Cond.fieldLink RX5 39 "RestGainsModel" "stateBy" "[J" ∈ wsX5_afterNow := List.mem_of_getElem? (i := 2) rfl
theorem mX5_after_2 : Cond.constantLong RX5 61 (-10000000000003) ∈ wsX5_after := List.mem_of_getElem? (i := 2) rfl
theorem mX5_after_3 : Cond.constantLong RX5 102 (-10000000000004) ∈ wsX5_after := List.mem_of_getElem? (i := 3) rfl
theorem mX5_after_1 : Cond.constantLong RX5 116 (-10000000000002) ∈ wsX5_after := List.mem_of_getElem? (i := 1) rfl
theorem mX5_inputNow_1 : Cond.fieldLink RX5 104 "RestGainsModel" "order" "I" ∈ wsX5_inputNow := List.mem_of_getElem? (i := 1) rfl
theorem mX5_inputNow_4 : Cond.fieldLink RX5 167 "RestGainsModel" "below" "J" ∈ wsX5_inputNow := List.mem_of_getElem? (i := 4) rfl
theorem mX5_inputNow_2 : Cond.fieldLink RX5 36 "RestGainsModel" "inputBy" "[J" ∈ wsX5_inputNow := List.mem_of_getElem? (i := 2) rfl
theorem mX5_inputNow_3 : Cond.fieldLink RX5 16 "RestGainsModel" "startAt" "[J" ∈ wsX5_inputNow := List.mem_of_getElem? (i := 3) rfl
theorem mX5_input_2 : Cond.constantLong RX5 61 (-10000000000003) ∈ wsX5_input := List.mem_of_getElem? (i := 2) rfl
theorem mX5_input_1 : Cond.constantLong RX5 102 (-10000000000004) ∈ wsX5_input := List.mem_of_getElem? (i := 1) rfl
theorem mX5_mostNow_1 : Cond.fieldLink RX5 39 "RestGainsModel" "stateBy" "[J" ∈ wsX5_mostNow := List.mem_of_getElem? (i := 1) rfl
theorem mX5_most_1 : Cond.constantLong RX5 102 (-10000000000004) ∈ wsX5_most := List.mem_of_getElem? (i := 1) rfl
theorem mX5_goInputs_1 : Cond.fieldLink RX5 30 "RestGainsModel" "tried" "[J" ∈ wsX5_goInputs := List.mem_of_getElem? (i := 1) rfl
theorem mX5_goInputs_2 : Cond.fieldLink RX5 48 "RestGainsModel" "inputs" "[I" ∈ wsX5_goInputs := List.mem_of_getElem? (i := 2) rfl
theorem mX5_isRest_1 : Cond.fieldLink RX5 104 "RestGainsModel" "order" "I" ∈ wsX5_isRest := List.mem_of_getElem? (i := 1) rfl
theorem mX5_isRest_2 : Cond.fieldLink RX5 30 "RestGainsModel" "tried" "[J" ∈ wsX5_isRest := List.mem_of_getElem? (i := 2) rfl
theorem mX5_layAsked_2 : Cond.fieldLink RX5 54 "RestGainsModel" "wanted" "[J" ∈ wsX5_layAsked := List.mem_of_getElem? (i := 2) rfl
theorem mX5_layAsked_5 : Cond.fieldLink RX5 42 "RestGainsModel" "goal" "[J" ∈ wsX5_layAsked := List.mem_of_getElem? (i := 5) rfl
theorem mX5_layAsked_1 : Cond.fieldLink RX5 51 "RestGainsModel" "ends" "[J" ∈ wsX5_layAsked := List.mem_of_getElem? (i := 1) rfl
theorem mX5_layAsked_4 : Cond.fieldLink RX5 33 "RestGainsModel" "rows" "[J" ∈ wsX5_layAsked := List.mem_of_getElem? (i := 4) rfl
theorem mX5_layAsked_3 : Cond.fieldLink RX5 104 "RestGainsModel" "order" "I" ∈ wsX5_layAsked := List.mem_of_getElem? (i := 3) rfl
theorem mX5_findLast_1 : Cond.fieldLink RX5 51 "RestGainsModel" "ends" "[J" ∈ wsX5_findLast := List.mem_of_getElem? (i := 1) rfl
theorem mX5_findLast_2 : Cond.fieldLink RX5 54 "RestGainsModel" "wanted" "[J" ∈ wsX5_findLast := List.mem_of_getElem? (i := 2) rfl
theorem mX5_findLast_3 : Cond.fieldLink RX5 20 "RestGainsModel" "limit" "I" ∈ wsX5_findLast := List.mem_of_getElem? (i := 3) rfl
theorem mX5_findLast_4 : Cond.fieldLink RX5 48 "RestGainsModel" "inputs" "[I" ∈ wsX5_findLast := List.mem_of_getElem? (i := 4) rfl
theorem mX5_tryFirst_2 : Cond.fieldLink RX5 42 "RestGainsModel" "goal" "[J" ∈ wsX5_tryFirst := List.mem_of_getElem? (i := 2) rfl
theorem mX5_tryFirst_1 : Cond.fieldLink RX5 104 "RestGainsModel" "order" "I" ∈ wsX5_tryFirst := List.mem_of_getElem? (i := 1) rfl
theorem mX5_tryFirst_3 : Cond.fieldLink RX5 30 "RestGainsModel" "tried" "[J" ∈ wsX5_tryFirst := List.mem_of_getElem? (i := 3) rfl
theorem mX5_goesOn_1 : Cond.fieldLink RX5 48 "RestGainsModel" "inputs" "[I" ∈ wsX5_goesOn := List.mem_of_getElem? (i := 1) rfl
theorem mX5_goesOn_2 : Cond.fieldLink RX5 20 "RestGainsModel" "limit" "I" ∈ wsX5_goesOn := List.mem_of_getElem? (i := 2) rfl
theorem mX5_findPlan_1 : Cond.fieldLink RX5 48 "RestGainsModel" "inputs" "[I" ∈ wsX5_findPlan := List.mem_of_getElem? (i := 1) rfl
theorem mX5_findPlan_2 : Cond.fieldLink RX5 20 "RestGainsModel" "limit" "I" ∈ wsX5_findPlan := List.mem_of_getElem? (i := 2) rfl
theorem mX5_layPlan_1 : Cond.fieldLink RX5 231 "RestGainsModel" "planTicks" "I" ∈ wsX5_layPlan := List.mem_of_getElem? (i := 1) rfl
theorem mX5_layPlan_2 : Cond.fieldLink RX5 45 "RestGainsModel" "planAt" "[I" ∈ wsX5_layPlan := List.mem_of_getElem? (i := 2) rfl
theorem mX5_layPlan_3 : Cond.fieldLink RX5 48 "RestGainsModel" "inputs" "[I" ∈ wsX5_layPlan := List.mem_of_getElem? (i := 3) rfl
theorem mX5_planNow_1 : Cond.fieldLink RX5 231 "RestGainsModel" "planTicks" "I" ∈ wsX5_planNow := List.mem_of_getElem? (i := 1) rfl
theorem mX5_planNow_2 : Cond.constantLong RX5 237 (-10000000000001) ∈ wsX5_planNow := List.mem_of_getElem? (i := 2) rfl
theorem mX5_planNow_3 : Cond.fieldLink RX5 45 "RestGainsModel" "planAt" "[I" ∈ wsX5_planNow := List.mem_of_getElem? (i := 3) rfl
theorem mX5_plan_1 : Cond.fieldLink RX5 104 "RestGainsModel" "order" "I" ∈ wsX5_plan := List.mem_of_getElem? (i := 1) rfl
theorem mX5_plan_3 : Cond.constantLong RX5 61 (-10000000000003) ∈ wsX5_plan := List.mem_of_getElem? (i := 3) rfl
theorem mX5_plan_2 : Cond.constantLong RX5 102 (-10000000000004) ∈ wsX5_plan := List.mem_of_getElem? (i := 2) rfl
theorem mX5_isMore_1 : Cond.fieldLink RX5 104 "RestGainsModel" "order" "I" ∈ wsX5_isMore := List.mem_of_getElem? (i := 1) rfl
theorem mX5_isMore_2 : Cond.fieldLink RX5 33 "RestGainsModel" "rows" "[J" ∈ wsX5_isMore := List.mem_of_getElem? (i := 2) rfl
theorem mX5_isMore_3 : Cond.fieldLink RX5 30 "RestGainsModel" "tried" "[J" ∈ wsX5_isMore := List.mem_of_getElem? (i := 3) rfl
theorem mX5_canRest_1 : Cond.fieldLink RX5 104 "RestGainsModel" "order" "I" ∈ wsX5_canRest := List.mem_of_getElem? (i := 1) rfl
theorem mX5_canRest_2 : Cond.fieldLink RX5 30 "RestGainsModel" "tried" "[J" ∈ wsX5_canRest := List.mem_of_getElem? (i := 2) rfl
theorem mX5_about_1 : Cond.fieldLink RX5 104 "RestGainsModel" "order" "I" ∈ wsX5_about := List.mem_of_getElem? (i := 1) rfl
theorem mX5_about_3 : Cond.constantLong RX5 61 (-10000000000003) ∈ wsX5_about := List.mem_of_getElem? (i := 3) rfl
theorem mX5_about_2 : Cond.constantLong RX5 102 (-10000000000004) ∈ wsX5_about := List.mem_of_getElem? (i := 2) rfl
theorem mX5_howMany_1 : Cond.fieldLink RX5 104 "RestGainsModel" "order" "I" ∈ wsX5_howMany := List.mem_of_getElem? (i := 1) rfl
theorem mX5_howMany_2 : Cond.fieldLink RX5 63 "RestGainsModel" "pageLength" "I" ∈ wsX5_howMany := List.mem_of_getElem? (i := 2) rfl
theorem mX5_howMany_3 : Cond.fieldLink RX5 20 "RestGainsModel" "limit" "I" ∈ wsX5_howMany := List.mem_of_getElem? (i := 3) rfl
theorem mX5_howMany_4 : Cond.fieldLink RX5 110 "RestGainsModel" "plantsRead" "I" ∈ wsX5_howMany := List.mem_of_getElem? (i := 4) rfl
theorem mX5_howMany_5 : Cond.fieldLink RX5 129 "RestGainsModel" "ticksEver" "I" ∈ wsX5_howMany := List.mem_of_getElem? (i := 5) rfl
theorem mX5_howMany_6 : Cond.constantLong RX5 61 (-10000000000003) ∈ wsX5_howMany := List.mem_of_getElem? (i := 6) rfl
theorem mX5_mix_1 : Cond.constantLong RX5 258 (31) ∈ wsX5_mix := List.mem_of_getElem? (i := 1) rfl
theorem mX5_mix_2 : Cond.fieldLink RX5 260 "RestGainsModel" "h" "J" ∈ wsX5_mix := List.mem_of_getElem? (i := 2) rfl
theorem mX5_mixRows_1 : Cond.fieldLink RX5 104 "RestGainsModel" "order" "I" ∈ wsX5_mixRows := List.mem_of_getElem? (i := 1) rfl
theorem mX5_mixRows_2 : Cond.fieldLink RX5 33 "RestGainsModel" "rows" "[J" ∈ wsX5_mixRows := List.mem_of_getElem? (i := 2) rfl
theorem mX5_mixRest_1 : Cond.fieldLink RX5 104 "RestGainsModel" "order" "I" ∈ wsX5_mixRest := List.mem_of_getElem? (i := 1) rfl
theorem mX5_mixPlant_1 : Cond.fieldLink RX5 104 "RestGainsModel" "order" "I" ∈ wsX5_mixPlant := List.mem_of_getElem? (i := 1) rfl
theorem mX5_mixPlant_2 : Cond.fieldLink RX5 16 "RestGainsModel" "startAt" "[J" ∈ wsX5_mixPlant := List.mem_of_getElem? (i := 2) rfl
theorem mX5_digest_2 : Cond.fieldLink RX5 260 "RestGainsModel" "h" "J" ∈ wsX5_digest := List.mem_of_getElem? (i := 2) rfl
theorem mX5_digest_5 : Cond.fieldLink RX5 63 "RestGainsModel" "pageLength" "I" ∈ wsX5_digest := List.mem_of_getElem? (i := 5) rfl
theorem mX5_digest_6 : Cond.fieldLink RX5 7 "RestGainsModel" "page" "[I" ∈ wsX5_digest := List.mem_of_getElem? (i := 6) rfl
theorem mX5_digest_4 : Cond.fieldLink RX5 104 "RestGainsModel" "order" "I" ∈ wsX5_digest := List.mem_of_getElem? (i := 4) rfl
theorem mX5_digest_3 : Cond.fieldLink RX5 13 "RestGainsModel" "told" "[I" ∈ wsX5_digest := List.mem_of_getElem? (i := 3) rfl
theorem mX5_digest_1 : Cond.constantLong RX5 273 (1721) ∈ wsX5_digest := List.mem_of_getElem? (i := 1) rfl
theorem iX3_goOn_X3 : ∀ w ∈ wsX30, w ∈ wsX3_goOn := fun _ h => List.mem_cons_of_mem _ (List.mem_append_right _ h)
theorem iX0_fillBase_X0 : ∀ w ∈ wsX00, w ∈ wsX0_fillBase := fun _ h => List.mem_cons_of_mem _ (List.mem_append_right _ h)
theorem iX3_carry_X3 : ∀ w ∈ wsX30, w ∈ wsX3_carry := fun _ h => List.mem_cons_of_mem _ (List.mem_append_right _ h)
theorem iX0_share_X0 : ∀ w ∈ wsX00, w ∈ wsX0_share := fun _ h => List.mem_cons_of_mem _ (List.mem_append_right _ h)
theorem iX0_findGains_X0 : ∀ w ∈ wsX00, w ∈ wsX0_findGains := fun _ h => List.mem_cons_of_mem _ (List.mem_append_left _ (List.mem_append_right _ h))
theorem iX0_findGains_X3 : ∀ w ∈ wsX30, w ∈ wsX0_findGains := fun _ h => List.mem_cons_of_mem _ (List.mem_append_right _ h)
theorem iX0_build_X0 : ∀ w ∈ wsX00, w ∈ wsX0_build := fun _ h => List.mem_cons_of_mem _ (List.mem_append_left _ (List.mem_append_right _ h))
theorem iX0_build_X3 : ∀ w ∈ wsX30, w ∈ wsX0_build := fun _ h => List.mem_cons_of_mem _ (List.mem_append_right _ h)
theorem iX1_write_X1 : ∀ w ∈ wsX10, w ∈ wsX1_write := fun _ h => List.mem_cons_of_mem _ (List.mem_append_right _ h)
theorem iX1_takesOrder_X1 : ∀ w ∈ wsX10, w ∈ wsX1_takesOrder := fun _ h => List.mem_cons_of_mem _ (List.mem_append_right _ h)
theorem iX1_needed_X1 : ∀ w ∈ wsX10, w ∈ wsX1_needed := fun _ h => List.mem_cons_of_mem _ (List.mem_append_right _ h)
theorem iX1_takesSign_X1 : ∀ w ∈ wsX10, w ∈ wsX1_takesSign := fun _ h => List.mem_cons_of_mem _ (List.mem_append_right _ h)
theorem iX1_keeps_X1 : ∀ w ∈ wsX10, w ∈ wsX1_keeps := fun _ h => List.mem_cons_of_mem _ (List.mem_append_right _ h)
theorem iX1_takesNumber_X1 : ∀ w ∈ wsX10, w ∈ wsX1_takesNumber := fun _ h => List.mem_cons_of_mem _ (List.mem_append_right _ h)
theorem iX1_takes_X1 : ∀ w ∈ wsX10, w ∈ wsX1_takes := fun _ h => List.mem_cons_of_mem _ (List.mem_append_right _ h)
theorem iX1_wellBegun_X1 : ∀ w ∈ wsX10, w ∈ wsX1_wellBegun := fun _ h => List.mem_cons_of_mem _ (List.mem_append_right _ h)
theorem iX1_isPlant_X1 : ∀ w ∈ wsX10, w ∈ wsX1_isPlant := fun _ h => List.mem_cons_of_mem _ (List.mem_append_right _ h)
theorem iX3_hasCell_X3 : ∀ w ∈ wsX30, w ∈ wsX3_hasCell := fun _ h => List.mem_cons_of_mem _ (List.mem_append_right _ h)
theorem iX1_copyTo_X3 : ∀ w ∈ wsX30, w ∈ wsX1_copyTo := fun _ h => List.mem_cons_of_mem _ (List.mem_append_left _ (List.mem_append_right _ h))
theorem iX1_copyTo_X1 : ∀ w ∈ wsX10, w ∈ wsX1_copyTo := fun _ h => List.mem_cons_of_mem _ (List.mem_append_right _ h)
theorem iX2_isOpen_X2 : ∀ w ∈ wsX20, w ∈ wsX2_isOpen := fun _ h => List.mem_cons_of_mem _ (List.mem_append_left _ (List.mem_append_left _ (List.mem_append_right _ h)))
theorem iX2_isOpen_X0 : ∀ w ∈ wsX00, w ∈ wsX2_isOpen := fun _ h => List.mem_cons_of_mem _ (List.mem_append_left _ (List.mem_append_right _ h))
theorem iX2_setTried_X2 : ∀ w ∈ wsX20, w ∈ wsX2_setTried := fun _ h => List.mem_cons_of_mem _ (List.mem_append_right _ h)
theorem iX2_restFits_X2 : ∀ w ∈ wsX20, w ∈ wsX2_restFits := fun _ h => List.mem_cons_of_mem _ (List.mem_append_right _ h)
theorem iX2_isMet_X2 : ∀ w ∈ wsX20, w ∈ wsX2_isMet := fun _ h => List.mem_cons_of_mem _ (List.mem_append_right _ h)
theorem iX2_seek_X0 : ∀ w ∈ wsX00, w ∈ wsX2_seek := fun _ h => List.mem_cons_of_mem _ (List.mem_append_left _ (List.mem_append_right _ h))
theorem iX2_seek_X2 : ∀ w ∈ wsX20, w ∈ wsX2_seek := fun _ h => List.mem_cons_of_mem _ (List.mem_append_left _ (List.mem_append_left _ (List.mem_append_right _ h)))
theorem iX3_hasPlace_X3 : ∀ w ∈ wsX30, w ∈ wsX3_hasPlace := fun _ h => List.mem_cons_of_mem _ (List.mem_append_right _ h)
theorem iX3_seen_X3 : ∀ w ∈ wsX30, w ∈ wsX3_seen := fun _ h => List.mem_cons_of_mem _ (List.mem_append_right _ h)
theorem iX4_letter_X4 : ∀ w ∈ wsX40, w ∈ wsX4_letter := fun _ h => List.mem_cons_of_mem _ (List.mem_append_left _ (List.mem_append_right _ h))
theorem iX4_letter_X1 : ∀ w ∈ wsX10, w ∈ wsX4_letter := fun _ h => List.mem_cons_of_mem _ (List.mem_append_right _ h)
theorem iX4_blank_X4 : ∀ w ∈ wsX40, w ∈ wsX4_blank := fun _ h => List.mem_cons_of_mem _ (List.mem_append_left _ (List.mem_append_right _ h))
theorem iX4_blank_X1 : ∀ w ∈ wsX10, w ∈ wsX4_blank := fun _ h => List.mem_cons_of_mem _ (List.mem_append_right _ h)
theorem iX4_fault_X4 : ∀ w ∈ wsX40, w ∈ wsX4_fault := fun _ h => List.mem_cons_of_mem _ (List.mem_append_left _ (List.mem_append_right _ h))
theorem iX4_plantChanged_X4 : ∀ w ∈ wsX40, w ∈ wsX4_plantChanged := fun _ h => List.mem_cons_of_mem _ (List.mem_append_left _ (List.mem_append_left _ (List.mem_append_right _ h)))
theorem iX4_plant_X4 : ∀ w ∈ wsX40, w ∈ wsX4_plant := fun _ h => List.mem_cons_of_mem _ (List.mem_append_left _ (List.mem_append_left _ (List.mem_append_left _ (List.mem_append_right _ h))))
theorem iX4_plant_X3 : ∀ w ∈ wsX30, w ∈ wsX4_plant := fun _ h => List.mem_cons_of_mem _ (List.mem_append_left _ (List.mem_append_right _ h))
theorem iX4_plant_X1 : ∀ w ∈ wsX10, w ∈ wsX4_plant := fun _ h => List.mem_cons_of_mem _ (List.mem_append_left _ (List.mem_append_left _ (List.mem_append_right _ h)))
theorem iX4_alter_X4 : ∀ w ∈ wsX40, w ∈ wsX4_alter := fun _ h => List.mem_cons_of_mem _ (List.mem_append_left _ (List.mem_append_left _ (List.mem_append_right _ h)))
theorem iX4_alter_X3 : ∀ w ∈ wsX30, w ∈ wsX4_alter := fun _ h => List.mem_cons_of_mem _ (List.mem_append_left _ (List.mem_append_right _ h))
theorem iX4_has_X4 : ∀ w ∈ wsX40, w ∈ wsX4_has := fun _ h => List.mem_cons_of_mem _ (List.mem_append_left _ (List.mem_append_right _ h))
theorem iX4_has_X3 : ∀ w ∈ wsX30, w ∈ wsX4_has := fun _ h => List.mem_cons_of_mem _ (List.mem_append_right _ h)
theorem iX4_start_X4 : ∀ w ∈ wsX40, w ∈ wsX4_start := fun _ h => List.mem_cons_of_mem _ (List.mem_append_left _ (List.mem_append_right _ h))
theorem iX4_limit_X4 : ∀ w ∈ wsX40, w ∈ wsX4_limit := fun _ h => List.mem_cons_of_mem _ (List.mem_append_right _ h)
theorem iX4_tick_X4 : ∀ w ∈ wsX40, w ∈ wsX4_tick := fun _ h => List.mem_cons_of_mem _ (List.mem_append_left _ (List.mem_append_right _ h))
theorem iX4_tick_X3 : ∀ w ∈ wsX30, w ∈ wsX4_tick := fun _ h => List.mem_cons_of_mem _ (List.mem_append_right _ h)
theorem iX4_chain_X4 : ∀ w ∈ wsX40, w ∈ wsX4_chain := fun _ h => List.mem_cons_of_mem _ (List.mem_append_right _ h)
theorem iX4_row_X4 : ∀ w ∈ wsX40, w ∈ wsX4_row := fun _ h => List.mem_cons_of_mem _ (List.mem_append_left _ (List.mem_append_left _ (List.mem_append_right _ h)))
theorem iX4_row_X0 : ∀ w ∈ wsX00, w ∈ wsX4_row := fun _ h => List.mem_cons_of_mem _ (List.mem_append_left _ (List.mem_append_right _ h))
theorem iX4_isFull_X4 : ∀ w ∈ wsX40, w ∈ wsX4_isFull := fun _ h => List.mem_cons_of_mem _ (List.mem_append_left _ (List.mem_append_left _ (List.mem_append_right _ h)))
theorem iX4_isFull_X3 : ∀ w ∈ wsX30, w ∈ wsX4_isFull := fun _ h => List.mem_cons_of_mem _ (List.mem_append_left _ (List.mem_append_right _ h))
theorem iX4_isFull_X0 : ∀ w ∈ wsX00, w ∈ wsX4_isFull := fun _ h => List.mem_cons_of_mem _ (List.mem_append_right _ h)
theorem iX4_canRest_X4 : ∀ w ∈ wsX40, w ∈ wsX4_canRest := fun _ h => List.mem_cons_of_mem _ (List.mem_append_left _ (List.mem_append_left _ (List.mem_append_right _ h)))
theorem iX4_canRest_X3 : ∀ w ∈ wsX30, w ∈ wsX4_canRest := fun _ h => List.mem_cons_of_mem _ (List.mem_append_left _ (List.mem_append_right _ h))
theorem iX4_canRest_X0 : ∀ w ∈ wsX00, w ∈ wsX4_canRest := fun _ h => List.mem_cons_of_mem _ (List.mem_append_right _ h)
theorem iX4_about_X4 : ∀ w ∈ wsX40, w ∈ wsX4_about := fun _ h => List.mem_cons_of_mem _ (List.mem_append_left _ (List.mem_append_left _ (List.mem_append_right _ h)))
theorem iX4_about_X3 : ∀ w ∈ wsX30, w ∈ wsX4_about := fun _ h => List.mem_cons_of_mem _ (List.mem_append_left _ (List.mem_append_right _ h))
theorem iX4_about_X0 : ∀ w ∈ wsX00, w ∈ wsX4_about := fun _ h => List.mem_cons_of_mem _ (List.mem_append_right _ h)
theorem iX4_gain_X4 : ∀ w ∈ wsX40, w ∈ wsX4_gain := fun _ h => List.mem_cons_of_mem _ (List.mem_append_left _ (List.mem_append_left _ (List.mem_append_right _ h)))
theorem iX4_gain_X0 : ∀ w ∈ wsX00, w ∈ wsX4_gain := fun _ h => List.mem_cons_of_mem _ (List.mem_append_left _ (List.mem_append_right _ h))
theorem iX4_goTheWay_X4 : ∀ w ∈ wsX40, w ∈ wsX4_goTheWay := fun _ h => List.mem_cons_of_mem _ (List.mem_append_left _ (List.mem_append_left _ (List.mem_append_right _ h)))
theorem iX4_goTheWay_X0 : ∀ w ∈ wsX00, w ∈ wsX4_goTheWay := fun _ h => List.mem_cons_of_mem _ (List.mem_append_left _ (List.mem_append_right _ h))
theorem iX4_goTheWay_X3 : ∀ w ∈ wsX30, w ∈ wsX4_goTheWay := fun _ h => List.mem_cons_of_mem _ (List.mem_append_right _ h)
theorem iX4_after_X4 : ∀ w ∈ wsX40, w ∈ wsX4_after := fun _ h => List.mem_cons_of_mem _ (List.mem_append_left _ (List.mem_append_left _ (List.mem_append_right _ h)))
theorem iX4_after_X0 : ∀ w ∈ wsX00, w ∈ wsX4_after := fun _ h => List.mem_cons_of_mem _ (List.mem_append_left _ (List.mem_append_right _ h))
theorem iX4_input_X4 : ∀ w ∈ wsX40, w ∈ wsX4_input := fun _ h => List.mem_cons_of_mem _ (List.mem_append_left _ (List.mem_append_left _ (List.mem_append_right _ h)))
theorem iX4_input_X0 : ∀ w ∈ wsX00, w ∈ wsX4_input := fun _ h => List.mem_cons_of_mem _ (List.mem_append_left _ (List.mem_append_right _ h))
theorem iX4_most_X4 : ∀ w ∈ wsX40, w ∈ wsX4_most := fun _ h => List.mem_cons_of_mem _ (List.mem_append_left _ (List.mem_append_left _ (List.mem_append_right _ h)))
theorem iX4_most_X3 : ∀ w ∈ wsX30, w ∈ wsX4_most := fun _ h => List.mem_cons_of_mem _ (List.mem_append_left _ (List.mem_append_right _ h))
theorem iX4_plan_X4 : ∀ w ∈ wsX40, w ∈ wsX4_plan := fun _ h => List.mem_cons_of_mem _ (List.mem_append_left _ (List.mem_append_left _ (List.mem_append_left _ (List.mem_append_right _ h))))
theorem iX4_plan_X2 : ∀ w ∈ wsX20, w ∈ wsX4_plan := fun _ h => List.mem_cons_of_mem _ (List.mem_append_left _ (List.mem_append_right _ h))
theorem iX4_plan_X3 : ∀ w ∈ wsX30, w ∈ wsX4_plan := fun _ h => List.mem_cons_of_mem _ (List.mem_append_left _ (List.mem_append_left _ (List.mem_append_right _ h)))
theorem iX4_count_X4 : ∀ w ∈ wsX40, w ∈ wsX4_count := fun _ h => List.mem_cons_of_mem _ (List.mem_append_left _ (List.mem_append_left _ (List.mem_append_right _ h)))
theorem iX4_count_X3 : ∀ w ∈ wsX30, w ∈ wsX4_count := fun _ h => List.mem_cons_of_mem _ (List.mem_append_left _ (List.mem_append_right _ h))
theorem iX4_count_X1 : ∀ w ∈ wsX10, w ∈ wsX4_count := fun _ h => List.mem_cons_of_mem _ (List.mem_append_right _ h)
theorem iX4_withRows_X4 : ∀ w ∈ wsX40, w ∈ wsX4_withRows := fun _ h => List.mem_cons_of_mem _ (List.mem_append_left _ (List.mem_append_left _ (List.mem_append_right _ h)))
theorem iX4_withRows_X3 : ∀ w ∈ wsX30, w ∈ wsX4_withRows := fun _ h => List.mem_cons_of_mem _ (List.mem_append_left _ (List.mem_append_right _ h))
theorem iX4_withRows_X0 : ∀ w ∈ wsX00, w ∈ wsX4_withRows := fun _ h => List.mem_cons_of_mem _ (List.mem_append_right _ h)
theorem iX4_withGains_X4 : ∀ w ∈ wsX40, w ∈ wsX4_withGains := fun _ h => List.mem_cons_of_mem _ (List.mem_append_left _ (List.mem_append_left _ (List.mem_append_right _ h)))
theorem iX4_withGains_X3 : ∀ w ∈ wsX30, w ∈ wsX4_withGains := fun _ h => List.mem_cons_of_mem _ (List.mem_append_left _ (List.mem_append_right _ h))
theorem iX4_withPlant_X4 : ∀ w ∈ wsX40, w ∈ wsX4_withPlant := fun _ h => List.mem_cons_of_mem _ (List.mem_append_left _ (List.mem_append_left _ (List.mem_append_left _ (List.mem_append_right _ h))))
theorem iX4_withPlant_X3 : ∀ w ∈ wsX30, w ∈ wsX4_withPlant := fun _ h => List.mem_cons_of_mem _ (List.mem_append_left _ (List.mem_append_left _ (List.mem_append_right _ h)))
theorem iX4_digest_X4 : ∀ w ∈ wsX40, w ∈ wsX4_digest := fun _ h => List.mem_cons_of_mem _ (List.mem_append_left _ (List.mem_append_left _ (List.mem_append_left _ (List.mem_append_left _ (List.mem_append_right _ h)))))
theorem iX4_digest_X1 : ∀ w ∈ wsX10, w ∈ wsX4_digest := fun _ h => List.mem_cons_of_mem _ (List.mem_append_left _ (List.mem_append_left _ (List.mem_append_right _ h)))
theorem iX4_digest_X3 : ∀ w ∈ wsX30, w ∈ wsX4_digest := fun _ h => List.mem_cons_of_mem _ (List.mem_append_left _ (List.mem_append_left _ (List.mem_append_left _ (List.mem_append_right _ h))))
theorem iX5_letter_X5 : ∀ w ∈ wsX50, w ∈ wsX5_letter := fun _ h => List.mem_cons_of_mem _ (List.mem_append_right _ h)
theorem iX5_blank_X5 : ∀ w ∈ wsX50, w ∈ wsX5_blank := fun _ h => List.mem_cons_of_mem _ (List.mem_append_right _ h)
theorem iX5_due_X5 : ∀ w ∈ wsX50, w ∈ wsX5_due := fun _ h => List.mem_cons_of_mem _ (List.mem_append_right _ h)
theorem iX5_putNumber_X5 : ∀ w ∈ wsX50, w ∈ wsX5_putNumber := fun _ h => List.mem_cons_of_mem _ (List.mem_append_right _ h)
theorem iX5_takesSplit_X5 : ∀ w ∈ wsX50, w ∈ wsX5_takesSplit := fun _ h => List.mem_cons_of_mem _ (List.mem_append_right _ h)
theorem iX5_takes_X5 : ∀ w ∈ wsX50, w ∈ wsX5_takes := fun _ h => List.mem_cons_of_mem _ (List.mem_append_right _ h)
theorem iX5_goAlong_X5 : ∀ w ∈ wsX50, w ∈ wsX5_goAlong := fun _ h => List.mem_cons_of_mem _ (List.mem_append_right _ h)
theorem iX5_isPlace_X5 : ∀ w ∈ wsX50, w ∈ wsX5_isPlace := fun _ h => List.mem_cons_of_mem _ (List.mem_append_right _ h)
theorem iX5_plant_X5 : ∀ w ∈ wsX50, w ∈ wsX5_plant := fun _ h => List.mem_cons_of_mem _ (List.mem_append_right _ h)
theorem iX5_alter_X5 : ∀ w ∈ wsX50, w ∈ wsX5_alter := fun _ h => List.mem_cons_of_mem _ (List.mem_append_right _ h)
theorem iX5_has_X5 : ∀ w ∈ wsX50, w ∈ wsX5_has := fun _ h => List.mem_cons_of_mem _ (List.mem_append_right _ h)
theorem iX5_start_X5 : ∀ w ∈ wsX50, w ∈ wsX5_start := fun _ h => List.mem_cons_of_mem _ (List.mem_append_right _ h)
theorem iX5_limit_X5 : ∀ w ∈ wsX50, w ∈ wsX5_limit := fun _ h => List.mem_cons_of_mem _ (List.mem_append_right _ h)
theorem iX5_goOn_X5 : ∀ w ∈ wsX50, w ∈ wsX5_goOn := fun _ h => List.mem_cons_of_mem _ (List.mem_append_right _ h)
theorem iX5_seenNow_X5 : ∀ w ∈ wsX50, w ∈ wsX5_seenNow := fun _ h => List.mem_cons_of_mem _ (List.mem_append_right _ h)
theorem iX5_layTried_X5 : ∀ w ∈ wsX50, w ∈ wsX5_layTried := fun _ h => List.mem_cons_of_mem _ (List.mem_append_right _ h)
theorem iX5_tick_X5 : ∀ w ∈ wsX50, w ∈ wsX5_tick := fun _ h => List.mem_cons_of_mem _ (List.mem_append_right _ h)
theorem iX5_tableAt_X5 : ∀ w ∈ wsX50, w ∈ wsX5_tableAt := fun _ h => List.mem_cons_of_mem _ (List.mem_append_right _ h)
theorem iX5_layRows_X5 : ∀ w ∈ wsX50, w ∈ wsX5_layRows := fun _ h => List.mem_cons_of_mem _ (List.mem_append_right _ h)
theorem iX5_row_X5 : ∀ w ∈ wsX50, w ∈ wsX5_row := fun _ h => List.mem_cons_of_mem _ (List.mem_append_right _ h)
theorem iX5_areTwo_X5 : ∀ w ∈ wsX50, w ∈ wsX5_areTwo := fun _ h => List.mem_cons_of_mem _ (List.mem_append_right _ h)
theorem iX5_isAny_X5 : ∀ w ∈ wsX50, w ∈ wsX5_isAny := fun _ h => List.mem_cons_of_mem _ (List.mem_append_right _ h)
theorem iX5_rankNow_X5 : ∀ w ∈ wsX50, w ∈ wsX5_rankNow := fun _ h => List.mem_cons_of_mem _ (List.mem_append_right _ h)
theorem iX5_isFull_X5 : ∀ w ∈ wsX50, w ∈ wsX5_isFull := fun _ h => List.mem_cons_of_mem _ (List.mem_append_right _ h)
theorem iX5_turnOn_X5 : ∀ w ∈ wsX50, w ∈ wsX5_turnOn := fun _ h => List.mem_cons_of_mem _ (List.mem_append_right _ h)
theorem iX5_layInputs_X5 : ∀ w ∈ wsX50, w ∈ wsX5_layInputs := fun _ h => List.mem_cons_of_mem _ (List.mem_append_right _ h)
theorem iX5_layStates_X5 : ∀ w ∈ wsX50, w ∈ wsX5_layStates := fun _ h => List.mem_cons_of_mem _ (List.mem_append_right _ h)
theorem iX5_layRest_X5 : ∀ w ∈ wsX50, w ∈ wsX5_layRest := fun _ h => List.mem_cons_of_mem _ (List.mem_append_right _ h)
theorem iX5_gainNow_X5 : ∀ w ∈ wsX50, w ∈ wsX5_gainNow := fun _ h => List.mem_cons_of_mem _ (List.mem_append_right _ h)
theorem iX5_afterNow_X5 : ∀ w ∈ wsX50, w ∈ wsX5_afterNow := fun _ h => List.mem_cons_of_mem _ (List.mem_append_right _ h)
theorem iX5_inputNow_X5 : ∀ w ∈ wsX50, w ∈ wsX5_inputNow := fun _ h => List.mem_cons_of_mem _ (List.mem_append_right _ h)
theorem iX5_mostNow_X5 : ∀ w ∈ wsX50, w ∈ wsX5_mostNow := fun _ h => List.mem_cons_of_mem _ (List.mem_append_right _ h)
theorem iX5_goInputs_X5 : ∀ w ∈ wsX50, w ∈ wsX5_goInputs := fun _ h => List.mem_cons_of_mem _ (List.mem_append_right _ h)
theorem iX5_isRest_X5 : ∀ w ∈ wsX50, w ∈ wsX5_isRest := fun _ h => List.mem_cons_of_mem _ (List.mem_append_right _ h)
theorem iX5_layAsked_X5 : ∀ w ∈ wsX50, w ∈ wsX5_layAsked := fun _ h => List.mem_cons_of_mem _ (List.mem_append_right _ h)
theorem iX5_findLast_X5 : ∀ w ∈ wsX50, w ∈ wsX5_findLast := fun _ h => List.mem_cons_of_mem _ (List.mem_append_right _ h)
theorem iX5_tryFirst_X5 : ∀ w ∈ wsX50, w ∈ wsX5_tryFirst := fun _ h => List.mem_cons_of_mem _ (List.mem_append_right _ h)
theorem iX5_goesOn_X5 : ∀ w ∈ wsX50, w ∈ wsX5_goesOn := fun _ h => List.mem_cons_of_mem _ (List.mem_append_right _ h)
theorem iX5_findPlan_X5 : ∀ w ∈ wsX50, w ∈ wsX5_findPlan := fun _ h => List.mem_cons_of_mem _ (List.mem_append_right _ h)
theorem iX5_layPlan_X5 : ∀ w ∈ wsX50, w ∈ wsX5_layPlan := fun _ h => List.mem_cons_of_mem _ (List.mem_append_right _ h)
theorem iX5_planNow_X5 : ∀ w ∈ wsX50, w ∈ wsX5_planNow := fun _ h => List.mem_cons_of_mem _ (List.mem_append_right _ h)
theorem iX5_plan_X5 : ∀ w ∈ wsX50, w ∈ wsX5_plan := fun _ h => List.mem_cons_of_mem _ (List.mem_append_right _ h)
theorem iX5_isMore_X5 : ∀ w ∈ wsX50, w ∈ wsX5_isMore := fun _ h => List.mem_cons_of_mem _ (List.mem_append_right _ h)
theorem iX5_canRest_X5 : ∀ w ∈ wsX50, w ∈ wsX5_canRest := fun _ h => List.mem_cons_of_mem _ (List.mem_append_right _ h)
theorem iX5_about_X5 : ∀ w ∈ wsX50, w ∈ wsX5_about := fun _ h => List.mem_cons_of_mem _ (List.mem_append_right _ h)
theorem iX5_howMany_X5 : ∀ w ∈ wsX50, w ∈ wsX5_howMany := fun _ h => List.mem_cons_of_mem _ (List.mem_append_right _ h)
theorem iX5_mix_X5 : ∀ w ∈ wsX50, w ∈ wsX5_mix := fun _ h => List.mem_cons_of_mem _ (List.mem_append_right _ h)
theorem iX5_mixRows_X5 : ∀ w ∈ wsX50, w ∈ wsX5_mixRows := fun _ h => List.mem_cons_of_mem _ (List.mem_append_right _ h)
theorem iX5_mixRest_X5 : ∀ w ∈ wsX50, w ∈ wsX5_mixRest := fun _ h => List.mem_cons_of_mem _ (List.mem_append_right _ h)
theorem iX5_mixPlant_X5 : ∀ w ∈ wsX50, w ∈ wsX5_mixPlant := fun _ h => List.mem_cons_of_mem _ (List.mem_append_right _ h)
theorem iX5_digest_X5 : ∀ w ∈ wsX50, w ∈ wsX5_digest := fun _ h => List.mem_cons_of_mem _ (List.mem_append_right _ h)
theorem ndX4_setUnit : yX4_setUnit.cls = RX4 ∧ yX4_setUnit.cls ≠ "java/lang/invoke/MethodHandle" ∧ yX4_setUnit.cls ≠ "java/lang/invoke/VarHandle" ∧ (parseMethodDescriptor yX4_setUnit.desc).map (fun d => d.parameters.length) = some 2 := by decide +kernel
theorem ndX4_dot : yX4_dot.cls = RX4 ∧ yX4_dot.cls ≠ "java/lang/invoke/MethodHandle" ∧ yX4_dot.cls ≠ "java/lang/invoke/VarHandle" ∧ (parseMethodDescriptor yX4_dot.desc).map (fun d => d.parameters.length) = some 2 := by decide +kernel
theorem ndX4_firstNotZero : yX4_firstNotZero.cls = RX4 ∧ yX4_firstNotZero.cls ≠ "java/lang/invoke/MethodHandle" ∧ yX4_firstNotZero.cls ≠ "java/lang/invoke/VarHandle" ∧ (parseMethodDescriptor yX4_firstNotZero.desc).map (fun d => d.parameters.length) = some 1 := by decide +kernel
theorem ndX4_copy : yX4_copy.cls = RX4 ∧ yX4_copy.cls ≠ "java/lang/invoke/MethodHandle" ∧ yX4_copy.cls ≠ "java/lang/invoke/VarHandle" ∧ (parseMethodDescriptor yX4_copy.desc).map (fun d => d.parameters.length) = some 2 := by decide +kernel
theorem ndX4_cross : yX4_cross.cls = RX4 ∧ yX4_cross.cls ≠ "java/lang/invoke/MethodHandle" ∧ yX4_cross.cls ≠ "java/lang/invoke/VarHandle" ∧ (parseMethodDescriptor yX4_cross.desc).map (fun d => d.parameters.length) = some 3 := by decide +kernel
theorem ndX3_goOn : yX3_goOn.cls = RX3 ∧ yX3_goOn.cls ≠ "java/lang/invoke/MethodHandle" ∧ yX3_goOn.cls ≠ "java/lang/invoke/VarHandle" ∧ (parseMethodDescriptor yX3_goOn.desc).map (fun d => d.parameters.length) = some 3 := by decide +kernel
theorem ndX0_share : yX0_share.cls = RX0 ∧ yX0_share.cls ≠ "java/lang/invoke/MethodHandle" ∧ yX0_share.cls ≠ "java/lang/invoke/VarHandle" ∧ (parseMethodDescriptor yX0_share.desc).map (fun d => d.parameters.length) = some 2 := by decide +kernel
theorem ndX3_carry : yX3_carry.cls = RX3 ∧ yX3_carry.cls ≠ "java/lang/invoke/MethodHandle" ∧ yX3_carry.cls ≠ "java/lang/invoke/VarHandle" ∧ (parseMethodDescriptor yX3_carry.desc).map (fun d => d.parameters.length) = some 3 := by decide +kernel
theorem ndX0_fillBase : yX0_fillBase.cls = RX0 ∧ yX0_fillBase.cls ≠ "java/lang/invoke/MethodHandle" ∧ yX0_fillBase.cls ≠ "java/lang/invoke/VarHandle" ∧ (parseMethodDescriptor yX0_fillBase.desc).map (fun d => d.parameters.length) = some 0 := by decide +kernel
theorem ndX0_findGains : yX0_findGains.cls = RX0 ∧ yX0_findGains.cls ≠ "java/lang/invoke/MethodHandle" ∧ yX0_findGains.cls ≠ "java/lang/invoke/VarHandle" ∧ (parseMethodDescriptor yX0_findGains.desc).map (fun d => d.parameters.length) = some 1 := by decide +kernel
theorem ndX1_needed : yX1_needed.cls = RX1 ∧ yX1_needed.cls ≠ "java/lang/invoke/MethodHandle" ∧ yX1_needed.cls ≠ "java/lang/invoke/VarHandle" ∧ (parseMethodDescriptor yX1_needed.desc).map (fun d => d.parameters.length) = some 0 := by decide +kernel
theorem ndX1_keeps : yX1_keeps.cls = RX1 ∧ yX1_keeps.cls ≠ "java/lang/invoke/MethodHandle" ∧ yX1_keeps.cls ≠ "java/lang/invoke/VarHandle" ∧ (parseMethodDescriptor yX1_keeps.desc).map (fun d => d.parameters.length) = some 1 := by decide +kernel
theorem ndX1_takesOrder : yX1_takesOrder.cls = RX1 ∧ yX1_takesOrder.cls ≠ "java/lang/invoke/MethodHandle" ∧ yX1_takesOrder.cls ≠ "java/lang/invoke/VarHandle" ∧ (parseMethodDescriptor yX1_takesOrder.desc).map (fun d => d.parameters.length) = some 1 := by decide +kernel
theorem ndX1_takesSign : yX1_takesSign.cls = RX1 ∧ yX1_takesSign.cls ≠ "java/lang/invoke/MethodHandle" ∧ yX1_takesSign.cls ≠ "java/lang/invoke/VarHandle" ∧ (parseMethodDescriptor yX1_takesSign.desc).map (fun d => d.parameters.length) = some 1 := by decide +kernel
theorem ndX1_takesNumber : yX1_takesNumber.cls = RX1 ∧ yX1_takesNumber.cls ≠ "java/lang/invoke/MethodHandle" ∧ yX1_takesNumber.cls ≠ "java/lang/invoke/VarHandle" ∧ (parseMethodDescriptor yX1_takesNumber.desc).map (fun d => d.parameters.length) = some 1 := by decide +kernel
theorem ndX1_takesFigure : yX1_takesFigure.cls = RX1 ∧ yX1_takesFigure.cls ≠ "java/lang/invoke/MethodHandle" ∧ yX1_takesFigure.cls ≠ "java/lang/invoke/VarHandle" ∧ (parseMethodDescriptor yX1_takesFigure.desc).map (fun d => d.parameters.length) = some 1 := by decide +kernel
theorem ndX1_takes : yX1_takes.cls = RX1 ∧ yX1_takes.cls ≠ "java/lang/invoke/MethodHandle" ∧ yX1_takes.cls ≠ "java/lang/invoke/VarHandle" ∧ (parseMethodDescriptor yX1_takes.desc).map (fun d => d.parameters.length) = some 1 := by decide +kernel
theorem ndX1_wellBegun : yX1_wellBegun.cls = RX1 ∧ yX1_wellBegun.cls ≠ "java/lang/invoke/MethodHandle" ∧ yX1_wellBegun.cls ≠ "java/lang/invoke/VarHandle" ∧ (parseMethodDescriptor yX1_wellBegun.desc).map (fun d => d.parameters.length) = some 0 := by decide +kernel
theorem ndX3_hasCell : yX3_hasCell.cls = RX3 ∧ yX3_hasCell.cls ≠ "java/lang/invoke/MethodHandle" ∧ yX3_hasCell.cls ≠ "java/lang/invoke/VarHandle" ∧ (parseMethodDescriptor yX3_hasCell.desc).map (fun d => d.parameters.length) = some 1 := by decide +kernel
theorem ndX0_spans : yX0_spans.cls = RX0 ∧ yX0_spans.cls ≠ "java/lang/invoke/MethodHandle" ∧ yX0_spans.cls ≠ "java/lang/invoke/VarHandle" ∧ (parseMethodDescriptor yX0_spans.desc).map (fun d => d.parameters.length) = some 2 := by decide +kernel
theorem ndX4_quotient : yX4_quotient.cls = RX4 ∧ yX4_quotient.cls ≠ "java/lang/invoke/MethodHandle" ∧ yX4_quotient.cls ≠ "java/lang/invoke/VarHandle" ∧ (parseMethodDescriptor yX4_quotient.desc).map (fun d => d.parameters.length) = some 2 := by decide +kernel
theorem ndX2_setTried : yX2_setTried.cls = RX2 ∧ yX2_setTried.cls ≠ "java/lang/invoke/MethodHandle" ∧ yX2_setTried.cls ≠ "java/lang/invoke/VarHandle" ∧ (parseMethodDescriptor yX2_setTried.desc).map (fun d => d.parameters.length) = some 2 := by decide +kernel
theorem ndX2_restFits : yX2_restFits.cls = RX2 ∧ yX2_restFits.cls ≠ "java/lang/invoke/MethodHandle" ∧ yX2_restFits.cls ≠ "java/lang/invoke/VarHandle" ∧ (parseMethodDescriptor yX2_restFits.desc).map (fun d => d.parameters.length) = some 1 := by decide +kernel
theorem ndX2_isOpen : yX2_isOpen.cls = RX2 ∧ yX2_isOpen.cls ≠ "java/lang/invoke/MethodHandle" ∧ yX2_isOpen.cls ≠ "java/lang/invoke/VarHandle" ∧ (parseMethodDescriptor yX2_isOpen.desc).map (fun d => d.parameters.length) = some 3 := by decide +kernel
theorem ndX2_isMet : yX2_isMet.cls = RX2 ∧ yX2_isMet.cls ≠ "java/lang/invoke/MethodHandle" ∧ yX2_isMet.cls ≠ "java/lang/invoke/VarHandle" ∧ (parseMethodDescriptor yX2_isMet.desc).map (fun d => d.parameters.length) = some 1 := by decide +kernel
theorem ndX1_write : yX1_write.cls = RX1 ∧ yX1_write.cls ≠ "java/lang/invoke/MethodHandle" ∧ yX1_write.cls ≠ "java/lang/invoke/VarHandle" ∧ (parseMethodDescriptor yX1_write.desc).map (fun d => d.parameters.length) = some 1 := by decide +kernel
theorem ndX0_build : yX0_build.cls = RX0 ∧ yX0_build.cls ≠ "java/lang/invoke/MethodHandle" ∧ yX0_build.cls ≠ "java/lang/invoke/VarHandle" ∧ (parseMethodDescriptor yX0_build.desc).map (fun d => d.parameters.length) = some 1 := by decide +kernel
theorem ndX4_plantChanged : yX4_plantChanged.cls = RX4 ∧ yX4_plantChanged.cls ≠ "java/lang/invoke/MethodHandle" ∧ yX4_plantChanged.cls ≠ "java/lang/invoke/VarHandle" ∧ (parseMethodDescriptor yX4_plantChanged.desc).map (fun d => d.parameters.length) = some 0 := by decide +kernel
theorem ndX1_isPlant : yX1_isPlant.cls = RX1 ∧ yX1_isPlant.cls ≠ "java/lang/invoke/MethodHandle" ∧ yX1_isPlant.cls ≠ "java/lang/invoke/VarHandle" ∧ (parseMethodDescriptor yX1_isPlant.desc).map (fun d => d.parameters.length) = some 0 := by decide +kernel
theorem ndX1_copyTo : yX1_copyTo.cls = RX1 ∧ yX1_copyTo.cls ≠ "java/lang/invoke/MethodHandle" ∧ yX1_copyTo.cls ≠ "java/lang/invoke/VarHandle" ∧ (parseMethodDescriptor yX1_copyTo.desc).map (fun d => d.parameters.length) = some 1 := by decide +kernel
theorem ndX3_hasPlace : yX3_hasPlace.cls = RX3 ∧ yX3_hasPlace.cls ≠ "java/lang/invoke/MethodHandle" ∧ yX3_hasPlace.cls ≠ "java/lang/invoke/VarHandle" ∧ (parseMethodDescriptor yX3_hasPlace.desc).map (fun d => d.parameters.length) = some 1 := by decide +kernel
theorem ndX3_seen : yX3_seen.cls = RX3 ∧ yX3_seen.cls ≠ "java/lang/invoke/MethodHandle" ∧ yX3_seen.cls ≠ "java/lang/invoke/VarHandle" ∧ (parseMethodDescriptor yX3_seen.desc).map (fun d => d.parameters.length) = some 1 := by decide +kernel
theorem ndX4_chain : yX4_chain.cls = RX4 ∧ yX4_chain.cls ≠ "java/lang/invoke/MethodHandle" ∧ yX4_chain.cls ≠ "java/lang/invoke/VarHandle" ∧ (parseMethodDescriptor yX4_chain.desc).map (fun d => d.parameters.length) = some 1 := by decide +kernel
theorem ndX4_isFull : yX4_isFull.cls = RX4 ∧ yX4_isFull.cls ≠ "java/lang/invoke/MethodHandle" ∧ yX4_isFull.cls ≠ "java/lang/invoke/VarHandle" ∧ (parseMethodDescriptor yX4_isFull.desc).map (fun d => d.parameters.length) = some 1 := by decide +kernel
theorem ndX4_canRest : yX4_canRest.cls = RX4 ∧ yX4_canRest.cls ≠ "java/lang/invoke/MethodHandle" ∧ yX4_canRest.cls ≠ "java/lang/invoke/VarHandle" ∧ (parseMethodDescriptor yX4_canRest.desc).map (fun d => d.parameters.length) = some 0 := by decide +kernel
theorem ndX4_commonDivisor : yX4_commonDivisor.cls = RX4 ∧ yX4_commonDivisor.cls ≠ "java/lang/invoke/MethodHandle" ∧ yX4_commonDivisor.cls ≠ "java/lang/invoke/VarHandle" ∧ (parseMethodDescriptor yX4_commonDivisor.desc).map (fun d => d.parameters.length) = some 2 := by decide +kernel
theorem ndX4_isPart : yX4_isPart.cls = RX4 ∧ yX4_isPart.cls ≠ "java/lang/invoke/MethodHandle" ∧ yX4_isPart.cls ≠ "java/lang/invoke/VarHandle" ∧ (parseMethodDescriptor yX4_isPart.desc).map (fun d => d.parameters.length) = some 1 := by decide +kernel
theorem ndX4_fraction : yX4_fraction.cls = RX4 ∧ yX4_fraction.cls ≠ "java/lang/invoke/MethodHandle" ∧ yX4_fraction.cls ≠ "java/lang/invoke/VarHandle" ∧ (parseMethodDescriptor yX4_fraction.desc).map (fun d => d.parameters.length) = some 3 := by decide +kernel
theorem ndX4_goTheWay : yX4_goTheWay.cls = RX4 ∧ yX4_goTheWay.cls ≠ "java/lang/invoke/MethodHandle" ∧ yX4_goTheWay.cls ≠ "java/lang/invoke/VarHandle" ∧ (parseMethodDescriptor yX4_goTheWay.desc).map (fun d => d.parameters.length) = some 2 := by decide +kernel
theorem ndX2_seek : yX2_seek.cls = RX2 ∧ yX2_seek.cls ≠ "java/lang/invoke/MethodHandle" ∧ yX2_seek.cls ≠ "java/lang/invoke/VarHandle" ∧ (parseMethodDescriptor yX2_seek.desc).map (fun d => d.parameters.length) = some 4 := by decide +kernel
theorem ndX4_after : yX4_after.cls = RX4 ∧ yX4_after.cls ≠ "java/lang/invoke/MethodHandle" ∧ yX4_after.cls ≠ "java/lang/invoke/VarHandle" ∧ (parseMethodDescriptor yX4_after.desc).map (fun d => d.parameters.length) = some 4 := by decide +kernel
theorem ndX4_input : yX4_input.cls = RX4 ∧ yX4_input.cls ≠ "java/lang/invoke/MethodHandle" ∧ yX4_input.cls ≠ "java/lang/invoke/VarHandle" ∧ (parseMethodDescriptor yX4_input.desc).map (fun d => d.parameters.length) = some 2 := by decide +kernel
theorem ndX4_most : yX4_most.cls = RX4 ∧ yX4_most.cls ≠ "java/lang/invoke/MethodHandle" ∧ yX4_most.cls ≠ "java/lang/invoke/VarHandle" ∧ (parseMethodDescriptor yX4_most.desc).map (fun d => d.parameters.length) = some 1 := by decide +kernel
theorem ndX4_gain : yX4_gain.cls = RX4 ∧ yX4_gain.cls ≠ "java/lang/invoke/MethodHandle" ∧ yX4_gain.cls ≠ "java/lang/invoke/VarHandle" ∧ (parseMethodDescriptor yX4_gain.desc).map (fun d => d.parameters.length) = some 3 := by decide +kernel
theorem ndX4_plan : yX4_plan.cls = RX4 ∧ yX4_plan.cls ≠ "java/lang/invoke/MethodHandle" ∧ yX4_plan.cls ≠ "java/lang/invoke/VarHandle" ∧ (parseMethodDescriptor yX4_plan.desc).map (fun d => d.parameters.length) = some 1 := by decide +kernel
theorem ndX4_withGains : yX4_withGains.cls = RX4 ∧ yX4_withGains.cls ≠ "java/lang/invoke/MethodHandle" ∧ yX4_withGains.cls ≠ "java/lang/invoke/VarHandle" ∧ (parseMethodDescriptor yX4_withGains.desc).map (fun d => d.parameters.length) = some 2 := by decide +kernel
theorem ndX4_about : yX4_about.cls = RX4 ∧ yX4_about.cls ≠ "java/lang/invoke/MethodHandle" ∧ yX4_about.cls ≠ "java/lang/invoke/VarHandle" ∧ (parseMethodDescriptor yX4_about.desc).map (fun d => d.parameters.length) = some 1 := by decide +kernel
theorem ndX4_withRows : yX4_withRows.cls = RX4 ∧ yX4_withRows.cls ≠ "java/lang/invoke/MethodHandle" ∧ yX4_withRows.cls ≠ "java/lang/invoke/VarHandle" ∧ (parseMethodDescriptor yX4_withRows.desc).map (fun d => d.parameters.length) = some 2 := by decide +kernel
theorem ndX4_count : yX4_count.cls = RX4 ∧ yX4_count.cls ≠ "java/lang/invoke/MethodHandle" ∧ yX4_count.cls ≠ "java/lang/invoke/VarHandle" ∧ (parseMethodDescriptor yX4_count.desc).map (fun d => d.parameters.length) = some 1 := by decide +kernel
theorem ndX4_withPlant : yX4_withPlant.cls = RX4 ∧ yX4_withPlant.cls ≠ "java/lang/invoke/MethodHandle" ∧ yX4_withPlant.cls ≠ "java/lang/invoke/VarHandle" ∧ (parseMethodDescriptor yX4_withPlant.desc).map (fun d => d.parameters.length) = some 1 := by decide +kernel
theorem ndX5_within : yX5_within.cls = RX5 ∧ yX5_within.cls ≠ "java/lang/invoke/MethodHandle" ∧ yX5_within.cls ≠ "java/lang/invoke/VarHandle" ∧ (parseMethodDescriptor yX5_within.desc).map (fun d => d.parameters.length) = some 3 := by decide +kernel
theorem ndX5_due : yX5_due.cls = RX5 ∧ yX5_due.cls ≠ "java/lang/invoke/MethodHandle" ∧ yX5_due.cls ≠ "java/lang/invoke/VarHandle" ∧ (parseMethodDescriptor yX5_due.desc).map (fun d => d.parameters.length) = some 0 := by decide +kernel
theorem ndX5_putNumber : yX5_putNumber.cls = RX5 ∧ yX5_putNumber.cls ≠ "java/lang/invoke/MethodHandle" ∧ yX5_putNumber.cls ≠ "java/lang/invoke/VarHandle" ∧ (parseMethodDescriptor yX5_putNumber.desc).map (fun d => d.parameters.length) = some 1 := by decide +kernel
theorem ndX5_takesSplit : yX5_takesSplit.cls = RX5 ∧ yX5_takesSplit.cls ≠ "java/lang/invoke/MethodHandle" ∧ yX5_takesSplit.cls ≠ "java/lang/invoke/VarHandle" ∧ (parseMethodDescriptor yX5_takesSplit.desc).map (fun d => d.parameters.length) = some 1 := by decide +kernel
theorem ndX5_takes : yX5_takes.cls = RX5 ∧ yX5_takes.cls ≠ "java/lang/invoke/MethodHandle" ∧ yX5_takes.cls ≠ "java/lang/invoke/VarHandle" ∧ (parseMethodDescriptor yX5_takes.desc).map (fun d => d.parameters.length) = some 1 := by decide +kernel
theorem ndX5_goAlong : yX5_goAlong.cls = RX5 ∧ yX5_goAlong.cls ≠ "java/lang/invoke/MethodHandle" ∧ yX5_goAlong.cls ≠ "java/lang/invoke/VarHandle" ∧ (parseMethodDescriptor yX5_goAlong.desc).map (fun d => d.parameters.length) = some 0 := by decide +kernel
theorem ndX5_isPlace : yX5_isPlace.cls = RX5 ∧ yX5_isPlace.cls ≠ "java/lang/invoke/MethodHandle" ∧ yX5_isPlace.cls ≠ "java/lang/invoke/VarHandle" ∧ (parseMethodDescriptor yX5_isPlace.desc).map (fun d => d.parameters.length) = some 1 := by decide +kernel
theorem ndX5_isThere : yX5_isThere.cls = RX5 ∧ yX5_isThere.cls ≠ "java/lang/invoke/MethodHandle" ∧ yX5_isThere.cls ≠ "java/lang/invoke/VarHandle" ∧ (parseMethodDescriptor yX5_isThere.desc).map (fun d => d.parameters.length) = some 1 := by decide +kernel
theorem ndX5_seenNow : yX5_seenNow.cls = RX5 ∧ yX5_seenNow.cls ≠ "java/lang/invoke/MethodHandle" ∧ yX5_seenNow.cls ≠ "java/lang/invoke/VarHandle" ∧ (parseMethodDescriptor yX5_seenNow.desc).map (fun d => d.parameters.length) = some 0 := by decide +kernel
theorem ndX5_layTried : yX5_layTried.cls = RX5 ∧ yX5_layTried.cls ≠ "java/lang/invoke/MethodHandle" ∧ yX5_layTried.cls ≠ "java/lang/invoke/VarHandle" ∧ (parseMethodDescriptor yX5_layTried.desc).map (fun d => d.parameters.length) = some 0 := by decide +kernel
theorem ndX5_goOn : yX5_goOn.cls = RX5 ∧ yX5_goOn.cls ≠ "java/lang/invoke/MethodHandle" ∧ yX5_goOn.cls ≠ "java/lang/invoke/VarHandle" ∧ (parseMethodDescriptor yX5_goOn.desc).map (fun d => d.parameters.length) = some 2 := by decide +kernel
theorem ndX5_tableAt : yX5_tableAt.cls = RX5 ∧ yX5_tableAt.cls ≠ "java/lang/invoke/MethodHandle" ∧ yX5_tableAt.cls ≠ "java/lang/invoke/VarHandle" ∧ (parseMethodDescriptor yX5_tableAt.desc).map (fun d => d.parameters.length) = some 3 := by decide +kernel
theorem ndX5_layRows : yX5_layRows.cls = RX5 ∧ yX5_layRows.cls ≠ "java/lang/invoke/MethodHandle" ∧ yX5_layRows.cls ≠ "java/lang/invoke/VarHandle" ∧ (parseMethodDescriptor yX5_layRows.desc).map (fun d => d.parameters.length) = some 1 := by decide +kernel
theorem ndX5_at : yX5_at.cls = RX5 ∧ yX5_at.cls ≠ "java/lang/invoke/MethodHandle" ∧ yX5_at.cls ≠ "java/lang/invoke/VarHandle" ∧ (parseMethodDescriptor yX5_at.desc).map (fun d => d.parameters.length) = some 5 := by decide +kernel
theorem ndX5_isAny : yX5_isAny.cls = RX5 ∧ yX5_isAny.cls ≠ "java/lang/invoke/MethodHandle" ∧ yX5_isAny.cls ≠ "java/lang/invoke/VarHandle" ∧ (parseMethodDescriptor yX5_isAny.desc).map (fun d => d.parameters.length) = some 0 := by decide +kernel
theorem ndX5_areTwo : yX5_areTwo.cls = RX5 ∧ yX5_areTwo.cls ≠ "java/lang/invoke/MethodHandle" ∧ yX5_areTwo.cls ≠ "java/lang/invoke/VarHandle" ∧ (parseMethodDescriptor yX5_areTwo.desc).map (fun d => d.parameters.length) = some 0 := by decide +kernel
theorem ndX5_determinant : yX5_determinant.cls = RX5 ∧ yX5_determinant.cls ≠ "java/lang/invoke/MethodHandle" ∧ yX5_determinant.cls ≠ "java/lang/invoke/VarHandle" ∧ (parseMethodDescriptor yX5_determinant.desc).map (fun d => d.parameters.length) = some 3 := by decide +kernel
theorem ndX5_rankNow : yX5_rankNow.cls = RX5 ∧ yX5_rankNow.cls ≠ "java/lang/invoke/MethodHandle" ∧ yX5_rankNow.cls ≠ "java/lang/invoke/VarHandle" ∧ (parseMethodDescriptor yX5_rankNow.desc).map (fun d => d.parameters.length) = some 1 := by decide +kernel
theorem ndX5_turnOn : yX5_turnOn.cls = RX5 ∧ yX5_turnOn.cls ≠ "java/lang/invoke/MethodHandle" ∧ yX5_turnOn.cls ≠ "java/lang/invoke/VarHandle" ∧ (parseMethodDescriptor yX5_turnOn.desc).map (fun d => d.parameters.length) = some 2 := by decide +kernel
theorem ndX5_layInputs : yX5_layInputs.cls = RX5 ∧ yX5_layInputs.cls ≠ "java/lang/invoke/MethodHandle" ∧ yX5_layInputs.cls ≠ "java/lang/invoke/VarHandle" ∧ (parseMethodDescriptor yX5_layInputs.desc).map (fun d => d.parameters.length) = some 2 := by decide +kernel
theorem ndX5_layStates : yX5_layStates.cls = RX5 ∧ yX5_layStates.cls ≠ "java/lang/invoke/MethodHandle" ∧ yX5_layStates.cls ≠ "java/lang/invoke/VarHandle" ∧ (parseMethodDescriptor yX5_layStates.desc).map (fun d => d.parameters.length) = some 2 := by decide +kernel
theorem ndX5_divisor : yX5_divisor.cls = RX5 ∧ yX5_divisor.cls ≠ "java/lang/invoke/MethodHandle" ∧ yX5_divisor.cls ≠ "java/lang/invoke/VarHandle" ∧ (parseMethodDescriptor yX5_divisor.desc).map (fun d => d.parameters.length) = some 2 := by decide +kernel
theorem ndX5_layRest : yX5_layRest.cls = RX5 ∧ yX5_layRest.cls ≠ "java/lang/invoke/MethodHandle" ∧ yX5_layRest.cls ≠ "java/lang/invoke/VarHandle" ∧ (parseMethodDescriptor yX5_layRest.desc).map (fun d => d.parameters.length) = some 1 := by decide +kernel
theorem ndX5_lowest : yX5_lowest.cls = RX5 ∧ yX5_lowest.cls ≠ "java/lang/invoke/MethodHandle" ∧ yX5_lowest.cls ≠ "java/lang/invoke/VarHandle" ∧ (parseMethodDescriptor yX5_lowest.desc).map (fun d => d.parameters.length) = some 3 := by decide +kernel
theorem ndX5_isPart : yX5_isPart.cls = RX5 ∧ yX5_isPart.cls ≠ "java/lang/invoke/MethodHandle" ∧ yX5_isPart.cls ≠ "java/lang/invoke/VarHandle" ∧ (parseMethodDescriptor yX5_isPart.desc).map (fun d => d.parameters.length) = some 1 := by decide +kernel
theorem ndX5_isFull : yX5_isFull.cls = RX5 ∧ yX5_isFull.cls ≠ "java/lang/invoke/MethodHandle" ∧ yX5_isFull.cls ≠ "java/lang/invoke/VarHandle" ∧ (parseMethodDescriptor yX5_isFull.desc).map (fun d => d.parameters.length) = some 1 := by decide +kernel
theorem ndX5_gainNow : yX5_gainNow.cls = RX5 ∧ yX5_gainNow.cls ≠ "java/lang/invoke/MethodHandle" ∧ yX5_gainNow.cls ≠ "java/lang/invoke/VarHandle" ∧ (parseMethodDescriptor yX5_gainNow.desc).map (fun d => d.parameters.length) = some 3 := by decide +kernel
theorem ndX5_afterNow : yX5_afterNow.cls = RX5 ∧ yX5_afterNow.cls ≠ "java/lang/invoke/MethodHandle" ∧ yX5_afterNow.cls ≠ "java/lang/invoke/VarHandle" ∧ (parseMethodDescriptor yX5_afterNow.desc).map (fun d => d.parameters.length) = some 4 := by decide +kernel
theorem ndX5_inputNow : yX5_inputNow.cls = RX5 ∧ yX5_inputNow.cls ≠ "java/lang/invoke/MethodHandle" ∧ yX5_inputNow.cls ≠ "java/lang/invoke/VarHandle" ∧ (parseMethodDescriptor yX5_inputNow.desc).map (fun d => d.parameters.length) = some 2 := by decide +kernel
theorem ndX5_mostNow : yX5_mostNow.cls = RX5 ∧ yX5_mostNow.cls ≠ "java/lang/invoke/MethodHandle" ∧ yX5_mostNow.cls ≠ "java/lang/invoke/VarHandle" ∧ (parseMethodDescriptor yX5_mostNow.desc).map (fun d => d.parameters.length) = some 1 := by decide +kernel
theorem ndX5_goInputs : yX5_goInputs.cls = RX5 ∧ yX5_goInputs.cls ≠ "java/lang/invoke/MethodHandle" ∧ yX5_goInputs.cls ≠ "java/lang/invoke/VarHandle" ∧ (parseMethodDescriptor yX5_goInputs.desc).map (fun d => d.parameters.length) = some 1 := by decide +kernel
theorem ndX5_isRest : yX5_isRest.cls = RX5 ∧ yX5_isRest.cls ≠ "java/lang/invoke/MethodHandle" ∧ yX5_isRest.cls ≠ "java/lang/invoke/VarHandle" ∧ (parseMethodDescriptor yX5_isRest.desc).map (fun d => d.parameters.length) = some 0 := by decide +kernel
theorem ndX5_layAsked : yX5_layAsked.cls = RX5 ∧ yX5_layAsked.cls ≠ "java/lang/invoke/MethodHandle" ∧ yX5_layAsked.cls ≠ "java/lang/invoke/VarHandle" ∧ (parseMethodDescriptor yX5_layAsked.desc).map (fun d => d.parameters.length) = some 2 := by decide +kernel
theorem ndX5_findLast : yX5_findLast.cls = RX5 ∧ yX5_findLast.cls ≠ "java/lang/invoke/MethodHandle" ∧ yX5_findLast.cls ≠ "java/lang/invoke/VarHandle" ∧ (parseMethodDescriptor yX5_findLast.desc).map (fun d => d.parameters.length) = some 2 := by decide +kernel
theorem ndX5_tryFirst : yX5_tryFirst.cls = RX5 ∧ yX5_tryFirst.cls ≠ "java/lang/invoke/MethodHandle" ∧ yX5_tryFirst.cls ≠ "java/lang/invoke/VarHandle" ∧ (parseMethodDescriptor yX5_tryFirst.desc).map (fun d => d.parameters.length) = some 2 := by decide +kernel
theorem ndX5_goesOn : yX5_goesOn.cls = RX5 ∧ yX5_goesOn.cls ≠ "java/lang/invoke/MethodHandle" ∧ yX5_goesOn.cls ≠ "java/lang/invoke/VarHandle" ∧ (parseMethodDescriptor yX5_goesOn.desc).map (fun d => d.parameters.length) = some 1 := by decide +kernel
theorem ndX5_findPlan : yX5_findPlan.cls = RX5 ∧ yX5_findPlan.cls ≠ "java/lang/invoke/MethodHandle" ∧ yX5_findPlan.cls ≠ "java/lang/invoke/VarHandle" ∧ (parseMethodDescriptor yX5_findPlan.desc).map (fun d => d.parameters.length) = some 2 := by decide +kernel
theorem ndX5_layPlan : yX5_layPlan.cls = RX5 ∧ yX5_layPlan.cls ≠ "java/lang/invoke/MethodHandle" ∧ yX5_layPlan.cls ≠ "java/lang/invoke/VarHandle" ∧ (parseMethodDescriptor yX5_layPlan.desc).map (fun d => d.parameters.length) = some 0 := by decide +kernel
theorem ndX5_planNow : yX5_planNow.cls = RX5 ∧ yX5_planNow.cls ≠ "java/lang/invoke/MethodHandle" ∧ yX5_planNow.cls ≠ "java/lang/invoke/VarHandle" ∧ (parseMethodDescriptor yX5_planNow.desc).map (fun d => d.parameters.length) = some 1 := by decide +kernel
theorem ndX5_isMore : yX5_isMore.cls = RX5 ∧ yX5_isMore.cls ≠ "java/lang/invoke/MethodHandle" ∧ yX5_isMore.cls ≠ "java/lang/invoke/VarHandle" ∧ (parseMethodDescriptor yX5_isMore.desc).map (fun d => d.parameters.length) = some 2 := by decide +kernel
theorem ndX5_canRest : yX5_canRest.cls = RX5 ∧ yX5_canRest.cls ≠ "java/lang/invoke/MethodHandle" ∧ yX5_canRest.cls ≠ "java/lang/invoke/VarHandle" ∧ (parseMethodDescriptor yX5_canRest.desc).map (fun d => d.parameters.length) = some 0 := by decide +kernel
theorem ndX5_aboutNow : yX5_aboutNow.cls = RX5 ∧ yX5_aboutNow.cls ≠ "java/lang/invoke/MethodHandle" ∧ yX5_aboutNow.cls ≠ "java/lang/invoke/VarHandle" ∧ (parseMethodDescriptor yX5_aboutNow.desc).map (fun d => d.parameters.length) = some 1 := by decide +kernel
theorem ndX5_howMany : yX5_howMany.cls = RX5 ∧ yX5_howMany.cls ≠ "java/lang/invoke/MethodHandle" ∧ yX5_howMany.cls ≠ "java/lang/invoke/VarHandle" ∧ (parseMethodDescriptor yX5_howMany.desc).map (fun d => d.parameters.length) = some 1 := by decide +kernel
theorem ndX5_mix : yX5_mix.cls = RX5 ∧ yX5_mix.cls ≠ "java/lang/invoke/MethodHandle" ∧ yX5_mix.cls ≠ "java/lang/invoke/VarHandle" ∧ (parseMethodDescriptor yX5_mix.desc).map (fun d => d.parameters.length) = some 1 := by decide +kernel
theorem ndX5_mixRest : yX5_mixRest.cls = RX5 ∧ yX5_mixRest.cls ≠ "java/lang/invoke/MethodHandle" ∧ yX5_mixRest.cls ≠ "java/lang/invoke/VarHandle" ∧ (parseMethodDescriptor yX5_mixRest.desc).map (fun d => d.parameters.length) = some 1 := by decide +kernel
theorem ndX5_mixRows : yX5_mixRows.cls = RX5 ∧ yX5_mixRows.cls ≠ "java/lang/invoke/MethodHandle" ∧ yX5_mixRows.cls ≠ "java/lang/invoke/VarHandle" ∧ (parseMethodDescriptor yX5_mixRows.desc).map (fun d => d.parameters.length) = some 1 := by decide +kernel
theorem ndX5_mixPlant : yX5_mixPlant.cls = RX5 ∧ yX5_mixPlant.cls ≠ "java/lang/invoke/MethodHandle" ∧ yX5_mixPlant.cls ≠ "java/lang/invoke/VarHandle" ∧ (parseMethodDescriptor yX5_mixPlant.desc).map (fun d => d.parameters.length) = some 0 := by decide +kernel
