def pw_T0 : u_T := fun k => match k with
  | 0 => ("PadeWorkbench$Euclid", "before", "LPadeWorkbench$Polynomial;", false)
  | 1 => ("PadeWorkbench$Euclid", "latest", "LPadeWorkbench$Polynomial;", false)
  | 2 => ("PadeWorkbench$Euclid", "cofactorBefore", "LPadeWorkbench$Polynomial;", false)
  | 3 => ("PadeWorkbench$Euclid", "cofactor", "LPadeWorkbench$Polynomial;", false)
  | 4 => ("PadeWorkbench$Euclid", "quotient", "LPadeWorkbench$Polynomial;", true)
  | _ => ("PadeWorkbench$Euclid", "p", "I", false)
def pw_Y0 : Nat → FieldType := fun k => match k with
  | 0 => .object "PadeWorkbench$Polynomial"
  | 1 => .object "PadeWorkbench$Polynomial"
  | 2 => .object "PadeWorkbench$Polynomial"
  | 3 => .object "PadeWorkbench$Polynomial"
  | 4 => .object "PadeWorkbench$Polynomial"
  | _ => .int
theorem pw_n0 : ∀ a, a < 6 → ∀ b, b < 6 → a ≠ b → (pw_T0 a).2.1 ≠ (pw_T0 b).2.1 := by decide +kernel
theorem pw_y0 : ∀ k, k < 6 → parseFieldDescriptor (pw_T0 k).2.2.1 = some (pw_Y0 k) := by decide +kernel
def pw_T1 : u_T := fun k => match k with
  | 0 => ("PadeWorkbench$Fraction", "top", "LPadeWorkbench$Polynomial;", true)
  | _ => ("PadeWorkbench$Fraction", "bottom", "LPadeWorkbench$Polynomial;", true)
def pw_Y1 : Nat → FieldType := fun k => match k with
  | 0 => .object "PadeWorkbench$Polynomial"
  | _ => .object "PadeWorkbench$Polynomial"
theorem pw_n1 : ∀ a, a < 2 → ∀ b, b < 2 → a ≠ b → (pw_T1 a).2.1 ≠ (pw_T1 b).2.1 := by decide +kernel
theorem pw_y1 : ∀ k, k < 2 → parseFieldDescriptor (pw_T1 k).2.2.1 = some (pw_Y1 k) := by decide +kernel
def pw_T2 : u_T := fun k => match k with
  | 0 => ("PadeWorkbench$FractionText", "bytes", "[I", true)
  | 1 => ("PadeWorkbench$FractionText", "length", "I", false)
  | 2 => ("PadeWorkbench$FractionText", "position", "I", false)
  | 3 => ("PadeWorkbench$FractionText", "p", "I", false)
  | 4 => ("PadeWorkbench$FractionText", "top", "[I", true)
  | _ => ("PadeWorkbench$FractionText", "bottom", "[I", true)
def pw_Y2 : Nat → FieldType := fun k => match k with
  | 0 => .array .int
  | 1 => .int
  | 2 => .int
  | 3 => .int
  | 4 => .array .int
  | _ => .array .int
theorem pw_n2 : ∀ a, a < 6 → ∀ b, b < 6 → a ≠ b → (pw_T2 a).2.1 ≠ (pw_T2 b).2.1 := by decide +kernel
theorem pw_y2 : ∀ k, k < 6 → parseFieldDescriptor (pw_T2 k).2.2.1 = some (pw_Y2 k) := by decide +kernel
def pw_T3 : u_T := fun k => match k with
  | 0 => ("PadeWorkbench$History", "states", "[LPadeWorkbench$State;", true)
  | 1 => ("PadeWorkbench$History", "next", "I", false)
  | _ => ("PadeWorkbench$History", "count", "I", false)
def pw_Y3 : Nat → FieldType := fun k => match k with
  | 0 => .array (.object "PadeWorkbench$State")
  | 1 => .int
  | _ => .int
theorem pw_n3 : ∀ a, a < 3 → ∀ b, b < 3 → a ≠ b → (pw_T3 a).2.1 ≠ (pw_T3 b).2.1 := by decide +kernel
theorem pw_y3 : ∀ k, k < 3 → parseFieldDescriptor (pw_T3 k).2.2.1 = some (pw_Y3 k) := by decide +kernel
def pw_T4 : u_T := fun k => match k with
  | 0 => ("PadeWorkbench$Polynomial", "row", "[I", true)
  | _ => ("PadeWorkbench$Polynomial", "degree", "I", false)
def pw_Y4 : Nat → FieldType := fun k => match k with
  | 0 => .array .int
  | _ => .int
theorem pw_n4 : ∀ a, a < 2 → ∀ b, b < 2 → a ≠ b → (pw_T4 a).2.1 ≠ (pw_T4 b).2.1 := by decide +kernel
theorem pw_y4 : ∀ k, k < 2 → parseFieldDescriptor (pw_T4 k).2.2.1 = some (pw_Y4 k) := by decide +kernel
def pw_T5 : u_T := fun k => match k with
  | 0 => ("PadeWorkbench$Register", "connection", "[I", false)
  | 1 => ("PadeWorkbench$Register", "older", "[I", false)
  | 2 => ("PadeWorkbench$Register", "spareRow", "[I", false)
  | _ => ("PadeWorkbench$Register", "size", "I", false)
def pw_Y5 : Nat → FieldType := fun k => match k with
  | 0 => .array .int
  | 1 => .array .int
  | 2 => .array .int
  | _ => .int
theorem pw_n5 : ∀ a, a < 4 → ∀ b, b < 4 → a ≠ b → (pw_T5 a).2.1 ≠ (pw_T5 b).2.1 := by decide +kernel
theorem pw_y5 : ∀ k, k < 4 → parseFieldDescriptor (pw_T5 k).2.2.1 = some (pw_Y5 k) := by decide +kernel
def pw_T6 : u_T := fun k => match k with
  | 0 => ("PadeWorkbench$Scheme", "q", "[I", true)
  | _ => ("PadeWorkbench$Scheme", "e", "[I", true)
def pw_Y6 : Nat → FieldType := fun k => match k with
  | 0 => .array .int
  | _ => .array .int
theorem pw_n6 : ∀ a, a < 2 → ∀ b, b < 2 → a ≠ b → (pw_T6 a).2.1 ≠ (pw_T6 b).2.1 := by decide +kernel
theorem pw_y6 : ∀ k, k < 2 → parseFieldDescriptor (pw_T6 k).2.2.1 = some (pw_Y6 k) := by decide +kernel
def pw_T7 : u_T := fun k => match k with
  | 0 => ("PadeWorkbench$State", "prime", "I", false)
  | 1 => ("PadeWorkbench$State", "series", "[[I", true)
  | 2 => ("PadeWorkbench$State", "points", "I", false)
  | 3 => ("PadeWorkbench$State", "xs", "[I", true)
  | _ => ("PadeWorkbench$State", "ys", "[I", true)
def pw_Y7 : Nat → FieldType := fun k => match k with
  | 0 => .int
  | 1 => .array (.array .int)
  | 2 => .int
  | 3 => .array .int
  | _ => .array .int
theorem pw_n7 : ∀ a, a < 5 → ∀ b, b < 5 → a ≠ b → (pw_T7 a).2.1 ≠ (pw_T7 b).2.1 := by decide +kernel
theorem pw_y7 : ∀ k, k < 5 → parseFieldDescriptor (pw_T7 k).2.2.1 = some (pw_Y7 k) := by decide +kernel
def pw_T8 : u_T := fun k => match k with
  | _ => ("PadeWorkbench$Toeplitz", "cells", "[[I", true)
def pw_Y8 : Nat → FieldType := fun k => match k with
  | _ => .array (.array .int)
theorem pw_n8 : ∀ a, a < 1 → ∀ b, b < 1 → a ≠ b → (pw_T8 a).2.1 ≠ (pw_T8 b).2.1 := by decide +kernel
theorem pw_y8 : ∀ k, k < 1 → parseFieldDescriptor (pw_T8 k).2.2.1 = some (pw_Y8 k) := by decide +kernel
def pw_T9 : u_T := fun k => match k with
  | 0 => ("PadeWorkbench", "now", "LPadeWorkbench$State;", true)
  | 1 => ("PadeWorkbench", "history", "LPadeWorkbench$History;", true)
  | 2 => ("PadeWorkbench", "text", "LPadeWorkbench$FractionText;", true)
  | 3 => ("PadeWorkbench", "euclid", "LPadeWorkbench$Euclid;", true)
  | 4 => ("PadeWorkbench", "fraction", "LPadeWorkbench$Fraction;", true)
  | 5 => ("PadeWorkbench", "toeplitz", "LPadeWorkbench$Toeplitz;", true)
  | 6 => ("PadeWorkbench", "scheme", "LPadeWorkbench$Scheme;", true)
  | 7 => ("PadeWorkbench", "register", "LPadeWorkbench$Register;", true)
  | 8 => ("PadeWorkbench", "result", "[I", true)
  | 9 => ("PadeWorkbench", "spare", "[I", true)
  | _ => ("PadeWorkbench", "errors", "[I", true)
def pw_Y9 : Nat → FieldType := fun k => match k with
  | 0 => .object "PadeWorkbench$State"
  | 1 => .object "PadeWorkbench$History"
  | 2 => .object "PadeWorkbench$FractionText"
  | 3 => .object "PadeWorkbench$Euclid"
  | 4 => .object "PadeWorkbench$Fraction"
  | 5 => .object "PadeWorkbench$Toeplitz"
  | 6 => .object "PadeWorkbench$Scheme"
  | 7 => .object "PadeWorkbench$Register"
  | 8 => .array .int
  | 9 => .array .int
  | _ => .array .int
theorem pw_n9 : ∀ a, a < 11 → ∀ b, b < 11 → a ≠ b → (pw_T9 a).2.1 ≠ (pw_T9 b).2.1 := by decide +kernel
theorem pw_y9 : ∀ k, k < 11 → parseFieldDescriptor (pw_T9 k).2.2.1 = some (pw_Y9 k) := by decide +kernel
def pw_T10 : u_T := fun k => match k with
  | 0 => ("PadeWorkbenchModel", "now", "[I", true)
  | 1 => ("PadeWorkbenchModel", "history", "[I", true)
  | 2 => ("PadeWorkbenchModel", "saved", "I", false)
  | 3 => ("PadeWorkbenchModel", "errors", "[I", true)
  | 4 => ("PadeWorkbenchModel", "text", "[I", true)
  | 5 => ("PadeWorkbenchModel", "length", "I", false)
  | 6 => ("PadeWorkbenchModel", "made", "[I", true)
  | 7 => ("PadeWorkbenchModel", "one", "[I", true)
  | 8 => ("PadeWorkbenchModel", "two", "[I", true)
  | 9 => ("PadeWorkbenchModel", "next", "I", false)
  | 10 => ("PadeWorkbenchModel", "matrix", "[I", true)
  | 11 => ("PadeWorkbenchModel", "pivot", "[I", true)
  | 12 => ("PadeWorkbenchModel", "vector", "[I", true)
  | 13 => ("PadeWorkbenchModel", "up", "[I", true)
  | 14 => ("PadeWorkbenchModel", "low", "[I", true)
  | 15 => ("PadeWorkbenchModel", "first", "[I", true)
  | 16 => ("PadeWorkbenchModel", "second", "[I", true)
  | 17 => ("PadeWorkbenchModel", "third", "[I", true)
  | 18 => ("PadeWorkbenchModel", "quotients", "[I", true)
  | _ => ("PadeWorkbenchModel", "differences", "[I", true)
def pw_Y10 : Nat → FieldType := fun k => match k with
  | 0 => .array .int
  | 1 => .array .int
  | 2 => .int
  | 3 => .array .int
  | 4 => .array .int
  | 5 => .int
  | 6 => .array .int
  | 7 => .array .int
  | 8 => .array .int
  | 9 => .int
  | 10 => .array .int
  | 11 => .array .int
  | 12 => .array .int
  | 13 => .array .int
  | 14 => .array .int
  | 15 => .array .int
  | 16 => .array .int
  | 17 => .array .int
  | 18 => .array .int
  | _ => .array .int
theorem pw_n10 : ∀ a, a < 20 → ∀ b, b < 20 → a ≠ b → (pw_T10 a).2.1 ≠ (pw_T10 b).2.1 := by decide +kernel
theorem pw_y10 : ∀ k, k < 20 → parseFieldDescriptor (pw_T10 k).2.2.1 = some (pw_Y10 k) := by decide +kernel
abbrev pw_cl : List vw_C := [("PadeWorkbench$Euclid", pw_T0, 6), ("PadeWorkbench$Fraction", pw_T1, 2), ("PadeWorkbench$FractionText", pw_T2, 6), ("PadeWorkbench$History", pw_T3, 3), ("PadeWorkbench$Polynomial", pw_T4, 2), ("PadeWorkbench$Register", pw_T5, 4), ("PadeWorkbench$Scheme", pw_T6, 2), ("PadeWorkbench$State", pw_T7, 5), ("PadeWorkbench$Toeplitz", pw_T8, 1), ("PadeWorkbench", pw_T9, 11), ("PadeWorkbenchModel", pw_T10, 20)]
def pw_ft : Nat → List Bool := fun c => match c with
  | 0 => [false, false, false, false, false, true]
  | 1 => [false, false]
  | 2 => [false, true, true, true, false, false]
  | 3 => [false, true, true]
  | 4 => [false, true]
  | 5 => [false, false, false, true]
  | 6 => [false, false]
  | 7 => [true, false, true, false, false]
  | 8 => [false]
  | 9 => [false, false, false, false, false, false, false, false, false, false, false]
  | 10 => [false, false, true, false, false, true, false, false, false, true, false, false, false, false, false, false, false, false, false, false]
  | _ => []
def pw_shT : List (Nat × Nat) := [(9, 0), (7, 0), (13, 4), (11, 16), (11, 16), (11, 16), (11, 16), (11, 10), (11, 10), (3, 0), (12, 4), (7, 0), (13, 4), (11, 16), (11, 16), (11, 16), (11, 16), (11, 10), (11, 10), (7, 0), (13, 4), (11, 16), (11, 16), (11, 16), (11, 16), (11, 10), (11, 10), (7, 0), (13, 4), (11, 16), (11, 16), (11, 16), (11, 16), (11, 10), (11, 10), (7, 0), (13, 4), (11, 16), (11, 16), (11, 16), (11, 16), (11, 10), (11, 10), (2, 0), (11, 80), (11, 16), (11, 16), (0, 0), (4, 0), (11, 17), (4, 0), (11, 17), (4, 0), (11, 17), (4, 0), (11, 17), (4, 0), (11, 17), (1, 0), (4, 0), (11, 17), (4, 0), (11, 17), (8, 0), (13, 16), (11, 16), (11, 16), (11, 16), (11, 16), (11, 16), (11, 16), (11, 16), (11, 16), (11, 16), (11, 16), (11, 16), (11, 16), (11, 16), (11, 16), (11, 16), (11, 16), (6, 0), (11, 16), (11, 16), (5, 0), (11, 17), (11, 17), (11, 17), (11, 16), (11, 16), (11, 3), (10, 0), (11, 86), (11, 344), (11, 3), (11, 80), (11, 16), (11, 16), (11, 16), (11, 324), (11, 18), (11, 18), (11, 18), (11, 18), (11, 18), (11, 18), (11, 18), (11, 170), (11, 170)]
def pw_sh (i : Nat) : Nat × Nat := pw_shT.getD i (99, 0)
def pw_nF : List (String × Nat × String × String × String × String) := [("PadeWorkbench", 83, "PadeWorkbench$State", "prime", "I", "PadeWorkbench"), ("PadeWorkbench$Euclid", 45, "PadeWorkbench$State", "prime", "I", "PadeWorkbench"), ("PadeWorkbench", 104, "PadeWorkbench$State", "series", "[[I", "PadeWorkbench"), ("PadeWorkbench$Euclid", 53, "PadeWorkbench$State", "points", "I", "PadeWorkbench"), ("PadeWorkbench", 226, "PadeWorkbench$State", "points", "I", "PadeWorkbench"), ("PadeWorkbench$Euclid", 56, "PadeWorkbench$State", "xs", "[I", "PadeWorkbench"), ("PadeWorkbench", 264, "PadeWorkbench$State", "xs", "[I", "PadeWorkbench"), ("PadeWorkbench$Euclid", 60, "PadeWorkbench$State", "ys", "[I", "PadeWorkbench"), ("PadeWorkbench", 267, "PadeWorkbench$State", "ys", "[I", "PadeWorkbench"), ("PadeWorkbench", 243, "PadeWorkbench$History", "count", "I", "PadeWorkbench"), ("PadeWorkbench", 131, "PadeWorkbench$FractionText", "length", "I", "PadeWorkbench"), ("PadeWorkbench", 140, "PadeWorkbench$FractionText", "position", "I", "PadeWorkbench"), ("PadeWorkbench", 146, "PadeWorkbench$FractionText", "top", "[I", "PadeWorkbench"), ("PadeWorkbench", 143, "PadeWorkbench$FractionText", "bottom", "[I", "PadeWorkbench"), ("PadeWorkbench$Fraction", 53, "PadeWorkbench$Polynomial", "row", "[I", "PadeWorkbench"), ("PadeWorkbench$Euclid", 96, "PadeWorkbench$Polynomial", "row", "[I", "PadeWorkbench"), ("PadeWorkbench", 167, "PadeWorkbench$Polynomial", "row", "[I", "PadeWorkbench"), ("PadeWorkbench$Fraction", 25, "PadeWorkbench$Polynomial", "degree", "I", "PadeWorkbench"), ("PadeWorkbench$Euclid", 87, "PadeWorkbench$Polynomial", "degree", "I", "PadeWorkbench"), ("PadeWorkbench", 160, "PadeWorkbench$Polynomial", "degree", "I", "PadeWorkbench"), ("PadeWorkbench", 202, "PadeWorkbench$Euclid", "latest", "LPadeWorkbench$Polynomial;", "PadeWorkbench"), ("PadeWorkbench", 292, "PadeWorkbench$Euclid", "cofactor", "LPadeWorkbench$Polynomial;", "PadeWorkbench"), ("PadeWorkbench", 208, "PadeWorkbench$Euclid", "quotient", "LPadeWorkbench$Polynomial;", "PadeWorkbench"), ("PadeWorkbench", 157, "PadeWorkbench$Fraction", "top", "LPadeWorkbench$Polynomial;", "PadeWorkbench"), ("PadeWorkbench", 165, "PadeWorkbench$Fraction", "bottom", "LPadeWorkbench$Polynomial;", "PadeWorkbench"), ("PadeWorkbench", 217, "PadeWorkbench$Register", "connection", "[I", "PadeWorkbench"), ("PadeWorkbench", 214, "PadeWorkbench$Register", "size", "I", "PadeWorkbench")]
def pw_nM : List (String × Nat × MethodName × String) := [("PadeWorkbench", 9, ⟨"PadeWorkbench$State", "<init>", "()V"⟩, "PadeWorkbench"), ("PadeWorkbench$History", 17, ⟨"PadeWorkbench$State", "<init>", "()V"⟩, "PadeWorkbench"), ("PadeWorkbench", 25, ⟨"PadeWorkbench$FractionText", "<init>", "()V"⟩, "PadeWorkbench"), ("PadeWorkbench", 32, ⟨"PadeWorkbench$Euclid", "<init>", "()V"⟩, "PadeWorkbench"), ("PadeWorkbench$Euclid", 11, ⟨"PadeWorkbench$Polynomial", "<init>", "()V"⟩, "PadeWorkbench"), ("PadeWorkbench", 39, ⟨"PadeWorkbench$Fraction", "<init>", "()V"⟩, "PadeWorkbench"), ("PadeWorkbench$Fraction", 11, ⟨"PadeWorkbench$Polynomial", "<init>", "()V"⟩, "PadeWorkbench"), ("PadeWorkbench", 46, ⟨"PadeWorkbench$Toeplitz", "<init>", "()V"⟩, "PadeWorkbench"), ("PadeWorkbench", 53, ⟨"PadeWorkbench$Scheme", "<init>", "()V"⟩, "PadeWorkbench"), ("PadeWorkbench", 60, ⟨"PadeWorkbench$Register", "<init>", "()V"⟩, "PadeWorkbench"), ("PadeWorkbench$Toeplitz", 41, ⟨"PadeWorkbench", "isTerm", "(I)Z"⟩, "PadeWorkbench")]
def pw_nO : List FieldType := [.array .int, .object "PadeWorkbench$State"]
def pw_nest : List Cond := pw_nF.map (fun q => .fieldLinkNest q.1 q.2.1 q.2.2.1 q.2.2.2.1 q.2.2.2.2.1 q.2.2.2.2.2) ++ (pw_nM.map (fun q => .methodLinkNest q.1 q.2.1 q.2.2.1 q.2.2.2) ++ pw_nO.map (fun q => .arrayOver q))
theorem pw_nest_warm {u U : State} (hW : u.WarmedH U.vm) {w : Cond} (hw : w ∈ pw_nest) (h : va_Nw w u) : va_Nw w U := by
  rcases List.mem_append.mp hw with q | q
  · obtain ⟨x, -, rfl⟩ := List.mem_map.mp q
    exact va_Nw.warmF hW h
  · rcases List.mem_append.mp q with q | q
    · obtain ⟨x, -, rfl⟩ := List.mem_map.mp q
      exact va_Nw.warmM hW h
    · obtain ⟨x, -, rfl⟩ := List.mem_map.mp q
      have h2 : (Cond.arrayOver x).before #[] (u.setVm U.vm) = true := (Cond.arrayOver_setVmC hW.alike x).trans h
      exact h2

