theorem neI {x y : Int32} {k : Int} (h : ¬ x = y) (hy : y.toInt = k) : x.toInt ≠ k := fun e => h (Int32.toInt_inj.mp (by rw [e, hy]))
def nn64 (r : UInt64) : Bool := decide (r &&& 0x7fffffffffffffff ≤ 0x7ff0000000000000)
theorem nn64_n {r : UInt64} (h : nn64 r = true) : vf_n64 r := by simpa [nn64, vf_n64] using h
def b2 {α β : Type} (o : Option (α × ST)) (k : α → ST → Option β) : Option β := match o with
  | none => none
  | some (a, b) => k a b
theorem b2_some {α β : Type} {o : Option (α × ST)} {k : α → ST → Option β} {r : β} (h : b2 o k = some r) : ∃ a b, o = some (a, b) ∧ k a b = some r := by
  match o, h with
  | some (a, b), h => exact ⟨a, b, rfl, h⟩
theorem b2_eq {α β : Type} {a : α} {b : ST} {k : α → ST → Option β} : b2 (some (a, b)) k = k a b := rfl
