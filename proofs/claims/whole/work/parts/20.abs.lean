/-! ===== what a house IS, away from the machine ===== -/
def bI (b : Bool) : Int32 := if b = true then 1 else 0
theorem bI_t : bI true = 1 := rfl
theorem bI_f : bI false = 0 := rfl
theorem bI_0 {b : Bool} : bI b = 0 ↔ b = false := by cases b <;> decide
theorem bI_1 {b : Bool} : bI b = 1 ↔ b = true := by cases b <;> decide
theorem bI_isB (b : Bool) : isB (bI b) = true := by cases b <;> rfl
theorem bI_inj {a b : Bool} (h : bI a = bI b) : a = b := by revert h; cases a <;> cases b <;> decide
def oI (o : Option Nat) : Int32 := match o with
  | none => -2
  | some k => nI k
def isN (x : Int32) (n : Nat) : Bool := decide (0 ≤ x.toInt) && decide (x.toInt < (n : Int))
theorem isN_true {x : Int32} {n : Nat} (h : isN x n = true) (hn : n < 2 ^ 31) : ∃ j, j < n ∧ x = nI j := by
  simp only [isN, Bool.and_eq_true, decide_eq_true_eq] at h
  refine ⟨x.toInt.toNat, by omega, Int32.toInt_inj.mp ?_⟩
  rw [nI_toInt (by omega)]
  omega
theorem isN_nI {j n : Nat} (hj : j < 2 ^ 31) : isN (nI j) n = decide (j < n) := by
  simp only [isN, nI_toInt hj]
  by_cases h : j < n
  · simp [h]
  · simp [h]
theorem isN_cases (x : Int32) {n : Nat} (hn : n < 2 ^ 31) : isN x n = false ∨ ∃ j, j < n ∧ x = nI j := by
  cases h : isN x n with
  | false => exact Or.inl rfl
  | true => exact Or.inr (isN_true h hn)
theorem isN_lt0 {x : Int32} {n : Nat} (h : x < 0) : isN x n = false := by
  have : x.toInt < 0 := Int32.lt_iff_toInt_lt.mp h
  simp [isN]; omega
theorem isN_ge {x : Int32} {n : Nat} (hn : n < 2 ^ 31) (h : nI n ≤ x) : isN x n = false := by
  have := Int32.le_iff_toInt_le.mp h
  rw [nI_toInt hn] at this
  simp [isN]; omega
theorem isN_not {x : Int32} {n : Nat} (hn : n < 2 ^ 31) (h0 : ¬ x < 0) (h1 : ¬ nI n ≤ x) : isN x n = true := by
  rw [Int32.lt_iff_toInt_lt] at h0
  rw [Int32.le_iff_toInt_le, nI_toInt hn] at h1
  have : (0 : Int32).toInt = 0 := rfl
  simp [isN]; omega
theorem isN_m2 (n : Nat) : isN (-2) n = false := isN_lt0 (by decide)
theorem nI_ne_m2 {j : Nat} (h : j < 2 ^ 31) : nI j ≠ -2 := by
  intro e
  have := congrArg Int32.toInt e
  rw [nI_toInt h] at this
  have e2 : (-2 : Int32).toInt = -2 := rfl
  omega
theorem nI_inj {a b : Nat} (ha : a < 2 ^ 31) (hb : b < 2 ^ 31) (h : nI a = nI b) : a = b := (nI_eq ha hb).mp h
theorem vin_nI {j n : Nat} (h : j < n) (hn : n < 2 ^ 31) : vin (nI j) n = true := by
  simp [vin, nI_pos (show j < 2 ^ 31 by omega), nI_clamp (show j < 2 ^ 31 by omega), h]
theorem rdI_nI {u : ST} {k n j : Nat} (h : j < n) (hn : n < 2 ^ 31) : rdI u k n (nI j) = some (aI u k j) := by
  rw [rdI, ck_pos (vin_nI h hn), nI_clamp (by omega)]
theorem rdL_nI {u : ST} {k n j : Nat} (h : j < n) (hn : n < 2 ^ 31) : rdL u k n (nI j) = some (aL u k j) := by
  rw [rdL, ck_pos (vin_nI h hn), nI_clamp (by omega)]
theorem rdR_nI {u : ST} {k n j : Nat} (h : j < n) (hn : n < 2 ^ 31) : rdR u k n (nI j) = some (aR u k j) := by
  rw [rdR, ck_pos (vin_nI h hn), nI_clamp (by omega)]
theorem stI_nI {u : ST} {k n j : Nat} {x : Int32} (h : j < n) (hn : n < 2 ^ 31) : stI u k n (nI j) x = some (vI u k (upd (aI u k) j x)) := by
  rw [stI, ck_pos (vin_nI h hn), nI_clamp (by omega)]
theorem stZ_nI {u : ST} {k n j : Nat} {x : Int32} (h : j < n) (hn : n < 2 ^ 31) (hx : isB x = true) : stZ u k n (nI j) x = some (vI u k (upd (aI u k) j x)) := by
  rw [stZ, ck_pos (vin_nI h hn), ck_pos hx, nI_clamp (by omega)]
theorem stL_nI {u : ST} {k n j : Nat} {x : Int64} (h : j < n) (hn : n < 2 ^ 31) : stL u k n (nI j) x = some (vL u k (vp_updL (aL u k) j x)) := by
  rw [stL, ck_pos (vin_nI h hn), nI_clamp (by omega)]
theorem stR_nI {u : ST} {k n j : Nat} {x : Option Nat} (h : j < n) (hn : n < 2 ^ 31) : stR u k n (nI j) x = some (vR u k (va_up (aR u k) j x)) := by
  rw [stR, ck_pos (vin_nI h hn), nI_clamp (by omega)]
/-- a MEMBER: whether a METHOD, its TYPE, NAME, MARKS, KIND or first PARAMETER, second PARAMETER, the long it was told by -/
abbrev MR : Type := Bool × Nat × Int32 × Int32 × Int32 × Int32 × Int64
def rM (r : MR) : Bool := r.1
def rT (r : MR) : Nat := r.2.1
def rN (r : MR) : Int32 := r.2.2.1
def rK (r : MR) : Int32 := r.2.2.2.1
def rA (r : MR) : Int32 := r.2.2.2.2.1
def rB (r : MR) : Int32 := r.2.2.2.2.2.1
def rV (r : MR) : Int64 := r.2.2.2.2.2.2
/-- a house: how many TYPES; of each whether a FACE, what is above, MARKS, FACES; the MEMBERS -/
abbrev HA : Type := Nat × (Nat → Bool) × (Nat → Option Nat) × (Nat → Int32) × (Nat → List Nat) × (Nat → Option MR)
def hN (h : HA) : Nat := h.1
def hF (h : HA) : Nat → Bool := h.2.1
def hA (h : HA) : Nat → Option Nat := h.2.2.1
def hM (h : HA) : Nat → Int32 := h.2.2.2.1
def hL (h : HA) : Nat → List Nat := h.2.2.2.2.1
def hB (h : HA) : Nat → Option MR := h.2.2.2.2.2
def hE : HA := (0, fun _ => false, fun _ => none, fun _ => 0, fun _ => [], fun _ => none)
/-- the rows of TYPES as either side holds them -/
def RT (s0 : Int32) (a1 a2 a3 a4 a5 : Nat → Int32) (h : HA) : Prop := s0 = nI (hN h) ∧ ∀ t, t < hN h → (a1 t = bI (hF h t) ∧ a2 t = oI (hA h t) ∧ a3 t = hM h t ∧ a4 t = nI (hL h t).length ∧ ∀ i, i < (hL h t).length → a5 (3 * t + i) = nI ((hL h t).getD i 0))
def RMt (z : ST) (h : HA) : Prop := RT (sI z 0) (aI z 1) (aI z 2) (aI z 3) (aI z 4) (aI z 5) h
def RCt (u : ST) (h : HA) : Prop := RT (sI u 200) (aI u 8) (aI u 9) (aI u 10) (aI u 11) (aI u 12) h
/-- what a value is kept as (reference), and what comes out of it -/
def kp (k : Int32) (v : Int64) : Int64 := if k = 0 then (if v = 0 then 0 else 1) else if k = 1 then v.toInt32.toInt8.toInt32.toInt64 else if k = 2 then v &&& 65535 else if k = 3 then v.toInt32.toInt16.toInt32.toInt64 else if k = 4 then v.toInt32.toInt64 else if k = 5 then v else if k = 6 then (FP.l2f v).toInt32.toInt64 else (FP.l2d v).toInt64
def co (k : Int32) (v : Int64) : Int64 := if k = 0 then (if v = 0 then 0 else 1) else if k = 1 then v.toInt32.toInt8.toInt32.toInt64 else if k = 2 then (v.toInt32.toUInt32 % 65536).toInt32.toInt64 else if k = 3 then v.toInt32.toInt16.toInt32.toInt64 else if k = 4 then v.toInt32.toInt64 else if k = 6 then FP.f2l (FP.l2f v) else if k = 7 then FP.d2l (FP.l2d v) else v
def RMm (z : ST) (h : HA) : Prop := ∀ m, m < 60 → match hB h m with
  | none => aI z 6 m = 0
  | some r => aI z 6 m = 1 ∧ aI z 7 m = bI (rM r) ∧ aI z 8 m = nI (rT r) ∧ aI z 9 m = rN r ∧ aI z 10 m = rK r ∧ (if rM r = true then aI z 12 m else aI z 11 m) = rA r ∧ aI z 13 m = rB r ∧ aL z 14 m = (if rM r = true then (rV r).toInt32.toInt64 else kp (rA r) (rV r))
/-- how many of the first k numbers are MEMBERS -/
def cnt (h : HA) : Nat → Nat
  | 0 => 0
  | k + 1 => cnt h k + (if (hB h k).isSome = true then 1 else 0)
def RCm (u : ST) (h : HA) : Prop := sI u 300 = nI (cnt h 60) ∧ ∀ m, m < 60 → match hB h m with
  | none => aI u 15 m = -2
  | some r => aI u 15 m = nI (rT r) ∧ aI u 16 m = bI (rM r) ∧ aI u 17 m = rN r ∧ aI u 18 m = rK r ∧ aI u 19 m = rA r ∧ aI u 20 m = rB r ∧ aL u 21 m = (if rM r = true then (rV r).toInt32.toInt64 else co (rA r) (rV r))
/-- a PARAMETER that is there: none, or a TYPE's number -/
def okP (n : Nat) (x : Int32) : Prop := x = -2 ∨ ∃ j, j < n ∧ x = nI j
def suc (h : HA) (t : Nat) : List Nat := (hA h t).toList ++ hL h t
def okR (h : HA) (r : MR) : Prop := rT r < hN h ∧ isN (rN r) 10 = true ∧
  (rM r = true → isN (rK r) 9 = true ∧ okP (hN h) (rA r) ∧ okP (hN h) (rB r) ∧ (rA r = -2 → rB r = -2)) ∧
  (rM r = false → isN (rK r) 8 = true ∧ isN (rA r) 8 = true ∧ rB r = -2 ∧ (hF h (rT r) = true → rK r &&& 1 ≠ 0))
def like (r q : MR) : Prop := rM r = rM q ∧ rN r = rN q ∧ (rM r = true → rA r = rA q ∧ rB r = rB q)
def WF (h : HA) : Prop := hN h ≤ 12 ∧
  (∀ t, t < hN h → ∀ a, hA h t = some a → a < hN h ∧ hF h a = false ∧ hF h t = false) ∧
  (∀ t, t < hN h → (hL h t).length ≤ 3 ∧ (hL h t).Nodup ∧ ∀ f, f ∈ hL h t → f < hN h ∧ hF h f = true) ∧
  (∃ p : Nat → Nat, ∀ t, t < hN h → ∀ s, s ∈ suc h t → p s < p t) ∧
  (∀ t, t < hN h → isN (hM h t) 4 = true) ∧
  (∀ m, 60 ≤ m → hB h m = none) ∧
  (∀ m r, hB h m = some r → okR h r) ∧
  (∀ m q r s, hB h m = some r → hB h q = some s → rT r = rT s → like r s → m = q)
/-! ===== the reference's small questions ===== -/
theorem e9_in (u : ST) (a b c : Int64) : fX9_in u a b c = some (bI (decide (b ≤ a) && decide (a ≤ c))) := by
  unfold fX9_in
  by_cases h1 : a < b
  · rw [if_pos ((lg_cmp_lt a b).mpr h1)]
    have : ¬ b ≤ a := by rw [Int64.le_iff_toInt_le]; rw [Int64.lt_iff_toInt_lt] at h1; omega
    simp [this, bI]
  · rw [if_neg (fun h => h1 ((lg_cmp_lt a b).mp h))]
    have h1' : b ≤ a := by rw [Int64.le_iff_toInt_le]; rw [Int64.lt_iff_toInt_lt] at h1; omega
    by_cases h2 : c < a
    · rw [if_pos ((lg_cmp_gt a c).mpr h2)]
      have : ¬ a ≤ c := by rw [Int64.le_iff_toInt_le]; rw [Int64.lt_iff_toInt_lt] at h2; omega
      simp [this, bI]
    · rw [if_neg (fun h => h2 ((lg_cmp_gt a c).mp h))]
      have h2' : a ≤ c := by rw [Int64.le_iff_toInt_le]; rw [Int64.lt_iff_toInt_lt] at h2; omega
      simp [h1', h2', bI]
theorem in_isN (u : ST) (x y : Int32) (n : Nat) (hy : y.toInt = (n : Int) - 1) : fX9_in u x.toInt64 0 y.toInt64 = some (bI (isN x n)) := by
  rw [e9_in]
  congr 2
  simp only [isN, Int64.le_iff_toInt_le, Int32.toInt_toInt64]
  have e0 : (0 : Int64).toInt = 0 := rfl
  rw [e0, hy]
  by_cases h1 : 0 ≤ x.toInt <;> by_cases h2 : x.toInt < (n : Int) <;> simp [h1, h2] <;> omega
theorem pred_toInt {n : Nat} (h : n < 2 ^ 30) : (nI n - 1).toInt = (n : Int) - 1 := by
  have := pk_sub_toInt (a := n) (b := 1) (by omega) (by omega)
  exact this
theorem e9_isType {z : ST} {h : HA} (hr : RMt z h) (hn : hN h ≤ 12) (x : Int32) : fX9_isType z x = some (bI (isN x (hN h))) := by
  unfold fX9_isType
  rw [hr.1, in_isN z x (nI (hN h) - 1) (hN h) (pred_toInt (by omega)), Option.bind_some, ck_pos (bI_isB _)]
