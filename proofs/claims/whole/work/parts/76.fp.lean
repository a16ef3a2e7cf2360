/-! ===== whole numbers as floats and doubles: their bits ===== -/
theorem fp_e32 (s : Bool) {C : Nat} {Q : Int} (h1 : 8388608 ≤ C) (h2 : C < 16777216) (h3 : -149 ≤ Q) (h4 : Q ≤ 104) : ∃ E T, FP.Core.encode FP.Core.b32 (.fin s C Q) = (s.toNat * 256 + E) * 8388608 + T ∧ E < 255 ∧ T < 8388608 ∧ FP.Core.decode FP.Core.b32 (FP.Core.encode FP.Core.b32 (.fin s C Q)) = .fin s C Q := by
  have ht : FP.Core.b32.tails = 8388608 := by decide
  have he : FP.Core.b32.exps = 256 := by decide
  have hq : FP.Core.b32.qmin = -149 := by decide
  have e : FP.Core.encode FP.Core.b32 (.fin s C Q) = (s.toNat * 256 + ((Q + 149).toNat + 1)) * 8388608 + (C - 8388608) := by
    unfold FP.Core.encode FP.Core.assemble
    dsimp only
    rw [ht, he, hq, if_neg (by omega), show Q - -149 = Q + 149 by omega]
  refine ⟨(Q + 149).toNat + 1, C - 8388608, e, by omega, by omega, ?_⟩
  rw [e]
  have hs : s.toNat = 0 ∨ s.toNat = 1 := by cases s <;> simp
  obtain ⟨n, hn⟩ : ∃ n, n = (s.toNat * 256 + ((Q + 149).toNat + 1)) * 8388608 + (C - 8388608) := ⟨_, rfl⟩
  rw [← hn]
  have f1 : FP.Core.fieldE FP.Core.b32 n = (Q + 149).toNat + 1 := by
    unfold FP.Core.fieldE; rw [ht, he]; omega
  have f2 : FP.Core.fieldT FP.Core.b32 n = C - 8388608 := by
    unfold FP.Core.fieldT; rw [ht]; omega
  have f3 : FP.Core.fieldS FP.Core.b32 n = s := by
    unfold FP.Core.fieldS; rw [ht, he]
    have : n / 8388608 / 256 % 2 = s.toNat := by omega
    rw [this]; cases s <;> rfl
  unfold FP.Core.decode
  rw [f1, f2, f3, he, ht, hq, if_neg (by omega), if_neg (by omega), show 8388608 + (C - 8388608) = C by omega, show (-149 : Int) + ((((Q + 149).toNat + 1 : Nat) : Int) - 1) = Q by omega]
theorem fp_e64 (s : Bool) {C : Nat} {Q : Int} (h1 : 4503599627370496 ≤ C) (h2 : C < 9007199254740992) (h3 : -1074 ≤ Q) (h4 : Q ≤ 971) : ∃ E T, FP.Core.encode FP.Core.b64 (.fin s C Q) = (s.toNat * 2048 + E) * 4503599627370496 + T ∧ E < 2047 ∧ T < 4503599627370496 ∧ FP.Core.decode FP.Core.b64 (FP.Core.encode FP.Core.b64 (.fin s C Q)) = .fin s C Q := by
  have ht : FP.Core.b64.tails = 4503599627370496 := by decide
  have he : FP.Core.b64.exps = 2048 := by decide
  have hq : FP.Core.b64.qmin = -1074 := by decide
  have e : FP.Core.encode FP.Core.b64 (.fin s C Q) = (s.toNat * 2048 + ((Q + 1074).toNat + 1)) * 4503599627370496 + (C - 4503599627370496) := by
    unfold FP.Core.encode FP.Core.assemble
    dsimp only
    rw [ht, he, hq, if_neg (by omega), show Q - -1074 = Q + 1074 by omega]
  refine ⟨(Q + 1074).toNat + 1, C - 4503599627370496, e, by omega, by omega, ?_⟩
  rw [e]
  have hs : s.toNat = 0 ∨ s.toNat = 1 := by cases s <;> simp
  obtain ⟨n, hn⟩ : ∃ n, n = (s.toNat * 2048 + ((Q + 1074).toNat + 1)) * 4503599627370496 + (C - 4503599627370496) := ⟨_, rfl⟩
  rw [← hn]
  have f1 : FP.Core.fieldE FP.Core.b64 n = (Q + 1074).toNat + 1 := by
    unfold FP.Core.fieldE; rw [ht, he]; omega
  have f2 : FP.Core.fieldT FP.Core.b64 n = C - 4503599627370496 := by
    unfold FP.Core.fieldT; rw [ht]; omega
  have f3 : FP.Core.fieldS FP.Core.b64 n = s := by
    unfold FP.Core.fieldS; rw [ht, he]
    have : n / 4503599627370496 / 2048 % 2 = s.toNat := by omega
    rw [this]; cases s <;> rfl
  unfold FP.Core.decode
  rw [f1, f2, f3, he, ht, hq, if_neg (by omega), if_neg (by omega), show 4503599627370496 + (C - 4503599627370496) = C by omega, show (-1074 : Int) + ((((Q + 1074).toNat + 1 : Nat) : Int) - 1) = Q by omega]
/-- what a long is as a float: not a NaN, its datum, its value -/
def fpF (x : UInt32) (s : Bool) (C : Nat) (Q : Int) : Prop := (∃ E T, x.toNat = (s.toNat * 256 + E) * 8388608 + T ∧ E < 255 ∧ T < 8388608) ∧ FP.Core.decode FP.Core.b32 x.toNat = .fin s C Q
def fpD (x : UInt64) (s : Bool) (C : Nat) (Q : Int) : Prop := (∃ E T, x.toNat = (s.toNat * 2048 + E) * 4503599627370496 + T ∧ E < 2047 ∧ T < 4503599627370496) ∧ FP.Core.decode FP.Core.b64 x.toNat = .fin s C Q
theorem fp_of32 (s : Bool) {C : Nat} {Q : Int} (h1 : 8388608 ≤ C) (h2 : C < 16777216) (h3 : -149 ≤ Q) (h4 : Q ≤ 104) : fpF (UInt32.ofNat (FP.Core.encode FP.Core.b32 (.fin s C Q))) s C Q := by
  obtain ⟨E, T, e, hE, hT, d⟩ := fp_e32 s h1 h2 h3 h4
  have hs : s.toNat = 0 ∨ s.toNat = 1 := by cases s <;> simp
  have lt : FP.Core.encode FP.Core.b32 (.fin s C Q) < UInt32.size := by
    rw [e]; show _ < 4294967296
    omega
  have t := UInt32.toNat_ofNat_of_lt' lt
  exact ⟨⟨E, T, by rw [t]; exact e, hE, hT⟩, by rw [t]; exact d⟩
theorem fp_of64 (s : Bool) {C : Nat} {Q : Int} (h1 : 4503599627370496 ≤ C) (h2 : C < 9007199254740992) (h3 : -1074 ≤ Q) (h4 : Q ≤ 971) : fpD (UInt64.ofNat (FP.Core.encode FP.Core.b64 (.fin s C Q))) s C Q := by
  obtain ⟨E, T, e, hE, hT, d⟩ := fp_e64 s h1 h2 h3 h4
  have hs : s.toNat = 0 ∨ s.toNat = 1 := by cases s <;> simp
  have lt : FP.Core.encode FP.Core.b64 (.fin s C Q) < UInt64.size := by
    rw [e]; show _ < 18446744073709551616
    omega
  have t := UInt64.toNat_ofNat_of_lt' lt
  exact ⟨⟨E, T, by rw [t]; exact e, hE, hT⟩, by rw [t]; exact d⟩
theorem fp_abs (v : Int64) : v.toInt.natAbs ≤ 2 ^ 63 := by
  have h1 := Int64.le_toInt v
  have h2 := Int64.toInt_lt v
  omega
theorem fp_l2f {v : Int64} (hv : ¬ v.toInt = 0) : ∃ C Q, fpF (FP.l2f v) (decide (v.toInt < 0)) C Q ∧ 8388608 ≤ C ∧ C < 16777216 ∧ -23 ≤ Q ∧ Q ≤ 65 ∧ C * 2 ^ Q.toNat / 2 ^ (-Q).toNat = fpR 24 v.toInt.natAbs := by
  obtain ⟨C, Q, e, h1, h2, h3, h4, h5⟩ := fp_whole FP.Core.b32 (by decide) (by decide) (by decide) (decide (v.toInt < 0)) (A := v.toInt.natAbs) (by omega) (fp_abs v)
  have h1' : 8388608 ≤ C := h1
  have h2' : C < 16777216 := h2
  have h3' : -23 ≤ Q := h3
  refine ⟨C, Q, ?_, h1', h2', h3', h4, h5⟩
  have := fp_of32 (decide (v.toInt < 0)) h1' h2' (show -149 ≤ Q by omega) (show Q ≤ 104 by omega)
  rw [← e] at this
  exact this
theorem fp_l2d {v : Int64} (hv : ¬ v.toInt = 0) : ∃ C Q, fpD (FP.l2d v) (decide (v.toInt < 0)) C Q ∧ 4503599627370496 ≤ C ∧ C < 9007199254740992 ∧ -52 ≤ Q ∧ Q ≤ 65 ∧ C * 2 ^ Q.toNat / 2 ^ (-Q).toNat = fpR 53 v.toInt.natAbs := by
  obtain ⟨C, Q, e, h1, h2, h3, h4, h5⟩ := fp_whole FP.Core.b64 (by decide) (by decide) (by decide) (decide (v.toInt < 0)) (A := v.toInt.natAbs) (by omega) (fp_abs v)
  have h1' : 4503599627370496 ≤ C := h1
  have h2' : C < 9007199254740992 := h2
  have h3' : -52 ≤ Q := h3
  refine ⟨C, Q, ?_, h1', h2', h3', h4, h5⟩
  have := fp_of64 (decide (v.toInt < 0)) h1' h2' (show -1074 ≤ Q by omega) (show Q ≤ 971 by omega)
  rw [← e] at this
  exact this
/-- a number as a long -/
def fpL (s : Bool) (V : Nat) : Int64 := Int64.ofInt (max (-2 ^ 63) (min (2 ^ 63 - 1) (FP.Core.signed s V)))
theorem fp_0 {v : Int64} (h : v.toInt = 0) : v = 0 := Int64.toInt_inj.mp h
theorem fp_f2l (v : Int64) : FP.f2l (FP.l2f v) = fpL (decide (v.toInt < 0)) (fpR 24 v.toInt.natAbs) := by
  by_cases hv : v.toInt = 0
  · rw [fp_0 hv]; decide +kernel
  · obtain ⟨C, Q, ⟨-, d⟩, -, -, -, -, h5⟩ := fp_l2f hv
    show FP.Core.toL (FP.Core.decode FP.Core.b32 (FP.l2f v).toNat) = _
    rw [d]
    show Int64.ofInt (max (-2 ^ 63) (min (2 ^ 63 - 1) (FP.Core.signed _ (C * 2 ^ Q.toNat / 2 ^ (-Q).toNat)))) = _
    rw [h5]; rfl
theorem fp_d2l (v : Int64) : FP.d2l (FP.l2d v) = fpL (decide (v.toInt < 0)) (fpR 53 v.toInt.natAbs) := by
  by_cases hv : v.toInt = 0
  · rw [fp_0 hv]; decide +kernel
  · obtain ⟨C, Q, ⟨-, d⟩, -, -, -, -, h5⟩ := fp_l2d hv
    show FP.Core.toL (FP.Core.decode FP.Core.b64 (FP.l2d v).toNat) = _
    rw [d]
    show Int64.ofInt (max (-2 ^ 63) (min (2 ^ 63 - 1) (FP.Core.signed _ (C * 2 ^ Q.toNat / 2 ^ (-Q).toNat)))) = _
    rw [h5]; rfl
theorem fp_scale (C k : Nat) (Q : Int) : C * 2 ^ k * 2 ^ (Q - (k : Int)).toNat / 2 ^ (-(Q - (k : Int))).toNat = C * 2 ^ Q.toNat / 2 ^ (-Q).toNat := by
  by_cases h1 : (k : Int) ≤ Q
  · rw [show (-(Q - (k : Int))).toNat = 0 by omega, show (-Q).toNat = 0 by omega, Nat.pow_zero, Nat.div_one, Nat.div_one, Nat.mul_assoc, ← Nat.pow_add, show k + (Q - (k : Int)).toNat = Q.toNat by omega]
  · rw [show (Q - (k : Int)).toNat = 0 by omega, Nat.pow_zero, Nat.mul_one]
    by_cases h2 : 0 ≤ Q
    · rw [show (-Q).toNat = 0 by omega, Nat.pow_zero, Nat.div_one]
      have e : C * 2 ^ k = C * 2 ^ Q.toNat * 2 ^ (-(Q - (k : Int))).toNat := by
        rw [Nat.mul_assoc, ← Nat.pow_add, show Q.toNat + (-(Q - (k : Int))).toNat = k by omega]
      rw [e, Nat.mul_div_cancel _ (Nat.two_pow_pos _)]
    · rw [show Q.toNat = 0 by omega, Nat.pow_zero, Nat.mul_one, show (-(Q - (k : Int))).toNat = (-Q).toNat + k by omega, Nat.pow_add, Nat.mul_div_mul_right _ _ (Nat.two_pow_pos _)]
/-- a float as a double -/
theorem fp_f2d {v : Int64} (hv : ¬ v.toInt = 0) : ∃ C Q, fpD (FP.f2d (FP.l2f v)) (decide (v.toInt < 0)) C Q ∧ C * 2 ^ Q.toNat / 2 ^ (-Q).toNat = fpR 24 v.toInt.natAbs := by
  obtain ⟨C, Q, ⟨-, d⟩, h1, h2, h3, h4, h5⟩ := fp_l2f hv
  have hn : FP.Core.fIsNaN (FP.l2f v) = false := by
    unfold FP.Core.fIsNaN FP.Core.isNaN
    rw [d]; rfl
  have lC : C.log2 = 23 := (Nat.log2_eq_iff (by omega)).mpr ⟨by show 8388608 ≤ C; exact h1, by show C < 16777216; exact h2⟩
  have hqm : FP.Core.b64.qmin = -1074 := by decide
  have hqM : FP.Core.b64.qmax = 971 := by decide
  have er : FP.Core.roundRatio FP.Core.b64 (decide (v.toInt < 0)) C 1 Q = .fin (decide (v.toInt < 0)) (C * 2 ^ 29) (Q - 29) := by
    rw [fp_rr FP.Core.b64 _ (by omega) Q (by decide) (by
      rw [hqm, lC]; show (-1074 : Int) ≤ ((23 : Nat) : Int) + Q - (((53 : Nat) : Int) - 1)
      omega), lC]
    show FP.Core.settle FP.Core.b64 _ (FP.Core.nearest (C * 2 ^ 29) 1) (((23 : Nat) : Int) + Q - (((53 : Nat) : Int) - 1)) = _
    rw [fp_n1, show ((23 : Nat) : Int) + Q - (((53 : Nat) : Int) - 1) = Q - 29 by omega]
    unfold FP.Core.settle FP.Core.bound
    rw [hqM, if_pos (by show C * 536870912 < 9007199254740992; omega), if_pos (by omega)]
  refine ⟨C * 2 ^ 29, Q - 29, ?_, ?_⟩
  · have := fp_of64 (decide (v.toInt < 0)) (C := C * 2 ^ 29) (Q := Q - 29) (by show 4503599627370496 ≤ C * 536870912; omega) (by show C * 536870912 < 9007199254740992; omega) (by omega) (by omega)
    rw [← er] at this
    have e2 : FP.f2d (FP.l2f v) = UInt64.ofNat (FP.Core.encode FP.Core.b64 (FP.Core.roundRatio FP.Core.b64 (decide (v.toInt < 0)) C 1 Q)) := by
      unfold FP.f2d
      rw [hn, if_neg Bool.false_ne_true]
      show UInt64.ofNat (FP.Core.encode FP.Core.b64 (FP.Core.round FP.Core.b64 (FP.Core.decode FP.Core.b32 (FP.l2f v).toNat))) = _
      rw [d]; rfl
    rw [e2]
    rw [er] at this ⊢
    exact this
  · rw [← h5]
    exact fp_scale C 29 Q
theorem fp_fd (v : Int64) : FP.d2l (FP.f2d (FP.l2f v)) = fpL (decide (v.toInt < 0)) (fpR 24 v.toInt.natAbs) := by
  by_cases hv : v.toInt = 0
  · rw [fp_0 hv]; decide +kernel
  · obtain ⟨C, Q, ⟨-, d⟩, h5⟩ := fp_f2d hv
    show FP.Core.toL (FP.Core.decode FP.Core.b64 (FP.f2d (FP.l2f v)).toNat) = _
    rw [d]
    show Int64.ofInt (max (-2 ^ 63) (min (2 ^ 63 - 1) (FP.Core.signed _ (C * 2 ^ Q.toNat / 2 ^ (-Q).toNat)))) = _
    rw [h5]; rfl
theorem fp_big : fpL false (2 ^ 63) = 9223372036854775807 := by decide +kernel
/-- a long that was rounded, as a number again -/
theorem fpL_in {s : Bool} {V : Nat} (h : V ≤ 2 ^ 63) (hs : ¬ (s = false ∧ V = 2 ^ 63)) (h0 : V = 0 → s = false) : (fpL s V).toInt.natAbs = V ∧ decide ((fpL s V).toInt < 0) = s := by
  have e : (fpL s V).toInt = FP.Core.signed s V := by
    unfold fpL
    cases s with
    | false =>
      have : ¬ V = 2 ^ 63 := fun q => hs ⟨rfl, q⟩
      have e1 : FP.Core.signed false V = (V : Int) := rfl
      rw [e1, Int64.toInt_ofInt_of_le (by omega) (by omega)]
      omega
    | true =>
      have e1 : FP.Core.signed true V = -(V : Int) := rfl
      rw [e1, Int64.toInt_ofInt_of_le (by omega) (by omega)]
      omega
  rw [e]
  cases s with
  | false =>
    have e1 : FP.Core.signed false V = (V : Int) := rfl
    rw [e1]
    exact ⟨by omega, by simp⟩
  | true =>
    have e1 : FP.Core.signed true V = -(V : Int) := rfl
    have : ¬ V = 0 := fun q => Bool.false_ne_true (h0 q).symm
    rw [e1]
    refine ⟨by omega, ?_⟩
    simp; omega
theorem fp_s0 {p : Nat} (hp : 1 ≤ p) (v : Int64) : fpR p v.toInt.natAbs = 0 → decide (v.toInt < 0) = false := by
  intro h
  by_cases hv : v.toInt = 0
  · rw [hv]; rfl
  · have := fpR_pos hp (A := v.toInt.natAbs) (by omega)
    omega
theorem fp_Rle {p : Nat} (hp : 1 ≤ p) (v : Int64) : fpR p v.toInt.natAbs ≤ 2 ^ 63 := by
  by_cases hv : v.toInt.natAbs = 0
  · rw [hv, fpR_0 hp]; exact Nat.zero_le _
  · exact fpR_le hp (by omega) (fp_abs v)
theorem fp_b24 : FP.f2l (FP.l2f 9223372036854775807) = 9223372036854775807 := by decide +kernel
theorem fp_b53 : FP.d2l (FP.l2d 9223372036854775807) = 9223372036854775807 := by decide +kernel
theorem fp_1 (v : Int64) : FP.f2l (FP.l2f (FP.f2l (FP.l2f v))) = FP.f2l (FP.l2f v) := by
  rw [fp_f2l v]
  by_cases c : decide (v.toInt < 0) = false ∧ fpR 24 v.toInt.natAbs = 2 ^ 63
  · rw [c.1, c.2, fp_big, fp_b24]
  · obtain ⟨q1, q2⟩ := fpL_in (fp_Rle (by decide) v) c (fp_s0 (by decide) v)
    rw [fp_f2l, q1, q2, fpR_R (by decide) (by decide)]
theorem fp_2 (v : Int64) : FP.d2l (FP.l2d (FP.f2l (FP.l2f v))) = FP.d2l (FP.f2d (FP.l2f v)) := by
  rw [fp_f2l v, fp_fd v]
  by_cases c : decide (v.toInt < 0) = false ∧ fpR 24 v.toInt.natAbs = 2 ^ 63
  · rw [c.1, c.2, fp_big, fp_b53]
  · obtain ⟨q1, q2⟩ := fpL_in (fp_Rle (by decide) v) c (fp_s0 (by decide) v)
    rw [fp_d2l, q1, q2, fpR_R (by decide) (by decide)]
theorem fp_3 (v : Int64) : FP.d2l (FP.l2d (FP.d2l (FP.l2d v))) = FP.d2l (FP.l2d v) := by
  rw [fp_d2l v]
  by_cases c : decide (v.toInt < 0) = false ∧ fpR 53 v.toInt.natAbs = 2 ^ 63
  · rw [c.1, c.2, fp_big, fp_b53]
  · obtain ⟨q1, q2⟩ := fpL_in (fp_Rle (by decide) v) c (fp_s0 (by decide) v)
    rw [fp_d2l, q1, q2, fpR_R (by decide) (by decide)]
theorem fp_ord (s : Bool) (C : Nat) (Q : Int) : FP.Core.order (.fin s C Q) (.fin s C Q) = some .eq := by
  unfold FP.Core.order
  exact congrArg some (Int.compare_eq_eq.mpr rfl)
theorem fp_4 (v : Int64) : Op.cmpValue (FP.fcmp (FP.l2f v) (FP.l2f v)) .l = 0 := by
  by_cases hv : v.toInt = 0
  · rw [fp_0 hv]; decide +kernel
  · obtain ⟨C, Q, ⟨-, d⟩, -⟩ := fp_l2f hv
    have : FP.fcmp (FP.l2f v) (FP.l2f v) = some .eq := by
      show FP.Core.order (FP.Core.decode FP.Core.b32 (FP.l2f v).toNat) (FP.Core.decode FP.Core.b32 (FP.l2f v).toNat) = some .eq
      rw [d]; exact fp_ord _ _ _
    rw [this]; rfl
theorem fp_5 (v : Int64) : Op.cmpValue (FP.dcmp (FP.l2d v) (FP.l2d v)) .l = 0 := by
  by_cases hv : v.toInt = 0
  · rw [fp_0 hv]; decide +kernel
  · obtain ⟨C, Q, ⟨-, d⟩, -⟩ := fp_l2d hv
    have : FP.dcmp (FP.l2d v) (FP.l2d v) = some .eq := by
      show FP.Core.order (FP.Core.decode FP.Core.b64 (FP.l2d v).toNat) (FP.Core.decode FP.Core.b64 (FP.l2d v).toNat) = some .eq
      rw [d]; exact fp_ord _ _ _
    rw [this]; rfl
theorem fp_nn32 {x : UInt32} {s : Bool} {C : Nat} {Q : Int} (h : fpF x s C Q) : x &&& 0x7fffffff ≤ 0x7f800000 := by
  obtain ⟨⟨E, T, e, hE, hT⟩, -⟩ := h
  have hs : s.toNat = 0 ∨ s.toNat = 1 := by cases s <;> simp
  rw [UInt32.le_iff_toNat_le, UInt32.toNat_and]
  have k : (0x7fffffff : UInt32).toNat = 2 ^ 31 - 1 := by decide
  have k2 : (0x7f800000 : UInt32).toNat = 2139095040 := by decide
  rw [k, k2, Nat.and_two_pow_sub_one_eq_mod, e]
  show _ % 2147483648 ≤ _
  omega
theorem fp_nn64 {x : UInt64} {s : Bool} {C : Nat} {Q : Int} (h : fpD x s C Q) : x &&& 0x7fffffffffffffff ≤ 0x7ff0000000000000 := by
  obtain ⟨⟨E, T, e, hE, hT⟩, -⟩ := h
  have hs : s.toNat = 0 ∨ s.toNat = 1 := by cases s <;> simp
  rw [UInt64.le_iff_toNat_le, UInt64.toNat_and]
  have k : (0x7fffffffffffffff : UInt64).toNat = 2 ^ 63 - 1 := by decide
  have k2 : (0x7ff0000000000000 : UInt64).toNat = 9218868437227405312 := by decide
  rw [k, k2, Nat.and_two_pow_sub_one_eq_mod, e]
  show _ % 9223372036854775808 ≤ _
  omega
theorem fp_6 (v : Int64) : vn_sni2f (FP.l2f v).toInt32 = false := by
  by_cases hv : v.toInt = 0
  · rw [fp_0 hv]; decide +kernel
  · obtain ⟨C, Q, h, -⟩ := fp_l2f hv
    have := fp_nn32 h
    unfold vn_sni2f
    rw [UInt32.toUInt32_toInt32]
    have g : ¬ FP.l2f v &&& 0x7fffffff > 0x7f800000 := by
      rw [UInt32.le_iff_toNat_le] at this
      show ¬ (0x7f800000 : UInt32) < FP.l2f v &&& 0x7fffffff
      rw [UInt32.lt_iff_toNat_lt]; omega
    simp only [g, decide_false, Bool.false_and]
theorem fp_7 (v : Int64) : vn_snl2d (FP.l2d v).toInt64 = false := by
  by_cases hv : v.toInt = 0
  · rw [fp_0 hv]; decide +kernel
  · obtain ⟨C, Q, h, -⟩ := fp_l2d hv
    have := fp_nn64 h
    unfold vn_snl2d
    rw [UInt64.toUInt64_toInt64]
    have g : ¬ FP.l2d v &&& 0x7fffffffffffffff > 0x7ff0000000000000 := by
      rw [UInt64.le_iff_toNat_le] at this
      show ¬ (0x7ff0000000000000 : UInt64) < FP.l2d v &&& 0x7fffffffffffffff
      rw [UInt64.lt_iff_toNat_lt]; omega
    simp only [g, decide_false, Bool.false_and]
theorem fp_8 (v : Int64) : nn64 (FP.f2d (FP.l2f v)) = true := by
  by_cases hv : v.toInt = 0
  · rw [fp_0 hv]; decide +kernel
  · obtain ⟨C, Q, h, -⟩ := fp_f2d hv
    unfold nn64
    exact decide_eq_true (fp_nn64 h)
theorem fp_ok : FPx := ⟨fp_1, fp_2, fp_3, fp_4, fp_5, fp_6, fp_7, fp_8⟩
