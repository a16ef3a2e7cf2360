/-! ===== whole numbers as floats and doubles: numbers alone ===== -/
theorem fp_n1 (n : Nat) : FP.Core.nearest n 1 = n := by
  unfold FP.Core.nearest
  rw [Nat.mod_one, if_pos (by decide), Nat.div_one]
theorem fp_nle {A B M : Nat} (hB : 0 < B) (h : A ≤ M * B) : FP.Core.nearest A B ≤ M := by
  have e := Nat.div_add_mod A B
  have hq : A / B ≤ M := (Nat.div_le_iff_le_mul_add_pred hB).mpr (by rw [Nat.mul_comm B M]; omega)
  have hs : 0 < A % B → A / B < M := fun hr => by
    refine Nat.lt_of_not_le (fun q => ?_)
    have := Nat.mul_le_mul_left B q
    rw [Nat.mul_comm B M] at this
    omega
  unfold FP.Core.nearest
  by_cases c1 : 2 * (A % B) < B
  · rw [if_pos c1]; exact hq
  · rw [if_neg c1]
    have hr := hs (by omega)
    by_cases c2 : B < 2 * (A % B)
    · rw [if_pos c2]; exact hr
    · rw [if_neg c2]
      have := Nat.mod_lt (A / B) (show 0 < 2 by decide)
      omega
theorem fp_nge {A B M : Nat} (hB : 0 < B) (h : M * B ≤ A) : M ≤ FP.Core.nearest A B := by
  have hq : M ≤ A / B := (Nat.le_div_iff_mul_le hB).mpr h
  unfold FP.Core.nearest
  by_cases c1 : 2 * (A % B) < B
  · rw [if_pos c1]; exact hq
  · rw [if_neg c1]
    by_cases c2 : B < 2 * (A % B)
    · rw [if_pos c2]; omega
    · rw [if_neg c2]; omega
theorem fp_nmul (k : Nat) {B : Nat} (hB : 0 < B) : FP.Core.nearest (k * B) B = k := by
  unfold FP.Core.nearest
  rw [Nat.mul_mod_left, if_pos (by omega), Nat.mul_div_cancel _ hB]
/-- a whole number, rounded to p digits -/
def fpR (p A : Nat) : Nat := if A.log2 < p then A else FP.Core.nearest A (2 ^ (A.log2 - (p - 1))) * 2 ^ (A.log2 - (p - 1))
/-- the rounded significand lies between the p-digit numbers -/
theorem fp_sig {p A : Nat} (hp : 1 ≤ p) (hA : 0 < A) (hl : p ≤ A.log2) : 2 ^ (p - 1) ≤ FP.Core.nearest A (2 ^ (A.log2 - (p - 1))) ∧ FP.Core.nearest A (2 ^ (A.log2 - (p - 1))) ≤ 2 ^ p := by
  have h1 : 2 ^ A.log2 ≤ A := Nat.log2_self_le (by omega)
  have h2 : A < 2 ^ (A.log2 + 1) := Nat.lt_log2_self
  have hB : 0 < 2 ^ (A.log2 - (p - 1)) := Nat.two_pow_pos _
  have e1 : 2 ^ (p - 1) * 2 ^ (A.log2 - (p - 1)) = 2 ^ A.log2 := by rw [← Nat.pow_add]; congr 1; omega
  have e2 : 2 ^ p * 2 ^ (A.log2 - (p - 1)) = 2 ^ (A.log2 + 1) := by rw [← Nat.pow_add]; congr 1; omega
  exact ⟨fp_nge hB (by rw [e1]; exact h1), fp_nle hB (by rw [e2]; omega)⟩
theorem fpR_form {p A : Nat} (hp : 1 ≤ p) (hA : 0 < A) : ∃ c j, fpR p A = c * 2 ^ j ∧ 0 < c ∧ c < 2 ^ p := by
  unfold fpR
  by_cases c : A.log2 < p
  · rw [if_pos c]
    exact ⟨A, 0, by simp, hA, (Nat.log2_lt (by omega)).mp c⟩
  · rw [if_neg c]
    obtain ⟨s1, s2⟩ := fp_sig hp hA (by omega)
    have p1 : 0 < 2 ^ (p - 1) := Nat.two_pow_pos _
    have pp : 2 ^ p = 2 ^ (p - 1) * 2 := by rw [← Nat.pow_succ]; congr 1; omega
    by_cases d : FP.Core.nearest A (2 ^ (A.log2 - (p - 1))) < 2 ^ p
    · exact ⟨_, _, rfl, by omega, d⟩
    · have e : FP.Core.nearest A (2 ^ (A.log2 - (p - 1))) = 2 ^ p := by omega
      refine ⟨2 ^ (p - 1), A.log2 - (p - 1) + 1, ?_, p1, by omega⟩
      rw [e, ← Nat.pow_add, ← Nat.pow_add]
      congr 1; omega
theorem fpR_fix {p c j : Nat} (hp : 1 ≤ p) (hc0 : 0 < c) (hc : c < 2 ^ p) : fpR p (c * 2 ^ j) = c * 2 ^ j := by
  have hj : 0 < 2 ^ j := Nat.two_pow_pos _
  have hV : 0 < c * 2 ^ j := Nat.mul_pos hc0 hj
  unfold fpR
  by_cases k : (c * 2 ^ j).log2 < p
  · rw [if_pos k]
  · rw [if_neg k]
    obtain ⟨L, hL⟩ : ∃ L, (c * 2 ^ j).log2 = L := ⟨_, rfl⟩
    have h1 : 2 ^ L ≤ c * 2 ^ j := by rw [← hL]; exact Nat.log2_self_le (by omega)
    rw [hL] at k ⊢
    have hd : L - (p - 1) ≤ j := by
      refine Nat.le_of_not_lt (fun q => ?_)
      have a1 : c * 2 ^ j < 2 ^ p * 2 ^ j := Nat.mul_lt_mul_of_pos_right hc hj
      have a2 : 2 ^ p * 2 ^ j ≤ 2 ^ L := by rw [← Nat.pow_add]; exact Nat.pow_le_pow_right (by decide) (by omega)
      omega
    have e : c * 2 ^ j = (c * 2 ^ (j - (L - (p - 1)))) * 2 ^ (L - (p - 1)) := by
      rw [Nat.mul_assoc, ← Nat.pow_add]; congr 2; omega
    rw [e, fp_nmul _ (Nat.two_pow_pos _)]
theorem fpR_le {p A : Nat} (hp : 1 ≤ p) (hA : 0 < A) (h : A ≤ 2 ^ 63) : fpR p A ≤ 2 ^ 63 := by
  unfold fpR
  by_cases c : A.log2 < p
  · rw [if_pos c]; exact h
  · rw [if_neg c]
    have l64 : A.log2 < 64 := (Nat.log2_lt (by omega)).mpr (Nat.lt_of_le_of_lt h (by decide))
    have e : 2 ^ (63 - (A.log2 - (p - 1))) * 2 ^ (A.log2 - (p - 1)) = 2 ^ 63 := by rw [← Nat.pow_add]; congr 1; omega
    have := fp_nle (A := A) (B := 2 ^ (A.log2 - (p - 1))) (M := 2 ^ (63 - (A.log2 - (p - 1)))) (Nat.two_pow_pos _) (by rw [e]; exact h)
    have := Nat.mul_le_mul_right (2 ^ (A.log2 - (p - 1))) this
    rw [e] at this; exact this
theorem fpR_0 {p : Nat} (hp : 1 ≤ p) : fpR p 0 = 0 := by
  unfold fpR
  rw [if_pos (by show (0 : Nat).log2 < p; rw [Nat.log2_zero]; exact hp)]
theorem fpR_pos {p A : Nat} (hp : 1 ≤ p) (hA : 0 < A) : 0 < fpR p A := by
  obtain ⟨c, j, e, h1, -⟩ := fpR_form hp hA
  rw [e]; exact Nat.mul_pos h1 (Nat.two_pow_pos _)
/-- rounded to q digits, it is rounded to p digits, where q ≤ p -/
theorem fpR_R {p q A : Nat} (hq : 1 ≤ q) (hqp : q ≤ p) : fpR p (fpR q A) = fpR q A := by
  by_cases hA : A = 0
  · rw [hA, fpR_0 hq, fpR_0 (by omega)]
  · obtain ⟨c, j, e, h1, h2⟩ := fpR_form hq (A := A) (by omega)
    rw [e]
    exact fpR_fix (by omega) h1 (Nat.lt_of_lt_of_le h2 (Nat.pow_le_pow_right (by decide) hqp))
/-! rounding in a format -/
theorem fp_lead (A : Nat) (hA : 0 < A) : FP.Core.leading A 1 = (A.log2 : Int) := by
  unfold FP.Core.leading
  have e1 : (1 : Nat).log2 = 0 := by decide
  rw [e1]
  have e2 : ((A.log2 : Int) - ((0 : Nat) : Int)) = (A.log2 : Int) := by omega
  dsimp only
  rw [e2]
  have h1 : 2 ^ A.log2 ≤ A := Nat.log2_self_le (by omega)
  rw [if_pos]
  rw [Int.toNat_natCast, Nat.one_mul, show (-(A.log2 : Int)).toNat = 0 by omega, Nat.pow_zero, Nat.mul_one]
  exact h1
theorem fp_rr (f : FP.Core.Fmt) (s : Bool) {A : Nat} (hA : 0 < A) (e : Int) (hp : 1 ≤ f.p) (h1 : f.qmin ≤ (A.log2 : Int) + e - ((f.p : Int) - 1)) : FP.Core.roundRatio f s A 1 e = FP.Core.settle f s (FP.Core.nearest (A * 2 ^ (f.p - 1 - A.log2)) (2 ^ (A.log2 - (f.p - 1)))) ((A.log2 : Int) + e - ((f.p : Int) - 1)) := by
  unfold FP.Core.roundRatio
  rw [if_neg (by omega)]
  unfold FP.Core.roundAt FP.Core.quantum
  rw [fp_lead A hA, Int.max_eq_right h1]
  unfold FP.Core.unitsNum FP.Core.unitsDen
  rw [show (e - ((A.log2 : Int) + e - ((f.p : Int) - 1))).toNat = f.p - 1 - A.log2 by omega, show ((A.log2 : Int) + e - ((f.p : Int) - 1) - e).toNat = A.log2 - (f.p - 1) by omega, Nat.one_mul]
theorem fp_whole (f : FP.Core.Fmt) (hp : 1 ≤ f.p) (hqm : f.qmin ≤ 1 - (f.p : Int)) (hqM : 65 ≤ f.qmax) (s : Bool) {A : Nat} (hA : 0 < A) (h : A ≤ 2 ^ 63) : ∃ C Q, FP.Core.roundRatio f s A 1 0 = .fin s C Q ∧ 2 ^ (f.p - 1) ≤ C ∧ C < 2 ^ f.p ∧ 1 - (f.p : Int) ≤ Q ∧ Q ≤ 65 ∧ C * 2 ^ Q.toNat / 2 ^ (-Q).toNat = fpR f.p A := by
  have l64 : A.log2 < 64 := (Nat.log2_lt (by omega)).mpr (Nat.lt_of_le_of_lt h (by decide))
  have h1 : 2 ^ A.log2 ≤ A := Nat.log2_self_le (by omega)
  have h2 : A < 2 ^ (A.log2 + 1) := Nat.lt_log2_self
  have pp : 2 ^ f.p = 2 ^ (f.p - 1) * 2 := by rw [← Nat.pow_succ]; congr 1; omega
  have p1 : 0 < 2 ^ (f.p - 1) := Nat.two_pow_pos _
  rw [fp_rr f s hA 0 hp (by omega)]
  unfold FP.Core.settle FP.Core.bound fpR
  by_cases c : A.log2 < f.p
  · rw [if_pos c]
    have e0 : A.log2 - (f.p - 1) = 0 := by omega
    rw [e0, Nat.pow_zero, fp_n1]
    have k1 : 2 ^ (f.p - 1) ≤ A * 2 ^ (f.p - 1 - A.log2) := by
      have e : 2 ^ (f.p - 1) = 2 ^ A.log2 * 2 ^ (f.p - 1 - A.log2) := by rw [← Nat.pow_add]; congr 1; omega
      rw [e]; exact Nat.mul_le_mul_right _ h1
    have k2 : A * 2 ^ (f.p - 1 - A.log2) < 2 ^ f.p := by
      have e : 2 ^ f.p = 2 ^ (A.log2 + 1) * 2 ^ (f.p - 1 - A.log2) := by rw [← Nat.pow_add]; congr 1; omega
      rw [e]; exact Nat.mul_lt_mul_of_pos_right h2 (Nat.two_pow_pos _)
    rw [if_pos k2, if_pos (by omega)]
    refine ⟨_, _, rfl, k1, k2, by omega, by omega, ?_⟩
    rw [show ((A.log2 : Int) + 0 - ((f.p : Int) - 1)).toNat = 0 by omega, show (-((A.log2 : Int) + 0 - ((f.p : Int) - 1))).toNat = f.p - 1 - A.log2 by omega, Nat.pow_zero, Nat.mul_one, Nat.mul_div_cancel _ (Nat.two_pow_pos _)]
  · rw [if_neg c]
    obtain ⟨s1, s2⟩ := fp_sig hp hA (by omega)
    have e0 : f.p - 1 - A.log2 = 0 := by omega
    rw [e0, Nat.pow_zero, Nat.mul_one]
    have q1 : ((A.log2 : Int) + 0 - ((f.p : Int) - 1)).toNat = A.log2 - (f.p - 1) := by omega
    have q2 : (-((A.log2 : Int) + 0 - ((f.p : Int) - 1))).toNat = 0 := by omega
    by_cases d : FP.Core.nearest A (2 ^ (A.log2 - (f.p - 1))) < 2 ^ f.p
    · rw [if_pos d, if_pos (by omega)]
      exact ⟨_, _, rfl, s1, d, by omega, by omega, by rw [q1, q2, Nat.pow_zero, Nat.div_one]⟩
    · have e : FP.Core.nearest A (2 ^ (A.log2 - (f.p - 1))) = 2 ^ f.p := by omega
      rw [if_neg d, if_pos (by omega)]
      refine ⟨f.tails, _, rfl, Nat.le_refl _, ?_, by omega, by omega, ?_⟩
      · show 2 ^ (f.p - 1) < 2 ^ f.p
        omega
      · rw [show ((A.log2 : Int) + 0 - ((f.p : Int) - 1) + 1).toNat = A.log2 - (f.p - 1) + 1 by omega, show (-((A.log2 : Int) + 0 - ((f.p : Int) - 1) + 1)).toNat = 0 by omega, Nat.pow_zero, Nat.div_one, e]
        show 2 ^ (f.p - 1) * 2 ^ (A.log2 - (f.p - 1) + 1) = 2 ^ f.p * 2 ^ (A.log2 - (f.p - 1))
        rw [← Nat.pow_add, ← Nat.pow_add]; congr 1; omega
