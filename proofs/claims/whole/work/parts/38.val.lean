/-! ===== values ===== -/
/-- what is used of floats and doubles -/
def FPx : Prop := (∀ v : Int64, FP.f2l (FP.l2f (FP.f2l (FP.l2f v))) = FP.f2l (FP.l2f v)) ∧ (∀ v : Int64, FP.d2l (FP.l2d (FP.f2l (FP.l2f v))) = FP.d2l (FP.f2d (FP.l2f v))) ∧ (∀ v : Int64, FP.d2l (FP.l2d (FP.d2l (FP.l2d v))) = FP.d2l (FP.l2d v)) ∧ (∀ v : Int64, Op.cmpValue (FP.fcmp (FP.l2f v) (FP.l2f v)) .l = 0) ∧ (∀ v : Int64, Op.cmpValue (FP.dcmp (FP.l2d v) (FP.l2d v)) .l = 0) ∧ (∀ v : Int64, vn_sni2f (FP.l2f v).toInt32 = false) ∧ (∀ v : Int64, vn_snl2d (FP.l2d v).toInt64 = false) ∧ (∀ v : Int64, nn64 (FP.f2d (FP.l2f v)) = true)
theorem kind8 {k : Int32} (h : isN k 8 = true) : k = 0 ∨ k = 1 ∨ k = 2 ∨ k = 3 ∨ k = 4 ∨ k = 5 ∨ k = 6 ∨ k = 7 := by
  obtain ⟨j, hj, rfl⟩ := isN_true h (by decide)
  have : j = 0 ∨ j = 1 ∨ j = 2 ∨ j = 3 ∨ j = 4 ∨ j = 5 ∨ j = 6 ∨ j = 7 := by omega
  rcases this with rfl | rfl | rfl | rfl | rfl | rfl | rfl | rfl <;> decide
theorem lg_eq0 (a b : Int64) : lg_cmp a b = 0 ↔ a = b := by
  constructor
  · intro h
    have h1 : ¬ a < b := fun q => by have := (lg_cmp_lt a b).mpr q; rw [h] at this; exact absurd this (by decide)
    have h2 : ¬ b < a := fun q => by have := (lg_cmp_gt a b).mpr q; rw [h] at this; exact absurd this (by decide)
    rw [Int64.lt_iff_toInt_lt] at h1 h2
    exact Int64.toInt_inj.mp (by omega)
  · intro h
    subst h
    unfold lg_cmp
    simp
theorem e9_kept (hfp : FPx) {z : ST} {k : Int32} (hk : isN k 8 = true) (v : Int64) : fX9_kept z k v = some (kp k v) := by
  obtain ⟨-, -, -, f4, f5, -⟩ := hfp
  unfold fX9_kept kp
  rcases kind8 hk with rfl | rfl | rfl | rfl | rfl | rfl | rfl | rfl
  · rw [if_pos rfl, if_pos rfl]
    by_cases c : v = 0
    · rw [if_pos ((lg_eq0 v 0).mpr c), if_pos c]
    · rw [if_neg (fun q => c ((lg_eq0 v 0).mp q)), if_neg c]
  · rfl
  · rfl
  · rfl
  · rfl
  · rfl
  · have e : fJF_floatToIntBits z (FP.l2f v) = some (FP.l2f v).toInt32 := by
      unfold fJF_floatToIntBits fJF_isNaN
      rw [if_pos (f4 v)]; rfl
    show (fJF_floatToIntBits z (FP.l2f v)).bind _ = _
    rw [e]; rfl
  · have e : fJD_doubleToLongBits z (FP.l2d v) = some (FP.l2d v).toInt64 := by
      unfold fJD_doubleToLongBits fJD_isNaN
      rw [if_pos (f5 v)]; rfl
    show (fJD_doubleToLongBits z (FP.l2d v)).bind _ = _
    rw [e]; rfl
def wdB (k q : Int32) : Bool := !decide (((wid (cl k)) >>> (q &&& 31)) &&& 1 = 0)
theorem e3_widens {u : ST} {k q : Int32} (hk : isN k 8 = true) (hq : isN q 8 = true) : fX3_widens u k q = some (bI (wdB k q)) := by
  unfold fX3_widens wdB
  have hv : vin k 8 = true := by
    obtain ⟨j, hj, rfl⟩ := isN_true hk (by decide)
    exact vin_nI hj (by decide)
  rw [e3_isKind, Option.bind_some, hk, if_neg (by decide), e3_isKind, Option.bind_some, hq, if_neg (by decide), ck_pos hv]
  by_cases c : ((wid (cl k)) >>> (q &&& 31)) &&& 1 = 0
  · rw [if_pos c]; simp [c, bI]
  · rw [if_neg c]; simp [c, bI]
def w9 (k q : Int32) : Bool := if k = q then true else if k = 0 then false else if 3 ≤ q then (if q = 3 then decide (k = 1) else !decide (q ≤ k)) else false
theorem w9_wd : ∀ i, i < 8 → ∀ j, j < 8 → w9 (nI i) (nI j) = wdB (nI i) (nI j) := by decide +kernel
theorem e9_widens {z : ST} {k q : Int32} (hk : isN k 8 = true) (hq : isN q 8 = true) : fX9_widens z k q = some (bI (wdB k q)) := by
  have e : wdB k q = w9 k q := by
    obtain ⟨i, hi, rfl⟩ := isN_true hk (by decide)
    obtain ⟨j, hj, rfl⟩ := isN_true hq (by decide)
    exact (w9_wd i hi j hj).symm
  rw [e]
  unfold fX9_widens w9
  by_cases c1 : k = q
  · rw [if_pos c1, if_pos c1]; rfl
  · rw [if_neg c1, if_neg c1]
    by_cases c2 : k = 0
    · rw [if_pos c2, if_pos c2]; rfl
    · rw [if_neg c2, if_neg c2]
      by_cases c3 : 3 ≤ q
      · rw [if_pos c3, if_pos c3]
        by_cases c4 : q = 3
        · rw [if_pos c4, if_pos c4]
          by_cases c5 : k = 1
          · rw [if_pos c5]; simp [c5, bI]
          · rw [if_neg c5]; simp [c5, bI]
        · rw [if_neg c4, if_neg c4]
          by_cases c5 : q ≤ k
          · rw [if_pos c5]; simp [c5, bI]
          · rw [if_neg c5]; simp [c5, bI]
      · rw [if_neg c3, if_neg c3]; rfl
