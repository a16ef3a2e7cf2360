/-! ===== what comes out ===== -/
theorem co_w (w : Int32) : w.toInt64.toInt32 = w := by simp
theorem b_char (v : Int64) : v &&& 65535 = (v.toInt32.toUInt32 % 65536).toInt32.toInt64 := by
  rw [pk_char, nI_l (Nat.lt_of_lt_of_le (Nat.mod_lt _ (by decide)) (by decide))]
  refine Int64.toBitVec_inj.mp ?_
  rw [Int64.toBitVec_and]
  refine BitVec.eq_of_toNat_eq ?_
  rw [BitVec.toNat_and]
  have h1 : (65535 : Int64).toBitVec.toNat = 2 ^ 16 - 1 := by decide
  have h2 : (lN (v.toInt32.toBitVec.toNat % 65536)).toBitVec.toNat = v.toInt32.toBitVec.toNat % 65536 := by
    show (BitVec.ofNat 64 _).toNat = _
    rw [BitVec.toNat_ofNat]
    omega
  have h3 : v.toInt32.toBitVec.toNat = v.toBitVec.toNat % 2 ^ 32 := by
    rw [Int64.toBitVec_toInt32, BitVec.signExtend_eq_setWidth_of_le _ (by decide), BitVec.toNat_setWidth]
  rw [h1, Nat.and_two_pow_sub_one_eq_mod, h2, h3]
  omega
theorem kp_co {k : Int32} (hk : isN k 6 = true) (v : Int64) : kp k v = co k v := by
  obtain ⟨j, hj, rfl⟩ := isN_true hk (by decide)
  have : j = 0 ∨ j = 1 ∨ j = 2 ∨ j = 3 ∨ j = 4 ∨ j = 5 := by omega
  rcases this with rfl | rfl | rfl | rfl | rfl | rfl
  · rfl
  · rfl
  · exact b_char v
  · rfl
  · rfl
  · rfl
theorem co_8_16 (w : Int32) : (w.toInt8.toInt32).toInt16.toInt32 = w.toInt8.toInt32 := by simp
theorem co_8_8 (w : Int32) : (w.toInt8.toInt32).toInt8.toInt32 = w.toInt8.toInt32 := by simp
theorem co_16_16 (w : Int32) : (w.toInt16.toInt32).toInt16.toInt32 = w.toInt16.toInt32 := by simp
theorem co_c_c (w : Int32) : ((w.toUInt32 % 65536).toInt32.toUInt32 % 65536).toInt32 = (w.toUInt32 % 65536).toInt32 := by
  rw [UInt32.toUInt32_toInt32]
  congr 1
  exact UInt32.toNat_inj.mp (by rw [UInt32.toNat_mod, UInt32.toNat_mod]; exact Nat.mod_mod _ _)
theorem co_01 (v : Int64) : co 0 (co 0 v) = co 0 v := by
  show (if (if v = 0 then (0 : Int64) else 1) = 0 then (0 : Int64) else 1) = if v = 0 then 0 else 1
  by_cases c : v = 0
  · rw [if_pos c]; rfl
  · rw [if_neg c]; rfl
theorem cw_1 (w : Int32) : co 1 w.toInt64 = w.toInt8.toInt32.toInt64 := by show (w.toInt64).toInt32.toInt8.toInt32.toInt64 = _; rw [co_w]
theorem cw_2 (w : Int32) : co 2 w.toInt64 = (w.toUInt32 % 65536).toInt32.toInt64 := by show ((w.toInt64).toInt32.toUInt32 % 65536).toInt32.toInt64 = _; rw [co_w]
theorem cw_3 (w : Int32) : co 3 w.toInt64 = w.toInt16.toInt32.toInt64 := by show (w.toInt64).toInt32.toInt16.toInt32.toInt64 = _; rw [co_w]
theorem cw_4 (w : Int32) : co 4 w.toInt64 = w.toInt64 := by show (w.toInt64).toInt32.toInt64 = _; rw [co_w]
theorem co_wd {k q : Int32} (hk : isN k 6 = true) (hq : isN q 6 = true) (hw : wdB k q = true) (v : Int64) : co q (co k v) = co k v := by
  obtain ⟨i, hi, rfl⟩ := isN_true hk (by decide)
  obtain ⟨j, hj, rfl⟩ := isN_true hq (by decide)
  have h5 : ∀ x, co (nI 5) x = x := fun _ => rfl
  have hi' : i = 0 ∨ i = 1 ∨ i = 2 ∨ i = 3 ∨ i = 4 ∨ i = 5 := by omega
  have hj' : j = 0 ∨ j = 1 ∨ j = 2 ∨ j = 3 ∨ j = 4 ∨ j = 5 := by omega
  rcases hj' with rfl | rfl | rfl | rfl | rfl | rfl
  · rcases hi' with rfl | rfl | rfl | rfl | rfl | rfl
    · exact co_01 v
    all_goals exact absurd hw (by decide)
  · rcases hi' with rfl | rfl | rfl | rfl | rfl | rfl
    · exact absurd hw (by decide)
    · exact (cw_1 _).trans (congrArg Int32.toInt64 (co_8_8 _))
    all_goals exact absurd hw (by decide)
  · rcases hi' with rfl | rfl | rfl | rfl | rfl | rfl
    · exact absurd hw (by decide)
    · exact absurd hw (by decide)
    · exact (cw_2 _).trans (congrArg Int32.toInt64 (co_c_c _))
    all_goals exact absurd hw (by decide)
  · rcases hi' with rfl | rfl | rfl | rfl | rfl | rfl
    · exact absurd hw (by decide)
    · exact (cw_3 _).trans (congrArg Int32.toInt64 (co_8_16 _))
    · exact absurd hw (by decide)
    · exact (cw_3 _).trans (congrArg Int32.toInt64 (co_16_16 _))
    all_goals exact absurd hw (by decide)
  · rcases hi' with rfl | rfl | rfl | rfl | rfl | rfl
    · exact absurd hw (by decide)
    · exact cw_4 _
    · exact cw_4 _
    · exact cw_4 _
    · exact cw_4 _
    · exact absurd hw (by decide)
  · exact h5 _
theorem e9_comes (hfp : FPx) {z : ST} {k q : Int32} (hk : isN k 8 = true) (hq : isN q 8 = true) (hw : wdB k q = true) (v : Int64) : fX9_comes z k (kp k v) q = some (co q (co k v)) := by
  obtain ⟨f1, f2, f3, -, -, f6, f7, f8⟩ := hfp
  by_cases c7 : k = 7
  · subst c7
    have q7 : q = 7 := by
      rcases kind8 hq with rfl | rfl | rfl | rfl | rfl | rfl | rfl | rfl
      all_goals first | rfl | exact absurd hw (by decide)
    subst q7
    have e : kp 7 v = (FP.l2d v).toInt64 := rfl
    have e2 : co 7 (co 7 v) = FP.d2l (FP.l2d (FP.d2l (FP.l2d v))) := rfl
    rw [e, e2, f3]
    unfold fX9_comes
    rw [if_pos rfl, f7, ck_pos (by decide), UInt64.toUInt64_toInt64]
  · by_cases c6 : k = 6
    · subst c6
      have e : kp 6 v = (FP.l2f v).toInt32.toInt64 := rfl
      have q6 : q = 6 ∨ q = 7 := by
        rcases kind8 hq with rfl | rfl | rfl | rfl | rfl | rfl | rfl | rfl
        all_goals first | exact Or.inl rfl | exact Or.inr rfl | exact absurd hw (by decide)
      unfold fX9_comes
      rw [if_neg c7, if_pos rfl, e, co_w, f6, ck_pos (by decide), UInt32.toUInt32_toInt32]
      rcases q6 with rfl | rfl
      · have e2 : co 6 (co 6 v) = FP.f2l (FP.l2f (FP.f2l (FP.l2f v))) := rfl
        rw [if_pos rfl, e2, f1]
      · have e2 : co 7 (co 6 v) = FP.d2l (FP.l2d (FP.f2l (FP.l2f v))) := rfl
        rw [if_neg (by decide), ck_pos (f8 v), e2, f2]
    · have hk6 : isN k 6 = true := by
        rcases kind8 hk with rfl | rfl | rfl | rfl | rfl | rfl | rfl | rfl
        all_goals first | rfl | decide | exact absurd rfl c6 | exact absurd rfl c7
      rw [kp_co hk6]
      unfold fX9_comes
      rw [if_neg c7, if_neg c6]
      by_cases d6 : q = 6
      · rw [if_pos d6, d6]; rfl
      · rw [if_neg d6]
        by_cases d7 : q = 7
        · rw [if_pos d7, d7]; rfl
        · have hq6 : isN q 6 = true := by
            rcases kind8 hq with rfl | rfl | rfl | rfl | rfl | rfl | rfl | rfl
            all_goals first | rfl | decide | exact absurd rfl d6 | exact absurd rfl d7
          rw [if_neg d7, co_wd hk6 hq6 hw]
theorem wd_refl {k : Int32} (hk : isN k 8 = true) : wdB k k = true := by
  rcases kind8 hk with rfl | rfl | rfl | rfl | rfl | rfl | rfl | rfl <;> decide
theorem co_co (hfp : FPx) {k : Int32} (hk : isN k 8 = true) (v : Int64) : co k (co k v) = co k v := by
  rcases kind8 hk with rfl | rfl | rfl | rfl | rfl | rfl | rfl | rfl
  · exact co_wd (by decide) (by decide) (by decide) v
  · exact co_wd (by decide) (by decide) (by decide) v
  · exact co_wd (by decide) (by decide) (by decide) v
  · exact co_wd (by decide) (by decide) (by decide) v
  · exact co_wd (by decide) (by decide) (by decide) v
  · exact co_wd (by decide) (by decide) (by decide) v
  · exact hfp.1 v
  · exact hfp.2.2.1 v
