/-! ===== whether an EDIT is refused: the class ===== -/
/-- the EDIT is written down and carried out -/
def CE (u : ST) (w a b c d e : Int32) (v : Int64) : Option NR := some (.inr fun q => (some (qN u q true)).bind fun u5 => (fX1_init u5 q w a b c d e v).bind fun u7 => b2 (fX8_carryOut u7 q) fun v9 u8 => some (v9, u8))
def CR (u : ST) (x : Int32) (k : Option NR) : Option NR := if x = 0 then k else some (.inl (x, u))
theorem CR_bad (u : ST) (y : Int32) (k : Option NR) : CR u (bY false y) k = some (.inl (-1, u)) := rfl
theorem rfs_1 (h : HA) (a b c d e : Int32) : rfs h 1 a b c d e = bY (clB h a && (decide (b = -2) || clB h b)) (if b = -2 then 0 else if bel h (cl b) (cl a) = true then -4 else 0) := rfl
theorem rfs_2 (h : HA) (a b c d e : Int32) : rfs h 2 a b c d e = bY (isN a (hN h) && (faB h b && (!decide ((hL h (cl a)).length = 3) && !decide (cl b ∈ hL h (cl a))))) (if bel h (cl b) (cl a) = true then -4 else 0) := rfl
theorem rfs_3 (h : HA) (a b c d e : Int32) : rfs h 3 a b c d e = bY (isN a (hN h) && isN b (hL h (cl a)).length) 0 := rfl
theorem rfs_4 (h : HA) (a b c d e : Int32) : rfs h 4 a b c d e = bY (isN a (hN h) && isN b 4) 0 := rfl
theorem rfs_5 (h : HA) (a b c d e : Int32) : rfs h 5 a b c d e = bY (isN a (hN h) && (isN b 10 && (isN c 8 && ((isN d 8 && (!hF h (cl a) || !decide (d &&& 1 = 0))) && (own h (cl a) false b (-2) (-2)).isNone)))) (if free h = none then -3 else 0) := rfl
theorem rfs_6 (h : HA) (a b c d e : Int32) : rfs h 6 a b c d e = bY (isN a (hN h) && (isN b 10 && (prB h c d && (isN e 9 && (own h (cl a) true b c d).isNone)))) (if free h = none then -3 else 0) := rfl
theorem e8_type {u : ST} {h : HA} (hr : RCt u h) (hn : hN h ≤ 12) (f : Bool) (b c : Int32) : fX8_type u (bI f) b c = CR u (rfs h 0 (bI f) b c 0 0) (CE u 0 (bI f) b c 0 0 0) := by
  rw [fX8_type, e7_mayCome hr hn, Option.bind_some, hr.1]
  unfold rfs
  rw [if_pos rfl, Bool.and_comm]
  cases ((decide (b = -2) || (decide (bI f = 0) && clB h b)) && isN c 4) with
  | false => rw [if_pos bI_f]; rfl
  | true =>
    rw [if_neg (by decide)]
    by_cases c12 : hN h = 12
    · have : ¬ nI (hN h) < 12 := by rw [c12]; decide
      rw [if_neg this, if_pos c12]; rfl
    · have : nI (hN h) < 12 := nI_lt (b := 12) (by omega) (by decide)
      rw [if_pos this, if_neg c12]
      cases f <;> rfl
theorem e8_above {u : ST} {h : HA} (hr : RCt u h) (ho : RCo u h) (hn : hN h ≤ 12) (a b : Int32) : fX8_above u a b = CR u (rfs h 1 a b 0 0 0) (CE u 1 a b 0 0 0 0) := by
  rw [fX8_above, e7_isClass hr hn, Option.bind_some, rfs_1]
  cases c0 : clB h a with
  | false => rw [if_pos bI_f]; rfl
  | true =>
    obtain ⟨i, hi, rfl, -⟩ := clB_nI hn c0
    rw [if_neg (by decide : ¬ bI true = 0)]
    by_cases c1 : b = -2
    · have : blB h b (nI i) = false := by rw [c1]; unfold blB; rw [isN_m2]; rfl
      simp only [if_pos c1]
      rw [e7_isBelow hr ho hn, Option.bind_some, this, if_pos bI_f]
      subst c1; rfl
    · simp only [if_neg c1]
      rw [e7_isClass hr hn, Option.bind_some]
      cases c2 : clB h b with
      | false => rw [if_pos bI_f]; simp [bY, CR, c1]
      | true =>
        obtain ⟨j, hj, rfl, -⟩ := clB_nI hn c2
        rw [if_neg (by decide : ¬ bI true = 0), e7_isBelow hr ho hn, Option.bind_some, blB_nI hn hj hi, cl_nI (by omega), cl_nI (by omega)]
        cases bel h j i with
        | false => rw [if_pos bI_f]; simp [bY, CR, CE]
        | true => rw [if_neg (by decide : ¬ bI true = 0)]; simp [bY, CR]
theorem e8_face {u : ST} {h : HA} (hr : RCt u h) (ho : RCo u h) (hw : WF h) (a b : Int32) : fX8_face u a b = CR u (rfs h 2 a b 0 0 0) (CE u 2 a b 0 0 0 0) := by
  have hn := hw.1
  rw [fX8_face, fX7_mayHaveFace, e7_isType hr hn, Option.bind_some, rfs_2]
  cases c0 : isN a (hN h) with
  | false => rw [if_pos bI_f]; rfl
  | true =>
    obtain ⟨i, hi, rfl⟩ := isN_true c0 (by omega)
    have h3 := (hw.2.2.1 i hi).1
    rw [if_neg (by decide : ¬ bI true = 0), e7_isFace hr hn, Option.bind_some]
    cases c1 : faB h b with
    | false => rw [if_pos bI_f]; rfl
    | true =>
      have c1' := c1
      unfold faB at c1'
      rw [Bool.and_eq_true] at c1'
      obtain ⟨j, hj, rfl⟩ := isN_true c1'.1 (by omega)
      rw [if_neg (by decide : ¬ bI true = 0), rdI_nI (by omega) (by decide), Option.bind_some, (hr.2 i hi).2.2.2.1, cl_nI (by omega), cl_nI (by omega)]
      by_cases c3 : (hL h i).length = 3
      · have : (3 : Int32) ≤ nI (hL h i).length := by rw [c3]; decide
        rw [if_pos this]; simp [bY, CR, c3]
      · have n3 : ¬ (3 : Int32) ≤ nI (hL h i).length := nI_ge (b := 3) (by omega) (by decide)
        rw [if_neg n3, e7_hasFace hr hw hi hj, Option.bind_some]
        by_cases c4 : j ∈ hL h i
        · have : ¬ bI (decide (j ∈ hL h i)) = 0 := by simp [c4, bI]
          rw [if_neg this]; simp [bY, CR, c4]
        · have : bI (decide (j ∈ hL h i)) = 0 := by simp [c4, bI]
          rw [if_pos this, Option.bind_some, if_neg (by decide), e7_isBelow hr ho hn, Option.bind_some, blB_nI hn hj hi]
          cases bel h j i with
          | false => rw [if_pos bI_f]; simp [bY, CR, CE, c3, c4]
          | true => rw [if_neg (by decide : ¬ bI true = 0)]; simp [bY, CR, c3, c4]
theorem e8_unface {u : ST} {h : HA} (hr : RCt u h) (hw : WF h) (a b : Int32) : fX8_unface u a b = CR u (rfs h 3 a b 0 0 0) (CE u 3 a b 0 0 0 0) := by
  have hn := hw.1
  rw [fX8_unface, e7_faceAt hr hw, Option.bind_some, rfs_3]
  unfold faI
  cases c0 : (isN a (hN h) && isN b (hL h (cl a)).length) with
  | false => rfl
  | true =>
    rw [Bool.and_eq_true] at c0
    obtain ⟨i, hi, rfl⟩ := isN_true c0.1 (by omega)
    have h3 := (hw.2.2.1 i hi)
    rw [cl_nI (by omega)] at c0 ⊢
    obtain ⟨j, hj, rfl⟩ := isN_true c0.2 (by omega)
    rw [cl_nI (by omega)]
    have hm := (h3.2.2 _ (getD_mem hj)).1
    rw [if_pos rfl, if_neg (nI_ne_m2 (by omega))]; rfl
theorem e8_marks {u : ST} {h : HA} (hr : RCt u h) (hn : hN h ≤ 12) (a b : Int32) : fX8_marks u a b = CR u (rfs h 4 a b 0 0 0) (CE u 4 a b 0 0 0 0) := by
  rw [fX8_marks, e7_isType hr hn, Option.bind_some]
  rw [rfs_4]
  cases isN a (hN h) with
  | false => rw [if_pos bI_f]; rfl
  | true =>
    rw [if_neg (by decide : ¬ bI true = 0), e7_marks, Option.bind_some]
    cases isN b 4 with
    | false => rw [if_pos bI_f]; rfl
    | true => rw [if_neg (by decide)]; rfl
