/-! ===== whether an EDIT is refused: the reference ===== -/
theorem free_60 {h : HA} {m : Nat} (e : free h = some m) : m < 60 := by
  obtain ⟨-, h2, -⟩ := ff_some e; omega
theorem clB_nI {h : HA} {x : Int32} (hn : hN h ≤ 12) (e : clB h x = true) : ∃ j, j < hN h ∧ x = nI j ∧ hF h j = false := by
  unfold clB at e
  rw [Bool.and_eq_true] at e
  obtain ⟨j, hj, rfl⟩ := isN_true e.1 (by omega)
  rw [cl_nI (by omega)] at e
  exact ⟨j, hj, rfl, by simpa using e.2⟩
theorem r_free {z : ST} {h : HA} (hm : RMm z h) (g : Bool) : fX9_refusal_L288 z (bI g) = some (bY g (if free h = none then -3 else 0), z) ∧ fX9_refusal_L375 z (bI g) = some (bY g (if free h = none then -3 else 0), z) := by
  rw [fX9_refusal_L288, fX9_refusal_L375]
  cases g with
  | false => exact ⟨rfl, rfl⟩
  | true =>
    rw [if_neg (by decide), e9_free hm, Option.bind_some]
    cases e : free h with
    | none => exact ⟨rfl, rfl⟩
    | some m =>
      have := free_60 e
      rw [if_neg (oI_ne (by omega)), if_neg (by simp)]; exact ⟨rfl, rfl⟩
theorem r_type {z : ST} {h : HA} (hr : RMt z h) (hn : hN h ≤ 12) (c : Int32) (g : Bool) : fX9_refusal_L67 z c (bI g) = some (bY (g && isN c 4) (if hN h = 12 then -3 else 0), z) := by
  rw [fX9_refusal_L67]
  cases g with
  | false => rfl
  | true =>
    have e3 : fX9_in z c.toInt64 0 3 = some (bI (isN c 4)) := in_isN z c 3 4 (by decide)
    rw [if_neg (by decide), e3, Option.bind_some, hr.1, Bool.true_and]
    cases isN c 4 with
    | false => rfl
    | true =>
      rw [if_neg (by decide)]
      by_cases c12 : hN h = 12
      · rw [if_pos c12, c12]; rfl
      · have : ¬ nI (hN h) = 12 := fun e => c12 (nI_inj (b := 12) (by omega) (by decide) e)
        rw [if_neg c12, if_neg this]; rfl
theorem r_face_L {h : HA} (hw : WF h) {z : ST} (hr : RMt z h) {t f : Nat} (ht : t < hN h) (hf : f < hN h) : ∀ (n k fu : Nat), k + n = (hL h t).length → n < fu → ∃ z', fX9_refusalOfFace_L39 fu z (nI t) (nI f) (nI k) = some (bY (!decide (f ∈ (hL h t).drop k)) (if bel h f t = true then -4 else 0), z') ∧ Eu z z'
  | 0, k, fu, hk, hfu => by
    have hn := hw.1
    have h3 := (hw.2.2.1 t ht).1
    obtain ⟨fu, rfl⟩ : ∃ j, fu = j + 1 := ⟨fu - 1, by omega⟩
    obtain ⟨q, e⟩ := e9_isBelow hw hr hf ht
    refine ⟨vI z 15 q, ?_, E3.vI (by decide)⟩
    rw [fX9_refusalOfFace_L39, rdI_nI (by omega) (by decide), Option.bind_some, (hr.2 t ht).2.2.2.1, if_pos (nI_le (by omega) (by omega)), e, b2_eq, List.drop_eq_nil_of_le (by omega)]
    cases bel h f t <;> simp [bY, bI]
  | n + 1, k, fu, hk, hfu => by
    have hn := hw.1
    have h3 := (hw.2.2.1 t ht)
    obtain ⟨fu, rfl⟩ : ∃ j, fu = j + 1 := ⟨fu - 1, by omega⟩
    have hk2 : k < (hL h t).length := by omega
    have e3 : 3 * nI t + nI k = nI (3 * t + k) := by
      have : (3 : Int32) = nI 3 := rfl
      rw [this, pk_mul, nI_add]
    have hm := (h3.2.2 _ (getD_mem hk2)).1
    obtain ⟨z', ih, y⟩ := r_face_L hw hr ht hf n (k + 1) fu (by omega) (by omega)
    rw [fX9_refusalOfFace_L39, rdI_nI (by omega) (by decide), Option.bind_some, (hr.2 t ht).2.2.2.1, if_neg (nI_ge hk2 (by omega)), e3, rdI_nI (by omega) (by decide), Option.bind_some, (hr.2 t ht).2.2.2.2 k hk2, drop_getD hk2]
    by_cases c : (hL h t).getD k 0 = f
    · refine ⟨z, ?_, E3.refl⟩
      rw [if_pos (by rw [c]), c]; simp [bY]
    · refine ⟨z', ?_, y⟩
      rw [if_neg (fun e => c (nI_inj (by omega) (by omega) e)), nI_1, ih]
      congr 3
      have : (f ∈ (hL h t).getD k 0 :: (hL h t).drop (k + 1)) = (f ∈ (hL h t).drop (k + 1)) := by
        rw [List.mem_cons]
        exact propext ⟨fun e => e.elim (fun e => absurd e.symm c) id, Or.inr⟩
      simp only [this]
theorem e9_refusal {h : HA} (hw : WF h) {z : ST} (hr : RMt z h) (hm : RMm z h) (w a b c d e : Int32) : ∃ z', fX9_refusal z w a b c d e = some (rfs h w a b c d e, z') ∧ Eu z z' := by
  have hn := hw.1
  have i4 : fX9_in z b.toInt64 0 3 = some (bI (isN b 4)) := in_isN z b 3 4 (by decide)
  have i10 : fX9_in z b.toInt64 0 9 = some (bI (isN b 10)) := in_isN z b 9 10 (by decide)
  have i8 : fX9_in z c.toInt64 0 7 = some (bI (isN c 8)) := in_isN z c 7 8 (by decide)
  have f0 := r_free hm false
  have f1 := r_free hm true
  rw [bI_f] at f0
  have f1a : fX9_refusal_L288 z 1 = _ := f1.1
  have f1b : fX9_refusal_L375 z 1 = _ := f1.2
  unfold fX9_refusal rfs
  by_cases w0 : w = 0
  · rw [if_pos w0, if_pos w0]
    have t1 : fX9_refusal_L67 z c 1 = _ := r_type hr hn c true
    have t0 : fX9_refusal_L67 z c 0 = _ := r_type hr hn c false
    refine ⟨z, ?_, E3.refl⟩
    by_cases c1 : b = -2
    · rw [if_pos c1, fX9_refusal_L62, t1]; simp [c1]
    · rw [if_neg c1]
      by_cases c2 : a = 0
      · rw [if_pos c2, e9_isClass hr hn, Option.bind_some]
        cases clB h b with
        | false => rw [if_pos bI_f, fX9_refusal_L66, t0]; simp [c1]
        | true => rw [if_neg (by decide), fX9_refusal_L62, t1]; simp [c2]
      · rw [if_neg c2, fX9_refusal_L66, t0]; simp [c1, c2]
  · rw [if_neg w0, if_neg w0]
    by_cases w1 : w = 1
    · rw [if_pos w1, if_pos w1, e9_isClass hr hn, Option.bind_some]
      cases c0 : clB h a with
      | false => exact ⟨z, by rw [if_pos bI_f]; rfl, E3.refl⟩
      | true =>
        obtain ⟨i, hi, rfl, -⟩ := clB_nI hn c0
        rw [if_neg (by decide)]
        by_cases c1 : b = -2
        · exact ⟨z, by rw [if_pos c1, fX9_refusal_L133, if_pos c1, if_pos c1]; simp [bY, c1], E3.refl⟩
        · rw [if_neg c1, e9_isClass hr hn, Option.bind_some, if_neg c1]
          cases c2 : clB h b with
          | false => exact ⟨z, by rw [if_pos bI_f]; simp [bY, c1], E3.refl⟩
          | true =>
            obtain ⟨j, hj, rfl, -⟩ := clB_nI hn c2
            obtain ⟨q, eq⟩ := e9_isBelow hw hr hj hi
            refine ⟨vI z 15 q, ?_, E3.vI (by decide)⟩
            rw [if_neg (by decide), fX9_refusal_L133, if_neg c1, eq, b2_eq, cl_nI (by omega), cl_nI (by omega)]
            cases bel h j i <;> simp [bY, bI]
    · rw [if_neg w1, if_neg w1]
      by_cases w2 : w = 2
      · rw [if_pos w2, if_pos w2, fX9_refusalOfFace, e9_isType hr hn, Option.bind_some]
        cases c0 : isN a (hN h) with
        | false => exact ⟨z, by rw [if_pos bI_f, b2_eq]; rfl, E3.refl⟩
        | true =>
          obtain ⟨i, hi, rfl⟩ := isN_true c0 (by omega)
          rw [if_neg (by decide), e9_isType hr hn, Option.bind_some]
          unfold faB
          cases c1 : isN b (hN h) with
          | false => exact ⟨z, by rw [if_pos bI_f, b2_eq]; rfl, E3.refl⟩
          | true =>
            obtain ⟨j, hj, rfl⟩ := isN_true c1 (by omega)
            have h3 := (hw.2.2.1 i hi).1
            rw [if_neg (by decide), rdI_nI (by omega) (by decide), Option.bind_some, (hr.2 j hj).1, cl_nI (by omega), cl_nI (by omega)]
            cases c2 : hF h j with
            | false => exact ⟨z, by rw [if_pos bI_f, b2_eq]; rfl, E3.refl⟩
            | true =>
              rw [if_neg (by decide), rdI_nI (by omega) (by decide), Option.bind_some, (hr.2 i hi).2.2.2.1]
              by_cases c3 : (hL h i).length = 3
              · exact ⟨z, by rw [if_pos (by rw [c3]; rfl), b2_eq]; simp [bY, c3], E3.refl⟩
              · have n3 : ¬ nI (hL h i).length = 3 := fun x => c3 (nI_inj (b := 3) (by omega) (by decide) x)
                obtain ⟨z', e1, y1⟩ := r_face_L hw hr hi hj (hL h i).length 0 5000 (by omega) (by omega)
                have e1' : fX9_refusalOfFace_L39 5000 z (nI i) (nI j) 0 = _ := e1
                refine ⟨z', ?_, y1⟩
                rw [if_neg n3, e1', b2_eq, List.drop_zero]; simp [c3]
      · rw [if_neg w2, if_neg w2]
        refine ⟨z, ?_, E3.refl⟩
        by_cases w3 : w = 3
        · rw [if_pos w3, if_pos w3, e9_isType hr hn, Option.bind_some]
          cases c0 : isN a (hN h) with
          | false => rw [if_pos bI_f]; rfl
          | true =>
            obtain ⟨i, hi, rfl⟩ := isN_true c0 (by omega)
            have h3 := (hw.2.2.1 i hi).1
            rw [if_neg (by decide), rdI_nI (by omega) (by decide), Option.bind_some, (hr.2 i hi).2.2.2.1, in_isN z b (nI (hL h i).length - 1) (hL h i).length (pred_toInt (by omega)), Option.bind_some, cl_nI (by omega)]
            cases isN b (hL h i).length <;> rfl
        · rw [if_neg w3, if_neg w3]
          by_cases w4 : w = 4
          · rw [if_pos w4, if_pos w4, e9_isType hr hn, Option.bind_some]
            cases c0 : isN a (hN h) with
            | false => rw [if_pos bI_f]; rfl
            | true =>
              rw [if_neg (by decide), i4, Option.bind_some]
              cases isN b 4 <;> rfl
          · rw [if_neg w4, if_neg w4]
            by_cases w5 : w = 5
            · rw [if_pos w5, if_pos w5, e9_isType hr hn, Option.bind_some]
              cases c0 : isN a (hN h) with
              | false => rw [if_pos bI_f, fX9_refusal_L287, f0.1]; rfl
              | true =>
                obtain ⟨i, hi, rfl⟩ := isN_true c0 (by omega)
                have eo : fX9_ownOf z (nI i) 0 b (-2) (-2) = some (oI (own h i false b (-2) (-2))) := e9_own hm hn (WF_own hw) (by omega) false b (-2) (-2)
                rw [if_neg (by decide), i10, Option.bind_some, cl_nI (by omega)]
                cases isN b 10 with
                | false => rw [if_pos bI_f, fX9_refusal_L287, f0.1]; rfl
                | true =>
                  rw [if_neg (by decide), i8, Option.bind_some]
                  cases isN c 8 with
                  | false => rw [if_pos bI_f, fX9_refusal_L287, f0.1]; rfl
                  | true =>
                    rw [if_neg (by decide), rdI_nI (by omega) (by decide), Option.bind_some, (hr.2 i hi).1, e9_fMarks, Option.bind_some]
                    cases (isN d 8 && (!hF h i || !decide (d &&& 1 = 0))) with
                    | false => rw [if_pos bI_f, fX9_refusal_L287, f0.1]; rfl
                    | true =>
                      rw [if_neg (by decide), eo, Option.bind_some]
                      cases ew : own h i false b (-2) (-2) with
                      | none => rw [if_pos oI_none, f1a]; rfl
                      | some m =>
                        have := (own_some ew).1
                        rw [if_neg (oI_ne (by omega)), fX9_refusal_L287, f0.1]; rfl
            · rw [if_neg w5, if_neg w5]
              by_cases w6 : w = 6
              · rw [if_pos w6, if_pos w6, e9_isType hr hn, Option.bind_some]
                cases c0 : isN a (hN h) with
                | false => rw [if_pos bI_f, fX9_refusal_L374, f0.2]; rfl
                | true =>
                  obtain ⟨i, hi, rfl⟩ := isN_true c0 (by omega)
                  have eo : fX9_ownOf z (nI i) 1 b c d = some (oI (own h i true b c d)) := e9_own hm hn (WF_own hw) (by omega) true b c d
                  rw [if_neg (by decide), i10, Option.bind_some, cl_nI (by omega)]
                  cases isN b 10 with
                  | false => rw [if_pos bI_f, fX9_refusal_L374, f0.2]; rfl
                  | true =>
                    rw [if_neg (by decide), e9_par hr hn, Option.bind_some]
                    cases prB h c d with
                    | false => rw [if_pos bI_f, fX9_refusal_L374, f0.2]; rfl
                    | true =>
                      rw [if_neg (by decide), e9_mMarks, Option.bind_some]
                      cases isN e 9 with
                      | false => rw [if_pos bI_f, fX9_refusal_L374, f0.2]; rfl
                      | true =>
                        rw [if_neg (by decide), eo, Option.bind_some]
                        cases ew : own h i true b c d with
                        | none => rw [if_pos oI_none, f1b]; rfl
                        | some m =>
                          have := (own_some ew).1
                          rw [if_neg (oI_ne (by omega)), fX9_refusal_L374, f0.2]; rfl
              · rw [if_neg w6, if_neg w6, e9_refusalM hr hm hw, Option.bind_some]
