/-! ===== what there is: both sides answer alike ===== -/
def tl (h : HA) (t k : Nat) : Int32 := if k = 0 then bI (hF h t) else if k = 1 then oI (hA h t) else if k = 2 then hM h t else if k = 3 then nI (hL h t).length else if (hL h t).length ≤ k - 4 then -2 else nI ((hL h t).getD (k - 4) 0)
theorem tl_face {h : HA} {t j : Nat} : tl h t (j + 4) = if (hL h t).length ≤ j then -2 else nI ((hL h t).getD j 0) := by
  unfold tl
  rw [if_neg (by omega : ¬ j + 4 = 0), if_neg (by omega : ¬ j + 4 = 1), if_neg (by omega : ¬ j + 4 = 2), if_neg (by omega : ¬ j + 4 = 3), Nat.add_sub_cancel]
theorem e9_toldOf {z : ST} {h : HA} (hw : WF h) (hr : RMt z h) {t k : Nat} (ht : t < hN h) (hk : k < 7) : fX9_toldOf z (nI t) (nI k) = some (tl h t k) := by
  have hn := hw.1
  obtain ⟨q1, q2, q3, q4, q5⟩ := hr.2 t ht
  have h3 := (hw.2.2.1 t ht).1
  have face : ∀ j, j < 3 → k = j + 4 → fX9_toldOf z (nI t) (nI k) = some (tl h t k) := by
    intro j hj ek
    subst ek
    have s4 : nI (j + 4) - 4 = nI j := by
      have : (4 : Int32) = nI 4 := rfl
      rw [this, ← nI_add]; simp
    have s5 : 3 * nI t + nI (j + 4) - 4 = nI (3 * t + j) := by
      rw [idx3]
      have : (4 : Int32) = nI 4 := rfl
      rw [this, show 3 * t + (j + 4) = (3 * t + j) + 4 by omega, ← nI_add]; simp
    have n0 : ¬ nI (j + 4) = 0 := fun e => by have := nI_inj (b := 0) (by omega) (by decide) e; omega
    have n1 : ¬ nI (j + 4) = 1 := fun e => by have := nI_inj (b := 1) (by omega) (by decide) e; omega
    have n2 : ¬ nI (j + 4) = 2 := fun e => by have := nI_inj (b := 2) (by omega) (by decide) e; omega
    have n3 : ¬ nI (j + 4) = 3 := fun e => by have := nI_inj (b := 3) (by omega) (by decide) e; omega
    rw [fX9_toldOf, if_neg n0, if_neg n1, if_neg n2, if_neg n3, rdI_nI (by omega) (by decide), Option.bind_some, q4, s4]
    rw [tl_face]
    by_cases c : (hL h t).length ≤ j
    · rw [if_pos (nI_le c (by omega)), if_pos c]
    · rw [if_neg (nI_ge (by omega) (by omega)), if_neg c, s5, rdI_nI (by omega) (by decide), Option.bind_some, q5 j (by omega)]
  have : k = 0 ∨ k = 1 ∨ k = 2 ∨ k = 3 ∨ k = 0 + 4 ∨ k = 1 + 4 ∨ k = 2 + 4 := by omega
  rcases this with e | e | e | e | e | e | e
  · subst e
    have d : fX9_toldOf z (nI t) (nI 0) = (rdI z 1 12 (nI t)).bind fun v2 => if v2 = 0 then some 0 else some 1 := rfl
    rw [d, rdI_nI (by omega) (by decide), Option.bind_some, q1]
    show _ = some (bI (hF h t))
    cases hF h t <;> rfl
  · subst e
    have d : fX9_toldOf z (nI t) (nI 1) = (rdI z 2 12 (nI t)).bind fun v2 => some v2 := rfl
    rw [d, rdI_nI (by omega) (by decide), Option.bind_some, q2]; rfl
  · subst e
    have d : fX9_toldOf z (nI t) (nI 2) = (rdI z 3 12 (nI t)).bind fun v2 => some v2 := rfl
    rw [d, rdI_nI (by omega) (by decide), Option.bind_some, q3]; rfl
  · subst e
    have d : fX9_toldOf z (nI t) (nI 3) = (rdI z 4 12 (nI t)).bind fun v2 => some v2 := rfl
    rw [d, rdI_nI (by omega) (by decide), Option.bind_some, q4]; rfl
  · exact face 0 (by decide) e
  · exact face 1 (by decide) e
  · exact face 2 (by decide) e
theorem e7_tell {u : ST} {h : HA} (hw : WF h) (hr : RCt u h) {t k : Nat} (ht : t < hN h) (hk : k < 7) : fX7_tell u (nI t) (nI k) = some (tl h t k) := by
  have hn := hw.1
  obtain ⟨q1, q2, q3, q4, q5⟩ := hr.2 t ht
  have h3 := (hw.2.2.1 t ht).1
  have hT := isT_true hw hr ht
  have face : ∀ j, j < 3 → fX7_faceAt u (nI t) (nI j) = some (tl h t (j + 4)) := by
    intro j hj
    rw [e7_faceAt hr hw, faI_nI hn ht (by omega)]
    rw [tl_face]
    by_cases c : (hL h t).length ≤ j
    · rw [if_neg (show ¬ j < (hL h t).length by omega), if_pos c]
    · rw [if_pos (show j < (hL h t).length by omega), if_neg c]
  rw [fX7_tell, hT, Option.bind_some, if_neg (by decide)]
  have : k = 0 ∨ k = 1 ∨ k = 2 ∨ k = 3 ∨ k = 4 ∨ k = 5 ∨ k = 6 := by omega
  rcases this with e | e | e | e | e | e | e
  · subst e
    rw [if_pos (by decide), rdI_nI (by omega) (by decide), Option.bind_some, q1]
    show _ = some (bI (hF h t))
    cases hF h t <;> rfl
  · subst e
    rw [if_neg (by decide), if_pos (by decide), rdI_nI (by omega) (by decide), Option.bind_some, q2]; rfl
  · subst e
    rw [if_neg (by decide), if_neg (by decide), if_pos (by decide), rdI_nI (by omega) (by decide), Option.bind_some, q3]; rfl
  · subst e
    rw [if_neg (by decide), if_neg (by decide), if_neg (by decide), if_pos (by decide), rdI_nI (by omega) (by decide), Option.bind_some, q4]; rfl
  · subst e
    have e0 : nI 4 - 4 = nI 0 := by decide
    rw [if_neg (by decide), if_neg (by decide), if_neg (by decide), if_neg (by decide), if_pos (by decide), e0, face 0 (by decide), Option.bind_some]
  · subst e
    have e0 : nI 5 - 4 = nI 1 := by decide
    rw [if_neg (by decide), if_neg (by decide), if_neg (by decide), if_neg (by decide), if_neg (by decide), if_pos (by decide), e0, face 1 (by decide), Option.bind_some]
  · subst e
    have e0 : nI 6 - 4 = nI 2 := by decide
    rw [if_neg (by decide), if_neg (by decide), if_neg (by decide), if_neg (by decide), if_neg (by decide), if_neg (by decide), if_pos (by decide), e0, face 2 (by decide), Option.bind_some]
theorem not7 {x : Int32} (h : isN x 7 = false) {k : Nat} (hk : k < 7) : ¬ x = nI k := fun e => by
  rw [e, isN_nI (by omega)] at h
  simp [hk] at h
theorem s_told : sim_told Rl := by
  intro u z x1 x2 hR
  obtain ⟨f, n, cc, m, ⟨hn, hL, hm, hA⟩, hU, hZ, hS⟩ := hR
  have hw := hk_WF hL n (Nat.le_refl _)
  have hn12 := hw.1
  have e7 : fX9_in z x2.toInt64 0 6 = some (bI (isN x2 7)) := in_isN z x2 6 7 (by decide)
  rw [fX8_told, fX9_told, e9_isType hZ.2.2.1.1 hn12, Option.bind_some]
  cases c1 : isN x1 (hN (hk f n)) with
  | false =>
    refine ⟨-1, ?_, by rw [if_pos bI_f]⟩
    rw [fX7_tell, e7_isType hU.2.2.2.1.1 hn12, Option.bind_some, c1, if_pos bI_f]; rfl
  | true =>
    obtain ⟨t, ht, rfl⟩ := isN_true c1 (by omega)
    rw [if_neg (by decide), e7, Option.bind_some]
    cases c2 : isN x2 7 with
    | false =>
      refine ⟨-1, ?_, by rw [if_pos bI_f]⟩
      have g : ∀ k, k < 7 → ¬ x2 = nI k := fun k hk => not7 c2 hk
      have g0 : ¬ x2 = 0 := g 0 (by decide)
      have g1 : ¬ x2 = 1 := g 1 (by decide)
      have g2 : ¬ x2 = 2 := g 2 (by decide)
      have g3 : ¬ x2 = 3 := g 3 (by decide)
      have g4 : ¬ x2 = 4 := g 4 (by decide)
      have g5 : ¬ x2 = 5 := g 5 (by decide)
      have g6 : ¬ x2 = 6 := g 6 (by decide)
      rw [fX7_tell, isT_true hw hU.2.2.2.1.1 ht, Option.bind_some, if_neg (by decide), if_neg g0, if_neg g1, if_neg g2, if_neg g3, if_neg g4, if_neg g5, if_neg g6]; rfl
    | true =>
      obtain ⟨k, k7, rfl⟩ := isN_true c2 (by omega)
      refine ⟨tl (hk f n) t k, ?_, ?_⟩
      · rw [e7_tell hw hU.2.2.2.1.1 ht k7]; rfl
      · rw [if_neg (by decide), e9_toldOf hw hZ.2.2.1.1 ht k7]; rfl
theorem s_below : sim_below Rl := by
  intro u z x1 x2 hR
  obtain ⟨f, n, cc, m, ⟨hn, hL, hm, hA⟩, hU, hZ, hS⟩ := id hR
  have hw := hk_WF hL n (Nat.le_refl _)
  have hn12 := hw.1
  obtain ⟨hr, hrm, ho⟩ := hU.2.2.2.1
  rw [fX8_below, fX9_below, e9_isType hZ.2.2.1.1 hn12, Option.bind_some, e7_isType hr hn12, Option.bind_some]
  cases c1 : isN x1 (hN (hk f n)) with
  | false => exact ⟨-1, z, by rw [if_pos bI_f], by rw [if_pos bI_f], hR⟩
  | true =>
    obtain ⟨t, ht, rfl⟩ := isN_true c1 (by omega)
    rw [if_neg (by decide), if_neg (by decide), e9_isType hZ.2.2.1.1 hn12, Option.bind_some, e7_isType hr hn12, Option.bind_some]
    cases c2 : isN x2 (hN (hk f n)) with
    | false => exact ⟨-1, z, by rw [if_pos bI_f], by rw [if_pos bI_f], hR⟩
    | true =>
      obtain ⟨s, hs, rfl⟩ := isN_true c2 (by omega)
      obtain ⟨a, ea⟩ := e9_isBelow hw hZ.2.2.1.1 ht hs
      have xz : Em z (vI z 15 a) := Eu_em (E3.vI (by decide))
      refine ⟨bI (bel (hk f n) t s), vI z 15 a, ?_, ?_, f, n, cc, m, ⟨hn, hL, hm, hA⟩, hU, RZ_em xz hZ, hS⟩
      · rw [if_neg (by decide), e7_isBelow hr ho hn12, Option.bind_some, blB_nI hn12 ht hs]
        cases bel (hk f n) t s <;> rfl
      · rw [if_neg (by decide), ea, b2_eq]
        cases bel (hk f n) t s <;> rfl
def mb (r : MR) (k : Nat) : Int32 := if k = 0 then bI (rM r) else if k = 1 then nI (rT r) else if k = 2 then rN r else if k = 3 then rK r else if k = 4 then rA r else rB r
theorem e9_memberOf {z : ST} {h : HA} (hm : RMm z h) {m k : Nat} {r : MR} (m60 : m < 60) (er : hB h m = some r) (hk : k < 6) : fX9_memberOf z (nI m) (nI k) = some (mb r k) := by
  obtain ⟨q6, q7, q8, q9, q10, q11, q13, q14⟩ := rowM_at hm m60 er
  have : k = 0 ∨ k = 1 ∨ k = 2 ∨ k = 3 ∨ k = 4 ∨ k = 5 := by omega
  rw [fX9_memberOf]
  rcases this with e | e | e | e | e | e
  · subst e
    rw [if_pos (by decide), rdI_nI m60 (by decide), Option.bind_some, q7]
    show _ = some (bI (rM r))
    cases rM r <;> rfl
  · subst e
    rw [if_neg (by decide), if_pos (by decide), rdI_nI m60 (by decide), Option.bind_some, q8]; rfl
  · subst e
    rw [if_neg (by decide), if_neg (by decide), if_pos (by decide), rdI_nI m60 (by decide), Option.bind_some, q9]; rfl
  · subst e
    rw [if_neg (by decide), if_neg (by decide), if_neg (by decide), if_pos (by decide), rdI_nI m60 (by decide), Option.bind_some, q10]; rfl
  · subst e
    rw [if_neg (by decide), if_neg (by decide), if_neg (by decide), if_neg (by decide), if_pos (by decide), rdI_nI m60 (by decide), Option.bind_some, q7]
    show _ = some (rA r)
    cases e : rM r with
    | true =>
      rw [e, if_pos rfl] at q11
      rw [if_neg (by decide), rdI_nI m60 (by decide), Option.bind_some, q11]
    | false =>
      rw [e, if_neg Bool.false_ne_true] at q11
      rw [if_pos bI_f, rdI_nI m60 (by decide), Option.bind_some, q11]
  · subst e
    rw [if_neg (by decide), if_neg (by decide), if_neg (by decide), if_neg (by decide), if_neg (by decide), rdI_nI m60 (by decide), Option.bind_some, q13]; rfl
theorem e6_tell {u : ST} {h : HA} (hw : WF h) (hm : RCm u h) {m k : Nat} {r : MR} (m60 : m < 60) (er : hB h m = some r) (hk : k < 6) : fX6_tell u (nI m) (nI k) = some (mb r k) := by
  have hn := hw.1
  have hT := WF_own hw m r er
  obtain ⟨q15, q16, q17, q18, q19, q20, q21⟩ := rowC_at hm m60 er
  have : k = 0 ∨ k = 1 ∨ k = 2 ∨ k = 3 ∨ k = 4 ∨ k = 5 := by omega
  rw [fX6_tell, isM_raw m60 (by rw [q15]; exact nI_ne_m2 (by omega)), Option.bind_some, if_neg (by decide)]
  rcases this with e | e | e | e | e | e
  · subst e
    rw [if_pos (by decide), rdI_nI m60 (by decide), Option.bind_some, q16]
    show _ = some (bI (rM r))
    cases rM r <;> rfl
  · subst e
    rw [if_neg (by decide), if_pos (by decide), rdI_nI m60 (by decide), Option.bind_some, q15]; rfl
  · subst e
    rw [if_neg (by decide), if_neg (by decide), if_pos (by decide), rdI_nI m60 (by decide), Option.bind_some, q17]; rfl
  · subst e
    rw [if_neg (by decide), if_neg (by decide), if_neg (by decide), if_pos (by decide), rdI_nI m60 (by decide), Option.bind_some, q18]; rfl
  · subst e
    rw [if_neg (by decide), if_neg (by decide), if_neg (by decide), if_neg (by decide), if_pos (by decide), rdI_nI m60 (by decide), Option.bind_some, q19]; rfl
  · subst e
    rw [if_neg (by decide), if_neg (by decide), if_neg (by decide), if_neg (by decide), if_neg (by decide), if_pos (by decide), rdI_nI m60 (by decide), Option.bind_some, q20]; rfl
theorem not6 {x : Int32} (h : isN x 6 = false) {k : Nat} (hk : k < 6) : ¬ x = nI k := fun e => by
  rw [e, isN_nI (by omega)] at h
  simp [hk] at h
theorem s_member : sim_member Rl := by
  intro u z x1 x2 hR
  obtain ⟨f, n, cc, m, ⟨hn, hL, hm, hA⟩, hU, hZ, hS⟩ := hR
  have hw := hk_WF hL n (Nat.le_refl _)
  have hn12 := hw.1
  have e6 : fX9_in z x2.toInt64 0 5 = some (bI (isN x2 6)) := in_isN z x2 5 6 (by decide)
  rw [fX8_member, fX9_member, e9_isHere hZ.2.2.1.2, Option.bind_some]
  cases c1 : heB (hk f n) x1 with
  | false =>
    refine ⟨-1, ?_, by rw [if_pos bI_f]⟩
    rw [fX6_tell, e6_isMember hU.2.2.2.1.2.1 hn12 (WF_own hw), Option.bind_some, c1, if_pos bI_f]; rfl
  | true =>
    obtain ⟨j, r, m60, rfl, er⟩ := heB_some c1
    rw [if_neg (by decide), e6, Option.bind_some]
    cases c2 : isN x2 6 with
    | false =>
      refine ⟨-1, ?_, by rw [if_pos bI_f]⟩
      have g : ∀ k, k < 6 → ¬ x2 = nI k := fun k hk => not6 c2 hk
      have g0 : ¬ x2 = 0 := g 0 (by decide)
      have g1 : ¬ x2 = 1 := g 1 (by decide)
      have g2 : ¬ x2 = 2 := g 2 (by decide)
      have g3 : ¬ x2 = 3 := g 3 (by decide)
      have g4 : ¬ x2 = 4 := g 4 (by decide)
      have g5 : ¬ x2 = 5 := g 5 (by decide)
      rw [fX6_tell, e6_isMember hU.2.2.2.1.2.1 hn12 (WF_own hw), Option.bind_some, c1, if_neg (by decide), if_neg g0, if_neg g1, if_neg g2, if_neg g3, if_neg g4, if_neg g5]; rfl
    | true =>
      obtain ⟨k, hk, rfl⟩ := isN_true c2 (by omega)
      refine ⟨mb r k, ?_, ?_⟩
      · rw [e6_tell hw hU.2.2.2.1.2.1 m60 er hk]; rfl
      · rw [if_neg (by decide), e9_memberOf hZ.2.2.1.2 m60 er hk]; rfl
