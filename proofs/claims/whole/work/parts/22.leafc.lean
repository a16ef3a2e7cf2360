/-! ===== the same questions of the class ===== -/
section Cls
variable {u : ST} {h : HA}
theorem e7_isType (hr : RCt u h) (hn : hN h ≤ 12) (x : Int32) : fX7_isType u x = some (bI (isN x (hN h))) := by
  unfold fX7_isType
  rw [hr.1]
  rcases tri x (n := hN h) (by omega) with ⟨a, e⟩ | ⟨a, b, e⟩ | ⟨j, hj, rfl, a, b, e, e2⟩
  · rw [if_pos a, e]; rfl
  · rw [if_neg a, if_pos b, e]; rfl
  · rw [if_neg a, if_neg b, e]; rfl
theorem e7_isClass (hr : RCt u h) (hn : hN h ≤ 12) (x : Int32) : fX7_isClass u x = some (bI (clB h x)) := by
  unfold fX7_isClass clB
  rw [hr.1]
  rcases tri x (n := hN h) (by omega) with ⟨a, e⟩ | ⟨a, b, e⟩ | ⟨j, hj, rfl, a, b, e, e2⟩
  · rw [if_pos a, e]; rfl
  · rw [if_neg a, if_pos b, e]; rfl
  · rw [if_neg a, if_neg b, e, rdI_nI (by omega) (by decide), Option.bind_some, (hr.2 j hj).1, e2]
    cases hF h j <;> rfl
theorem e7_isFace (hr : RCt u h) (hn : hN h ≤ 12) (x : Int32) : fX7_isFace u x = some (bI (faB h x)) := by
  unfold fX7_isFace faB
  rw [hr.1]
  rcases tri x (n := hN h) (by omega) with ⟨a, e⟩ | ⟨a, b, e⟩ | ⟨j, hj, rfl, a, b, e, e2⟩
  · rw [if_pos a, e]; rfl
  · rw [if_neg a, if_pos b, e]; rfl
  · rw [if_neg a, if_neg b, e, rdI_nI (by omega) (by decide), Option.bind_some, (hr.2 j hj).1, e2]
    cases hF h j <;> rfl
theorem e7_isAbstract (hr : RCt u h) (hn : hN h ≤ 12) (x : Int32) : fX7_isAbstract u x = some (bI (abB h x)) := by
  unfold fX7_isAbstract abB
  rw [hr.1]
  rcases tri x (n := hN h) (by omega) with ⟨a, e⟩ | ⟨a, b, e⟩ | ⟨j, hj, rfl, a, b, e, e2⟩
  · rw [if_pos a, e]; rfl
  · rw [if_neg a, if_pos b, e]; rfl
  · rw [if_neg a, if_neg b, e, rdI_nI (by omega) (by decide), Option.bind_some, (hr.2 j hj).1, e2, rdI_nI (by omega) (by decide), Option.bind_some, (hr.2 j hj).2.2.1]
    cases hF h j
    · by_cases c : hM h j &&& 1 = 0 <;> simp [c, bI]
    · rfl
theorem e7_isFinal (hr : RCt u h) (hn : hN h ≤ 12) (x : Int32) : fX7_isFinal u x = some (bI (fnB h x)) := by
  unfold fX7_isFinal fnB
  rw [hr.1]
  rcases tri x (n := hN h) (by omega) with ⟨a, e⟩ | ⟨a, b, e⟩ | ⟨j, hj, rfl, a, b, e, e2⟩
  · rw [if_pos a, e]; rfl
  · rw [if_neg a, if_pos b, e]; rfl
  · rw [if_neg a, if_neg b, e, rdI_nI (by omega) (by decide), Option.bind_some, e2, (hr.2 j hj).2.2.1]
    by_cases c : hM h j &&& 2 = 0 <;> simp [c, bI]
theorem e7_above (hr : RCt u h) (hn : hN h ≤ 12) (x : Int32) : fX7_whatIsAbove u x = some (abI h x) := by
  unfold fX7_whatIsAbove abI
  rw [hr.1]
  rcases tri x (n := hN h) (by omega) with ⟨a, e⟩ | ⟨a, b, e⟩ | ⟨j, hj, rfl, a, b, e, e2⟩
  · rw [if_pos a, e]; rfl
  · rw [if_neg a, if_pos b, e]; rfl
  · rw [if_neg a, if_neg b, e, rdI_nI (by omega) (by decide), Option.bind_some, (hr.2 j hj).2.1, e2]; rfl
theorem e7_faceAt (hr : RCt u h) (hw : WF h) (x i : Int32) : fX7_faceAt u x i = some (faI h x i) := by
  have hn := hw.1
  unfold fX7_faceAt faI
  rw [hr.1]
  rcases tri x (n := hN h) (by omega) with ⟨a, e⟩ | ⟨a, b, e⟩ | ⟨j, hj, rfl, a, b, e, e2⟩
  · rw [if_pos a, e]; rfl
  · rw [if_neg a, if_pos b, e]; rfl
  · have hlen := (hw.2.2.1 j hj).1
    rw [if_neg a, if_neg b, e, rdI_nI (by omega) (by decide), Option.bind_some, (hr.2 j hj).2.2.2.1, e2]
    rcases tri i (n := (hL h j).length) (by omega) with ⟨a1, f1⟩ | ⟨a1, b1, f1⟩ | ⟨k, hk, rfl, a1, b1, f1, f2⟩
    · rw [if_pos a1, f1]; rfl
    · rw [if_neg a1, if_pos b1, f1]; rfl
    · rw [if_neg a1, if_neg b1, f1, f2]
      have e3 : nI j * 3 + nI k = nI (3 * j + k) := by
        have : (3 : Int32) = nI 3 := rfl
        rw [this, pk_mul, nI_add]; congr 1; omega
      rw [e3, rdI_nI (by omega) (by decide), Option.bind_some, (hr.2 j hj).2.2.2.2 k hk]; rfl
theorem e7_par (hr : RCt u h) (hn : hN h ≤ 12) (a b : Int32) : fX7_areParameters u a b = some (bI (prB h a b)) := by
  unfold fX7_areParameters
  simp only [e7_isType hr hn, Option.bind_some, prB]
  by_cases ha : a = -2
  · subst ha
    by_cases hb : b = -2
    · subst hb; simp [bI]
    · simp [hb, bI]
  · simp only [if_neg ha]
    by_cases hb : b = -2
    · subst hb; cases isN a (hN h) <;> simp [bI]
    · simp only [if_neg hb, hb]
      cases isN a (hN h) <;> cases isN b (hN h) <;> simp [bI]
theorem le_lt_isN {x : Int32} {n : Nat} (hn : n < 2 ^ 31) (h0 : ¬ x < 0) : nI n < x ↔ isN x (n + 1) = false := by
  rw [Int32.lt_iff_toInt_lt, nI_toInt hn]
  rw [Int32.lt_iff_toInt_lt] at h0
  have : (0 : Int32).toInt = 0 := rfl
  simp [isN]; omega
theorem e7_marks (x : Int32) : fX7_areMarks u x = some (bI (isN x 4)) := by
  unfold fX7_areMarks
  by_cases h0 : x < 0
  · rw [if_pos h0, isN_lt0 h0]; rfl
  · rw [if_neg h0]
    by_cases h1 : (3 : Int32) < x
    · rw [if_pos h1, (le_lt_isN (n := 3) (by decide) h0).mp h1]; rfl
    · rw [if_neg h1]
      have : isN x 4 = true := by
        cases c : isN x 4 with
        | true => rfl
        | false => exact absurd ((le_lt_isN (n := 3) (by decide) h0).mpr c) h1
      rw [this]; rfl
theorem e7_mayCome (hr : RCt u h) (hn : hN h ≤ 12) (f x m : Int32) : fX7_mayCome u f x m = some (bI (isN m 4 && (decide (x = -2) || (decide (f = 0) && clB h x)))) := by
  unfold fX7_mayCome
  simp only [e7_marks, e7_isClass hr hn, Option.bind_some]
  cases isN m 4 <;> by_cases c1 : x = -2 <;> by_cases c2 : f = 0 <;> cases clB h x <;> simp [c1, c2, bI]
theorem e7_hasFace_L (hr : RCt u h) (hw : WF h) (x y : Int32) : ∀ (n k f : Nat), k + n = 3 → n < f → fX7_hasFace_L2 u f x y (nI k) = some (bI ((ff (fun i => decide (faI h x (nI i) = y)) n k).isSome))
  | n, k, 0, _, hf => by omega
  | 0, k, f + 1, hk, _ => by
    have : k = 3 := by omega
    subst this
    rw [fX7_hasFace_L2, if_pos (by decide)]; rfl
  | n + 1, k, f + 1, hk, hf => by
    have ih := e7_hasFace_L hr hw x y n (k + 1) f (by omega) (by omega)
    have h3 : ¬ (3 : Int32) ≤ nI k := nI_ge (b := 3) (by omega) (by decide)
    rw [fX7_hasFace_L2, if_neg h3, e7_faceAt hr hw, Option.bind_some]
    unfold ff
    by_cases c : faI h x (nI k) = y
    · rw [if_pos c]; simp [c, bI]
    · rw [if_neg c, nI_1]; simp [c]; exact ih
theorem e7_hasFace (hr : RCt u h) (hw : WF h) {t f : Nat} (ht : t < hN h) (hf : f < hN h) : fX7_hasFace u (nI t) (nI f) = some (bI (decide (f ∈ hL h t))) := by
  have hn := hw.1
  unfold fX7_hasFace
  have e0 := e7_hasFace_L hr hw (nI t) (nI f) 3 0 5000 rfl (by decide)
  rw [show (0 : Int32) = nI 0 from rfl, e0]
  congr 2
  have hlen := (hw.2.2.1 t ht).1
  have key : ∀ i, i < 3 → (faI h (nI t) (nI i) = nI f ↔ (hL h t)[i]? = some f) := by
    intro i hi
    unfold faI
    rw [isN_nI (by omega), cl_nI (show t < 2 ^ 31 by omega), isN_nI (by omega), cl_nI (show i < 2 ^ 31 by omega)]
    by_cases c : i < (hL h t).length
    · simp only [ht, c, decide_true, Bool.and_self, if_true]
      rw [List.getD_eq_getElem?_getD, List.getElem?_eq_getElem c, Option.getD_some]
      have hlt := ((hw.2.2.1 t ht).2.2 _ (List.getElem_mem c)).1
      constructor
      · intro e; rw [nI_inj (by omega) (by omega) e]
      · intro e; rw [Option.some.inj e]
    · simp only [c, decide_false, Bool.and_false]
      rw [List.getElem?_eq_none (by omega)]
      constructor
      · intro e; exact absurd e.symm (nI_ne_m2 (by omega))
      · intro e; cases e
  cases hff : ff (fun i => decide (faI h (nI t) (nI i) = nI f)) 3 0 with
  | none =>
    have h0 := ff_none hff
    have : f ∉ hL h t := by
      intro hm
      obtain ⟨i, hi⟩ := List.getElem?_of_mem hm
      have hl := (List.getElem?_eq_some_iff.mp hi).1
      have := h0 i (by omega) (by omega)
      simp only [decide_eq_false_iff_not] at this
      exact this ((key i (by omega)).mpr hi)
    simp [this]
  | some i =>
    obtain ⟨-, h2, h3, -⟩ := ff_some hff
    simp only [decide_eq_true_eq] at h3
    have := List.mem_of_getElem? ((key i (by omega)).mp h3)
    simp [this]
theorem e6_isMember (hr : RCm u h) (hn : hN h ≤ 12) (hw : ∀ m r, hB h m = some r → rT r < hN h) (x : Int32) : fX6_isMember u x = some (bI (heB h x)) := by
  unfold fX6_isMember heB
  rcases tri60 x with ⟨a, e⟩ | ⟨a, b, e⟩ | ⟨j, hj, rfl, a, b, e, e2⟩
  · rw [if_pos a, e]; rfl
  · rw [if_neg a, if_pos b, e]; rfl
  · rw [if_neg a, if_neg b, e, rdI_nI hj (by decide), Option.bind_some, e2]
    have := hr.2 j hj
    cases hm : hB h j with
    | none => rw [hm] at this; have this : aI u 15 j = -2 := this; rw [this]; rfl
    | some r => rw [hm] at this; rw [this.1, if_neg (nI_ne_m2 (by have := hw j r hm; omega))]; rfl
theorem e6_isMethod (hr : RCm u h) (hn : hN h ≤ 12) (hw : ∀ m r, hB h m = some r → rT r < hN h) (x : Int32) : fX6_isMethod u x = some (bI (meB h x)) := by
  unfold fX6_isMethod meB
  rcases tri60 x with ⟨a, e⟩ | ⟨a, b, e⟩ | ⟨j, hj, rfl, a, b, e, e2⟩
  · rw [if_pos a, e]; rfl
  · rw [if_neg a, if_pos b, e]; rfl
  · rw [if_neg a, if_neg b, e, rdI_nI hj (by decide), Option.bind_some, e2]
    have := hr.2 j hj
    cases hm : hB h j with
    | none => rw [hm] at this; have this : aI u 15 j = -2 := this; rw [this]; rfl
    | some r =>
      rw [hm] at this
      rw [this.1, if_neg (nI_ne_m2 (by have := hw j r hm; omega)), rdI_nI hj (by decide), Option.bind_some, this.2.1]
      dsimp only
      cases rM r <;> rfl
theorem e6_isField (hr : RCm u h) (hn : hN h ≤ 12) (hw : ∀ m r, hB h m = some r → rT r < hN h) (x : Int32) : fX6_isField u x = some (bI (fiB h x)) := by
  unfold fX6_isField fiB
  rcases tri60 x with ⟨a, e⟩ | ⟨a, b, e⟩ | ⟨j, hj, rfl, a, b, e, e2⟩
  · rw [if_pos a, e]; rfl
  · rw [if_neg a, if_pos b, e]; rfl
  · rw [if_neg a, if_neg b, e, rdI_nI hj (by decide), Option.bind_some, e2]
    have := hr.2 j hj
    cases hm : hB h j with
    | none => rw [hm] at this; have this : aI u 15 j = -2 := this; rw [this]; rfl
    | some r =>
      rw [hm] at this
      rw [this.1, if_neg (nI_ne_m2 (by have := hw j r hm; omega)), rdI_nI hj (by decide), Option.bind_some, this.2.1]
      dsimp only
      cases rM r <;> rfl
theorem e6_has (hr : RCm u h) (hn : hN h ≤ 12) (hw : ∀ m r, hB h m = some r → rT r < hN h) (x k : Int32) : fX6_has u x k = some (bI (haB h x k)) := by
  unfold fX6_has haB
  rcases tri60 x with ⟨a, e⟩ | ⟨a, b, e⟩ | ⟨j, hj, rfl, a, b, e, e2⟩
  · rw [if_pos a, e]; rfl
  · rw [if_neg a, if_pos b, e]; rfl
  · rw [if_neg a, if_neg b, e, rdI_nI hj (by decide), Option.bind_some, e2]
    have := hr.2 j hj
    cases hm : hB h j with
    | none => rw [hm] at this; have this : aI u 15 j = -2 := this; rw [this]; rfl
    | some r =>
      rw [hm] at this
      rw [this.1, if_neg (nI_ne_m2 (by have := hw j r hm; omega)), rdI_nI hj (by decide), Option.bind_some, this.2.2.2.1]
      by_cases c : rK r &&& k = 0 <;> simp [c, bI]
theorem e6_isOpen (hr : RCm u h) (hn : hN h ≤ 12) (hw : ∀ m r, hB h m = some r → rT r < hN h) (x : Int32) : fX6_isOpen u x = some (bI (opB h x)) := by
  unfold fX6_isOpen opB
  rcases tri60 x with ⟨a, e⟩ | ⟨a, b, e⟩ | ⟨j, hj, rfl, a, b, e, e2⟩
  · rw [if_pos a, e]; rfl
  · rw [if_neg a, if_pos b, e]; rfl
  · rw [if_neg a, if_neg b, e, rdI_nI hj (by decide), Option.bind_some, e2]
    have := hr.2 j hj
    cases hm : hB h j with
    | none => rw [hm] at this; have this : aI u 15 j = -2 := this; rw [this]; rfl
    | some r =>
      rw [hm] at this
      rw [this.1, if_neg (nI_ne_m2 (by have := hw j r hm; omega)), rdI_nI hj (by decide), Option.bind_some, this.2.1, rdI_nI hj (by decide), Option.bind_some, this.2.2.2.1]
      dsimp only
      cases rM r
      · rfl
      · by_cases c : rK r &&& 5 = 0 <;> simp [c, bI]
theorem e6_fieldOf_L (hr : RCm u h) (hn : hN h ≤ 12) (hw : ∀ m r, hB h m = some r → rT r < hN h) {t : Nat} (ht : t < 2 ^ 31) (nm a b : Int32) : ∀ (n k f : Nat), k + n = 60 → n < f → fX6_fieldOf_L2 u f (nI t) nm (nI k) = some (oI (ff (isOwn h t false nm a b) n k))
  | n, k, 0, _, hf => by omega
  | 0, k, f + 1, hk, _ => by
    have : k = 60 := by omega
    subst this
    rw [fX6_fieldOf_L2, if_pos (by decide)]; rfl
  | n + 1, k, f + 1, hk, hf => by
    have ih := e6_fieldOf_L hr hn hw ht nm a b n (k + 1) f (by omega) (by omega)
    have h60 : ¬ (60 : Int32) ≤ nI k := nI_ge (b := 60) (by omega) (by decide)
    rw [fX6_fieldOf_L2, if_neg h60, rdI_nI (by omega) (by decide), Option.bind_some]
    have hm := hr.2 k (by omega)
    unfold ff
    cases hb : hB h k with
    | none =>
      rw [hb] at hm
      have hm : aI u 15 k = -2 := hm
      rw [hm, if_neg (nI_ne_m2 ht).symm]
      simp only [isOwn, hb, fX6_fieldOf_L39, nI_1]
      simpa using ih
    | some r =>
      rw [hb] at hm
      obtain ⟨m1, m2, m3, m4, m5, m6, m7⟩ := hm
      have hT := hw k r hb
      rw [m1]
      simp only [isOwn, hb, fX6_fieldOf_L39, nI_1, rdI_nI (show k < 60 by omega) (show 60 < 2 ^ 31 by decide), Option.bind_some, m2, m3]
      by_cases c1 : rT r = t
      · rw [if_pos (by rw [c1])]
        by_cases c2 : rM r = false
        · rw [if_pos (by rw [c2]; rfl)]
          by_cases c3 : rN r = nm
          · rw [if_pos c3]; simp [c1, c2, c3, oI]
          · rw [if_neg c3]; simp [c1, c2, c3]; exact ih
        · rw [if_neg (fun e => c2 (bI_0.mp e))]; simp [c1, c2]; exact ih
      · rw [if_neg (fun e => c1 (nI_inj (by omega) ht e))]; simp [c1]; exact ih
theorem e6_fieldOf (hr : RCm u h) (hn : hN h ≤ 12) (hw : ∀ m r, hB h m = some r → rT r < hN h) {t : Nat} (ht : t < 2 ^ 31) (nm a b : Int32) : fX6_fieldOf u (nI t) nm = some (oI (own h t false nm a b)) := by
  unfold fX6_fieldOf
  exact e6_fieldOf_L hr hn hw ht nm a b 60 0 5000 rfl (by decide)
theorem e6_methodOf_L (hr : RCm u h) (hn : hN h ≤ 12) (hw : ∀ m r, hB h m = some r → rT r < hN h) {t : Nat} (ht : t < 2 ^ 31) (nm a b : Int32) : ∀ (n k f : Nat), k + n = 60 → n < f → fX6_methodOf_L3 u f (nI t) nm a b (nI k) = some (oI (ff (isOwn h t true nm a b) n k))
  | n, k, 0, _, hf => by omega
  | 0, k, f + 1, hk, _ => by
    have : k = 60 := by omega
    subst this
    rw [fX6_methodOf_L3, if_pos (by decide)]; rfl
  | n + 1, k, f + 1, hk, hf => by
    have ih := e6_methodOf_L hr hn hw ht nm a b n (k + 1) f (by omega) (by omega)
    have h60 : ¬ (60 : Int32) ≤ nI k := nI_ge (b := 60) (by omega) (by decide)
    rw [fX6_methodOf_L3, if_neg h60, rdI_nI (by omega) (by decide), Option.bind_some]
    have hm := hr.2 k (by omega)
    unfold ff
    cases hb : hB h k with
    | none =>
      rw [hb] at hm
      have hm : aI u 15 k = -2 := hm
      rw [hm, if_neg (nI_ne_m2 ht).symm]
      simp only [isOwn, hb, fX6_methodOf_L68, nI_1]
      simpa using ih
    | some r =>
      rw [hb] at hm
      obtain ⟨m1, m2, m3, m4, m5, m6, m7⟩ := hm
      have hT := hw k r hb
      rw [m1]
      simp only [isOwn, hb, fX6_methodOf_L68, nI_1, rdI_nI (show k < 60 by omega) (show 60 < 2 ^ 31 by decide), Option.bind_some, m2, m3, m5, m6]
      by_cases c1 : rT r = t
      · rw [if_pos (by rw [c1])]
        by_cases c2 : rM r = true
        · rw [if_neg (by rw [c2]; decide)]
          by_cases c3 : rN r = nm
          · rw [if_pos c3]
            by_cases c4 : rA r = a
            · rw [if_pos c4]
              by_cases c5 : rB r = b
              · rw [if_pos c5]; simp [c1, c2, c3, c4, c5, oI]
              · rw [if_neg c5]; simp [c1, c2, c3, c4, c5]; exact ih
            · rw [if_neg c4]; simp [c1, c2, c3, c4]; exact ih
          · rw [if_neg c3]; simp [c1, c2, c3]; exact ih
        · rw [if_pos (bI_0.mpr (by simpa using c2))]; simp [c1, c2]; exact ih
      · rw [if_neg (fun e => c1 (nI_inj (by omega) ht e))]; simp [c1]; exact ih
theorem e6_methodOf (hr : RCm u h) (hn : hN h ≤ 12) (hw : ∀ m r, hB h m = some r → rT r < hN h) {t : Nat} (ht : t < 2 ^ 31) (nm a b : Int32) : fX6_methodOf u (nI t) nm a b = some (oI (own h t true nm a b)) := by
  unfold fX6_methodOf
  exact e6_methodOf_L hr hn hw ht nm a b 60 0 5000 rfl (by decide)
theorem e6_free_L (hr : RCm u h) (hn : hN h ≤ 12) (hw : ∀ m r, hB h m = some r → rT r < hN h) : ∀ (n k f : Nat), k + n = 60 → n < f → fX6_leastFree_L2 u f (nI k) = some (oI (ff (fun m => (hB h m).isNone) n k))
  | n, k, 0, _, hf => by omega
  | 0, k, f + 1, hk, _ => by
    have : k = 60 := by omega
    subst this
    rw [fX6_leastFree_L2, if_pos (by decide)]; rfl
  | n + 1, k, f + 1, hk, hf => by
    have ih := e6_free_L hr hn hw n (k + 1) f (by omega) (by omega)
    have h60 : ¬ (60 : Int32) ≤ nI k := nI_ge (b := 60) (by omega) (by decide)
    rw [fX6_leastFree_L2, if_neg h60, rdI_nI (by omega) (by decide), Option.bind_some]
    have hm := hr.2 k (by omega)
    unfold ff
    cases hb : hB h k with
    | none =>
      rw [hb] at hm
      have hm : aI u 15 k = -2 := hm
      rw [hm, if_pos rfl]; simp [oI]
    | some r =>
      rw [hb] at hm
      rw [hm.1, if_neg (nI_ne_m2 (by have := hw k r hb; omega)), nI_1]; simpa using ih
theorem e6_free (hr : RCm u h) (hn : hN h ≤ 12) (hw : ∀ m r, hB h m = some r → rT r < hN h) : fX6_leastFree u = some (oI (free h)) := by
  unfold fX6_leastFree
  exact e6_free_L hr hn hw 60 0 5000 rfl (by decide)
theorem e3_isKind (x : Int32) : fX3_isKind u x = some (bI (isN x 8)) := by
  unfold fX3_isKind
  rcases tri8 x with ⟨a, e⟩ | ⟨a, b, e⟩ | ⟨j, hj, rfl, a, b, e, e2⟩
  · rw [if_pos a, e]; rfl
  · rw [if_neg a, if_pos b, e]; rfl
  · rw [if_neg a, if_neg b, e]; rfl
theorem e6_isName (x : Int32) : fX6_isName u x = some (bI (isN x 10)) := by
  unfold fX6_isName
  by_cases h0 : x < 0
  · rw [if_pos h0, isN_lt0 h0]; rfl
  · rw [if_neg h0]
    by_cases h1 : (9 : Int32) < x
    · rw [if_pos h1, (le_lt_isN (n := 9) (by decide) h0).mp h1]; rfl
    · rw [if_neg h1]
      have : isN x 10 = true := by
        cases c : isN x 10 with
        | true => rfl
        | false => exact absurd ((le_lt_isN (n := 9) (by decide) h0).mpr c) h1
      rw [this]; rfl
theorem e3_comesOut (k : Int32) (v : Int64) : fX3_comesOut u k v = some (co k v) := by
  unfold fX3_comesOut co
  simp only [lg_cmp_eq]
  split
  · split <;> rfl
  · split
    · rfl
    · split
      · rfl
      · split
        · rfl
        · split
          · rfl
          · split
            · rename_i h5
              subst h5
              rfl
            · split
              · rfl
              · split <;> rfl
theorem e2_fMarks (hr : RCt u h) (hn : hN h ≤ 12) (t x : Int32) : fX2_areFieldMarks u t x = some (bI (isN x 8 && (clB h t || !decide (x &&& 1 = 0)))) := by
  unfold fX2_areFieldMarks fX2_areFieldMarks_L14 fX2_areFieldMarks_L15
  simp only [e7_isClass hr hn, Option.bind_some]
  rcases tri8 x with ⟨a, e⟩ | ⟨a, b, e⟩ | ⟨j, hj, rfl, a, b, e, e2⟩
  · rw [if_pos a, e]; rfl
  · rw [if_neg a, if_pos b, e]; rfl
  · rw [if_neg a, if_neg b, e]
    cases clB h t <;> by_cases c : nI j &&& 1 = 0 <;> simp [c, bI]
theorem e2_mMarks (x : Int32) : fX2_areMethodMarks u x = some (bI (isN x 9)) := by
  unfold fX2_areMethodMarks
  by_cases h0 : x < 0
  · rw [if_pos h0, isN_lt0 h0]; rfl
  · rw [if_neg h0]
    by_cases h1 : (8 : Int32) < x
    · rw [if_pos h1, (le_lt_isN (n := 8) (by decide) h0).mp h1]; rfl
    · rw [if_neg h1]
      have : isN x 9 = true := by
        cases c : isN x 9 with
        | true => rfl
        | false => exact absurd ((le_lt_isN (n := 8) (by decide) h0).mpr c) h1
      rw [this]; rfl
theorem e9_mMarks {z : ST} (x : Int32) : fX9_areMethodMarks z x = some (bI (isN x 9)) := by
  unfold fX9_areMethodMarks
  have e0 : fX9_in z x.toInt64 0 15 = some (bI (isN x 16)) := in_isN z x 15 16 rfl
  rw [e0, Option.bind_some]
  rcases tri x (n := 16) (by decide) with ⟨a, e⟩ | ⟨a, b, e⟩ | ⟨j, hj, rfl, a, b, e, e2⟩
  · rw [e, isN_lt0 a]; rfl
  · have : isN x 9 = false := by
      simp [isN] at e ⊢; omega
    rw [e, this]; rfl
  · rw [e, isN_nI (by omega)]
    have : ∀ j, j < 16 → (if bI true = 0 then some (0 : Int32) else if nI j &&& 8 = 0 then some 1 else if nI j = 8 then some 1 else some 0) = some (bI (decide (j < 9))) := by decide +kernel
    exact this j hj
end Cls
