/-! ===== the small questions, both sides, in one set of words ===== -/
abbrev cl (x : Int32) : Nat := x.toNatClampNeg
theorem cl_nI {j : Nat} (h : j < 2 ^ 31) : cl (nI j) = j := nI_clamp h
theorem tri (x : Int32) {n : Nat} (hn : n < 2 ^ 31) : (x < 0 ∧ isN x n = false) ∨ (¬ x < 0 ∧ nI n ≤ x ∧ isN x n = false) ∨ ∃ j, j < n ∧ x = nI j ∧ ¬ x < 0 ∧ ¬ nI n ≤ x ∧ isN x n = true ∧ cl x = j := by
  rcases pk_ix x hn with h | h | ⟨j, hj, rfl⟩
  · exact Or.inl ⟨h, isN_lt0 h⟩
  · refine Or.inr (Or.inl ⟨?_, h, isN_ge hn h⟩)
    rw [Int32.lt_iff_toInt_lt]
    rw [Int32.le_iff_toInt_le, nI_toInt hn] at h
    have : (0 : Int32).toInt = 0 := rfl
    omega
  · exact Or.inr (Or.inr ⟨j, hj, rfl, nI_pos (by omega), nI_ge hj hn, by rw [isN_nI (by omega)]; simp [hj], nI_clamp (by omega)⟩)
theorem tri60 (x : Int32) : (x < 0 ∧ isN x 60 = false) ∨ (¬ x < 0 ∧ 60 ≤ x ∧ isN x 60 = false) ∨ ∃ j, j < 60 ∧ x = nI j ∧ ¬ x < 0 ∧ ¬ 60 ≤ x ∧ isN x 60 = true ∧ cl x = j := tri x (n := 60) (by decide)
theorem tri8 (x : Int32) : (x < 0 ∧ isN x 8 = false) ∨ (¬ x < 0 ∧ 8 ≤ x ∧ isN x 8 = false) ∨ ∃ j, j < 8 ∧ x = nI j ∧ ¬ x < 0 ∧ ¬ 8 ≤ x ∧ isN x 8 = true ∧ cl x = j := tri x (n := 8) (by decide)
def clB (h : HA) (x : Int32) : Bool := isN x (hN h) && !hF h (cl x)
def faB (h : HA) (x : Int32) : Bool := isN x (hN h) && hF h (cl x)
def abB (h : HA) (x : Int32) : Bool := isN x (hN h) && (!hF h (cl x) && !decide (hM h (cl x) &&& 1 = 0))
def fnB (h : HA) (x : Int32) : Bool := isN x (hN h) && !decide (hM h (cl x) &&& 2 = 0)
def abI (h : HA) (x : Int32) : Int32 := if isN x (hN h) = true then oI (hA h (cl x)) else -2
def faI (h : HA) (x i : Int32) : Int32 := if (isN x (hN h) && isN i (hL h (cl x)).length) = true then nI ((hL h (cl x)).getD (cl i) 0) else -2
def prB (h : HA) (a b : Int32) : Bool := if a = -2 then decide (b = -2) else isN a (hN h) && (decide (b = -2) || isN b (hN h))
def heB (h : HA) (x : Int32) : Bool := isN x 60 && (hB h (cl x)).isSome
def meB (h : HA) (x : Int32) : Bool := isN x 60 && (match hB h (cl x) with | none => false | some r => rM r)
def fiB (h : HA) (x : Int32) : Bool := isN x 60 && (match hB h (cl x) with | none => false | some r => !rM r)
def haB (h : HA) (x k : Int32) : Bool := isN x 60 && (match hB h (cl x) with | none => false | some r => !decide (rK r &&& k = 0))
def opB (h : HA) (x : Int32) : Bool := isN x 60 && (match hB h (cl x) with | none => false | some r => rM r && decide (rK r &&& 5 = 0))
/-- the first of k, k+1 .. (n of them) that P holds of -/
def ff (P : Nat → Bool) : Nat → Nat → Option Nat
  | 0, _ => none
  | n + 1, k => if P k = true then some k else ff P n (k + 1)
theorem ff_some {P : Nat → Bool} : ∀ {n k m : Nat}, ff P n k = some m → k ≤ m ∧ m < k + n ∧ P m = true ∧ ∀ j, k ≤ j → j < m → P j = false
  | 0, _, _, h => by cases h
  | n + 1, k, m, h => by
    unfold ff at h
    by_cases hk : P k = true
    · rw [if_pos hk] at h
      cases h
      exact ⟨Nat.le_refl _, by omega, hk, fun j h1 h2 => by omega⟩
    · rw [if_neg hk] at h
      obtain ⟨h1, h2, h3, h4⟩ := ff_some h
      refine ⟨by omega, by omega, h3, fun j a b => ?_⟩
      rcases Nat.lt_or_ge k j with c | c
      · exact h4 j c b
      · have : j = k := by omega
        subst this
        simpa using hk
theorem ff_none {P : Nat → Bool} : ∀ {n k : Nat}, ff P n k = none → ∀ j, k ≤ j → j < k + n → P j = false
  | 0, _, _, j, a, b => by omega
  | n + 1, k, h, j, a, b => by
    unfold ff at h
    by_cases hk : P k = true
    · rw [if_pos hk] at h; cases h
    · rw [if_neg hk] at h
      rcases Nat.lt_or_ge k j with c | c
      · exact ff_none h j c (by omega)
      · have : j = k := by omega
        subst this
        simpa using hk
theorem ff_congr {P Q : Nat → Bool} : ∀ {n k : Nat}, (∀ j, k ≤ j → j < k + n → P j = Q j) → ff P n k = ff Q n k
  | 0, _, _ => rfl
  | n + 1, k, h => by
    unfold ff
    rw [h k (Nat.le_refl _) (by omega), ff_congr (fun j a b => h j (by omega) (by omega))]
def isOwn (h : HA) (t : Nat) (im : Bool) (nm a b : Int32) (m : Nat) : Bool := match hB h m with
  | none => false
  | some r => decide (rT r = t) && (rM r == im) && decide (rN r = nm) && (!im || (decide (rA r = a) && decide (rB r = b)))
def own (h : HA) (t : Nat) (im : Bool) (nm a b : Int32) : Option Nat := ff (isOwn h t im nm a b) 60 0
def free (h : HA) : Option Nat := ff (fun m => (hB h m).isNone) 60 0
theorem own_some {h : HA} {t m : Nat} {im : Bool} {nm a b : Int32} (ho : own h t im nm a b = some m) : m < 60 ∧ ∃ r, hB h m = some r ∧ rT r = t ∧ rM r = im ∧ rN r = nm ∧ (im = true → rA r = a ∧ rB r = b) := by
  obtain ⟨-, h2, h3, -⟩ := ff_some ho
  refine ⟨by omega, ?_⟩
  unfold isOwn at h3
  cases hm : hB h m with
  | none => rw [hm] at h3; cases h3
  | some r =>
    rw [hm] at h3
    simp only [Bool.and_eq_true, decide_eq_true_eq, beq_iff_eq, Bool.or_eq_true, Bool.not_eq_true'] at h3
    obtain ⟨⟨⟨e1, e2⟩, e3⟩, e4⟩ := h3
    refine ⟨r, rfl, e1, e2, e3, fun hi => ?_⟩
    rcases e4 with e4 | e4
    · rw [hi] at e4; cases e4
    · exact e4
/-! the reference -/
section Ref
variable {z : ST} {h : HA}
theorem e9_isClass (hr : RMt z h) (hn : hN h ≤ 12) (x : Int32) : fX9_isClass z x = some (bI (clB h x)) := by
  unfold fX9_isClass
  rw [e9_isType hr hn, Option.bind_some]
  rcases tri x (n := hN h) (by omega) with ⟨-, e⟩ | ⟨-, -, e⟩ | ⟨j, hj, rfl, -, -, e, e2⟩
  · simp [e, clB, bI]
  · simp [e, clB, bI]
  · rw [e, bI_t, if_neg (by decide), rdI_nI (by omega) (by decide), Option.bind_some, (hr.2 j hj).1]
    simp only [clB, e, e2, Bool.true_and]
    cases hF h j <;> rfl
theorem e9_isHere (hr : RMm z h) (x : Int32) : fX9_isHere z x = some (bI (heB h x)) := by
  unfold fX9_isHere
  have e0 : fX9_in z x.toInt64 0 59 = some (bI (isN x 60)) := in_isN z x 59 60 rfl
  rw [e0, Option.bind_some]
  rcases tri x (n := 60) (by decide) with ⟨-, e⟩ | ⟨-, -, e⟩ | ⟨j, hj, rfl, -, -, e, e2⟩
  · simp [e, heB, bI]
  · simp [e, heB, bI]
  · rw [e, bI_t, if_neg (by decide), rdI_nI hj (by decide), Option.bind_some]
    simp only [heB, e, e2, Bool.true_and]
    have := hr j hj
    cases hm : hB h j with
    | none => rw [hm] at this; rw [this]; rfl
    | some r => rw [hm] at this; rw [this.1]; rfl
theorem e9_own_L (hr : RMm z h) (hn : hN h ≤ 12) (hw : ∀ m r, hB h m = some r → rT r < hN h) {t : Nat} (ht : t < 2 ^ 31) (im : Bool) (nm a b : Int32) : ∀ (n k f : Nat), k + n = 60 → n < f → fX9_ownOf_L3 z f (nI t) (bI im) nm a b (nI k) = some (oI (ff (isOwn h t im nm a b) n k))
  | n, k, 0, _, hf => by omega
  | 0, k, f + 1, hk, _ => by
    have : k = 60 := by omega
    subst this
    rw [fX9_ownOf_L3, if_pos (by decide)]; rfl
  | n + 1, k, f + 1, hk, hf => by
    have ih := e9_own_L hr hn hw ht im nm a b n (k + 1) f (by omega) (by omega)
    have h60 : ¬ (60 : Int32) ≤ nI k := nI_ge (b := 60) (by omega) (by decide)
    rw [fX9_ownOf_L3, if_neg h60, rdI_nI (by omega) (by decide), Option.bind_some]
    have hm := hr k (by omega)
    unfold ff
    cases hb : hB h k with
    | none =>
      rw [hb] at hm
      have hm : aI z 6 k = 0 := hm
      rw [hm, if_pos rfl]
      simp only [isOwn, hb, fX9_ownOf_L57, fX9_ownOf_L58, fX9_ownOf_L96, nI_1]
      simpa using ih
    | some r =>
      rw [hb] at hm
      obtain ⟨m1, m2, m3, m4, m5, m6, m7, m8⟩ := hm
      have hT := hw k r hb
      rw [m1, if_neg (by decide), rdI_nI (by omega) (by decide), Option.bind_some, m3]
      simp only [isOwn, hb, fX9_ownOf_L57, fX9_ownOf_L58, fX9_ownOf_L96, nI_1, rdI_nI (show k < 60 by omega) (show 60 < 2 ^ 31 by decide), Option.bind_some, m2, m4, m7]
      by_cases c1 : rT r = t
      · rw [if_pos (by rw [c1])]
        by_cases c2 : rM r = im
        · rw [if_pos (by rw [c2])]
          by_cases c3 : rN r = nm
          · rw [if_pos c3, if_neg (by decide)]
            cases im with
            | false => simp [c1, c2, c3, bI, oI]
            | true =>
              rw [if_neg (by decide)]
              have m6' : aI z 12 k = rA r := by rw [c2, if_pos rfl] at m6; exact m6
              rw [m6']
              by_cases c4 : rA r = a
              · rw [if_pos c4]
                by_cases c5 : rB r = b
                · rw [if_pos c5]; simp [c1, c2, c3, c4, c5, oI]
                · rw [if_neg c5]; simp [c1, c2, c3, c4, c5]; exact ih
              · rw [if_neg c4]; simp [c1, c2, c3, c4]; exact ih
          · rw [if_neg c3, if_pos trivial]; simp [c1, c2, c3]; exact ih
        · rw [if_neg (fun e => c2 (bI_inj e)), if_pos trivial]; simp [c1, c2]; exact ih
      · rw [if_neg (fun e => c1 (nI_inj (by omega) ht e)), if_pos trivial]; simp [c1]; exact ih
theorem e9_own (hr : RMm z h) (hn : hN h ≤ 12) (hw : ∀ m r, hB h m = some r → rT r < hN h) {t : Nat} (ht : t < 2 ^ 31) (im : Bool) (nm a b : Int32) : fX9_ownOf z (nI t) (bI im) nm a b = some (oI (own h t im nm a b)) := by
  unfold fX9_ownOf
  exact e9_own_L hr hn hw ht im nm a b 60 0 5000 rfl (by decide)
theorem e9_free_L (hr : RMm z h) : ∀ (n k f : Nat), k + n = 60 → n < f → fX9_freeMember_L2 z f (nI k) = some (oI (ff (fun m => (hB h m).isNone) n k))
  | n, k, 0, _, hf => by omega
  | 0, k, f + 1, hk, _ => by
    have : k = 60 := by omega
    subst this
    rw [fX9_freeMember_L2, if_pos (by decide)]; rfl
  | n + 1, k, f + 1, hk, hf => by
    have ih := e9_free_L hr n (k + 1) f (by omega) (by omega)
    have h60 : ¬ (60 : Int32) ≤ nI k := nI_ge (b := 60) (by omega) (by decide)
    rw [fX9_freeMember_L2, if_neg h60, rdI_nI (by omega) (by decide), Option.bind_some]
    have hm := hr k (by omega)
    unfold ff
    cases hb : hB h k with
    | none =>
      rw [hb] at hm
      have hm : aI z 6 k = 0 := hm
      rw [hm, if_pos rfl]; simp [oI]
    | some r =>
      rw [hb] at hm
      rw [hm.1, if_neg (by decide), nI_1]; simpa using ih
theorem e9_free (hr : RMm z h) : fX9_freeMember z = some (oI (free h)) := by
  unfold fX9_freeMember
  exact e9_free_L hr 60 0 5000 rfl (by decide)
theorem e9_fMarks (x : Int32) (b : Bool) : fX9_areFieldMarks z x (bI b) = some (bI (isN x 8 && (!b || !decide (x &&& 1 = 0)))) := by
  unfold fX9_areFieldMarks
  have e0 : fX9_in z x.toInt64 0 7 = some (bI (isN x 8)) := in_isN z x 7 8 rfl
  rw [e0, Option.bind_some]
  cases isN x 8 <;> cases b <;> simp [bI] <;> split <;> simp_all
theorem e9_par (hr : RMt z h) (hn : hN h ≤ 12) (a b : Int32) : fX9_areParameters z a b = some (bI (prB h a b)) := by
  unfold fX9_areParameters fX9_areParameters_L14 fX9_areParameters_L28
  simp only [e9_isType hr hn, Option.bind_some, prB]
  by_cases ha : a = -2
  · subst ha
    by_cases hb : b = -2
    · subst hb; simp [bI]
    · simp only [if_neg hb, if_true, hb]
      cases isN b (hN h) <;> simp [bI]
  · simp only [if_neg ha]
    by_cases hb : b = -2
    · subst hb; cases isN a (hN h) <;> simp [bI]
    · simp only [if_neg hb, hb]
      cases isN a (hN h) <;> cases isN b (hN h) <;> simp [bI]
end Ref
