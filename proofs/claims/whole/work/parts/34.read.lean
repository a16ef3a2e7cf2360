/-! ===== what is read off of one MEMBER ===== -/
theorem RMm_at {z : ST} {h : HA} (hm : RMm z h) {m : Nat} {r : MR} (hlt : m < 60) (e : hB h m = some r) : aI z 6 m = 1 ∧ aI z 7 m = bI (rM r) ∧ aI z 8 m = nI (rT r) ∧ aI z 9 m = rN r ∧ aI z 10 m = rK r ∧ (rM r = true → aI z 12 m = rA r) ∧ (rM r = false → aI z 11 m = rA r) ∧ aI z 13 m = rB r ∧ aL z 14 m = (if rM r = true then (rV r).toInt32.toInt64 else kp (rA r) (rV r)) := by
  have := hm m hlt
  rw [e] at this
  obtain ⟨a1, a2, a3, a4, a5, a6, a7, a8⟩ := this
  refine ⟨a1, a2, a3, a4, a5, fun c => ?_, fun c => ?_, a7, a8⟩
  · rw [if_pos c] at a6; exact a6
  · rw [if_neg (by rw [c]; decide)] at a6; exact a6
theorem RMm_no {z : ST} {h : HA} (hm : RMm z h) {m : Nat} (hlt : m < 60) (e : hB h m = none) : aI z 6 m = 0 := by
  have := hm m hlt; rw [e] at this; exact this
theorem RCm_at {u : ST} {h : HA} (hm : RCm u h) {m : Nat} {r : MR} (hlt : m < 60) (e : hB h m = some r) : aI u 15 m = nI (rT r) ∧ aI u 16 m = bI (rM r) ∧ aI u 17 m = rN r ∧ aI u 18 m = rK r ∧ aI u 19 m = rA r ∧ aI u 20 m = rB r ∧ aL u 21 m = (if rM r = true then (rV r).toInt32.toInt64 else co (rA r) (rV r)) := by
  have := hm.2 m hlt; rw [e] at this; exact this
theorem RCm_no {u : ST} {h : HA} (hm : RCm u h) {m : Nat} (hlt : m < 60) (e : hB h m = none) : aI u 15 m = -2 := by
  have := hm.2 m hlt; rw [e] at this; exact this
theorem WF_60 {h : HA} (hw : WF h) {m : Nat} {r : MR} (e : hB h m = some r) : m < 60 := by
  rcases Nat.lt_or_ge m 60 with h1 | h1
  · exact h1
  · rw [hw.2.2.2.2.2.1 m h1] at e; cases e
theorem own_of {h : HA} (hw : WF h) {m : Nat} {r : MR} {a b : Int32} (e : hB h m = some r) (hab : rM r = true → rA r = a ∧ rB r = b) : own h (rT r) (rM r) (rN r) a b = some m := by
  have hlt := WF_60 hw e
  cases e1 : own h (rT r) (rM r) (rN r) a b with
  | none =>
    have h1 := ff_none e1 m (Nat.zero_le _) (by omega)
    unfold isOwn at h1
    rw [e] at h1
    dsimp only at h1
    cases c : rM r with
    | false => rw [c] at h1; simp at h1
    | true =>
      obtain ⟨x, y⟩ := hab c
      rw [c] at h1; simp [x, y] at h1
  | some m' =>
    obtain ⟨-, r', e2, t1, t2, t3, t4⟩ := own_some e1
    refine congrArg some (hw.2.2.2.2.2.2.2 m' m r' r e2 e t1 ⟨t2, t3, fun c => ?_⟩)
    have c2 : rM r = true := t2 ▸ c
    obtain ⟨x, y⟩ := hab c2
    obtain ⟨x', y'⟩ := t4 c2
    exact ⟨x'.trans x.symm, y'.trans y.symm⟩
theorem e9_likeIn {z : ST} {h : HA} (hm : RMm z h) (hw : WF h) {t : Nat} (ht : t < hN h) {m : Nat} {r : MR} (e : hB h m = some r) : fX9_likeIn z (nI t) (nI m) = some (oI (own h t (rM r) (rN r) (rA r) (rB r))) := by
  have hn := hw.1
  have hlt := WF_60 hw e
  obtain ⟨a1, a2, a3, a4, a5, a6, a7, a8, a9⟩ := RMm_at hm hlt e
  rw [fX9_likeIn, rdI_nI hlt (by decide), Option.bind_some, rdI_nI hlt (by decide), Option.bind_some, rdI_nI hlt (by decide), Option.bind_some, rdI_nI hlt (by decide), Option.bind_some, a2, a4, a8, e9_own hm hn (WF_own hw) (by omega), Option.bind_some]
  cases c : rM r with
  | true => rw [a6 c]
  | false =>
    congr 2
/-! ===== READING ===== -/
def pab (h : HA) (c x : Nat) : Bool := bel h c x && (!hF h x && !decide (x = c))
def opR (r : MR) : Bool := rM r && decide (rK r &&& 5 = 0)
/-- the METHOD m of c is like a final one of what is above -/
def brP (h : HA) (c : Nat) : Prop := ∃ m r m' r', hB h m = some r ∧ rT r = c ∧ opR r = true ∧ hB h m' = some r' ∧ opR r' = true ∧ rK r' &&& 2 ≠ 0 ∧ pab h c (rT r') = true ∧ rN r = rN r' ∧ rA r = rA r' ∧ rB r = rB r'
def brC (h : HA) (c m : Nat) : Bool := match hB h m with
  | none => false
  | some r => !decide (rK r &&& 2 = 0) && (opR r && (pab h c (rT r) && opB h (oI (own h c true (rN r) (rA r) (rB r)))))
theorem ff_isSome {P : Nat → Bool} {n : Nat} : (ff P n 0).isSome = true ↔ ∃ m, m < n ∧ P m = true := by
  constructor
  · intro h
    obtain ⟨m, e⟩ := Option.isSome_iff_exists.mp h
    obtain ⟨-, h2, h3, -⟩ := ff_some e
    exact ⟨m, by omega, h3⟩
  · rintro ⟨m, hm, hp⟩
    cases e : ff P n 0 with
    | some _ => rfl
    | none => have := ff_none e m (Nat.zero_le _) (by omega); rw [hp] at this; cases this
theorem opR_some {r : MR} (h : opR r = true) : rM r = true ∧ rK r &&& 5 = 0 := by
  unfold opR at h
  rw [Bool.and_eq_true, decide_eq_true_eq] at h; exact h
theorem opB_opR {h : HA} {m : Nat} {r : MR} (hlt : m < 60) (e : hB h m = some r) : opB h (nI m) = opR r := opB_nI hlt e
theorem brC_iff {h : HA} (hw : WF h) (c : Nat) : (ff (brC h c) 60 0).isSome = true ↔ brP h c := by
  rw [ff_isSome]
  constructor
  · rintro ⟨m', -, hp⟩
    unfold brC at hp
    cases e : hB h m' with
    | none => rw [e] at hp; cases hp
    | some r' =>
      rw [e] at hp
      dsimp only at hp
      rw [Bool.and_eq_true, Bool.and_eq_true, Bool.and_eq_true] at hp
      obtain ⟨p1, p2, p3, p4⟩ := hp
      cases eo : own h c true (rN r') (rA r') (rB r') with
      | none => rw [eo, oI_none, opB_m2] at p4; cases p4
      | some m =>
        obtain ⟨h60, r, er, t1, t2, t3, t4⟩ := own_some eo
        rw [eo, oI_some, opB_opR h60 er] at p4
        obtain ⟨x, y⟩ := t4 rfl
        exact ⟨m, r, m', r', er, t1, p4, e, p2, by simpa using p1, p3, t3, x, y⟩
  · rintro ⟨m, r, m', r', e, ec, o1, e', o2, f2, p, x1, x2, x3⟩
    refine ⟨m', WF_60 hw e', ?_⟩
    have eo : own h c true (rN r') (rA r') (rB r') = some m := by
      have := own_of hw e (a := rA r') (b := rB r') (fun _ => ⟨x2, x3⟩)
      rw [(opR_some o1).1, ec, x1] at this
      exact this
    unfold brC
    rw [e']
    dsimp only
    rw [eo, oI_some, opB_opR (WF_60 hw e) e, o1, o2, p]
    simp [f2]
theorem e7_classesAbove {u : ST} {h : HA} (hr : RCt u h) (ho : RCo u h) (hn : hN h ≤ 12) {c : Nat} (hc : c < hN h) : ∃ V, fX7_classesAbove u (nI c) = some V ∧ ∀ i, i < 32 → bt V i = (decide (i < hN h) && pab h c i) := by
  refine ⟨_, by rw [fX7_classesAbove, hr.1, if_neg (nI_pos (by omega)), if_neg (nI_ge hc (by omega)), rdI_nI (by omega) (by decide), Option.bind_some], fun i hi => ?_⟩
  rw [b_and, b_and, b_xor, b_bit (by omega) hi, b_m1 i hi, ho.1 c hc i hi, ho.2 i hi]
  unfold pab
  cases decide (i < hN h) <;> cases bel h c i <;> cases hF h i <;> cases decide (i = c) <;> rfl
theorem e2_isBroken_L {u : ST} {h : HA} (hm : RCm u h) (hw : WF h) {c : Nat} (hc : c < hN h) {V : Int32} (hV : ∀ i, i < 32 → bt V i = (decide (i < hN h) && pab h c i)) : ∀ (n k f : Nat), k + n = 60 → n < f → fX2_isBroken_L17 u f (nI c) V (nI k) = some (bI (ff (brC h c) n k).isSome)
  | 0, k, f, hk, hf => by
    obtain ⟨f, rfl⟩ : ∃ j, f = j + 1 := ⟨f - 1, by omega⟩
    have c60 : (60 : Int32) ≤ nI k := nI_le (a := 60) (by omega) (by omega)
    rw [fX2_isBroken_L17, if_pos c60]; rfl
  | n + 1, k, f, hk, hf => by
    have hn := hw.1
    obtain ⟨f, rfl⟩ : ∃ j, f = j + 1 := ⟨f - 1, by omega⟩
    have c60 : ¬ (60 : Int32) ≤ nI k := nI_ge (b := 60) (by omega) (by decide)
    have ih := e2_isBroken_L hm hw hc hV n (k + 1) f (by omega) (by omega)
    have skip : brC h c k = false → fX2_isBroken_L92 u (fX2_isBroken_L17 u f) (nI c) V (nI k) = some (bI (ff (brC h c) (n + 1) k).isSome) := by
      intro e
      rw [fX2_isBroken_L92, nI_1, ih, ff, if_neg (by rw [e]; decide)]
    rw [fX2_isBroken_L17, if_neg c60, e6_has hm hn (WF_own hw), Option.bind_some]
    cases e : hB h k with
    | none =>
      have e1 : haB h (nI k) 2 = false := by unfold haB; rw [cl_nI (by omega), e]; simp
      rw [e1, if_pos bI_f]
      exact skip (by unfold brC; rw [e])
    | some r =>
      have k60 : k < 60 := by omega
      obtain ⟨a1, a2, a3, a4, a5, a6, -⟩ := RCm_at hm k60 e
      have hT := WF_own hw k r e
      rw [haB_nI k60 e]
      cases c1 : decide (rK r &&& 2 = 0) with
      | true =>
        rw [if_pos (by decide : (bI !true) = 0)]
        exact skip (by unfold brC; rw [e]; dsimp only; rw [c1]; rfl)
      | false =>
        rw [if_neg (by decide), e6_isOpen hm hn (WF_own hw), Option.bind_some, opB_opR k60 e]
        cases c2 : opR r with
        | false =>
          rw [if_pos bI_f]
          exact skip (by unfold brC; rw [e]; dsimp only; rw [c2]; simp)
        | true =>
          rw [if_neg (by decide), rdI_nI k60 (by decide), Option.bind_some, a1]
          cases c3 : pab h c (rT r) with
          | false =>
            rw [if_pos ((tst0 V (by omega)).mpr (by rw [hV _ (by omega), c3]; simp))]
            exact skip (by unfold brC; rw [e]; dsimp only; rw [c3]; simp)
          | true =>
            have c4 : ¬ (V >>> (nI (rT r) &&& 31)) &&& 1 = 0 := by rw [tst0 V (by omega), hV _ (by omega), c3]; simp [hT]
            rw [if_neg c4, rdI_nI k60 (by decide), Option.bind_some, rdI_nI k60 (by decide), Option.bind_some, rdI_nI k60 (by decide), Option.bind_some, a3, a5, a6, e6_methodOf hm hn (WF_own hw) (by omega), Option.bind_some, e6_isOpen hm hn (WF_own hw), Option.bind_some]
            have eb : brC h c k = opB h (oI (own h c true (rN r) (rA r) (rB r))) := by unfold brC; rw [e]; dsimp only; rw [c1, c2, c3]; simp
            cases c5 : opB h (oI (own h c true (rN r) (rA r) (rB r))) with
            | false => rw [if_pos bI_f]; exact skip (eb.trans c5)
            | true => rw [if_neg (by decide), ff, if_pos (eb.trans c5)]; rfl
/-- two ways to say it -/
def brB (h : HA) (c : Nat) : Bool := (ff (brC h c) 60 0).isSome
theorem e2_isBroken {u : ST} {h : HA} (hr : RCt u h) (hm : RCm u h) (ho : RCo u h) (hw : WF h) {c : Nat} (hc : c < hN h) : fX2_isBroken u (nI c) = some (bI (brB h c)) := by
  obtain ⟨V, e, hV⟩ := e7_classesAbove hr ho hw.1 hc
  rw [fX2_isBroken, e, Option.bind_some]
  exact e2_isBroken_L hm hw hc hV 60 0 5000 (by omega) (by omega)
def fl (h : HA) (c a : Nat) : Int32 := if hM h a &&& 2 = 0 then (if brB h c = true then 2 else 0) else 1
def rdf (h : HA) : List Nat → Int32
  | [] => 0
  | [_] => 0
  | c :: a :: l => if rdf h (a :: l) = 0 then fl h c a else rdf h (a :: l)
theorem e2_reading_L {u : ST} {h : HA} (hr : RCt u h) (hm : RCm u h) (ho : RCo u h) (hw : WF h) : ∀ c, c < hN h → ∀ (x : Int32) (k f : Nat), k + (chn h c).length ≤ 12 → (chn h c).length < f → fX2_failureOfReading_L17 u f x (nI c) (oI (hA h c)) (nI k) = some (if rdf h (chn h c) = 0 then x else rdf h (chn h c)) := by
  have hn := hw.1
  refine bel_ind hw (fun c => ∀ (x : Int32) (k f : Nat), k + (chn h c).length ≤ 12 → (chn h c).length < f → fX2_failureOfReading_L17 u f x (nI c) (oI (hA h c)) (nI k) = some (if rdf h (chn h c) = 0 then x else rdf h (chn h c))) (fun c hc ih x k f hk hf => ?_)
  obtain ⟨f, rfl⟩ : ∃ j, f = j + 1 := ⟨f - 1, by omega⟩
  rw [chn_fix hw hc] at hk hf ⊢
  rw [List.length_cons] at hk hf
  have c12 : ¬ (12 : Int32) ≤ nI k := nI_ge (b := 12) (by omega) (by decide)
  rw [fX2_failureOfReading_L17, if_neg c12]
  cases ha : hA h c with
  | none => rw [if_pos oI_none]; simp [rdf]
  | some a =>
    rw [ha] at hk hf
    dsimp only at hk hf
    have hs : a ∈ suc h c := List.mem_append_left _ (by rw [ha]; simp)
    have hal := suc_lt hw hc hs
    have it : isN (nI a) (hN h) = true := by rw [isN_nI (by omega)]; simpa using hal
    have ef : fnB h (nI a) = !decide (hM h a &&& 2 = 0) := by unfold fnB; rw [it, cl_nI (by omega), Bool.true_and]
    have ea : abI h (nI a) = oI (hA h a) := by unfold abI; rw [it, if_pos rfl, cl_nI (by omega)]
    have go : ∀ y : Int32, fX2_failureOfReading_L58 u (fX2_failureOfReading_L17 u f) y (nI a) (nI k) = some (if rdf h (chn h a) = 0 then y else rdf h (chn h a)) := by
      intro y
      rw [fX2_failureOfReading_L58, e7_above hr hn, Option.bind_some, ea, nI_1]
      exact ih a hs y (k + 1) f (by omega) (by omega)
    have er : rdf h (c :: chn h a) = if rdf h (chn h a) = 0 then fl h c a else rdf h (chn h a) := by
      rw [chn_fix hw hal]; rfl
    rw [if_neg (oI_ne (by omega)), oI_some, e7_isFinal hr hn, Option.bind_some, ef]
    dsimp only
    rw [er]
    unfold fl
    by_cases c1 : hM h a &&& 2 = 0
    · rw [if_pos (by rw [c1]; rfl), e2_isBroken hr hm ho hw hc, Option.bind_some]
      cases c2 : brB h c with
      | false =>
        rw [if_pos bI_f, go]
        by_cases c3 : rdf h (chn h a) = 0
        · simp [c3, c1]
        · simp [c3]
      | true =>
        rw [if_neg (by decide), go]
        by_cases c3 : rdf h (chn h a) = 0
        · simp [c3, c1]
        · simp [c3]
    · rw [if_neg (by simp [c1, bI]), go]
      by_cases c3 : rdf h (chn h a) = 0
      · simp [c3, c1]
      · simp [c3]
theorem e2_reading {u : ST} {h : HA} (hr : RCt u h) (hm : RCm u h) (ho : RCo u h) (hw : WF h) {t : Nat} (ht : t < hN h) : fX2_failureOfReading u (nI t) = some (rdf h (chn h t)) := by
  have hn := hw.1
  have hc := chn_12 hw ht
  have it : isN (nI t) (hN h) = true := by rw [isN_nI (by omega)]; simpa using ht
  have ea : abI h (nI t) = oI (hA h t) := by unfold abI; rw [it, if_pos rfl, cl_nI (by omega)]
  have e : fX2_failureOfReading_L17 u 5000 0 (nI t) (oI (hA h t)) 0 = _ := e2_reading_L hr hm ho hw t ht 0 0 5000 (by omega) (by omega)
  rw [fX2_failureOfReading, e7_above hr hn, Option.bind_some, ea, e]
  by_cases c : rdf h (chn h t) = 0
  · rw [if_pos c, c]
  · rw [if_neg c]
