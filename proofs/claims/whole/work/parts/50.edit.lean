/-! ===== EDITS: whether one is refused ===== -/
/-- 0, or BAD -/
def bN (x : Bool) : Int32 := if x = true then 0 else -1
def rfM (h : HA) (w a b : Int32) : Bool := heB h a && (match hB h (cl a) with
  | none => false
  | some r => if w = 8 then (if rM r = true then isN b 9 else isN b 8 && (!hF h (rT r) || !decide (b &&& 1 = 0)))
    else if w = 10 then !rM r && isN b 8
    else if w = 11 then isN b (hN h) && (!decide (b = nI (rT r)) && ((own h (cl b) (rM r) (rN r) (rA r) (rB r)).isNone && (rM r || (!hF h (cl b) || !decide (rK r &&& 1 = 0)))))
    else true)
def bY (x : Bool) (y : Int32) : Int32 := if x = true then y else -1
def rfs (h : HA) (w a b c d e : Int32) : Int32 :=
  if w = 0 then bY ((decide (b = -2) || (decide (a = 0) && clB h b)) && isN c 4) (if hN h = 12 then -3 else 0)
  else if w = 1 then bY (clB h a && (decide (b = -2) || clB h b)) (if b = -2 then 0 else if bel h (cl b) (cl a) = true then -4 else 0)
  else if w = 2 then bY (isN a (hN h) && (faB h b && (!decide ((hL h (cl a)).length = 3) && !decide (cl b ∈ hL h (cl a))))) (if bel h (cl b) (cl a) = true then -4 else 0)
  else if w = 3 then bY (isN a (hN h) && isN b (hL h (cl a)).length) 0
  else if w = 4 then bY (isN a (hN h) && isN b 4) 0
  else if w = 5 then bY (isN a (hN h) && (isN b 10 && (isN c 8 && ((isN d 8 && (!hF h (cl a) || !decide (d &&& 1 = 0))) && (own h (cl a) false b (-2) (-2)).isNone)))) (if free h = none then -3 else 0)
  else if w = 6 then bY (isN a (hN h) && (isN b 10 && (prB h c d && (isN e 9 && (own h (cl a) true b c d).isNone)))) (if free h = none then -3 else 0)
  else bN (rfM h w a b)
theorem e9_refusalM {z : ST} {h : HA} (hr : RMt z h) (hm : RMm z h) (hw : WF h) (w a b : Int32) : fX9_refusalOfMember z w a b = some (bN (rfM h w a b)) := by
  have hn := hw.1
  rw [fX9_refusalOfMember, e9_isHere hm, Option.bind_some]
  unfold rfM
  cases c0 : heB h a with
  | false => rw [if_pos bI_f]; rfl
  | true =>
    have c0' := c0
    unfold heB at c0'
    rw [Bool.and_eq_true] at c0'
    obtain ⟨m, m60, rfl⟩ := isN_true c0'.1 (by decide)
    rw [cl_nI (by omega)] at c0' ⊢
    cases er : hB h m with
    | none => rw [er] at c0'; exact absurd c0'.2 (by decide)
    | some r =>
      obtain ⟨-, a7, a8, -, a10, -⟩ := RMm_at hm m60 er
      have hT := WF_own hw m r er
      rw [if_neg (by decide), Bool.true_and]
      dsimp only
      by_cases w8 : w = 8
      · rw [if_pos w8, if_pos w8, rdI_nI m60 (by decide), Option.bind_some, a7]
        cases c1 : rM r with
        | false =>
          rw [if_pos bI_f, rdI_nI m60 (by decide), Option.bind_some, a8, rdI_nI (by omega) (by decide), Option.bind_some, (hr.2 _ hT).1, e9_fMarks, Option.bind_some, if_neg Bool.false_ne_true]
          cases (isN b 8 && (!hF h (rT r) || !decide (b &&& 1 = 0))) <;> rfl
        | true =>
          rw [if_neg (by decide), e9_mMarks, Option.bind_some, if_pos rfl]
          cases isN b 9 <;> rfl
      · rw [if_neg w8, if_neg w8]
        by_cases w9' : w = 9
        · subst w9'
          rw [if_pos rfl, if_neg (by decide), if_neg (by decide)]; rfl
        · rw [if_neg w9']
          by_cases w10 : w = 10
          · rw [if_pos w10, if_pos w10, rdI_nI m60 (by decide), Option.bind_some, a7]
            cases c1 : rM r with
            | true => rw [if_neg (by decide)]; rfl
            | false =>
              have e7 : fX9_in z b.toInt64 0 7 = some (bI (isN b 8)) := in_isN z b 7 8 (by decide)
              rw [if_pos bI_f, e7, Option.bind_some]
              cases isN b 8 <;> rfl
          · rw [if_neg w10, if_neg w10]
            by_cases w11 : w = 11
            · rw [if_pos w11, if_pos w11, e9_isType hr hn, Option.bind_some]
              cases c2 : isN b (hN h) with
              | false => rw [if_pos bI_f]; rfl
              | true =>
                obtain ⟨j, hj, rfl⟩ := isN_true c2 (by omega)
                rw [if_neg (by decide), rdI_nI m60 (by decide), Option.bind_some, a8, cl_nI (by omega)]
                by_cases c3 : nI j = nI (rT r)
                · rw [if_pos c3]; simp [bN, c3]
                · rw [if_neg c3, e9_likeIn hm hw hj er, Option.bind_some]
                  cases eo : own h j (rM r) (rN r) (rA r) (rB r) with
                  | some m' =>
                    have := (own_some eo).1
                    rw [if_neg (oI_ne (by omega))]; simp [bN]
                  | none =>
                    rw [if_pos oI_none, rdI_nI m60 (by decide), Option.bind_some, a7]
                    cases c1 : rM r with
                    | true => rw [if_neg (by decide)]; simp [bN, c3]
                    | false =>
                      rw [if_pos bI_f, rdI_nI (by omega) (by decide), Option.bind_some, (hr.2 j hj).1]
                      cases c4 : hF h j with
                      | false => rw [if_pos bI_f]; simp [bN, c3]
                      | true =>
                        rw [if_neg (by decide), rdI_nI m60 (by decide), Option.bind_some, a10]
                        by_cases c5 : rK r &&& 1 = 0
                        · rw [if_pos c5]; simp [bN, c5]
                        · rw [if_neg c5]; simp [bN, c3, c5]
            · rw [if_neg w11, if_neg w11]; rfl
