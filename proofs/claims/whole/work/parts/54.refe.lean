/-! ===== a FIELD, a METHOD, MARKS, a move: the class ===== -/
theorem cnt_le (h : HA) : ∀ k, cnt h k ≤ k
  | 0 => Nat.le_refl _
  | k + 1 => by
    have := cnt_le h k
    rw [cnt]
    by_cases c : (hB h k).isSome = true
    · rw [if_pos c]; omega
    · rw [if_neg c]; omega
theorem cnt_all {h : HA} : ∀ k, (∀ j, j < k → (hB h j).isSome = true) → cnt h k = k
  | 0, _ => rfl
  | k + 1, q => by rw [cnt, if_pos (q k (Nat.lt_succ_self k)), cnt_all k (fun j hj => q j (by omega))]
theorem cnt_lt {h : HA} {j : Nat} (e : hB h j = none) : ∀ k, j < k → cnt h k < k
  | 0, q => absurd q (Nat.not_lt_zero j)
  | k + 1, q => by
    rw [cnt]
    by_cases c : j = k
    · subst c
      have := cnt_le h j
      rw [e, if_neg (by decide)]; omega
    · have := cnt_lt e k (by omega)
      by_cases d : (hB h k).isSome = true
      · rw [if_pos d]; omega
      · rw [if_neg d]; omega
theorem free_none {h : HA} (e : free h = none) : cnt h 60 = 60 := by
  refine cnt_all 60 (fun j hj => ?_)
  have := ff_none e j (Nat.zero_le _) (by omega)
  cases d : hB h j with
  | none => rw [d] at this; cases this
  | some _ => rfl
theorem free_some {h : HA} {m : Nat} (e : free h = some m) : m < 60 ∧ hB h m = none ∧ cnt h 60 < 60 := by
  obtain ⟨-, h2, h3, -⟩ := ff_some e
  have h4 : hB h m = none := by
    cases d : hB h m with
    | none => rfl
    | some _ => rw [d] at h3; cases h3
  exact ⟨by omega, h4, cnt_lt h4 60 (by omega)⟩
theorem e6_isFull {u : ST} {h : HA} (hm : RCm u h) : fX6_isFull u = some (bI (free h).isNone) := by
  rw [fX6_isFull, hm.1]
  cases e : free h with
  | none => rw [free_none e]; rfl
  | some m =>
    have := (free_some e).2.2
    have l : nI (cnt h 60) < 60 := nI_lt (b := 60) this (by decide)
    rw [if_pos l]; rfl
theorem clB_t {h : HA} (hn : hN h ≤ 12) {i : Nat} (hi : i < hN h) : clB h (nI i) = !hF h i := by
  unfold clB; rw [isN_nI (by omega), cl_nI (by omega)]; simp [hi]
theorem e8_field {u : ST} {h : HA} (hr : RCt u h) (hm : RCm u h) (hw : WF h) (a b c d : Int32) (v : Int64) : fX8_field u a b c d v = CR u (rfs h 5 a b c d 0) (CE u 5 a b c (-2) d v) := by
  have hn := hw.1
  rw [fX8_field, fX2_fieldMayCome, e7_isType hr hn, Option.bind_some, rfs_5]
  cases c0 : isN a (hN h) with
  | false => rw [if_pos bI_f]; rfl
  | true =>
    obtain ⟨i, hi, rfl⟩ := isN_true c0 (by omega)
    rw [if_neg (by decide : ¬ bI true = 0), e6_isName, Option.bind_some, cl_nI (by omega)]
    cases isN b 10 with
    | false => rw [if_pos bI_f]; rfl
    | true =>
      rw [if_neg (by decide : ¬ bI true = 0), e3_isKind, Option.bind_some]
      cases isN c 8 with
      | false => rw [if_pos bI_f]; rfl
      | true =>
        rw [if_neg (by decide : ¬ bI true = 0), e2_fMarks hr hn, Option.bind_some, clB_t hn hi]
        cases (isN d 8 && (!hF h i || !decide (d &&& 1 = 0))) with
        | false => rw [if_pos bI_f]; rfl
        | true =>
          rw [if_neg (by decide : ¬ bI true = 0), e6_fieldOf hm hn (WF_own hw) (by omega) b (-2) (-2), Option.bind_some]
          cases ew : own h i false b (-2) (-2) with
          | some m =>
            have := (own_some ew).1
            rw [if_neg (oI_ne (by omega)), Option.bind_some, if_pos rfl]; rfl
          | none =>
            rw [if_pos oI_none, Option.bind_some, if_neg (by decide), e6_isFull hm, Option.bind_some]
            cases free h with
            | none => rfl
            | some m => rfl
theorem e8_method {u : ST} {h : HA} (hr : RCt u h) (hm : RCm u h) (hw : WF h) (a b c d e x : Int32) : fX8_method u a b c d e x = CR u (rfs h 6 a b c d e) (CE u 6 a b c d e x.toInt64) := by
  have hn := hw.1
  rw [fX8_method, fX2_methodMayCome, e7_isType hr hn, Option.bind_some, rfs_6]
  cases c0 : isN a (hN h) with
  | false => rw [if_pos bI_f]; rfl
  | true =>
    obtain ⟨i, hi, rfl⟩ := isN_true c0 (by omega)
    rw [if_neg (by decide : ¬ bI true = 0), e6_isName, Option.bind_some, cl_nI (by omega)]
    cases isN b 10 with
    | false => rw [if_pos bI_f]; rfl
    | true =>
      rw [if_neg (by decide : ¬ bI true = 0), e7_par hr hn, Option.bind_some]
      cases prB h c d with
      | false => rw [if_pos bI_f]; rfl
      | true =>
        rw [if_neg (by decide : ¬ bI true = 0), e2_mMarks, Option.bind_some]
        cases isN e 9 with
        | false => rw [if_pos bI_f]; rfl
        | true =>
          rw [if_neg (by decide : ¬ bI true = 0), e6_methodOf hm hn (WF_own hw) (by omega), Option.bind_some]
          cases ew : own h i true b c d with
          | some m =>
            have := (own_some ew).1
            rw [if_neg (oI_ne (by omega)), Option.bind_some, if_pos rfl]; rfl
          | none =>
            rw [if_pos oI_none, Option.bind_some, if_neg (by decide), e6_isFull hm, Option.bind_some]
            cases free h with
            | none => rfl
            | some m => rfl
theorem e8_mark {u : ST} {h : HA} (hr : RCt u h) (hm : RCm u h) (hw : WF h) (a b : Int32) : fX8_mark u a b = CR u (rfs h 8 a b 0 0 0) (CE u 8 a b 0 0 0 0) := by
  have hn := hw.1
  rw [fX8_mark, fX2_mayBeMarked, e6_isMember hm hn (WF_own hw), Option.bind_some, rfs_8]
  cases c0 : heB h a with
  | false => rw [if_pos bI_f, rfM_no c0]; rfl
  | true =>
    obtain ⟨m, r, m60, rfl, er⟩ := heB_some c0
    have hT := WF_own hw m r er
    have a1 := (RCm_at hm m60 er).1
    rw [if_neg (by decide : ¬ bI true = 0), e6_isMethod hm hn (WF_own hw), Option.bind_some, meB_nI m60 er, rfM_yes m60 er, if_pos rfl]
    cases rM r with
    | true =>
      rw [if_neg (by decide : ¬ bI true = 0), e2_mMarks, Option.bind_some, ck_pos (bI_isB _), Option.bind_some]
      cases isN b 9 <;> rfl
    | false =>
      rw [if_pos bI_f, rdI_nI m60 (by decide), Option.bind_some, a1, e2_fMarks hr hn, Option.bind_some, ck_pos (bI_isB _), Option.bind_some, clB_t hn hT, if_neg Bool.false_ne_true]
      cases (isN b 8 && (!hF h (rT r) || !decide (b &&& 1 = 0))) <;> rfl
theorem e6_likeIn {u : ST} {h : HA} (hm : RCm u h) (hw : WF h) {t : Nat} (ht : t < hN h) {m : Nat} {r : MR} (m60 : m < 60) (er : hB h m = some r) : fX6_likeIn u (nI t) (nI m) = some (oI (own h t (rM r) (rN r) (rA r) (rB r))) := by
  have hn := hw.1
  obtain ⟨-, a2, a3, -, a5, a6, -⟩ := RCm_at hm m60 er
  rw [fX6_likeIn, e6_isMember hm hn (WF_own hw), Option.bind_some, heB_nI m60 er, if_neg (by decide : ¬ bI true = 0), rdI_nI m60 (by decide), Option.bind_some, a2]
  cases rM r with
  | false => rw [if_pos bI_f, rdI_nI m60 (by decide), Option.bind_some, a3, e6_fieldOf hm hn (WF_own hw) (by omega) _ (rA r) (rB r), Option.bind_some]
  | true => rw [if_neg (by decide : ¬ bI true = 0), rdI_nI m60 (by decide), Option.bind_some, rdI_nI m60 (by decide), Option.bind_some, rdI_nI m60 (by decide), Option.bind_some, a3, a5, a6, e6_methodOf hm hn (WF_own hw) (by omega), Option.bind_some]
theorem e8_move {u : ST} {h : HA} (hr : RCt u h) (hm : RCm u h) (hw : WF h) (a b : Int32) : fX8_move u a b = CR u (rfs h 11 a b 0 0 0) (CE u 11 a b 0 0 0 0) := by
  have hn := hw.1
  rw [fX8_move, fX2_mayMove, e6_isMember hm hn (WF_own hw), Option.bind_some, rfs_11]
  cases c0 : heB h a with
  | false => rw [if_pos bI_f, rfM_no c0]; rfl
  | true =>
    obtain ⟨m, r, m60, rfl, er⟩ := heB_some c0
    have hT := WF_own hw m r er
    have a4 := (RCm_at hm m60 er).2.2.2.1
    rw [if_neg (by decide : ¬ bI true = 0), e7_isType hr hn, Option.bind_some, rfM_yes m60 er, if_neg (by decide : ¬ (11 : Int32) = 8), if_neg (by decide : ¬ (11 : Int32) = 10), if_pos rfl]
    cases c1 : isN b (hN h) with
    | false => rw [if_pos bI_f]; rfl
    | true =>
      obtain ⟨j, hj, rfl⟩ := isN_true c1 (by omega)
      rw [if_neg (by decide : ¬ bI true = 0), e6_likeIn hm hw hj m60 er, Option.bind_some, cl_nI (by omega)]
      cases eo : own h j (rM r) (rN r) (rA r) (rB r) with
      | some m' =>
        have := (own_some eo).1
        rw [if_neg (oI_ne (by omega)), Option.bind_some, if_pos rfl]; simp [bN, CR]
      | none =>
        have nj : ¬ nI j = nI (rT r) := by
          intro e
          have e2 : j = rT r := nI_inj (by omega) (by omega) e
          have := own_of hw er (a := rA r) (b := rB r) (fun _ => ⟨rfl, rfl⟩)
          rw [← e2, eo] at this; cases this
        rw [if_pos oI_none, e6_isMethod hm hn (WF_own hw), Option.bind_some, meB_nI m60 er]
        cases erm : rM r with
        | true => rw [if_neg (by decide : ¬ bI true = 0)]; simp [bN, CR, CE, nj]
        | false =>
          obtain ⟨ok1, -⟩ := okR_f hw er erm
          rw [if_pos bI_f, rdI_nI m60 (by decide), Option.bind_some, a4, e2_fMarks hr hn, Option.bind_some, clB_t hn hj, ok1]
          cases c4 : (!hF h j || !decide (rK r &&& 1 = 0)) with
          | false => simp [bN, CR, bI]
          | true => simp [bN, CR, CE, bI, nj]
