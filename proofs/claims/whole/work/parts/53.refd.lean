/-! ===== whether an EDIT of a MEMBER is refused: the class ===== -/
theorem rfs_7 (h : HA) (a b c d e : Int32) : rfs h 7 a b c d e = bN (rfM h 7 a b) := rfl
theorem rfs_8 (h : HA) (a b c d e : Int32) : rfs h 8 a b c d e = bN (rfM h 8 a b) := rfl
theorem rfs_9 (h : HA) (a b c d e : Int32) : rfs h 9 a b c d e = bN (rfM h 9 a b) := rfl
theorem rfs_10 (h : HA) (a b c d e : Int32) : rfs h 10 a b c d e = bN (rfM h 10 a b) := rfl
theorem rfs_11 (h : HA) (a b c d e : Int32) : rfs h 11 a b c d e = bN (rfM h 11 a b) := rfl
theorem heB_some {h : HA} {a : Int32} (e : heB h a = true) : ∃ m r, m < 60 ∧ a = nI m ∧ hB h m = some r := by
  unfold heB at e
  rw [Bool.and_eq_true] at e
  obtain ⟨m, m60, rfl⟩ := isN_true e.1 (by decide)
  rw [cl_nI (by omega)] at e
  obtain ⟨r, er⟩ := Option.isSome_iff_exists.mp e.2
  exact ⟨m, r, m60, rfl, er⟩
theorem rfM_no {h : HA} {w a b : Int32} (e : heB h a = false) : rfM h w a b = false := by unfold rfM; rw [e]; rfl
theorem rfM_yes {h : HA} {w b : Int32} {m : Nat} {r : MR} (m60 : m < 60) (er : hB h m = some r) : rfM h w (nI m) b = if w = 8 then (if rM r = true then isN b 9 else isN b 8 && (!hF h (rT r) || !decide (b &&& 1 = 0))) else if w = 10 then !rM r && isN b 8 else if w = 11 then isN b (hN h) && (!decide (b = nI (rT r)) && ((own h (cl b) (rM r) (rN r) (rA r) (rB r)).isNone && (rM r || (!hF h (cl b) || !decide (rK r &&& 1 = 0))))) else true := by
  unfold rfM; rw [heB_nI m60 er, cl_nI (by omega), er]; rfl
theorem e8_drop {u : ST} {h : HA} (hm : RCm u h) (hw : WF h) (a : Int32) : fX8_drop u a = CR u (rfs h 7 a 0 0 0 0) (CE u 7 a 0 0 0 0 0) := by
  rw [fX8_drop, e6_isMember hm hw.1 (WF_own hw), Option.bind_some, rfs_7]
  cases c0 : heB h a with
  | false => rw [if_pos bI_f, rfM_no c0]; rfl
  | true =>
    obtain ⟨m, r, m60, rfl, er⟩ := heB_some c0
    rw [if_neg (by decide : ¬ bI true = 0), rfM_yes m60 er]; rfl
theorem e8_set {u : ST} {h : HA} (hm : RCm u h) (hw : WF h) (a : Int32) (v : Int64) : fX8_set u a v = CR u (rfs h 9 a 0 0 0 0) (CE u 9 a 0 0 0 0 v) := by
  rw [fX8_set, e6_isMember hm hw.1 (WF_own hw), Option.bind_some, rfs_9]
  cases c0 : heB h a with
  | false => rw [if_pos bI_f, rfM_no c0]; rfl
  | true =>
    obtain ⟨m, r, m60, rfl, er⟩ := heB_some c0
    rw [if_neg (by decide : ¬ bI true = 0), rfM_yes m60 er]; rfl
theorem fiB_he {h : HA} {a : Int32} (e : heB h a = false) : fiB h a = false := by
  unfold heB at e; unfold fiB
  cases c : isN a 60 with
  | false => rfl
  | true =>
    rw [c, Bool.true_and] at e
    cases d : hB h (cl a) with
    | none => rfl
    | some r => rw [d] at e; cases e
theorem e8_retype {u : ST} {h : HA} (hm : RCm u h) (hw : WF h) (a b : Int32) (v : Int64) : fX8_retype u a b v = CR u (rfs h 10 a b 0 0 0) (CE u 10 a b 0 0 0 v) := by
  rw [fX8_retype, e6_isField hm hw.1 (WF_own hw), Option.bind_some, rfs_10]
  cases c0 : heB h a with
  | false => rw [fiB_he c0, if_pos bI_f, rfM_no c0]; rfl
  | true =>
    obtain ⟨m, r, m60, rfl, er⟩ := heB_some c0
    rw [fiB_nI m60 er, rfM_yes m60 er, if_neg (by decide : ¬ (10 : Int32) = 8), if_pos rfl]
    cases rM r with
    | true => rfl
    | false =>
      rw [if_neg (by decide : ¬ (bI !false) = 0), e3_isKind, Option.bind_some]
      cases isN b 8 <;> rfl
