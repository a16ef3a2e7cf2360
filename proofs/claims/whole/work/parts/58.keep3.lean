/-! ===== the rules of a house are kept: drop, MARKS, values, KINDS, moves ===== -/
theorem rfM_in {h : HA} {w a b : Int32} (e : rfM h w a b = true) : ∃ m r, m < 60 ∧ a = nI m ∧ hB h m = some r := by
  refine heB_some ?_
  unfold rfM at e
  rw [Bool.and_eq_true] at e
  exact e.1
theorem keep_4 {h : HA} (hw : WF h) {a b c d e : Int32} {v : Int64} (hf : rfs h 4 a b c d e = 0) : WF (app h 4 a b c d e v) := by
  rw [rfs_4] at hf
  have h1 := (bY_0 hf).1
  rw [Bool.and_eq_true] at h1
  exact WF_M hw h1.2
theorem keep_7 {h : HA} (hw : WF h) {a b c d e : Int32} {v : Int64} (hf : rfs h 7 a b c d e = 0) : WF (app h 7 a b c d e v) := by
  rw [rfs_7] at hf
  obtain ⟨m, r, m60, rfl, er⟩ := rfM_in (bN_0 hf)
  show WF (hN h, hF h, hA h, hM h, hL h, va_up (hB h) (cl (nI m)) none)
  rw [cl_nI (by omega)]
  exact WF_B hw m60 (fun r er => by cases er)
/-- the same but for MARKS, KIND, value -/
theorem like_same {h : HA} (hw : WF h) {m : Nat} {r r' : MR} (er : hB h m = some r) (e1 : rM r' = rM r) (e2 : rT r' = rT r) (e3 : rN r' = rN r) (e4 : rM r = true → rA r' = rA r ∧ rB r' = rB r) : ∀ q s, q ≠ m → hB h q = some s → rT r' = rT s → ¬ like r' s := by
  intro q s hq es et hl
  refine hq (hw.2.2.2.2.2.2.2 q m s r es er (et.symm.trans e2) (like_symm ⟨e1.symm.trans hl.1, e3.symm.trans hl.2.1, fun c => ?_⟩))
  obtain ⟨x, y⟩ := e4 c
  obtain ⟨x', y'⟩ := hl.2.2 (e1.trans c)
  exact ⟨x.symm.trans x', y.symm.trans y'⟩
theorem keep_9 {h : HA} (hw : WF h) {a b c d e : Int32} {v : Int64} (hf : rfs h 9 a b c d e = 0) : WF (app h 9 a b c d e v) := by
  rw [rfs_9] at hf
  obtain ⟨m, r, m60, rfl, er⟩ := rfM_in (bN_0 hf)
  show WF (hN h, hF h, hA h, hM h, hL h, va_up (hB h) (cl (nI m)) ((hB h (cl (nI m))).map (fun r => (rM r, rT r, rN r, rK r, rA r, rB r, v))))
  rw [cl_nI (by omega), er]
  refine WF_B hw m60 (fun r' er' => ?_)
  injection er' with er'
  subst er'
  exact ⟨hw.2.2.2.2.2.2.1 m r er, like_same hw er rfl rfl rfl (fun _ => ⟨rfl, rfl⟩)⟩
theorem keep_8 {h : HA} (hw : WF h) {a b c d e : Int32} {v : Int64} (hf : rfs h 8 a b c d e = 0) : WF (app h 8 a b c d e v) := by
  rw [rfs_8] at hf
  have hf1 := bN_0 hf
  obtain ⟨m, r, m60, rfl, er⟩ := rfM_in hf1
  rw [rfM_yes m60 er, if_pos rfl] at hf1
  show WF (hN h, hF h, hA h, hM h, hL h, va_up (hB h) (cl (nI m)) ((hB h (cl (nI m))).map (fun r => (rM r, rT r, rN r, b, rA r, rB r, rV r))))
  rw [cl_nI (by omega), er]
  refine WF_B hw m60 (fun r' er' => ?_)
  injection er' with er'
  subst er'
  obtain ⟨o1, o2, o3, o4⟩ := hw.2.2.2.2.2.2.1 m r er
  refine ⟨⟨o1, o2, fun k => ⟨?_, (o3 k).2⟩, fun k => ⟨?_, (o4 k).2.1, (o4 k).2.2.1, fun x => ?_⟩⟩, like_same hw er rfl rfl rfl (fun _ => ⟨rfl, rfl⟩)⟩
  · have k' : rM r = true := k
    rw [if_pos k'] at hf1; exact hf1
  · have k' : rM r = false := k
    rw [if_neg (by rw [k']; decide), Bool.and_eq_true] at hf1; exact hf1.1
  · have k' : rM r = false := k
    have x' : hF h (rT r) = true := x
    rw [if_neg (by rw [k']; decide), Bool.and_eq_true, x'] at hf1
    show b &&& 1 ≠ 0
    simpa using hf1.2
theorem keep_10 {h : HA} (hw : WF h) {a b c d e : Int32} {v : Int64} (hf : rfs h 10 a b c d e = 0) : WF (app h 10 a b c d e v) := by
  rw [rfs_10] at hf
  have hf1 := bN_0 hf
  obtain ⟨m, r, m60, rfl, er⟩ := rfM_in hf1
  rw [rfM_yes m60 er, if_neg (by decide), if_pos rfl, Bool.and_eq_true] at hf1
  have k' : rM r = false := by simpa using hf1.1
  show WF (hN h, hF h, hA h, hM h, hL h, va_up (hB h) (cl (nI m)) ((hB h (cl (nI m))).map (fun r => (rM r, rT r, rN r, rK r, b, rB r, v))))
  rw [cl_nI (by omega), er]
  refine WF_B hw m60 (fun r' er' => ?_)
  injection er' with er'
  subst er'
  obtain ⟨o1, o2, o3, o4⟩ := hw.2.2.2.2.2.2.1 m r er
  exact ⟨⟨o1, o2, fun k => absurd (k'.symm.trans k) Bool.false_ne_true, fun _ => ⟨(o4 k').1, hf1.2, (o4 k').2.2.1, (o4 k').2.2.2⟩⟩, like_same hw er rfl rfl rfl (fun k => absurd (k'.symm.trans k) Bool.false_ne_true)⟩
