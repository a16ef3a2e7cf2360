/-! ===== the rules of a house are kept: EDITS of MEMBERS ===== -/
theorem bY_0 {x : Bool} {y : Int32} (h : bY x y = 0) : x = true ∧ y = 0 := by
  cases x with
  | false => exact absurd h (by show ¬ (-1 : Int32) = 0; decide)
  | true => exact ⟨rfl, h⟩
theorem bN_0 {x : Bool} (h : bN x = 0) : x = true := by
  cases x with
  | false => exact absurd h (by decide)
  | true => rfl
theorem prB_ok {h : HA} (hn : hN h ≤ 12) {c d : Int32} (e : prB h c d = true) : okP (hN h) c ∧ okP (hN h) d ∧ (c = -2 → d = -2) := by
  unfold prB at e
  by_cases k : c = -2
  · rw [if_pos k] at e
    have kd : d = -2 := by simpa using e
    exact ⟨Or.inl k, Or.inl kd, fun _ => kd⟩
  · rw [if_neg k, Bool.and_eq_true, Bool.or_eq_true] at e
    refine ⟨Or.inr (isN_true e.1 (by omega)), ?_, fun x => absurd x k⟩
    rcases e.2 with x | x
    · exact Or.inl (by simpa using x)
    · exact Or.inr (isN_true x (by omega))
theorem free_lt {h : HA} (e : ¬ free h = none) : frN h < 60 ∧ hB h (frN h) = none := by
  unfold frN
  cases k : free h with
  | none => exact absurd k e
  | some m => exact ⟨(free_some k).1, (free_some k).2.1⟩
theorem keep_5 {h : HA} (hw : WF h) {a b c d e : Int32} {v : Int64} (hf : rfs h 5 a b c d e = 0) : WF (app h 5 a b c d e v) := by
  have hn := hw.1
  rw [rfs_5] at hf
  obtain ⟨h1, h2⟩ := bY_0 hf
  simp only [Bool.and_eq_true] at h1
  obtain ⟨p1, p2, p3, ⟨p4, p5⟩, p6⟩ := h1
  obtain ⟨i, hi, rfl⟩ := isN_true p1 (by omega)
  have hfr : ¬ free h = none := fun x => by rw [if_pos x] at h2; exact absurd h2 (by decide)
  rw [cl_nI (by omega)] at p5 p6
  have po : own h i false b (-2) (-2) = none := by simpa using p6
  show WF (hN h, hF h, hA h, hM h, hL h, va_up (hB h) (frN h) (some (false, cl (nI i), b, d, c, -2, v)))
  rw [cl_nI (by omega)]
  refine WF_B hw (free_lt hfr).1 (fun r er => ?_)
  injection er with er
  subst er
  refine ⟨⟨hi, p2, fun x => absurd x Bool.false_ne_true, fun _ => ⟨p4, p3, rfl, fun x => ?_⟩⟩, fun q s hq es et hl => ?_⟩
  · have x' : hF h i = true := x
    rw [x'] at p5
    show d &&& 1 ≠ 0
    simpa using p5
  · refine own_no po es (WF_60 hw es) et.symm hl.1.symm hl.2.1.symm (fun x => absurd x Bool.false_ne_true)
theorem keep_6 {h : HA} (hw : WF h) {a b c d e : Int32} {v : Int64} (hf : rfs h 6 a b c d e = 0) : WF (app h 6 a b c d e v) := by
  have hn := hw.1
  rw [rfs_6] at hf
  obtain ⟨h1, h2⟩ := bY_0 hf
  simp only [Bool.and_eq_true] at h1
  obtain ⟨p1, p2, p3, p4, p6⟩ := h1
  obtain ⟨i, hi, rfl⟩ := isN_true p1 (by omega)
  have hfr : ¬ free h = none := fun x => by rw [if_pos x] at h2; exact absurd h2 (by decide)
  rw [cl_nI (by omega)] at p6
  have po : own h i true b c d = none := by simpa using p6
  obtain ⟨q1, q2, q3⟩ := prB_ok hn p3
  show WF (hN h, hF h, hA h, hM h, hL h, va_up (hB h) (frN h) (some (true, cl (nI i), b, e, c, d, v)))
  rw [cl_nI (by omega)]
  refine WF_B hw (free_lt hfr).1 (fun r er => ?_)
  injection er with er
  subst er
  refine ⟨⟨hi, p2, fun _ => ⟨p4, q1, q2, q3⟩, fun x => absurd x.symm Bool.false_ne_true⟩, fun q s hq es et hl => ?_⟩
  have hl3 := hl.2.2 rfl
  exact own_no po es (WF_60 hw es) et.symm hl.1.symm hl.2.1.symm (fun _ => ⟨hl3.1.symm, hl3.2.symm⟩)
