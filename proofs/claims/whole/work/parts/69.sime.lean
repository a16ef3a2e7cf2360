/-! ===== EDITS and undo: the simulations ===== -/
theorem s_type (hfp : FPx) : sim_type Rl := by
  intro u z x1 x2 x3 hR hx
  have e1 : ∃ f : Bool, x1 = bI f := by
    rcases hx with rfl | rfl
    · exact ⟨false, rfl⟩
    · exact ⟨true, rfl⟩
  obtain ⟨f, rfl⟩ := e1
  obtain ⟨x, r, z1, h1, h2, h3, h4⟩ := edit_sim hfp hR (w := 0) (a := bI f) (b := x2) (c := x3) (d := 0) (e := 0) (v := 0) (by decide) (fun _ => hx) (F := fX8_type u (bI f) x2 x3) (fun h hw hh => e8_type hh.1 hw.1 f x2 x3)
  refine ⟨x, r, z1, h1, h2, ?_, h4⟩
  rw [fX9_type]
  cases f with
  | false =>
    rw [bI_f] at h3
    rw [if_pos bI_f, fX9_type_L11, h3, b2_eq]
  | true =>
    rw [bI_t] at h3
    rw [if_neg (by decide), fX9_type_L11, h3, b2_eq]
theorem s_above (hfp : FPx) : sim_above Rl := by
  intro u z x1 x2 hR
  obtain ⟨x, r, z1, h1, h2, h3, h4⟩ := edit_sim hfp hR (w := 1) (a := x1) (b := x2) (c := 0) (d := 0) (e := 0) (v := 0) (by decide) (fun h => absurd h (by decide)) (F := fX8_above u x1 x2) (fun h hw hh => e8_above hh.1 hh.2.2 hw.1 x1 x2)
  exact ⟨x, r, z1, h1, h2, by rw [fX9_above, h3, b2_eq], h4⟩
theorem s_face (hfp : FPx) : sim_face Rl := by
  intro u z x1 x2 hR
  obtain ⟨x, r, z1, h1, h2, h3, h4⟩ := edit_sim hfp hR (w := 2) (a := x1) (b := x2) (c := 0) (d := 0) (e := 0) (v := 0) (by decide) (fun h => absurd h (by decide)) (F := fX8_face u x1 x2) (fun h hw hh => e8_face hh.1 hh.2.2 hw x1 x2)
  exact ⟨x, r, z1, h1, h2, by rw [fX9_face, h3, b2_eq], h4⟩
theorem s_unface (hfp : FPx) : sim_unface Rl := by
  intro u z x1 x2 hR
  obtain ⟨x, r, z1, h1, h2, h3, h4⟩ := edit_sim hfp hR (w := 3) (a := x1) (b := x2) (c := 0) (d := 0) (e := 0) (v := 0) (by decide) (fun h => absurd h (by decide)) (F := fX8_unface u x1 x2) (fun h hw hh => e8_unface hh.1 hw x1 x2)
  exact ⟨x, r, z1, h1, h2, by rw [fX9_unface, h3, b2_eq], h4⟩
theorem s_marks (hfp : FPx) : sim_marks Rl := by
  intro u z x1 x2 hR
  obtain ⟨x, r, z1, h1, h2, h3, h4⟩ := edit_sim hfp hR (w := 4) (a := x1) (b := x2) (c := 0) (d := 0) (e := 0) (v := 0) (by decide) (fun h => absurd h (by decide)) (F := fX8_marks u x1 x2) (fun h hw hh => e8_marks hh.1 hw.1 x1 x2)
  exact ⟨x, r, z1, h1, h2, by rw [fX9_marks, h3, b2_eq], h4⟩
theorem s_field (hfp : FPx) : sim_field Rl := by
  intro u z x1 x2 x3 x4 x5 hR
  obtain ⟨x, r, z1, h1, h2, h3, h4⟩ := edit_sim hfp hR (w := 5) (a := x1) (b := x2) (c := x3) (d := x4) (e := 0) (v := x5) (by decide) (fun h => absurd h (by decide)) (F := fX8_field u x1 x2 x3 x4 x5) (fun h hw hh => e8_field hh.1 hh.2.1 hw x1 x2 x3 x4 x5)
  exact ⟨x, r, z1, h1, h2, by rw [fX9_field, h3, b2_eq], h4⟩
theorem s_method (hfp : FPx) : sim_method Rl := by
  intro u z x1 x2 x3 x4 x5 x6 hR
  obtain ⟨x, r, z1, h1, h2, h3, h4⟩ := edit_sim hfp hR (w := 6) (a := x1) (b := x2) (c := x3) (d := x4) (e := x5) (v := x6.toInt64) (by decide) (fun h => absurd h (by decide)) (F := fX8_method u x1 x2 x3 x4 x5 x6) (fun h hw hh => e8_method hh.1 hh.2.1 hw x1 x2 x3 x4 x5 x6)
  exact ⟨x, r, z1, h1, h2, by rw [fX9_method, h3, b2_eq], h4⟩
theorem s_drop (hfp : FPx) : sim_drop Rl := by
  intro u z x1 hR
  obtain ⟨x, r, z1, h1, h2, h3, h4⟩ := edit_sim hfp hR (w := 7) (a := x1) (b := 0) (c := 0) (d := 0) (e := 0) (v := 0) (by decide) (fun h => absurd h (by decide)) (F := fX8_drop u x1) (fun h hw hh => e8_drop hh.2.1 hw x1)
  exact ⟨x, r, z1, h1, h2, by rw [fX9_drop, h3, b2_eq], h4⟩
theorem s_mark (hfp : FPx) : sim_mark Rl := by
  intro u z x1 x2 hR
  obtain ⟨x, r, z1, h1, h2, h3, h4⟩ := edit_sim hfp hR (w := 8) (a := x1) (b := x2) (c := 0) (d := 0) (e := 0) (v := 0) (by decide) (fun h => absurd h (by decide)) (F := fX8_mark u x1 x2) (fun h hw hh => e8_mark hh.1 hh.2.1 hw x1 x2)
  exact ⟨x, r, z1, h1, h2, by rw [fX9_mark, h3, b2_eq], h4⟩
theorem s_set (hfp : FPx) : sim_set Rl := by
  intro u z x1 x2 hR
  obtain ⟨x, r, z1, h1, h2, h3, h4⟩ := edit_sim hfp hR (w := 9) (a := x1) (b := 0) (c := 0) (d := 0) (e := 0) (v := x2) (by decide) (fun h => absurd h (by decide)) (F := fX8_set u x1 x2) (fun h hw hh => e8_set hh.2.1 hw x1 x2)
  exact ⟨x, r, z1, h1, h2, by rw [fX9_set, h3, b2_eq], h4⟩
theorem s_retype (hfp : FPx) : sim_retype Rl := by
  intro u z x1 x2 x3 hR
  obtain ⟨x, r, z1, h1, h2, h3, h4⟩ := edit_sim hfp hR (w := 10) (a := x1) (b := x2) (c := 0) (d := 0) (e := 0) (v := x3) (by decide) (fun h => absurd h (by decide)) (F := fX8_retype u x1 x2 x3) (fun h hw hh => e8_retype hh.2.1 hw x1 x2 x3)
  exact ⟨x, r, z1, h1, h2, by rw [fX9_retype, h3, b2_eq], h4⟩
theorem s_move (hfp : FPx) : sim_move Rl := by
  intro u z x1 x2 hR
  obtain ⟨x, r, z1, h1, h2, h3, h4⟩ := edit_sim hfp hR (w := 11) (a := x1) (b := x2) (c := 0) (d := 0) (e := 0) (v := 0) (by decide) (fun h => absurd h (by decide)) (F := fX8_move u x1 x2) (fun h hw hh => e8_move hh.1 hh.2.1 hw x1 x2)
  exact ⟨x, r, z1, h1, h2, by rw [fX9_move, h3, b2_eq], h4⟩
theorem s_undo (hfp : FPx) : sim_undo Rl := by
  intro u z hR
  obtain ⟨f, n, cc, m, ⟨hn, hL, hm, hA⟩, hU, hZ, hS⟩ := id hR
  cases n with
  | zero =>
    refine ⟨-2, u, z, ?_, ?_, hR⟩
    · rw [fX8_undo, hU.1, if_neg (by decide)]
    · rw [fX9_undo, hZ.1, if_pos (by decide)]
  | succ n =>
    obtain ⟨h1, h2, h3, h4, h5, h6⟩ := hU
    obtain ⟨g1, g2, g3, g4, g5⟩ := hZ
    have hL2 : LG f n := fun k hk => hL k (by omega)
    -- the class
    obtain ⟨u1, e1, f1, o1, i1, l1, -⟩ := wS u 4 (nI n)
    have r1 : sL u1 = sL u ∧ aR u1 = aR u ∧ pA u1 = pA u ∧ pK u1 = pK u ∧ pI u1 = pI u ∧ pV u1 = pV u ∧ ag u1 = ag u := by rw [← e1]; exact ⟨rfl, rfl, rfl, rfl, rfl, rfl, rfl⟩
    obtain ⟨u2, hu2⟩ : ∃ u2, u2 = vR u1 6 (va_up (aR u1 6) n none) := ⟨_, rfl⟩
    have e2 : stR u1 6 120 (nI n) none = some u2 := by rw [stR_nI (by omega) (by decide), hu2]
    have a6 : ∀ k, k ≠ n → aR u2 6 k = aR u 6 k := fun k hk => by
      rw [hu2]
      show va_up (aR u1) 6 (va_up (aR u1 6) n none) 6 k = _
      rw [va_up_self, va_up_ne _ _ hk, r1.2.1]
    have a7 : aR u2 7 = aR u 7 := by
      rw [hu2]
      show va_up (aR u1) 6 (va_up (aR u1 6) n none) 7 = _
      rw [va_up_ne _ _ (by decide), r1.2.1]
    have r2 : sI u2 = sI u1 ∧ sL u2 = sL u ∧ pA u2 = pA u ∧ pK u2 = pK u ∧ pI u2 = pI u ∧ pV u2 = pV u ∧ ag u2 = ag u := by rw [← r1.1, ← r1.2.2.1, ← r1.2.2.2.1, ← r1.2.2.2.2.1, ← r1.2.2.2.2.2.1, ← r1.2.2.2.2.2.2, hu2]; exact ⟨rfl, rfl, rfl, rfl, rfl, rfl, rfl⟩
    obtain ⟨t1, t2, t3, t4, t5, t6, t7⟩ := r2
    obtain ⟨u3, e3, c3, x3⟩ := e2_clear u2
    have iE : ∀ a, isE u2 a = isE u a := fun a => by unfold isE; rw [t3, t4]
    have iC : ∀ a, isC u2 a = isC u a := fun a => by unfold isC; rw [t3, t4]
    have lc2 : LCr u2 f n := fun k hk => by
      obtain ⟨q, e, y⟩ := h5 k (by omega)
      refine ⟨q, by rw [a6 k (by omega)]; exact e, ?_⟩
      unfold EQx EQ at y ⊢
      rw [iE, t5, t6]; exact y
    have cc2 : CCr u2 cc m := fun k hk => by
      obtain ⟨p, q1, q2, q3, q4⟩ := h6 k hk
      refine ⟨p, by rw [a7]; exact q1, by rw [t7]; exact q2, ?_, by rw [t5]; exact q4⟩
      unfold RCx RCc at q3 ⊢
      rw [iC, t5, t6]; exact q3
    have s34 : sI u3 4 = nI n := by rw [x3.1 4 (by decide), t1, f1]
    obtain ⟨u4, e4, c4, x4⟩ := e8_redo hL2 (by omega) (Nat.zero_le n) (Nat.le_refl n) (LCr_ex x3 lc2) c3
    have e4' : fX8_redo u3 0 (nI n) = some u4 := e4
    have x24 := x3.trans x4
    have hU4 : RU u4 f n cc m (hk f n) := ⟨by rw [x4.1 4 (by decide), s34], by rw [x24.1 6 (by decide), t1, o1 6 (by decide)]; exact h2, by rw [x24.2.2.2.2.2.2.2.2.2, EX_isC x24, t7, iC]; exact h3, c4, LCr_ex x24 lc2, CCr_ex x24 cc2⟩
    -- the reference
    obtain ⟨z1, d1, k1, o5, i5, l5, -⟩ := wS z 16 (nI n)
    have s1 : sL z1 = sL z := by rw [← d1]; rfl
    obtain ⟨z2, d2, c2, y2⟩ := e9_nothing z1
    have lm1 : LMr z1 f n := fun k hk => by
      have := g4 k (by omega)
      unfold rwE at this ⊢
      rw [i5, l5]; exact this
    have cm1 : CMr z1 cc m := fun k hk => by
      obtain ⟨q1, q2⟩ := g5 k hk
      refine ⟨?_, by rw [i5]; exact q2⟩
      unfold RMx RMc at q1 ⊢
      rw [i5, l5]; exact q1
    have s216 : sI z2 16 = nI n := by rw [y2.1 16 (by decide), k1]
    obtain ⟨z3, d3, c3', y3⟩ := e9_again hfp hL2 (by omega) (Nat.zero_le n) (Nat.le_refl n) (LMr_eh y2 lm1) c2
    have d3' : fX9_doAgain z2 0 (nI n) = some z3 := d3
    have y13 := y2.trans y3
    have hZ3 : RZ z3 f n cc m (hk f n) := ⟨by rw [y3.1 16 (by decide), s216], by rw [y13.1 28 (by decide), o5 28 (by decide)]; exact g2, c3', LMr_eh y13 lm1, CMr_eh y13 cm1⟩
    refine ⟨nI n, u4, z3, ?_, ?_, f, n, cc, m, ⟨by omega, hL2, hm, hA⟩, hU4, hZ3, by rw [x24.2.1, t2, y13.2.1, s1]; exact hS⟩
    · have c0 : (0 : Int32) < nI (n + 1) := nI_lt (a := 0) (by omega) (by omega)
      rw [fX8_undo, h1, if_pos c0, pred_nI, e1, Option.bind_some, f1, e2, Option.bind_some, e3, Option.bind_some, s34, e4', Option.bind_some, hU4.1]
    · have c0 : ¬ nI (n + 1) = 0 := fun e => by
        have := nI_inj (b := 0) (by omega) (by decide) e
        omega
      rw [fX9_undo, g1, if_neg c0, pred_nI, d1, Option.bind_some, d2, Option.bind_some, s216, d3', Option.bind_some, hZ3.1]
theorem s_asked : sim_asked Rl := by
  intro u z hR
  obtain ⟨f, n, cc, m, -, -, -, hS⟩ := hR
  exact ⟨sL u 8, rfl, by rw [fX9_asked, ← hS]⟩
