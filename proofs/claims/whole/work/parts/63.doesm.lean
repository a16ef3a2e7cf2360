/-! ===== a new MEMBER, and EDITS of MEMBERS: the reference ===== -/
theorem e9_newMember {z : ST} {h : HA} (hm : RMm z h) {m : Nat} (hfree : free h = some m) (im : Bool) (t : Nat) (n kd fi mk : Int32) (val : Int64) (se : Int32) {r : MR} (hr : rM r = im ∧ rT r = t ∧ rN r = n ∧ rK r = mk ∧ (if im = true then fi else kd) = rA r ∧ se = rB r ∧ val = (if rM r = true then (rV r).toInt32.toInt64 else kp (rA r) (rV r))) : ∃ z', fX9_newMember z (bI im) (nI t) n kd fi mk val se = some (nI m, z') ∧ RMm z' (hN h, hF h, hA h, hM h, hL h, va_up (hB h) m (some r)) ∧ (∀ k, k ∉ [6, 7, 8, 9, 10, 11, 12, 13] → aI z' k = aI z k) ∧ sI z' = sI z ∧ EH z z' := by
  have m60 := (free_some hfree).1
  obtain ⟨z1, e1, f1, o1, s1, l1, x1⟩ := wZ (z := z) (k := 6) (n := 60) (j := m) m60 (by decide) true
  obtain ⟨z2, e2, f2, o2, s2, l2, x2⟩ := wZ (z := z1) (k := 7) (n := 60) (j := m) m60 (by decide) im
  obtain ⟨z3, e3, f3, o3, s3, l3, x3⟩ := wI (z := z2) (k := 8) (n := 60) (j := m) m60 (by decide) (nI t)
  obtain ⟨z4, e4, f4, o4, s4, l4, x4⟩ := wI (z := z3) (k := 9) (n := 60) (j := m) m60 (by decide) n
  obtain ⟨z5, e5, f5, o5, s5, l5, x5⟩ := wI (z := z4) (k := 11) (n := 60) (j := m) m60 (by decide) kd
  obtain ⟨z6, e6, f6, o6, s6, l6, x6⟩ := wI (z := z5) (k := 12) (n := 60) (j := m) m60 (by decide) fi
  obtain ⟨z7, e7, f7, o7, s7, l7, x7⟩ := wI (z := z6) (k := 13) (n := 60) (j := m) m60 (by decide) se
  obtain ⟨z8, e8, f8, o8, s8, l8, x8⟩ := wI (z := z7) (k := 10) (n := 60) (j := m) m60 (by decide) mk
  obtain ⟨z9, e9, ⟨f9a, f9b⟩, s9, i9, x9⟩ := wL (z := z8) (k := 14) (n := 60) (j := m) m60 (by decide) val
  rw [bI_t] at e1 f1
  have q6 : aI z9 6 = upd (aI z 6) m 1 := by rw [i9, o8 6 (by decide), o7 6 (by decide), o6 6 (by decide), o5 6 (by decide), o4 6 (by decide), o3 6 (by decide), o2 6 (by decide), f1]
  have q7 : aI z9 7 = upd (aI z 7) m (bI im) := by rw [i9, o8 7 (by decide), o7 7 (by decide), o6 7 (by decide), o5 7 (by decide), o4 7 (by decide), o3 7 (by decide), f2, o1 7 (by decide)]
  have q8 : aI z9 8 = upd (aI z 8) m (nI t) := by rw [i9, o8 8 (by decide), o7 8 (by decide), o6 8 (by decide), o5 8 (by decide), o4 8 (by decide), f3, o2 8 (by decide), o1 8 (by decide)]
  have q9 : aI z9 9 = upd (aI z 9) m n := by rw [i9, o8 9 (by decide), o7 9 (by decide), o6 9 (by decide), o5 9 (by decide), f4, o3 9 (by decide), o2 9 (by decide), o1 9 (by decide)]
  have q11 : aI z9 11 = upd (aI z 11) m kd := by rw [i9, o8 11 (by decide), o7 11 (by decide), o6 11 (by decide), f5, o4 11 (by decide), o3 11 (by decide), o2 11 (by decide), o1 11 (by decide)]
  have q12 : aI z9 12 = upd (aI z 12) m fi := by rw [i9, o8 12 (by decide), o7 12 (by decide), f6, o5 12 (by decide), o4 12 (by decide), o3 12 (by decide), o2 12 (by decide), o1 12 (by decide)]
  have q13 : aI z9 13 = upd (aI z 13) m se := by rw [i9, o8 13 (by decide), f7, o6 13 (by decide), o5 13 (by decide), o4 13 (by decide), o3 13 (by decide), o2 13 (by decide), o1 13 (by decide)]
  have q10 : aI z9 10 = upd (aI z 10) m mk := by rw [i9, f8, o7 10 (by decide), o6 10 (by decide), o5 10 (by decide), o4 10 (by decide), o3 10 (by decide), o2 10 (by decide), o1 10 (by decide)]
  have q14 : ∀ j, j ≠ m → aL z9 14 j = aL z 14 j := fun j hj => by rw [f9b j hj, l8, l7, l6, l5, l4, l3, l2, l1]
  refine ⟨z9, ?_, ?_, ?_, ?_, ?_⟩
  · have e0 : fX9_freeMember z = some (nI m) := by rw [e9_free hm, hfree]; rfl
    rw [fX9_newMember, e0, Option.bind_some, e1, Option.bind_some, e2, Option.bind_some, e3, Option.bind_some, e4, Option.bind_some, e5, Option.bind_some, e6, Option.bind_some, e7, Option.bind_some, e8, Option.bind_some, e9, Option.bind_some]
  · refine RMm_up hm (fun j hj => by rw [q6, upd_n hj]) (fun j hj => by rw [q7, upd_n hj]) (fun j hj => by rw [q8, upd_n hj]) (fun j hj => by rw [q9, upd_n hj]) (fun j hj => by rw [q10, upd_n hj]) (fun j hj => by rw [q11, upd_n hj]) (fun j hj => by rw [q12, upd_n hj]) (fun j hj => by rw [q13, upd_n hj]) q14 ?_
    obtain ⟨r1, r2, r3, r4, r5, r6, r7⟩ := hr
    show aI z9 6 m = 1 ∧ aI z9 7 m = bI (rM r) ∧ aI z9 8 m = nI (rT r) ∧ aI z9 9 m = rN r ∧ aI z9 10 m = rK r ∧ (if rM r = true then aI z9 12 m else aI z9 11 m) = rA r ∧ aI z9 13 m = rB r ∧ aL z9 14 m = (if rM r = true then (rV r).toInt32.toInt64 else kp (rA r) (rV r))
    rw [q6, q7, q8, q9, q10, q11, q12, q13, upd_s, upd_s, upd_s, upd_s, upd_s, upd_s, upd_s, upd_s, f9a]
    refine ⟨rfl, by rw [r1], by rw [r2], r3.symm, r4.symm, ?_, r6, r7⟩
    rw [r1]; exact r5
  · intro k hk
    simp only [List.mem_cons, List.not_mem_nil, or_false, not_or] at hk
    obtain ⟨k6, k7, k8, k9, k10, k11, k12, k13⟩ := hk
    rw [i9, o8 k k10, o7 k k13, o6 k k12, o5 k k11, o4 k k9, o3 k k8, o2 k k7, o1 k k6]
  · rw [s9, s8, s7, s6, s5, s4, s3, s2, s1]
  · exact (((((((((x1 _ _ _ (by decide)).trans (x2 _ _ _ (by decide))).trans (x3 _ _ _ (by decide))).trans (x4 _ _ _ (by decide))).trans (x5 _ _ _ (by decide))).trans (x6 _ _ _ (by decide))).trans (x7 _ _ _ (by decide))).trans (x8 _ _ _ (by decide))).trans (x9 _ _ _ (by decide)))
theorem free_of {h : HA} (h2 : (if free h = none then (-3 : Int32) else 0) = 0) : ∃ m, free h = some m ∧ frN h = m := by
  cases k : free h with
  | none => rw [if_pos k] at h2; exact absurd h2 (by decide)
  | some m => exact ⟨m, rfl, by unfold frN; rw [k]; rfl⟩
theorem rfs5_in {h : HA} (hw : WF h) {a b c d e : Int32} (hf : rfs h 5 a b c d e = 0) : ∃ i m, i < hN h ∧ a = nI i ∧ isN c 8 = true ∧ free h = some m ∧ frN h = m := by
  have hn := hw.1
  rw [rfs_5] at hf
  obtain ⟨h1, h2⟩ := bY_0 hf
  simp only [Bool.and_eq_true] at h1
  obtain ⟨p1, p2, p3, -⟩ := h1
  obtain ⟨i, hi, rfl⟩ := isN_true p1 (by omega)
  obtain ⟨m, e1, e2⟩ := free_of h2
  exact ⟨i, m, hi, rfl, p3, e1, e2⟩
theorem rfs6_in {h : HA} (hw : WF h) {a b c d e : Int32} (hf : rfs h 6 a b c d e = 0) : ∃ i m, i < hN h ∧ a = nI i ∧ free h = some m ∧ frN h = m := by
  have hn := hw.1
  rw [rfs_6] at hf
  obtain ⟨h1, h2⟩ := bY_0 hf
  simp only [Bool.and_eq_true] at h1
  obtain ⟨p1, p2, p3, -⟩ := h1
  obtain ⟨i, hi, rfl⟩ := isN_true p1 (by omega)
  obtain ⟨m, e1, e2⟩ := free_of h2
  exact ⟨i, m, hi, rfl, e1, e2⟩
theorem does_5 (hfp : FPx) {z : ST} {h : HA} (hw : WF h) (hr : RMt z h) (hm : RMm z h) {a b c d e : Int32} {v : Int64} (hf : rfs h 5 a b c d e = 0) : ∃ z', fX9_does z 5 a b c d e v = some (ans h 5 a b, z') ∧ RMt z' (app h 5 a b c d e v) ∧ RMm z' (app h 5 a b c d e v) ∧ EH z z' := by
  have hn := hw.1
  obtain ⟨i, m, hi, rfl, c8, efr, em⟩ := rfs5_in hw hf
  obtain ⟨z1, e1, m1, o1, s1, x1⟩ := e9_newMember hm efr false i b c (-2) d (kp c v) (-2) (r := (false, i, b, d, c, -2, v)) ⟨rfl, rfl, rfl, rfl, rfl, rfl, rfl⟩
  rw [bI_f] at e1
  refine ⟨z1, ?_, ?_, ?_, x1⟩
  · rw [fX9_does, if_neg (by decide), if_neg (by decide), if_neg (by decide), if_neg (by decide), if_neg (by decide), if_pos rfl, e9_kept hfp c8, Option.bind_some, e1, b2_eq]
    show some (nI m, z1) = some (nI (frN h), z1)
    rw [em]
  · exact RMt_T (RMt_same hr (by rw [s1]) (o1 1 (by decide)) (o1 2 (by decide)) (o1 3 (by decide)) (o1 4 (by decide)) (o1 5 (by decide)))
  · show RMm z1 (hN h, hF h, hA h, hM h, hL h, va_up (hB h) (frN h) (some (false, cl (nI i), b, d, c, -2, v)))
    rw [em, cl_nI (by omega)]; exact m1
theorem does_6 {z : ST} {h : HA} (hw : WF h) (hr : RMt z h) (hm : RMm z h) {a b c d e : Int32} {v : Int64} (hf : rfs h 6 a b c d e = 0) : ∃ z', fX9_does z 6 a b c d e v = some (ans h 6 a b, z') ∧ RMt z' (app h 6 a b c d e v) ∧ RMm z' (app h 6 a b c d e v) ∧ EH z z' := by
  have hn := hw.1
  obtain ⟨i, m, hi, rfl, efr, em⟩ := rfs6_in hw hf
  obtain ⟨z1, e1, m1, o1, s1, x1⟩ := e9_newMember hm efr true i b 0 c e v.toInt32.toInt64 d (r := (true, i, b, e, c, d, v)) ⟨rfl, rfl, rfl, rfl, rfl, rfl, rfl⟩
  rw [bI_t] at e1
  refine ⟨z1, ?_, ?_, ?_, x1⟩
  · rw [fX9_does, if_neg (by decide), if_neg (by decide), if_neg (by decide), if_neg (by decide), if_neg (by decide), if_neg (by decide), if_pos rfl, e1, b2_eq]
    show some (nI m, z1) = some (nI (frN h), z1)
    rw [em]
  · exact RMt_T (RMt_same hr (by rw [s1]) (o1 1 (by decide)) (o1 2 (by decide)) (o1 3 (by decide)) (o1 4 (by decide)) (o1 5 (by decide)))
  · show RMm z1 (hN h, hF h, hA h, hM h, hL h, va_up (hB h) (frN h) (some (true, cl (nI i), b, e, c, d, v)))
    rw [em, cl_nI (by omega)]; exact m1
theorem rowM_at {z : ST} {h : HA} (hm : RMm z h) {m : Nat} {r : MR} (m60 : m < 60) (er : hB h m = some r) : rowM z m (some r) := by
  have := RMm_row.mp hm m m60
  rw [er] at this; exact this
theorem does_7 {z : ST} {h : HA} (hr : RMt z h) (hm : RMm z h) {a b c d e : Int32} {v : Int64} (hf : rfs h 7 a b c d e = 0) : ∃ z', fX9_does z 7 a b c d e v = some (ans h 7 a b, z') ∧ RMt z' (app h 7 a b c d e v) ∧ RMm z' (app h 7 a b c d e v) ∧ EH z z' := by
  rw [rfs_7] at hf
  obtain ⟨m, r, m60, rfl, er⟩ := rfM_in (bN_0 hf)
  obtain ⟨z1, e1, f1, o1, s1, l1, x1⟩ := wZ (z := z) (k := 6) (n := 60) (j := m) m60 (by decide) false
  rw [bI_f] at e1 f1
  refine ⟨z1, ?_, RMt_T (RMt_same hr (by rw [s1]) (o1 1 (by decide)) (o1 2 (by decide)) (o1 3 (by decide)) (o1 4 (by decide)) (o1 5 (by decide))), ?_, x1 _ _ _ (by decide)⟩
  · rw [fX9_does, if_neg (by decide), if_neg (by decide), if_neg (by decide), if_neg (by decide), if_neg (by decide), if_neg (by decide), if_neg (by decide), fX9_doesMember, if_pos rfl, e1]; rfl
  · show RMm z1 (hN h, hF h, hA h, hM h, hL h, va_up (hB h) (cl (nI m)) none)
    rw [cl_nI (by omega)]
    refine RMm_up hm (fun j hj => by rw [f1, upd_n hj]) (fun j _ => by rw [o1 7 (by decide)]) (fun j _ => by rw [o1 8 (by decide)]) (fun j _ => by rw [o1 9 (by decide)]) (fun j _ => by rw [o1 10 (by decide)]) (fun j _ => by rw [o1 11 (by decide)]) (fun j _ => by rw [o1 12 (by decide)]) (fun j _ => by rw [o1 13 (by decide)]) (fun j _ => by rw [l1]) ?_
    show aI z1 6 m = 0
    rw [f1, upd_s]
theorem does_8 {z : ST} {h : HA} (hr : RMt z h) (hm : RMm z h) {a b c d e : Int32} {v : Int64} (hf : rfs h 8 a b c d e = 0) : ∃ z', fX9_does z 8 a b c d e v = some (ans h 8 a b, z') ∧ RMt z' (app h 8 a b c d e v) ∧ RMm z' (app h 8 a b c d e v) ∧ EH z z' := by
  rw [rfs_8] at hf
  obtain ⟨m, r, m60, rfl, er⟩ := rfM_in (bN_0 hf)
  obtain ⟨z1, e1, f1, o1, s1, l1, x1⟩ := wI (z := z) (k := 10) (n := 60) (j := m) m60 (by decide) b
  obtain ⟨q6, q7, q8, q9, q10, q11, q13, q14⟩ := rowM_at hm m60 er
  refine ⟨z1, ?_, RMt_T (RMt_same hr (by rw [s1]) (o1 1 (by decide)) (o1 2 (by decide)) (o1 3 (by decide)) (o1 4 (by decide)) (o1 5 (by decide))), ?_, x1 _ _ _ (by decide)⟩
  · rw [fX9_does, if_neg (by decide), if_neg (by decide), if_neg (by decide), if_neg (by decide), if_neg (by decide), if_neg (by decide), if_neg (by decide), fX9_doesMember, if_neg (by decide), if_pos rfl, rdI_nI m60 (by decide), Option.bind_some, e1, Option.bind_some, b2_eq, q10]
    show some (rK r, z1) = some ((match hB h (cl (nI m)) with
      | none => 0
      | some r => rK r), z1)
    rw [cl_nI (by omega), er]
  · show RMm z1 (hN h, hF h, hA h, hM h, hL h, va_up (hB h) (cl (nI m)) ((hB h (cl (nI m))).map (fun r => (rM r, rT r, rN r, b, rA r, rB r, rV r))))
    rw [cl_nI (by omega), er]
    refine RMm_up hm (fun j _ => by rw [o1 6 (by decide)]) (fun j _ => by rw [o1 7 (by decide)]) (fun j _ => by rw [o1 8 (by decide)]) (fun j _ => by rw [o1 9 (by decide)]) (fun j hj => by rw [f1, upd_n hj]) (fun j _ => by rw [o1 11 (by decide)]) (fun j _ => by rw [o1 12 (by decide)]) (fun j _ => by rw [o1 13 (by decide)]) (fun j _ => by rw [l1]) ?_
    refine ⟨by rw [o1 6 (by decide)]; exact q6, by rw [o1 7 (by decide)]; exact q7, by rw [o1 8 (by decide)]; exact q8, by rw [o1 9 (by decide)]; exact q9, by rw [f1, upd_s]; rfl, by rw [o1 11 (by decide), o1 12 (by decide)]; exact q11, by rw [o1 13 (by decide)]; exact q13, by rw [l1]; exact q14⟩
theorem does_9 (hfp : FPx) {z : ST} {h : HA} (hw : WF h) (hr : RMt z h) (hm : RMm z h) {a b c d e : Int32} {v : Int64} (hf : rfs h 9 a b c d e = 0) : ∃ z', fX9_does z 9 a b c d e v = some (ans h 9 a b, z') ∧ RMt z' (app h 9 a b c d e v) ∧ RMm z' (app h 9 a b c d e v) ∧ EH z z' := by
  rw [rfs_9] at hf
  obtain ⟨m, r, m60, rfl, er⟩ := rfM_in (bN_0 hf)
  obtain ⟨q6, q7, q8, q9, q10, q11, q13, q14⟩ := rowM_at hm m60 er
  obtain ⟨z1, e1, ⟨f1, f1b⟩, s1, i1, x1⟩ := wL (z := z) (k := 14) (n := 60) (j := m) m60 (by decide) (if rM r = true then v.toInt32.toInt64 else kp (rA r) v)
  refine ⟨z1, ?_, RMt_T (RMt_same hr (by rw [s1]) (by rw [i1]) (by rw [i1]) (by rw [i1]) (by rw [i1]) (by rw [i1])), ?_, x1 _ _ _ (by decide)⟩
  · rw [fX9_does, if_neg (by decide), if_neg (by decide), if_neg (by decide), if_neg (by decide), if_neg (by decide), if_neg (by decide), if_neg (by decide), fX9_doesMember, if_neg (by decide), if_neg (by decide), if_pos rfl, rdI_nI m60 (by decide), Option.bind_some, q7]
    cases erm : rM r with
    | true =>
      rw [erm, if_pos rfl] at e1
      rw [if_neg (by decide), fX9_doesMember_L91, e1]; rfl
    | false =>
      rw [erm, if_neg Bool.false_ne_true] at e1 q11
      rw [if_pos bI_f, rdI_nI m60 (by decide), Option.bind_some, q11, e9_kept hfp (okR_f hw er erm).2, Option.bind_some, fX9_doesMember_L91, e1]; rfl
  · show RMm z1 (hN h, hF h, hA h, hM h, hL h, va_up (hB h) (cl (nI m)) ((hB h (cl (nI m))).map (fun r => (rM r, rT r, rN r, rK r, rA r, rB r, v))))
    rw [cl_nI (by omega), er]
    refine RMm_up hm (fun j _ => by rw [i1]) (fun j _ => by rw [i1]) (fun j _ => by rw [i1]) (fun j _ => by rw [i1]) (fun j _ => by rw [i1]) (fun j _ => by rw [i1]) (fun j _ => by rw [i1]) (fun j _ => by rw [i1]) f1b ?_
    refine ⟨by rw [i1]; exact q6, by rw [i1]; exact q7, by rw [i1]; exact q8, by rw [i1]; exact q9, by rw [i1]; exact q10, by rw [i1]; exact q11, by rw [i1]; exact q13, f1⟩
theorem does_10 (hfp : FPx) {z : ST} {h : HA} (hr : RMt z h) (hm : RMm z h) {a b c d e : Int32} {v : Int64} (hf : rfs h 10 a b c d e = 0) : ∃ z', fX9_does z 10 a b c d e v = some (ans h 10 a b, z') ∧ RMt z' (app h 10 a b c d e v) ∧ RMm z' (app h 10 a b c d e v) ∧ EH z z' := by
  rw [rfs_10] at hf
  have hf1 := bN_0 hf
  obtain ⟨m, r, m60, rfl, er⟩ := rfM_in hf1
  rw [rfM_yes m60 er, if_neg (by decide), if_pos rfl, Bool.and_eq_true] at hf1
  have erm : rM r = false := by simpa using hf1.1
  obtain ⟨q6, q7, q8, q9, q10, q11, q13, q14⟩ := rowM_at hm m60 er
  obtain ⟨z1, e1, f1, o1, s1, l1, x1⟩ := wI (z := z) (k := 11) (n := 60) (j := m) m60 (by decide) b
  obtain ⟨z2, e2, ⟨f2, f2b⟩, s2, i2, x2⟩ := wL (z := z1) (k := 14) (n := 60) (j := m) m60 (by decide) (kp b v)
  refine ⟨z2, ?_, RMt_T (RMt_same hr (by rw [s2, s1]) (by rw [i2, o1 1 (by decide)]) (by rw [i2, o1 2 (by decide)]) (by rw [i2, o1 3 (by decide)]) (by rw [i2, o1 4 (by decide)]) (by rw [i2, o1 5 (by decide)])), ?_, (x1 _ _ _ (by decide)).trans (x2 _ _ _ (by decide))⟩
  · rw [fX9_does, if_neg (by decide), if_neg (by decide), if_neg (by decide), if_neg (by decide), if_neg (by decide), if_neg (by decide), if_neg (by decide), fX9_doesMember, if_neg (by decide), if_neg (by decide), if_neg (by decide), if_pos rfl, e1, Option.bind_some, e9_kept hfp hf1.2, Option.bind_some, e2]; rfl
  · show RMm z2 (hN h, hF h, hA h, hM h, hL h, va_up (hB h) (cl (nI m)) ((hB h (cl (nI m))).map (fun r => (rM r, rT r, rN r, rK r, b, rB r, v))))
    rw [cl_nI (by omega), er]
    refine RMm_up hm (fun j _ => by rw [i2, o1 6 (by decide)]) (fun j _ => by rw [i2, o1 7 (by decide)]) (fun j _ => by rw [i2, o1 8 (by decide)]) (fun j _ => by rw [i2, o1 9 (by decide)]) (fun j _ => by rw [i2, o1 10 (by decide)]) (fun j hj => by rw [i2, f1, upd_n hj]) (fun j _ => by rw [i2, o1 12 (by decide)]) (fun j _ => by rw [i2, o1 13 (by decide)]) (fun j hj => by rw [f2b j hj, l1]) ?_
    refine ⟨by rw [i2, o1 6 (by decide)]; exact q6, by rw [i2, o1 7 (by decide)]; exact q7, by rw [i2, o1 8 (by decide)]; exact q8, by rw [i2, o1 9 (by decide)]; exact q9, by rw [i2, o1 10 (by decide)]; exact q10, ?_, by rw [i2, o1 13 (by decide)]; exact q13, ?_⟩
    · show (if rM r = true then aI z2 12 m else aI z2 11 m) = b
      rw [erm, if_neg Bool.false_ne_true, i2, f1, upd_s]
    · show aL z2 14 m = (if rM r = true then v.toInt32.toInt64 else kp b v)
      rw [erm, if_neg Bool.false_ne_true, f2]
theorem rfs11_in {h : HA} (hw : WF h) {a b c d e : Int32} (hf : rfs h 11 a b c d e = 0) : ∃ m r j, m < 60 ∧ a = nI m ∧ hB h m = some r ∧ j < hN h ∧ b = nI j := by
  have hn := hw.1
  rw [rfs_11] at hf
  have hf1 := bN_0 hf
  obtain ⟨m, r, m60, rfl, er⟩ := rfM_in hf1
  rw [rfM_yes m60 er, if_neg (by decide), if_neg (by decide), if_pos rfl] at hf1
  simp only [Bool.and_eq_true] at hf1
  obtain ⟨j, hj, rfl⟩ := isN_true hf1.1 (by omega)
  exact ⟨m, r, j, m60, rfl, er, hj, rfl⟩
theorem does_11 {z : ST} {h : HA} (hw : WF h) (hr : RMt z h) (hm : RMm z h) {a b c d e : Int32} {v : Int64} (hf : rfs h 11 a b c d e = 0) : ∃ z', fX9_does z 11 a b c d e v = some (ans h 11 a b, z') ∧ RMt z' (app h 11 a b c d e v) ∧ RMm z' (app h 11 a b c d e v) ∧ EH z z' := by
  have hn := hw.1
  obtain ⟨m, r, j, m60, rfl, er, hj, rfl⟩ := rfs11_in hw hf
  obtain ⟨z1, e1, f1, o1, s1, l1, x1⟩ := wI (z := z) (k := 8) (n := 60) (j := m) m60 (by decide) (nI j)
  obtain ⟨q6, q7, q8, q9, q10, q11, q13, q14⟩ := rowM_at hm m60 er
  refine ⟨z1, ?_, RMt_T (RMt_same hr (by rw [s1]) (o1 1 (by decide)) (o1 2 (by decide)) (o1 3 (by decide)) (o1 4 (by decide)) (o1 5 (by decide))), ?_, x1 _ _ _ (by decide)⟩
  · rw [fX9_does, if_neg (by decide), if_neg (by decide), if_neg (by decide), if_neg (by decide), if_neg (by decide), if_neg (by decide), if_neg (by decide), fX9_doesMember, if_neg (by decide), if_neg (by decide), if_neg (by decide), if_neg (by decide), e1]; rfl
  · show RMm z1 (hN h, hF h, hA h, hM h, hL h, va_up (hB h) (cl (nI m)) ((hB h (cl (nI m))).map (fun r => (rM r, cl (nI j), rN r, rK r, rA r, rB r, rV r))))
    rw [cl_nI (show m < 2 ^ 31 by omega), cl_nI (show j < 2 ^ 31 by omega), er]
    refine RMm_up hm (fun j _ => by rw [o1 6 (by decide)]) (fun j _ => by rw [o1 7 (by decide)]) (fun j hj => by rw [f1, upd_n hj]) (fun j _ => by rw [o1 9 (by decide)]) (fun j _ => by rw [o1 10 (by decide)]) (fun j _ => by rw [o1 11 (by decide)]) (fun j _ => by rw [o1 12 (by decide)]) (fun j _ => by rw [o1 13 (by decide)]) (fun j _ => by rw [l1]) ?_
    refine ⟨by rw [o1 6 (by decide)]; exact q6, by rw [o1 7 (by decide)]; exact q7, by rw [f1, upd_s]; rfl, by rw [o1 9 (by decide)]; exact q9, by rw [o1 10 (by decide)]; exact q10, by rw [o1 11 (by decide), o1 12 (by decide)]; exact q11, by rw [o1 13 (by decide)]; exact q13, by rw [l1]; exact q14⟩
theorem e9_does (hfp : FPx) {z : ST} {h : HA} (hw : WF h) (hr : RMt z h) (hm : RMm z h) {w a b c d e : Int32} {v : Int64} (hl : lgl h w a b c d e) : ∃ z', fX9_does z w a b c d e v = some (ans h w a b, z') ∧ RMt z' (app h w a b c d e v) ∧ RMm z' (app h w a b c d e v) ∧ EH z z' := by
  obtain ⟨l1, l2, hf⟩ := hl
  rcases w12 l1 with rfl | rfl | rfl | rfl | rfl | rfl | rfl | rfl | rfl | rfl | rfl | rfl
  · exact does_0 hw hr hm (l2 rfl) hf
  · exact does_1 hw hr hm hf
  · exact does_2 hw hr hm hf
  · exact does_3 hw hr hm hf
  · exact does_4 hw hr hm hf
  · exact does_5 hfp hw hr hm hf
  · exact does_6 hw hr hm hf
  · exact does_7 hr hm hf
  · exact does_8 hr hm hf
  · exact does_9 hfp hw hr hm hf
  · exact does_10 hfp hr hm hf
  · exact does_11 hw hr hm hf
