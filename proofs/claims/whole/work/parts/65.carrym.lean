/-! ===== an EDIT is carried out: the class, MEMBERS ===== -/
theorem cnt_up {h : HA} {m : Nat} {x : Option MR} : ∀ k, cnt (hN h, hF h, hA h, hM h, hL h, va_up (hB h) m x) k + (if m < k ∧ (hB h m).isSome = true then 1 else 0) = cnt h k + (if m < k ∧ x.isSome = true then 1 else 0)
  | 0 => by simp [cnt]
  | k + 1 => by
    have ih := cnt_up (h := h) (m := m) (x := x) k
    rw [cnt, cnt]
    have e : hB (hN h, hF h, hA h, hM h, hL h, va_up (hB h) m x) k = va_up (hB h) m x k := rfl
    rw [e]
    by_cases c : k = m
    · subst c
      rw [va_up_self]
      rw [if_neg (by omega), if_neg (by omega)] at ih
      by_cases d1 : (hB h k).isSome = true <;> by_cases d2 : x.isSome = true <;> simp only [d1, d2] <;> simp <;> omega
    · rw [va_up_ne _ _ c]
      have e1 : (m < k + 1 ∧ (hB h m).isSome = true) ↔ (m < k ∧ (hB h m).isSome = true) := by constructor <;> (rintro ⟨a, b⟩; exact ⟨by omega, b⟩)
      have e2 : (m < k + 1 ∧ x.isSome = true) ↔ (m < k ∧ x.isSome = true) := by constructor <;> (rintro ⟨a, b⟩; exact ⟨by omega, b⟩)
      simp only [e1, e2]
      omega
theorem cnt_new {h : HA} {m : Nat} {r : MR} (m60 : m < 60) (e : hB h m = none) : cnt (hN h, hF h, hA h, hM h, hL h, va_up (hB h) m (some r)) 60 = cnt h 60 + 1 := by
  have := cnt_up (h := h) (m := m) (x := some r) 60
  rw [e, if_neg (by simp), if_pos ⟨m60, rfl⟩] at this
  omega
theorem cnt_drop {h : HA} {m : Nat} {r : MR} (m60 : m < 60) (e : hB h m = some r) : cnt (hN h, hF h, hA h, hM h, hL h, va_up (hB h) m none) 60 + 1 = cnt h 60 := by
  have := cnt_up (h := h) (m := m) (x := none) 60
  rw [e, if_pos ⟨m60, rfl⟩, if_neg (by simp)] at this
  omega
theorem cnt_keep {h : HA} {m : Nat} {r s : MR} (e : hB h m = some r) : cnt (hN h, hF h, hA h, hM h, hL h, va_up (hB h) m (some s)) 60 = cnt h 60 := by
  have := cnt_up (h := h) (m := m) (x := some s) 60
  rw [e] at this
  simp only [Option.isSome_some] at this
  omega
theorem RCo_T {u v : ST} {h : HA} {B : Nat → Option MR} (ho : RCo u h) (h1 : aI v 13 = aI u 13) (h2 : sI v 207 = sI u 207) : RCo v (hN h, hF h, hA h, hM h, hL h, B) := RCo_same ho rfl rfl (fun _ => rfl) h1 h2
theorem isM_raw {u : ST} {m : Nat} (m60 : m < 60) (h15 : ¬ aI u 15 m = -2) : fX6_isMember u (nI m) = some 1 := by
  have n60 : ¬ (60 : Int32) ≤ nI m := nI_ge (b := 60) m60 (by decide)
  rw [fX6_isMember, if_neg (nI_pos (by omega)), if_neg n60, rdI_nI m60 (by decide), Option.bind_some, if_neg h15]
theorem e6_putValue {u : ST} {m : Nat} (m60 : m < 60) (h15 : ¬ aI u 15 m = -2) {im : Bool} (h16 : aI u 16 m = bI im) {k : Int32} (h19 : aI u 19 m = k) (v : Int64) : ∃ u', fX6_putValue u (nI m) v = some (1, u') ∧ aL u' 21 m = (if im = true then v.toInt32.toInt64 else co k v) ∧ (∀ j, j ≠ m → aL u' 21 j = aL u 21 j) ∧ sI u' = sI u ∧ aI u' = aI u ∧ ∀ a c d, 21 ∈ d → EX u u' a c d := by
  obtain ⟨u1, e1, ⟨f1, f1b⟩, s1, i1, x1⟩ := wL (z := u) (k := 21) (n := 60) (j := m) m60 (by decide) (if im = true then v.toInt32.toInt64 else co k v)
  refine ⟨u1, ?_, f1, f1b, s1, i1, x1⟩
  rw [fX6_putValue, isM_raw m60 h15, Option.bind_some, if_neg (by decide), rdI_nI m60 (by decide), Option.bind_some, h16]
  cases im with
  | true =>
    rw [if_pos rfl] at e1
    rw [if_neg (by decide), fX6_putValue_L40, e1]; rfl
  | false =>
    rw [if_neg Bool.false_ne_true] at e1
    rw [if_pos bI_f, rdI_nI m60 (by decide), Option.bind_some, h19, e3_comesOut, Option.bind_some, fX6_putValue_L40, e1]; rfl
theorem e6_add {u : ST} {h : HA} (hw : WF h) (hr : RCt u h) (hm : RCm u h) (ho : RCo u h) {q m : Nat} (hfree : free h = some m) (im : Bool) {t : Nat} (ht : t < hN h) {n fi se mk : Int32} {v : Int64} (hE : isE u q = true) (p1 : pI u q 1 = nI t) (p2 : pI u q 2 = n) (p3 : pI u q 3 = fi) (p4 : pI u q 4 = se) (p5 : pI u q 5 = mk) (p6 : pV u q = v) : ∃ u', fX6_add u (bI im) q = some (nI m, u') ∧ RCt u' (hN h, hF h, hA h, hM h, hL h, va_up (hB h) m (some (im, t, n, mk, fi, se, v))) ∧ RCm u' (hN h, hF h, hA h, hM h, hL h, va_up (hB h) m (some (im, t, n, mk, fi, se, v))) ∧ RCo u' (hN h, hF h, hA h, hM h, hL h, va_up (hB h) m (some (im, t, n, mk, fi, se, v))) ∧ EC u u' := by
  have hn := hw.1
  obtain ⟨m60, mno, -⟩ := free_some hfree
  obtain ⟨u0, e0, f0, o0, i0, l0, x0⟩ := wS u 300 (nI (cnt h 60 + 1))
  obtain ⟨u1, e1, f1, o1, s1, l1, x1⟩ := wI (z := u0) (k := 15) (n := 60) (j := m) m60 (by decide) (nI t)
  obtain ⟨u2, e2, f2, o2, s2, l2, x2⟩ := wZ (z := u1) (k := 16) (n := 60) (j := m) m60 (by decide) im
  obtain ⟨u3, e3, f3, o3, s3, l3, x3⟩ := wI (z := u2) (k := 17) (n := 60) (j := m) m60 (by decide) n
  obtain ⟨u4, e4, f4, o4, s4, l4, x4⟩ := wI (z := u3) (k := 19) (n := 60) (j := m) m60 (by decide) fi
  obtain ⟨u5, e5, f5, o5, s5, l5, x5⟩ := wI (z := u4) (k := 20) (n := 60) (j := m) m60 (by decide) se
  obtain ⟨u6, e6, f6, o6, s6, l6, x6⟩ := wI (z := u5) (k := 18) (n := 60) (j := m) m60 (by decide) mk
  have q15 : aI u6 15 = upd (aI u 15) m (nI t) := by rw [o6 15 (by decide), o5 15 (by decide), o4 15 (by decide), o3 15 (by decide), o2 15 (by decide), f1, i0]
  have q16 : aI u6 16 = upd (aI u 16) m (bI im) := by rw [o6 16 (by decide), o5 16 (by decide), o4 16 (by decide), o3 16 (by decide), f2, o1 16 (by decide), i0]
  have q17 : aI u6 17 = upd (aI u 17) m n := by rw [o6 17 (by decide), o5 17 (by decide), o4 17 (by decide), f3, o2 17 (by decide), o1 17 (by decide), i0]
  have q19 : aI u6 19 = upd (aI u 19) m fi := by rw [o6 19 (by decide), o5 19 (by decide), f4, o3 19 (by decide), o2 19 (by decide), o1 19 (by decide), i0]
  have q20 : aI u6 20 = upd (aI u 20) m se := by rw [o6 20 (by decide), f5, o4 20 (by decide), o3 20 (by decide), o2 20 (by decide), o1 20 (by decide), i0]
  have q18 : aI u6 18 = upd (aI u 18) m mk := by rw [f6, o5 18 (by decide), o4 18 (by decide), o3 18 (by decide), o2 18 (by decide), o1 18 (by decide), i0]
  have qq : ∀ k, k ∉ [15, 16, 17, 18, 19, 20] → aI u6 k = aI u k := by
    intro k hk
    simp only [List.mem_cons, List.not_mem_nil, or_false, not_or] at hk
    obtain ⟨k15, k16, k17, k18, k19, k20⟩ := hk
    rw [o6 k k18, o5 k k20, o4 k k19, o3 k k17, o2 k k16, o1 k k15, i0]
  have qs : sI u6 = sI u0 := by rw [s6, s5, s4, s3, s2, s1]
  have ql : aL u6 = aL u := by rw [l6, l5, l4, l3, l2, l1, l0]
  have x06 : EC u u6 := (((((((x0 _ _ _ (by decide)).trans (x1 _ _ _ (by decide))).trans (x2 _ _ _ (by decide))).trans (x3 _ _ _ (by decide))).trans (x4 _ _ _ (by decide))).trans (x5 _ _ _ (by decide))).trans (x6 _ _ _ (by decide)))
  obtain ⟨u7, e7, f7, f7b, s7, i7, x7⟩ := e6_putValue (u := u6) m60 (by rw [q15, upd_s]; exact nI_ne_m2 (by omega)) (im := im) (by rw [q16, upd_s]) (k := fi) (by rw [q19, upd_s]) v
  have g : ∀ v', EX u v' [200, 207, 300] csl [21] → isE v' q = true ∧ pI v' q = pI u q ∧ pV v' q = pV u q := fun v' x => by
    refine ⟨?_, by rw [x.2.2.2.2.2.2.2.1], by rw [x.2.2.2.2.2.2.2.2.1]⟩
    unfold isE
    rw [x.2.2.2.2.2.1, x.2.2.2.2.2.2.1]; exact hE
  refine ⟨u7, ?_, RCt_T (RCt_same hr (by rw [s7, qs, o0 200 (by decide)]) (by rw [i7, qq 8 (by decide)]) (by rw [i7, qq 9 (by decide)]) (by rw [i7, qq 10 (by decide)]) (by rw [i7, qq 11 (by decide)]) (by rw [i7, qq 12 (by decide)])), ?_, RCo_T ho (by rw [i7, qq 13 (by decide)]) (by rw [s7, qs, o0 207 (by decide)]), x06.trans (x7 _ _ _ (by decide))⟩
  · have e0' : fX6_leastFree u = some (nI m) := by rw [e6_free hm hn (WF_own hw), hfree]; rfl
    have y0 : EC u u0 := x0 _ _ _ (by decide)
    have y1 : EC u u1 := y0.trans (x1 _ _ _ (by decide))
    have y2 : EC u u2 := y1.trans (x2 _ _ _ (by decide))
    have y3 : EC u u3 := y2.trans (x3 _ _ _ (by decide))
    have y4 : EC u u4 := y3.trans (x4 _ _ _ (by decide))
    have y5 : EC u u5 := y4.trans (x5 _ _ _ (by decide))
    rw [fX6_add, e0', Option.bind_some, if_neg (nI_ne_m2 (by omega)), hm.1, nI_1, e0, Option.bind_some]
    rw [peI_ok (g u0 y0).1, Option.bind_some, (g u0 y0).2.1, p1, e1, Option.bind_some, e2, Option.bind_some]
    rw [peI_ok (g u2 y2).1, Option.bind_some, (g u2 y2).2.1, p2, e3, Option.bind_some]
    rw [peI_ok (g u3 y3).1, Option.bind_some, (g u3 y3).2.1, p3, e4, Option.bind_some]
    rw [peI_ok (g u4 y4).1, Option.bind_some, (g u4 y4).2.1, p4, e5, Option.bind_some]
    rw [peI_ok (g u5 y5).1, Option.bind_some, (g u5 y5).2.1, p5, e6, Option.bind_some]
    rw [peV_ok (g u6 x06).1, Option.bind_some, (g u6 x06).2.2, p6, e7]; rfl
  · refine RCm_up hm ?_ (fun j hj => by rw [i7, q15, upd_n hj]) (fun j hj => by rw [i7, q16, upd_n hj]) (fun j hj => by rw [i7, q17, upd_n hj]) (fun j hj => by rw [i7, q18, upd_n hj]) (fun j hj => by rw [i7, q19, upd_n hj]) (fun j hj => by rw [i7, q20, upd_n hj]) (fun j hj => by rw [f7b j hj, ql]) ?_
    · rw [s7, qs, f0, cnt_new m60 mno]
    · exact ⟨by rw [i7, q15, upd_s]; rfl, by rw [i7, q16, upd_s]; rfl, by rw [i7, q17, upd_s]; rfl, by rw [i7, q18, upd_s]; rfl, by rw [i7, q19, upd_s]; rfl, by rw [i7, q20, upd_s]; rfl, f7⟩
theorem carry_5 {u : ST} {h : HA} (hw : WF h) (hr : RCt u h) (hm : RCm u h) (ho : RCo u h) {a b c d e : Int32} {v : Int64} {q : Nat} (hq : EQ u q 5 a b c d e v) (hf : rfs h 5 a b c d e = 0) : ∃ u', fX2_carryOut u q = some (ans h 5 a b, u') ∧ RCt u' (app h 5 a b c d e v) ∧ RCm u' (app h 5 a b c d e v) ∧ RCo u' (app h 5 a b c d e v) ∧ EC u u' := by
  have hn := hw.1
  obtain ⟨i, m, hi, rfl, c8, efr, em⟩ := rfs5_in hw hf
  obtain ⟨i0, p0, p1, p2, p3, p4, p5, p6⟩ := hq
  rw [if_pos rfl] at p4 p5
  obtain ⟨u', e', r1, r2, r3, r4⟩ := e6_add hw hr hm ho efr false hi i0 p1 p2 p3 p4 p5 p6
  rw [bI_f] at e'
  have ea : app h 5 (nI i) b c d e v = (hN h, hF h, hA h, hM h, hL h, va_up (hB h) m (some (false, i, b, d, c, -2, v))) := by
    show (hN h, hF h, hA h, hM h, hL h, va_up (hB h) (frN h) (some (false, cl (nI i), b, d, c, -2, v))) = _
    rw [em, cl_nI (by omega)]
  rw [ea]
  refine ⟨u', ?_, r1, r2, r3, r4⟩
  rw [fX2_carryOut, peI_ok i0, Option.bind_some, p0, if_neg (by decide), if_neg (by decide), if_neg (by decide), if_neg (by decide), if_neg (by decide), if_pos rfl, e', b2_eq]
  show some (nI m, u') = some (nI (frN h), u')
  rw [em]
theorem carry_6 {u : ST} {h : HA} (hw : WF h) (hr : RCt u h) (hm : RCm u h) (ho : RCo u h) {a b c d e : Int32} {v : Int64} {q : Nat} (hq : EQ u q 6 a b c d e v) (hf : rfs h 6 a b c d e = 0) : ∃ u', fX2_carryOut u q = some (ans h 6 a b, u') ∧ RCt u' (app h 6 a b c d e v) ∧ RCm u' (app h 6 a b c d e v) ∧ RCo u' (app h 6 a b c d e v) ∧ EC u u' := by
  have hn := hw.1
  obtain ⟨i, m, hi, rfl, efr, em⟩ := rfs6_in hw hf
  obtain ⟨i0, p0, p1, p2, p3, p4, p5, p6⟩ := hq
  rw [if_neg (by decide)] at p4 p5
  obtain ⟨u', e', r1, r2, r3, r4⟩ := e6_add hw hr hm ho efr true hi i0 p1 p2 p3 p4 p5 p6
  rw [bI_t] at e'
  have ea : app h 6 (nI i) b c d e v = (hN h, hF h, hA h, hM h, hL h, va_up (hB h) m (some (true, i, b, e, c, d, v))) := by
    show (hN h, hF h, hA h, hM h, hL h, va_up (hB h) (frN h) (some (true, cl (nI i), b, e, c, d, v))) = _
    rw [em, cl_nI (by omega)]
  rw [ea]
  refine ⟨u', ?_, r1, r2, r3, r4⟩
  rw [fX2_carryOut, peI_ok i0, Option.bind_some, p0, if_neg (by decide), if_neg (by decide), if_neg (by decide), if_neg (by decide), if_neg (by decide), if_neg (by decide), if_pos rfl, e', b2_eq]
  show some (nI m, u') = some (nI (frN h), u')
  rw [em]
theorem rowC_at {z : ST} {h : HA} (hm : RCm z h) {m : Nat} {r : MR} (m60 : m < 60) (er : hB h m = some r) : rowC z m (some r) := by
  have := (RCm_row.mp hm).2 m m60
  rw [er] at this; exact this
theorem carry_7 {u : ST} {h : HA} (hw : WF h) (hr : RCt u h) (hm : RCm u h) (ho : RCo u h) {a b c d e : Int32} {v : Int64} {q : Nat} (hq : EQ u q 7 a b c d e v) (hf : rfs h 7 a b c d e = 0) : ∃ u', fX2_carryOut u q = some (ans h 7 a b, u') ∧ RCt u' (app h 7 a b c d e v) ∧ RCm u' (app h 7 a b c d e v) ∧ RCo u' (app h 7 a b c d e v) ∧ EC u u' := by
  have hn := hw.1
  rw [rfs_7] at hf
  obtain ⟨m, r, m60, rfl, er⟩ := rfM_in (bN_0 hf)
  obtain ⟨i0, p0, p1, -⟩ := hq
  have hT := WF_own hw m r er
  obtain ⟨q15, -⟩ := rowC_at hm m60 er
  have hc := cnt_drop m60 er
  obtain ⟨u1, e1, f1, o1, s1, l1, x1⟩ := wI (z := u) (k := 15) (n := 60) (j := m) m60 (by decide) (-2)
  obtain ⟨u2, e2, f2, o2, i2, l2, x2⟩ := wS u1 300 (nI (cnt (hN h, hF h, hA h, hM h, hL h, va_up (hB h) m none) 60))
  have ea : app h 7 (nI m) b c d e v = (hN h, hF h, hA h, hM h, hL h, va_up (hB h) m none) := by
    show (hN h, hF h, hA h, hM h, hL h, va_up (hB h) (cl (nI m)) none) = _
    rw [cl_nI (by omega)]
  rw [ea]
  refine ⟨u2, ?_, RCt_T (RCt_same hr (by rw [o2 200 (by decide), s1]) (by rw [i2, o1 8 (by decide)]) (by rw [i2, o1 9 (by decide)]) (by rw [i2, o1 10 (by decide)]) (by rw [i2, o1 11 (by decide)]) (by rw [i2, o1 12 (by decide)])), ?_, RCo_T ho (by rw [i2, o1 13 (by decide)]) (by rw [o2 207 (by decide), s1]), (x1 _ _ _ (by decide)).trans (x2 _ _ _ (by decide))⟩
  · have ep : sI u1 300 - 1 = nI (cnt (hN h, hF h, hA h, hM h, hL h, va_up (hB h) m none) 60) := by rw [s1, hm.1, ← hc, pred_nI]
    rw [fX2_carryOut, peI_ok i0, Option.bind_some, p0, if_neg (by decide), if_neg (by decide), if_neg (by decide), if_neg (by decide), if_neg (by decide), if_neg (by decide), if_neg (by decide), if_pos rfl, peI_ok i0, Option.bind_some, p1, fX6_remove, isM_raw m60 (by rw [q15]; exact nI_ne_m2 (by omega)), Option.bind_some, if_neg (by decide), e1, Option.bind_some, ep, e2]; rfl
  · refine RCm_up hm f2 (fun j hj => by rw [i2, f1, upd_n hj]) (fun j _ => by rw [i2, o1 16 (by decide)]) (fun j _ => by rw [i2, o1 17 (by decide)]) (fun j _ => by rw [i2, o1 18 (by decide)]) (fun j _ => by rw [i2, o1 19 (by decide)]) (fun j _ => by rw [i2, o1 20 (by decide)]) (fun j _ => by rw [l2, l1]) ?_
    show aI u2 15 m = -2
    rw [i2, f1, upd_s]
theorem carry_8 {u : ST} {h : HA} (hw : WF h) (hr : RCt u h) (hm : RCm u h) (ho : RCo u h) {a b c d e : Int32} {v : Int64} {q : Nat} (hq : EQ u q 8 a b c d e v) (hf : rfs h 8 a b c d e = 0) : ∃ u', fX2_carryOut u q = some (ans h 8 a b, u') ∧ RCt u' (app h 8 a b c d e v) ∧ RCm u' (app h 8 a b c d e v) ∧ RCo u' (app h 8 a b c d e v) ∧ EC u u' := by
  have hn := hw.1
  rw [rfs_8] at hf
  obtain ⟨m, r, m60, rfl, er⟩ := rfM_in (bN_0 hf)
  obtain ⟨i0, p0, p1, p2, -⟩ := hq
  have hT := WF_own hw m r er
  obtain ⟨q15, q16, q17, q18, q19, q20, q21⟩ := rowC_at hm m60 er
  obtain ⟨u1, e1, f1, o1, s1, l1, x1⟩ := wI (z := u) (k := 18) (n := 60) (j := m) m60 (by decide) b
  have ea : app h 8 (nI m) b c d e v = (hN h, hF h, hA h, hM h, hL h, va_up (hB h) m (some (rM r, rT r, rN r, b, rA r, rB r, rV r))) := by
    show (hN h, hF h, hA h, hM h, hL h, va_up (hB h) (cl (nI m)) ((hB h (cl (nI m))).map (fun r => (rM r, rT r, rN r, b, rA r, rB r, rV r)))) = _
    rw [cl_nI (by omega), er]; rfl
  rw [ea]
  refine ⟨u1, ?_, RCt_T (RCt_same hr (by rw [s1]) (o1 8 (by decide)) (o1 9 (by decide)) (o1 10 (by decide)) (o1 11 (by decide)) (o1 12 (by decide))), ?_, RCo_T ho (o1 13 (by decide)) (by rw [s1]), x1 _ _ _ (by decide)⟩
  · rw [fX2_carryOut, peI_ok i0, Option.bind_some, p0, if_neg (by decide), if_neg (by decide), if_neg (by decide), if_neg (by decide), if_neg (by decide), if_neg (by decide), if_neg (by decide), if_neg (by decide), if_pos rfl, peI_ok i0, Option.bind_some, peI_ok i0, Option.bind_some, p1, p2, fX6_changeMarks, isM_raw m60 (by rw [q15]; exact nI_ne_m2 (by omega)), Option.bind_some, if_neg (by decide), rdI_nI m60 (by decide), Option.bind_some, e1, Option.bind_some, b2_eq, q18]
    show some (rK r, u1) = some ((match hB h (cl (nI m)) with
      | none => 0
      | some r => rK r), u1)
    rw [cl_nI (by omega), er]
  · refine RCm_up hm (by rw [s1, hm.1, cnt_keep er]) (fun j _ => by rw [o1 15 (by decide)]) (fun j _ => by rw [o1 16 (by decide)]) (fun j _ => by rw [o1 17 (by decide)]) (fun j hj => by rw [f1, upd_n hj]) (fun j _ => by rw [o1 19 (by decide)]) (fun j _ => by rw [o1 20 (by decide)]) (fun j _ => by rw [l1]) ?_
    exact ⟨by rw [o1 15 (by decide)]; exact q15, by rw [o1 16 (by decide)]; exact q16, by rw [o1 17 (by decide)]; exact q17, by rw [f1, upd_s]; rfl, by rw [o1 19 (by decide)]; exact q19, by rw [o1 20 (by decide)]; exact q20, by rw [l1]; exact q21⟩
theorem carry_9 {u : ST} {h : HA} (hw : WF h) (hr : RCt u h) (hm : RCm u h) (ho : RCo u h) {a b c d e : Int32} {v : Int64} {q : Nat} (hq : EQ u q 9 a b c d e v) (hf : rfs h 9 a b c d e = 0) : ∃ u', fX2_carryOut u q = some (ans h 9 a b, u') ∧ RCt u' (app h 9 a b c d e v) ∧ RCm u' (app h 9 a b c d e v) ∧ RCo u' (app h 9 a b c d e v) ∧ EC u u' := by
  have hn := hw.1
  rw [rfs_9] at hf
  obtain ⟨m, r, m60, rfl, er⟩ := rfM_in (bN_0 hf)
  obtain ⟨i0, p0, p1, -, -, -, -, p6⟩ := hq
  have hT := WF_own hw m r er
  obtain ⟨q15, q16, q17, q18, q19, q20, q21⟩ := rowC_at hm m60 er
  obtain ⟨u1, e1, f1, f1b, s1, i1, x1⟩ := e6_putValue (u := u) m60 (by rw [q15]; exact nI_ne_m2 (by omega)) q16 q19 v
  have ea : app h 9 (nI m) b c d e v = (hN h, hF h, hA h, hM h, hL h, va_up (hB h) m (some (rM r, rT r, rN r, rK r, rA r, rB r, v))) := by
    show (hN h, hF h, hA h, hM h, hL h, va_up (hB h) (cl (nI m)) ((hB h (cl (nI m))).map (fun r => (rM r, rT r, rN r, rK r, rA r, rB r, v)))) = _
    rw [cl_nI (by omega), er]; rfl
  rw [ea]
  refine ⟨u1, ?_, RCt_T (RCt_same hr (by rw [s1]) (by rw [i1]) (by rw [i1]) (by rw [i1]) (by rw [i1]) (by rw [i1])), ?_, RCo_T ho (by rw [i1]) (by rw [s1]), x1 _ _ _ (by decide)⟩
  · rw [fX2_carryOut, peI_ok i0, Option.bind_some, p0, if_neg (by decide), if_neg (by decide), if_neg (by decide), if_neg (by decide), if_neg (by decide), if_neg (by decide), if_neg (by decide), if_neg (by decide), if_neg (by decide), if_pos rfl, peI_ok i0, Option.bind_some, peV_ok i0, Option.bind_some, p1, p6, e1]; rfl
  · refine RCm_up hm (by rw [s1, hm.1, cnt_keep er]) (fun j _ => by rw [i1]) (fun j _ => by rw [i1]) (fun j _ => by rw [i1]) (fun j _ => by rw [i1]) (fun j _ => by rw [i1]) (fun j _ => by rw [i1]) f1b ?_
    exact ⟨by rw [i1]; exact q15, by rw [i1]; exact q16, by rw [i1]; exact q17, by rw [i1]; exact q18, by rw [i1]; exact q19, by rw [i1]; exact q20, f1⟩
theorem carry_10 {u : ST} {h : HA} (hw : WF h) (hr : RCt u h) (hm : RCm u h) (ho : RCo u h) {a b c d e : Int32} {v : Int64} {q : Nat} (hq : EQ u q 10 a b c d e v) (hf : rfs h 10 a b c d e = 0) : ∃ u', fX2_carryOut u q = some (ans h 10 a b, u') ∧ RCt u' (app h 10 a b c d e v) ∧ RCm u' (app h 10 a b c d e v) ∧ RCo u' (app h 10 a b c d e v) ∧ EC u u' := by
  have hn := hw.1
  rw [rfs_10] at hf
  have hf1 := bN_0 hf
  obtain ⟨m, r, m60, rfl, er⟩ := rfM_in hf1
  rw [rfM_yes m60 er, if_neg (by decide), if_pos rfl, Bool.and_eq_true] at hf1
  have erm : rM r = false := by simpa using hf1.1
  obtain ⟨i0, p0, p1, p2, -, -, -, p6⟩ := hq
  have hT := WF_own hw m r er
  obtain ⟨q15, q16, q17, q18, q19, q20, q21⟩ := rowC_at hm m60 er
  obtain ⟨u1, e1, f1, o1, s1, l1, x1⟩ := wI (z := u) (k := 19) (n := 60) (j := m) m60 (by decide) b
  obtain ⟨u2, e2, f2, f2b, s2, i2, x2⟩ := e6_putValue (u := u1) m60 (by rw [o1 15 (by decide), q15]; exact nI_ne_m2 (by omega)) (im := rM r) (by rw [o1 16 (by decide), q16]) (k := b) (by rw [f1, upd_s]) v
  have ea : app h 10 (nI m) b c d e v = (hN h, hF h, hA h, hM h, hL h, va_up (hB h) m (some (rM r, rT r, rN r, rK r, b, rB r, v))) := by
    show (hN h, hF h, hA h, hM h, hL h, va_up (hB h) (cl (nI m)) ((hB h (cl (nI m))).map (fun r => (rM r, rT r, rN r, rK r, b, rB r, v)))) = _
    rw [cl_nI (by omega), er]; rfl
  rw [ea]
  have e0 : fX6_isField u (nI m) = some 1 := by rw [e6_isField hm hn (WF_own hw), fiB_nI m60 er, erm]; rfl
  refine ⟨u2, ?_, RCt_T (RCt_same hr (by rw [s2, s1]) (by rw [i2, o1 8 (by decide)]) (by rw [i2, o1 9 (by decide)]) (by rw [i2, o1 10 (by decide)]) (by rw [i2, o1 11 (by decide)]) (by rw [i2, o1 12 (by decide)])), ?_, RCo_T ho (by rw [i2, o1 13 (by decide)]) (by rw [s2, s1]), (x1 _ _ _ (by decide)).trans (x2 _ _ _ (by decide))⟩
  · rw [fX2_carryOut, peI_ok i0, Option.bind_some, p0, if_neg (by decide), if_neg (by decide), if_neg (by decide), if_neg (by decide), if_neg (by decide), if_neg (by decide), if_neg (by decide), if_neg (by decide), if_neg (by decide), if_neg (by decide), if_pos rfl, peI_ok i0, Option.bind_some, peI_ok i0, Option.bind_some, peV_ok i0, Option.bind_some, p1, p2, p6, fX6_changeKind, e0, Option.bind_some, if_neg (by decide), e1, Option.bind_some, e2]; rfl
  · refine RCm_up hm (by rw [s2, s1, hm.1, cnt_keep er]) (fun j _ => by rw [i2, o1 15 (by decide)]) (fun j _ => by rw [i2, o1 16 (by decide)]) (fun j _ => by rw [i2, o1 17 (by decide)]) (fun j _ => by rw [i2, o1 18 (by decide)]) (fun j hj => by rw [i2, f1, upd_n hj]) (fun j _ => by rw [i2, o1 20 (by decide)]) (fun j hj => by rw [f2b j hj, l1]) ?_
    exact ⟨by rw [i2, o1 15 (by decide)]; exact q15, by rw [i2, o1 16 (by decide)]; exact q16, by rw [i2, o1 17 (by decide)]; exact q17, by rw [i2, o1 18 (by decide)]; exact q18, by rw [i2, f1, upd_s]; rfl, by rw [i2, o1 20 (by decide)]; exact q20, f2⟩
theorem carry_11 {u : ST} {h : HA} (hw : WF h) (hr : RCt u h) (hm : RCm u h) (ho : RCo u h) {a b c d e : Int32} {v : Int64} {q : Nat} (hq : EQ u q 11 a b c d e v) (hf : rfs h 11 a b c d e = 0) : ∃ u', fX2_carryOut u q = some (ans h 11 a b, u') ∧ RCt u' (app h 11 a b c d e v) ∧ RCm u' (app h 11 a b c d e v) ∧ RCo u' (app h 11 a b c d e v) ∧ EC u u' := by
  have hn := hw.1
  obtain ⟨m, r, j, m60, rfl, er, hj, rfl⟩ := rfs11_in hw hf
  obtain ⟨i0, p0, p1, p2, -⟩ := hq
  have hT := WF_own hw m r er
  obtain ⟨q15, q16, q17, q18, q19, q20, q21⟩ := rowC_at hm m60 er
  obtain ⟨u1, e1, f1, o1, s1, l1, x1⟩ := wI (z := u) (k := 15) (n := 60) (j := m) m60 (by decide) (nI j)
  have ea : app h 11 (nI m) (nI j) c d e v = (hN h, hF h, hA h, hM h, hL h, va_up (hB h) m (some (rM r, j, rN r, rK r, rA r, rB r, rV r))) := by
    show (hN h, hF h, hA h, hM h, hL h, va_up (hB h) (cl (nI m)) ((hB h (cl (nI m))).map (fun r => (rM r, cl (nI j), rN r, rK r, rA r, rB r, rV r)))) = _
    rw [cl_nI (show m < 2 ^ 31 by omega), cl_nI (show j < 2 ^ 31 by omega), er]; rfl
  rw [ea]
  refine ⟨u1, ?_, RCt_T (RCt_same hr (by rw [s1]) (o1 8 (by decide)) (o1 9 (by decide)) (o1 10 (by decide)) (o1 11 (by decide)) (o1 12 (by decide))), ?_, RCo_T ho (o1 13 (by decide)) (by rw [s1]), x1 _ _ _ (by decide)⟩
  · rw [fX2_carryOut, peI_ok i0, Option.bind_some, p0, if_neg (by decide), if_neg (by decide), if_neg (by decide), if_neg (by decide), if_neg (by decide), if_neg (by decide), if_neg (by decide), if_neg (by decide), if_neg (by decide), if_neg (by decide), if_neg (by decide), if_pos rfl, peI_ok i0, Option.bind_some, peI_ok i0, Option.bind_some, p1, p2, fX6_changeOwner, isM_raw m60 (by rw [q15]; exact nI_ne_m2 (by omega)), Option.bind_some, if_neg (by decide), e1]; rfl
  · refine RCm_up hm (by rw [s1, hm.1, cnt_keep er]) (fun j hj => by rw [f1, upd_n hj]) (fun j _ => by rw [o1 16 (by decide)]) (fun j _ => by rw [o1 17 (by decide)]) (fun j _ => by rw [o1 18 (by decide)]) (fun j _ => by rw [o1 19 (by decide)]) (fun j _ => by rw [o1 20 (by decide)]) (fun j _ => by rw [l1]) ?_
    exact ⟨by rw [f1, upd_s]; rfl, by rw [o1 16 (by decide)]; exact q16, by rw [o1 17 (by decide)]; exact q17, by rw [o1 18 (by decide)]; exact q18, by rw [o1 19 (by decide)]; exact q19, by rw [o1 20 (by decide)]; exact q20, by rw [l1]; exact q21⟩
theorem e2_carryOut {u : ST} {h : HA} (hw : WF h) (hr : RCt u h) (hm : RCm u h) (ho : RCo u h) {w a b c d e : Int32} {v : Int64} {q : Nat} (hq : EQ u q w a b c d e v) (hl : lgl h w a b c d e) : ∃ u', fX2_carryOut u q = some (ans h w a b, u') ∧ RCt u' (app h w a b c d e v) ∧ RCm u' (app h w a b c d e v) ∧ RCo u' (app h w a b c d e v) ∧ EC u u' := by
  obtain ⟨l1, l2, hf⟩ := hl
  rcases w12 l1 with rfl | rfl | rfl | rfl | rfl | rfl | rfl | rfl | rfl | rfl | rfl | rfl
  · exact carry_0 hw hr hm ho hq hf
  · exact carry_1 hw hr hm ho hq hf
  · exact carry_2 hw hr hm ho hq hf
  · exact carry_3 hw hr hm ho hq hf
  · exact carry_4 hw hr hm ho hq hf
  · exact carry_5 hw hr hm ho hq hf
  · exact carry_6 hw hr hm ho hq hf
  · exact carry_7 hw hr hm ho hq hf
  · exact carry_8 hw hr hm ho hq hf
  · exact carry_9 hw hr hm ho hq hf
  · exact carry_10 hw hr hm ho hq hf
  · exact carry_11 hw hr hm ho hq hf
