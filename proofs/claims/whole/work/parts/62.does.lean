/-! ===== an EDIT is carried out: the reference ===== -/
def hsl : List Nat := [1, 2, 3, 4, 5, 6, 7, 8, 9, 10, 11, 12, 13]
abbrev EH (u v : ST) : Prop := EX u v [0] hsl [14]
/-- what must hold of an EDIT's numbers at h -/
def lgl (h : HA) (w a b c d e : Int32) : Prop := isN w 12 = true ∧ (w = 0 → a = 0 ∨ a = 1) ∧ rfs h w a b c d e = 0
theorem RMt_same {z v : ST} {h : HA} (hr : RMt z h) (h0 : sI v 0 = sI z 0) (h1 : aI v 1 = aI z 1) (h2 : aI v 2 = aI z 2) (h3 : aI v 3 = aI z 3) (h4 : aI v 4 = aI z 4) (h5 : aI v 5 = aI z 5) : RMt v h := by
  unfold RMt at hr ⊢
  rw [h0, h1, h2, h3, h4, h5]; exact hr
theorem RMm_same {z v : ST} {h : HA} (hm : RMm z h) (h6 : aI v 6 = aI z 6) (h7 : aI v 7 = aI z 7) (h8 : aI v 8 = aI z 8) (h9 : aI v 9 = aI z 9) (h10 : aI v 10 = aI z 10) (h11 : aI v 11 = aI z 11) (h12 : aI v 12 = aI z 12) (h13 : aI v 13 = aI z 13) (h14 : aL v 14 = aL z 14) : RMm v h := by
  unfold RMm at hm ⊢
  rw [h6, h7, h8, h9, h10, h11, h12, h13, h14]; exact hm
/-- the MEMBERS are the same, whatever the TYPES are -/
theorem RMm_B {z : ST} {h g : HA} (e : hB g = hB h) (hm : RMm z h) : RMm z g := by
  unfold RMm at hm ⊢
  rw [e]; exact hm
theorem RMt_T {z : ST} {h : HA} {B : Nat → Option MR} (hr : RMt z h) : RMt z (hN h, hF h, hA h, hM h, hL h, B) := hr
theorem does_0 {z : ST} {h : HA} (hw : WF h) (hr : RMt z h) (hm : RMm z h) {a b c d e : Int32} {v : Int64} (ha : a = 0 ∨ a = 1) (hf : rfs h 0 a b c d e = 0) : ∃ z', fX9_does z 0 a b c d e v = some (ans h 0 a b, z') ∧ RMt z' (app h 0 a b c d e v) ∧ RMm z' (app h 0 a b c d e v) ∧ EH z z' := by
  obtain ⟨n12, c4, hb⟩ := rfs0_in hw hf
  have eb : b = oI (oN b) := by
    rcases hb with ⟨q, q2⟩ | ⟨-, j, -, q, q2, -⟩
    · rw [q2, q]; rfl
    · rw [q2, q]; rfl
  have key : ∃ z', fX9_does_L66 z b c (sI z 0) (bI (!decide (a = 0))) = some (ans h 0 a b, z') ∧ RMt z' (app h 0 a b c d e v) ∧ RMm z' (app h 0 a b c d e v) ∧ EH z z' := by
    have s0 := hr.1
    obtain ⟨z1, e1, f1, o1, s1, l1, x1⟩ := wZ (z := z) (k := 1) (n := 12) n12 (by decide) (!decide (a = 0))
    obtain ⟨z2, e2, f2, o2, s2, l2, x2⟩ := wI (z := z1) (k := 2) (n := 12) n12 (by decide) b
    obtain ⟨z3, e3, f3, o3, s3, l3, x3⟩ := wI (z := z2) (k := 3) (n := 12) n12 (by decide) c
    obtain ⟨z4, e4, f4, o4, s4, l4, x4⟩ := wI (z := z3) (k := 4) (n := 12) n12 (by decide) 0
    obtain ⟨z5, e5, f5, o5, i5, l5, x5⟩ := wS z4 0 (nI (hN h + 1))
    refine ⟨z5, ?_, ?_, ?_, ?_⟩
    · rw [fX9_does_L66, s0, e1, Option.bind_some, s1, s0, e2, Option.bind_some, s2, s1, s0, e3, Option.bind_some, s3, s2, s1, s0, e4, Option.bind_some, s4, s3, s2, s1, s0, nI_1, e5, Option.bind_some, f5]
      show some (nI (hN h + 1) - 1, z5) = some (nI (hN h), z5)
      rw [pred_nI]
    · have q1 : aI z5 1 = upd (aI z 1) (hN h) (bI (!decide (a = 0))) := by rw [i5, o4 1 (by decide), o3 1 (by decide), o2 1 (by decide), f1]
      have q2 : aI z5 2 = upd (aI z 2) (hN h) (oI (oN b)) := by rw [i5, o4 2 (by decide), o3 2 (by decide), f2, o1 2 (by decide), ← eb]
      have q3 : aI z5 3 = upd (aI z 3) (hN h) c := by rw [i5, o4 3 (by decide), f3, o2 3 (by decide), o1 3 (by decide)]
      have q4 : aI z5 4 = upd (aI z 4) (hN h) 0 := by rw [i5, f4, o3 4 (by decide), o2 4 (by decide), o1 4 (by decide)]
      have q5 : aI z5 5 = aI z 5 := by rw [i5, o4 5 (by decide), o3 5 (by decide), o2 5 (by decide), o1 5 (by decide)]
      show RT (sI z5 0) (aI z5 1) (aI z5 2) (aI z5 3) (aI z5 4) (aI z5 5) (hN h + 1, va_up (hF h) (hN h) (!decide (a = 0)), va_up (hA h) (hN h) (oN b), va_up (hM h) (hN h) c, va_up (hL h) (hN h) [], hB h)
      rw [f5, q1, q2, q3, q4, q5]
      exact RT_0 hr _ _ _
    · have q : ∀ k, k ≠ 1 → k ≠ 2 → k ≠ 3 → k ≠ 4 → aI z5 k = aI z k := fun k k1 k2 k3 k4 => by rw [i5, o4 k k4, o3 k k3, o2 k k2, o1 k k1]
      have ql : aL z5 14 = aL z 14 := by rw [l5, l4, l3, l2, l1]
      exact RMm_B (h := h) rfl (RMm_same hm (q 6 (by decide) (by decide) (by decide) (by decide)) (q 7 (by decide) (by decide) (by decide) (by decide)) (q 8 (by decide) (by decide) (by decide) (by decide)) (q 9 (by decide) (by decide) (by decide) (by decide)) (q 10 (by decide) (by decide) (by decide) (by decide)) (q 11 (by decide) (by decide) (by decide) (by decide)) (q 12 (by decide) (by decide) (by decide) (by decide)) (q 13 (by decide) (by decide) (by decide) (by decide)) ql)
    · exact ((((x1 _ _ _ (by decide)).trans (x2 _ _ _ (by decide))).trans (x3 _ _ _ (by decide))).trans (x4 _ _ _ (by decide))).trans (x5 _ _ _ (by decide))
  rw [fX9_does, if_pos rfl]
  rcases ha with rfl | rfl
  · rw [if_neg (by decide)]; exact key
  · rw [if_pos rfl]; exact key
theorem rfs1_in {h : HA} (hw : WF h) {a b c d e : Int32} (hf : rfs h 1 a b c d e = 0) : ∃ i, i < hN h ∧ a = nI i ∧ b = oI (oN b) := by
  have hn := hw.1
  rw [rfs_1] at hf
  obtain ⟨g1, -⟩ := bY_0 hf
  rw [Bool.and_eq_true] at g1
  obtain ⟨i, hi, rfl, -⟩ := clB_nI hn g1.1
  refine ⟨i, hi, rfl, ?_⟩
  by_cases cb : b = -2
  · rw [cb]; rfl
  · have g3 : clB h b = true := by
      have := g1.2
      simpa [cb] using this
    obtain ⟨j, hj, rfl, -⟩ := clB_nI hn g3
    show nI j = oI (if nI j = -2 then none else some (cl (nI j)))
    rw [if_neg cb, cl_nI (by omega)]; rfl
theorem does_1 {z : ST} {h : HA} (hw : WF h) (hr : RMt z h) (hm : RMm z h) {a b c d e : Int32} {v : Int64} (hf : rfs h 1 a b c d e = 0) : ∃ z', fX9_does z 1 a b c d e v = some (ans h 1 a b, z') ∧ RMt z' (app h 1 a b c d e v) ∧ RMm z' (app h 1 a b c d e v) ∧ EH z z' := by
  have hn := hw.1
  obtain ⟨i, hi, rfl, eb⟩ := rfs1_in hw hf
  obtain ⟨z1, e1, f1, o1, s1, l1, x1⟩ := wI (z := z) (k := 2) (n := 12) (j := i) (by omega) (by decide) b
  refine ⟨z1, ?_, ?_, ?_, x1 _ _ _ (by decide)⟩
  · rw [fX9_does, if_neg (by decide), if_pos rfl, e1]; rfl
  · show RT (sI z1 0) (aI z1 1) (aI z1 2) (aI z1 3) (aI z1 4) (aI z1 5) (hN h, hF h, va_up (hA h) (cl (nI i)) (oN b), hM h, hL h, hB h)
    have f1' : aI z1 2 = upd (aI z 2) i (oI (oN b)) := by rw [f1, ← eb]
    rw [cl_nI (by omega), s1, o1 1 (by decide), f1', o1 3 (by decide), o1 4 (by decide), o1 5 (by decide)]
    exact RT_1 hr i _
  · exact RMm_B (h := h) rfl (RMm_same hm (o1 6 (by decide)) (o1 7 (by decide)) (o1 8 (by decide)) (o1 9 (by decide)) (o1 10 (by decide)) (o1 11 (by decide)) (o1 12 (by decide)) (o1 13 (by decide)) (by rw [l1]))
theorem rfs2_in {h : HA} (hw : WF h) {a b c d e : Int32} (hf : rfs h 2 a b c d e = 0) : ∃ i j, i < hN h ∧ j < hN h ∧ a = nI i ∧ b = nI j ∧ (hL h i).length < 3 := by
  have hn := hw.1
  rw [rfs_2] at hf
  obtain ⟨g1, g2⟩ := bY_0 hf
  simp only [Bool.and_eq_true] at g1
  obtain ⟨p1, p2, p3, p4⟩ := g1
  obtain ⟨i, hi, rfl⟩ := isN_true p1 (by omega)
  unfold faB at p2
  rw [Bool.and_eq_true] at p2
  obtain ⟨j, hj, rfl⟩ := isN_true p2.1 (by omega)
  rw [cl_nI (by omega)] at p3
  have n3 : ¬ (hL h i).length = 3 := by simpa using p3
  have := (hw.2.2.1 i hi).1
  exact ⟨i, j, hi, hj, rfl, rfl, by omega⟩
theorem idx3 (i k : Nat) : 3 * nI i + nI k = nI (3 * i + k) := by
  have : (3 : Int32) = nI 3 := rfl
  rw [this, pk_mul, nI_add]
theorem does_2 {z : ST} {h : HA} (hw : WF h) (hr : RMt z h) (hm : RMm z h) {a b c d e : Int32} {v : Int64} (hf : rfs h 2 a b c d e = 0) : ∃ z', fX9_does z 2 a b c d e v = some (ans h 2 a b, z') ∧ RMt z' (app h 2 a b c d e v) ∧ RMm z' (app h 2 a b c d e v) ∧ EH z z' := by
  have hn := hw.1
  obtain ⟨i, j, hi, hj, rfl, rfl, h3⟩ := rfs2_in hw hf
  have q4 := (hr.2 i hi).2.2.2.1
  obtain ⟨z1, e1, f1, o1, s1, l1, x1⟩ := wI (z := z) (k := 5) (n := 36) (j := 3 * i + (hL h i).length) (by omega) (by decide) (nI j)
  obtain ⟨z2, e2, f2, o2, s2, l2, x2⟩ := wI (z := z1) (k := 4) (n := 12) (j := i) (by omega) (by decide) (nI ((hL h i).length + 1))
  refine ⟨z2, ?_, ?_, ?_, (x1 _ _ _ (by decide)).trans (x2 _ _ _ (by decide))⟩
  · rw [fX9_does, if_neg (by decide), if_neg (by decide), if_pos rfl, rdI_nI (by omega) (by decide), Option.bind_some, q4, idx3, e1, Option.bind_some, rdI_nI (by omega) (by decide), Option.bind_some, o1 4 (by decide), q4, nI_1, e2, Option.bind_some, rdI_nI (by omega) (by decide), Option.bind_some, f2, upd_s]
    show some (nI ((hL h i).length + 1), z2) = some (nI ((hL h (cl (nI i))).length + 1), z2)
    rw [cl_nI (by omega)]
  · show RT (sI z2 0) (aI z2 1) (aI z2 2) (aI z2 3) (aI z2 4) (aI z2 5) (hN h, hF h, hA h, hM h, va_up (hL h) (cl (nI i)) (hL h (cl (nI i)) ++ [cl (nI j)]), hB h)
    rw [cl_nI (by omega), cl_nI (by omega), s2, s1, o2 1 (by decide), o1 1 (by decide), o2 2 (by decide), o1 2 (by decide), o2 3 (by decide), o1 3 (by decide), f2, o1 4 (by decide), o2 5 (by decide), f1]
    exact RT_2 hw hr hi h3 j
  · have q : ∀ k, k ≠ 4 → k ≠ 5 → aI z2 k = aI z k := fun k k1 k2 => by rw [o2 k k1, o1 k k2]
    exact RMm_B (h := h) rfl (RMm_same hm (q 6 (by decide) (by decide)) (q 7 (by decide) (by decide)) (q 8 (by decide) (by decide)) (q 9 (by decide) (by decide)) (q 10 (by decide) (by decide)) (q 11 (by decide) (by decide)) (q 12 (by decide) (by decide)) (q 13 (by decide) (by decide)) (by rw [l2, l1]))
theorem rfs3_in {h : HA} (hw : WF h) {a b c d e : Int32} (hf : rfs h 3 a b c d e = 0) : ∃ i j, i < hN h ∧ j < (hL h i).length ∧ a = nI i ∧ b = nI j := by
  have hn := hw.1
  rw [rfs_3] at hf
  obtain ⟨g1, -⟩ := bY_0 hf
  rw [Bool.and_eq_true] at g1
  obtain ⟨i, hi, rfl⟩ := isN_true g1.1 (by omega)
  have h3 := (hw.2.2.1 i hi).1
  have g2 := g1.2
  rw [cl_nI (by omega)] at g2
  obtain ⟨j, hj, rfl⟩ := isN_true g2 (by omega)
  exact ⟨i, j, hi, hj, rfl, rfl⟩
theorem does_L170 {i len : Nat} (hi : i < 12) (hlen : len ≤ 2) : ∀ (rem k f : Nat) (z : ST), len ≤ k + rem → rem < f → k ≤ 3 → aI z 4 i = nI len → fX9_does_L170 f z (nI i) (nI k) = some (nI len, vI z 5 (shf (aI z 5) (3 * i + k) (3 * i + len)))
  | 0, k, f, z, hk, hf, hk3, h4 => by
    obtain ⟨f, rfl⟩ : ∃ j, f = j + 1 := ⟨f - 1, by omega⟩
    rw [fX9_does_L170, rdI_nI (by omega) (by decide), Option.bind_some, h4, if_pos (nI_le (by omega) (by omega)), Option.bind_some, shf_end (by omega), vI_self]
  | rem + 1, k, f, z, hk, hf, hk3, h4 => by
    obtain ⟨f, rfl⟩ : ∃ j, f = j + 1 := ⟨f - 1, by omega⟩
    rw [fX9_does_L170, rdI_nI (by omega) (by decide), Option.bind_some, h4]
    by_cases c : len ≤ k
    · rw [if_pos (nI_le c (by omega)), Option.bind_some, shf_end (by omega), vI_self]
    · rw [if_neg (nI_ge (by omega) (by omega)), idx3, nI_1, rdI_nI (by omega) (by decide), Option.bind_some, stI_nI (by omega) (by decide), Option.bind_some, nI_1]
      rw [does_L170 hi hlen rem (k + 1) f (vI z 5 (upd (aI z 5) (3 * i + k) (aI z 5 (3 * i + k + 1)))) (by omega) (by omega) (by omega) h4, aI_vI, vI_vI]
      congr 3
      exact shf_step (by omega)
theorem does_3 {z : ST} {h : HA} (hw : WF h) (hr : RMt z h) (hm : RMm z h) {a b c d e : Int32} {v : Int64} (hf : rfs h 3 a b c d e = 0) : ∃ z', fX9_does z 3 a b c d e v = some (ans h 3 a b, z') ∧ RMt z' (app h 3 a b c d e v) ∧ RMm z' (app h 3 a b c d e v) ∧ EH z z' := by
  have hn := hw.1
  obtain ⟨i, j, hi, hj, rfl, rfl⟩ := rfs3_in hw hf
  have h3 := (hw.2.2.1 i hi).1
  have q4 := (hr.2 i hi).2.2.2.1
  have ep : nI (hL h i).length - 1 = nI ((hL h i).length - 1) := by
    obtain ⟨n, hn⟩ : ∃ n, (hL h i).length = n + 1 := ⟨(hL h i).length - 1, by omega⟩
    rw [hn, pred_nI]; rfl
  obtain ⟨z1, e1, f1, o1, s1, l1, x1⟩ := wI (z := z) (k := 4) (n := 12) (j := i) (by omega) (by decide) (nI ((hL h i).length - 1))
  have el := does_L170 (i := i) (len := (hL h i).length - 1) (by omega) (by omega) 5 j 5000 z1 (by omega) (by omega) (by omega) (by rw [f1, upd_s])
  obtain ⟨z2, hz2⟩ : ∃ z2, z2 = vI z1 5 (shf (aI z1 5) (3 * i + j) (3 * i + ((hL h i).length - 1))) := ⟨_, rfl⟩
  have q5 : aI z2 5 = shf (aI z 5) (3 * i + j) (3 * i + ((hL h i).length - 1)) := by rw [hz2, aI_vI, o1 5 (by decide)]
  have o2 : ∀ k, k ≠ 5 → aI z2 k = aI z1 k := fun k hk => by rw [hz2]; exact va_up_ne _ _ hk
  have s2 : sI z2 = sI z1 := by rw [hz2]; rfl
  have l2 : aL z2 = aL z1 := by rw [hz2]; rfl
  have x2 : EH z1 z2 := by rw [hz2]; exact EX.vI (by decide)
  rw [← hz2] at el
  refine ⟨z2, ?_, ?_, ?_, (x1 _ _ _ (by decide)).trans x2⟩
  · rw [fX9_does, if_neg (by decide), if_neg (by decide), if_neg (by decide), if_pos rfl, rdI_nI (by omega) (by decide), Option.bind_some, q4, ep, e1, Option.bind_some, el]
    show some (nI ((hL h i).length - 1), z2) = some (nI ((hL h (cl (nI i))).length - 1), z2)
    rw [cl_nI (by omega)]
  · show RT (sI z2 0) (aI z2 1) (aI z2 2) (aI z2 3) (aI z2 4) (aI z2 5) (hN h, hF h, hA h, hM h, va_up (hL h) (cl (nI i)) ((hL h (cl (nI i))).eraseIdx (cl (nI j))), hB h)
    rw [cl_nI (by omega), cl_nI (by omega), s2, s1, o2 1 (by decide), o1 1 (by decide), o2 2 (by decide), o1 2 (by decide), o2 3 (by decide), o1 3 (by decide), o2 4 (by decide), f1, q5]
    exact RT_3 hw hr hi hj
  · have q : ∀ k, k ≠ 4 → k ≠ 5 → aI z2 k = aI z k := fun k k1 k2 => by rw [o2 k k2, o1 k k1]
    exact RMm_B (h := h) rfl (RMm_same hm (q 6 (by decide) (by decide)) (q 7 (by decide) (by decide)) (q 8 (by decide) (by decide)) (q 9 (by decide) (by decide)) (q 10 (by decide) (by decide)) (q 11 (by decide) (by decide)) (q 12 (by decide) (by decide)) (q 13 (by decide) (by decide)) (by rw [l2, l1]))
theorem rfs4_in {h : HA} (hw : WF h) {a b c d e : Int32} (hf : rfs h 4 a b c d e = 0) : ∃ i, i < hN h ∧ a = nI i := by
  have hn := hw.1
  rw [rfs_4] at hf
  obtain ⟨g1, -⟩ := bY_0 hf
  rw [Bool.and_eq_true] at g1
  exact isN_true g1.1 (by omega)
theorem does_4 {z : ST} {h : HA} (hw : WF h) (hr : RMt z h) (hm : RMm z h) {a b c d e : Int32} {v : Int64} (hf : rfs h 4 a b c d e = 0) : ∃ z', fX9_does z 4 a b c d e v = some (ans h 4 a b, z') ∧ RMt z' (app h 4 a b c d e v) ∧ RMm z' (app h 4 a b c d e v) ∧ EH z z' := by
  have hn := hw.1
  obtain ⟨i, hi, rfl⟩ := rfs4_in hw hf
  obtain ⟨z1, e1, f1, o1, s1, l1, x1⟩ := wI (z := z) (k := 3) (n := 12) (j := i) (by omega) (by decide) b
  refine ⟨z1, ?_, ?_, ?_, x1 _ _ _ (by decide)⟩
  · rw [fX9_does, if_neg (by decide), if_neg (by decide), if_neg (by decide), if_neg (by decide), if_pos rfl, rdI_nI (by omega) (by decide), Option.bind_some, e1, (hr.2 i hi).2.2.1]
    show some (hM h i, z1) = some (hM h (cl (nI i)), z1)
    rw [cl_nI (by omega)]
  · show RT (sI z1 0) (aI z1 1) (aI z1 2) (aI z1 3) (aI z1 4) (aI z1 5) (hN h, hF h, hA h, va_up (hM h) (cl (nI i)) b, hL h, hB h)
    rw [cl_nI (by omega), s1, o1 1 (by decide), o1 2 (by decide), f1, o1 4 (by decide), o1 5 (by decide)]
    exact RT_4 hr i b
  · exact RMm_B (h := h) rfl (RMm_same hm (o1 6 (by decide)) (o1 7 (by decide)) (o1 8 (by decide)) (o1 9 (by decide)) (o1 10 (by decide)) (o1 11 (by decide)) (o1 12 (by decide)) (o1 13 (by decide)) (by rw [l1]))
