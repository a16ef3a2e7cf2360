/-! ===== the rules of a house are kept: a move; a new TYPE ===== -/
theorem keep_11 {h : HA} (hw : WF h) {a b c d e : Int32} {v : Int64} (hf : rfs h 11 a b c d e = 0) : WF (app h 11 a b c d e v) := by
  have hn := hw.1
  rw [rfs_11] at hf
  have hf1 := bN_0 hf
  obtain ⟨m, r, m60, rfl, er⟩ := rfM_in hf1
  rw [rfM_yes m60 er, if_neg (by decide), if_neg (by decide), if_pos rfl] at hf1
  simp only [Bool.and_eq_true] at hf1
  obtain ⟨p1, p2, p3, p4⟩ := hf1
  obtain ⟨j, hj, rfl⟩ := isN_true p1 (by omega)
  rw [cl_nI (by omega)] at p3 p4
  have po : own h j (rM r) (rN r) (rA r) (rB r) = none := by simpa using p3
  show WF (hN h, hF h, hA h, hM h, hL h, va_up (hB h) (cl (nI m)) ((hB h (cl (nI m))).map (fun r => (rM r, cl (nI j), rN r, rK r, rA r, rB r, rV r))))
  rw [cl_nI (by omega), cl_nI (by omega), er]
  refine WF_B hw m60 (fun r' er' => ?_)
  injection er' with er'
  subst er'
  obtain ⟨o1, o2, o3, o4⟩ := hw.2.2.2.2.2.2.1 m r er
  refine ⟨⟨hj, o2, o3, fun k => ⟨(o4 k).1, (o4 k).2.1, (o4 k).2.2.1, fun x => ?_⟩⟩, fun q s hq es et hl => ?_⟩
  · have k' : rM r = false := k
    have x' : hF h j = true := x
    rw [k', x'] at p4
    show rK r &&& 1 ≠ 0
    simpa using p4
  · exact own_no po es (WF_60 hw es) et.symm hl.1.symm hl.2.1.symm (fun c => ⟨((hl.2.2 c).1).symm, ((hl.2.2 c).2).symm⟩)
