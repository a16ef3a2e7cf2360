/-! ===== making GET, CALL, NEW: the reference ===== -/
theorem okR_f {h : HA} (hw : WF h) {m : Nat} {r : MR} (e : hB h m = some r) (hm : rM r = false) : isN (rK r) 8 = true ∧ isN (rA r) 8 = true := by
  have := (hw.2.2.2.2.2.2.1 m r e).2.2.2 hm
  exact ⟨this.1, this.2.1⟩
theorem e9_makeG (hfp : FPx) {h : HA} (hw : WF h) {z : ST} (hr : RMt z h) (hm : RMm z h) {c t : Nat} (hc : c < 25) (ht : t < hN h) {n a b : Int32} (h0 : RM0 z c 0 (nI t) n a b) : ∃ z', (b2 (fX9_lookForField z (nI t) n 1) fun v19 u18 => if 0 ≤ v19 then (rdI u18 10 60 v19).bind fun v21 => if (v21 &&& 1) = 0 then fX9_making_L114 u18 (nI c) v19 (nI c) 0 else fX9_making_L114 u18 (nI c) v19 (nI c) 1 else some (1, u18)) = some ((mkG h t n).1, z') ∧ EM z z' c ∧ aI z' 41 c = aI z 41 c ∧ ((mkG h t n).1 = 0 → RMc z' c 0 (nI t) n a b (mkG h t n).2) := by
  have hn := hw.1
  obtain ⟨z3, e3, x3⟩ := e9_lookForField hr hm hw ht n true
  have e3' : fX9_lookForField z (nI t) n 1 = some (oI (lkF h t n true), z3) := e3
  have y3 : EM z z3 c := EM.of (El_em x3)
  have hm3 := RMm_em (El_em x3) hm
  have h3 := RM0_em (El_em x3) h0
  have g3 : aI z3 41 c = aI z 41 c := by rw [x3.2.2.1 41 (by decide)]
  rw [e3', b2_eq]
  cases el : lkF h t n true with
  | none =>
    have em : mkG h t n = (1, K0) := by unfold mkG; rw [el]
    refine ⟨z3, ?_, y3, g3, fun q => ?_⟩
    · rw [if_neg (by decide : ¬ (0 : Int32) ≤ oI none), em]
    · rw [em] at q; exact absurd q (by decide)
  | some m =>
    obtain ⟨m60, r, er, erm, -⟩ := lkF_some el
    have em : mkG h t n = (0, (-2, -2, rA r, haB h (nI m) 1, false, haB h (nI m) 1 && haB h (nI m) 2, if (haB h (nI m) 1 && haB h (nI m) 2) = true then co (rA r) (rV r) else 0)) := by unfold mkG; rw [el]; dsimp only; rw [er]
    obtain ⟨ok1, ok2⟩ := okR_f hw er erm
    have fin : ∀ s : Bool, s = haB h (nI m) 1 → ∃ z', fX9_making_L114 z3 (nI c) (nI m) (nI c) (bI s) = some (0, z') ∧ EM z z' c ∧ aI z' 41 c = aI z 41 c ∧ RMc z' c 0 (nI t) n a b (-2, -2, rA r, haB h (nI m) 1, false, haB h (nI m) 1 && haB h (nI m) 2, if (haB h (nI m) 1 && haB h (nI m) 2) = true then co (rA r) (rV r) else 0) := by
      intro s hs
      obtain ⟨z4, e4, y4, f4, o4, -, -⟩ := wwz (z := z3) (c := c) (k := 38) hc (by decide) s
      have ym4 := y3.trans y4
      have b10 : aI z4 10 m = rK r := RMm_marks (RMm_EM ym4 hm) m60 er
      have go : ∀ w : Bool, w = (haB h (nI m) 1 && haB h (nI m) 2) → ∃ z', fX9_making_L138 z4 (nI c) (nI m) (nI c) (bI w) = some (0, z') ∧ EM z z' c ∧ aI z' 41 c = aI z 41 c ∧ RMc z' c 0 (nI t) n a b (-2, -2, rA r, haB h (nI m) 1, false, haB h (nI m) 1 && haB h (nI m) 2, if (haB h (nI m) 1 && haB h (nI m) 2) = true then co (rA r) (rV r) else 0) := by
        intro w hws
        obtain ⟨z5, e5, y5, f5, o5, -, -⟩ := wwz (z := z4) (c := c) (k := 36) hc (by decide) w
        have ym5 := ym4.trans y5
        have b11 := (RMm_at (RMm_EM ym5 hm) m60 er).2.2.2.2.2.2.1 erm
        obtain ⟨z6, e6, y6, f6, o6, -, -⟩ := ww (z := z5) (c := c) (k := 40) hc (by decide) (rA r)
        have ym6 := ym5.trans y6
        have c11 := (RMm_at (RMm_EM ym6 hm) m60 er).2.2.2.2.2.2.1 erm
        have c14 := (RMm_at (RMm_EM ym6 hm) m60 er).2.2.2.2.2.2.2.2
        rw [if_neg (by rw [erm]; decide)] at c14
        obtain ⟨z7, e7, y7, f7, o7, -⟩ := wwl (z := z6) (c := c) hc (co (rA r) (rV r))
        refine ⟨z7, ?_, ym6.trans y7, ?_, ⟨⟨?_, ?_, ?_, ?_, ?_⟩, ?_, ?_, ?_, fun _ => ⟨?_, ?_⟩, fun q => absurd q (by decide), fun q => ?_⟩⟩
        · rw [fX9_making_L138, e5, Option.bind_some, rdI_nI m60 (by decide), Option.bind_some, b11, e6, Option.bind_some, rdI_nI m60 (by decide), Option.bind_some, c11, rdL_nI m60 (by decide), Option.bind_some, c14, Option.bind_some, e9_comes hfp ok2 ok2 (wd_refl ok2), Option.bind_some, co_co hfp ok2, e7, Option.bind_some]
        · rw [o7, o6 41 (by decide), o5 41 (by decide), o4 41 (by decide), g3]
        · rw [o7, o6 29 (by decide), o5 29 (by decide), o4 29 (by decide), h3.1.1]
        · rw [o7, o6 30 (by decide), o5 30 (by decide), o4 30 (by decide), h3.1.2.1]
        · rw [o7, o6 31 (by decide), o5 31 (by decide), o4 31 (by decide), h3.1.2.2.1]
        · rw [o7, o6 32 (by decide), o5 32 (by decide), o4 32 (by decide), h3.1.2.2.2.1]
        · rw [o7, o6 33 (by decide), o5 33 (by decide), o4 33 (by decide), h3.1.2.2.2.2]
        · rw [o7, o6 34 (by decide), o5 34 (by decide), o4 34 (by decide), h3.2.1]; rfl
        · rw [o7, o6 35 (by decide), o5 35 (by decide), o4 35 (by decide), h3.2.2.1]; rfl
        · rw [o7, o6 36 (by decide), f5, hws]; rfl
        · rw [o7, f6]; rfl
        · rw [o7, o6 38 (by decide), o5 38 (by decide), f4, hs]; rfl
        · have q' : (haB h (nI m) 1 && haB h (nI m) 2) = true := q
          rw [f7]
          show co (rA r) (rV r) = if (haB h (nI m) 1 && haB h (nI m) 2) = true then co (rA r) (rV r) else 0
          rw [if_pos q']
      rw [fX9_making_L114, e4, Option.bind_some, rdI_nI m60 (by decide), Option.bind_some, b10]
      obtain ⟨i, hi, ei⟩ := isN_true ok1 (by decide)
      have k3' := k3 i hi
      rw [← ei, ← haB_nI m60 er, ← haB_nI m60 er] at k3'
      by_cases q : rK r &&& 3 = 3
      · rw [if_pos q]
        exact go true (k3'.mp q).symm
      · rw [if_neg q]
        refine go false ?_
        cases d : (haB h (nI m) 1 && haB h (nI m) 2) with
        | false => rfl
        | true => exact absurd (k3'.mpr d) q
    have l0 : (0 : Int32) ≤ oI (some m) := nI_pos' (by omega)
    have c10 : aI z3 10 m = rK r := RMm_marks hm3 m60 er
    have h1 := haB_nI (h := h) m60 er 1
    rw [if_pos l0, oI_some, rdI_nI m60 (by decide), Option.bind_some, c10]
    by_cases q : rK r &&& 1 = 0
    · obtain ⟨z', b1, b2', b3, b4⟩ := fin false (by rw [h1]; simp [q])
      refine ⟨z', ?_, b2', b3, fun _ => ?_⟩
      · rw [if_pos q, em]; exact b1
      · rw [em]; exact b4
    · obtain ⟨z', b1, b2', b3, b4⟩ := fin true (by rw [h1]; simp [q])
      refine ⟨z', ?_, b2', b3, fun _ => ?_⟩
      · rw [if_neg q, em]; exact b1
      · rw [em]; exact b4
