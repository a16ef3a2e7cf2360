/-! ===== MEETING, whole: the reference ===== -/
theorem m_L209 {h : HA} (hw : WF h) {z : ST} (hr : RMt z h) (hm : RMm z h) {c t r : Nat} (hc : c < 25) (ht : t < hN h) (hrr : r < hN h) {so n a b : Int32} {K : CK} (hso : so = 0 ∨ so = 1) (hK : RMc z c so (nI t) n a b K) {m : Nat} {q : MR} (m60 : m < 60) (er : hB h m = some q) {E : Int32 × Int64} (hE : ∀ z1, RMt z1 h → RMm z1 h → RMc z1 c so (nI t) n a b K → haB h (nI m) 1 = kSt K → ∃ z', fX9_meets_L307 z1 (nI c) (nI r) so (nI m) (bI (kSt K)) = some (E.1, z') ∧ Em z1 z' ∧ (E.1 = 0 → sL z' 43 = E.2)) : ∃ z', fX9_meets_L209 z (nI c) (nI r) (nI t) so (nI m) = some ((if mtF h K t r m = 0 then E else (mtF h K t r m, 0)).1, z') ∧ Em z z' ∧ ((if mtF h K t r m = 0 then E else (mtF h K t r m, 0)).1 = 0 → sL z' 43 = (if mtF h K t r m = 0 then E else (mtF h K t r m, 0)).2) := by
  have b10 := (RMm_at hm m60 er).2.2.2.2.1
  have b38 : aI z 38 c = bI (kSt K) := by
    rcases hso with e | e
    · exact (hK.2.2.2.2.1 e).2
    · exact (hK.2.2.2.2.2.1 e).1
  have h4 := haB_nI (h := h) m60 er 4
  have h1 := haB_nI (h := h) m60 er 1
  have bad : ∀ (z1 : ST) (x : Int32), Em z z1 → mtF h K t r m = x → ¬ x = 0 → ∃ z', some (x, z1) = some ((if mtF h K t r m = 0 then E else (mtF h K t r m, 0)).1, z') ∧ Em z z' ∧ ((if mtF h K t r m = 0 then E else (mtF h K t r m, 0)).1 = 0 → sL z' 43 = (if mtF h K t r m = 0 then E else (mtF h K t r m, 0)).2) := by
    intro z1 x hz hx h0
    rw [hx, if_neg h0]
    exact ⟨z1, rfl, hz, fun y => absurd y h0⟩
  have good : ∀ (z1 : ST), Em z z1 → mtF h K t r m = 0 → haB h (nI m) 1 = kSt K → ∃ z', fX9_meets_L307 z1 (nI c) (nI r) so (nI m) (bI (kSt K)) = some ((if mtF h K t r m = 0 then E else (mtF h K t r m, 0)).1, z') ∧ Em z z' ∧ ((if mtF h K t r m = 0 then E else (mtF h K t r m, 0)).1 = 0 → sL z' 43 = (if mtF h K t r m = 0 then E else (mtF h K t r m, 0)).2) := by
    intro z1 hz h0 hs
    rw [if_pos h0]
    obtain ⟨z', e, x1, x2⟩ := hE z1 (RMt_em hz hr) (RMm_em hz hm) (RMc_em hz hK) hs
    exact ⟨z', e, hz.trans x1, x2⟩
  have l0 : (0 : Int32) ≤ nI m := nI_pos' (by omega)
  have step : ∀ s : Bool, s = haB h (nI m) 1 → haB h (nI m) 4 = false → ∃ z', fX9_meets_L249 z (nI c) (nI r) (nI t) so (nI m) (bI s) = some ((if mtF h K t r m = 0 then E else (mtF h K t r m, 0)).1, z') ∧ Em z z' ∧ ((if mtF h K t r m = 0 then E else (mtF h K t r m, 0)).1 = 0 → sL z' 43 = (if mtF h K t r m = 0 then E else (mtF h K t r m, 0)).2) := by
    intro s hs c4
    have n4 : ¬ haB h (nI m) 4 = true := by rw [c4]; decide
    rw [fX9_meets_L249, rdI_nI hc (by decide), Option.bind_some, b38]
    by_cases c2 : s = kSt K
    · have c2' : haB h (nI m) 1 = kSt K := hs.symm.trans c2
      rw [if_pos (by rw [c2]), c2]
      cases c3 : kSt K with
      | true =>
        rw [if_neg (by decide)]
        have g := good z E3.refl (by unfold mtF; rw [if_neg n4, if_pos c2', c3, if_pos rfl]) c2'
        rw [c3] at g; exact g
      | false =>
        have eF : mtF h K t r m = mtO h t r := by unfold mtF; rw [if_neg n4, if_pos c2', c3, if_neg Bool.false_ne_true]
        obtain ⟨z1, e1, y1⟩ := e9_readFails hr hm hw hrr
        rw [if_pos bI_f, e1, b2_eq]
        by_cases c5 : rdf h (chn h r) = 0
        · obtain ⟨qq, e2⟩ := e9_isBelow hw (RMt_em y1 hr) hrr ht
          have y2 : Em z (vI z1 15 qq) := y1.trans (E3.vI (by decide))
          rw [if_pos c5, e2, b2_eq]
          cases c6 : bel h r t with
          | false =>
            rw [if_pos bI_f, fX9_meets_L297, if_neg (by decide)]
            exact bad _ 6 y2 (by rw [eF]; unfold mtO; rw [if_pos c5, c6]; rfl) (by decide)
          | true =>
            rw [if_neg (by decide), fX9_meets_L295, fX9_meets_L297, if_pos (by rw [c5]; decide)]
            have g := good _ y2 (by rw [eF]; unfold mtO; rw [if_pos c5, c6]; rfl) c2'
            rw [c3] at g; exact g
        · rw [if_neg c5, fX9_meets_L295, fX9_meets_L297, if_neg (fun x => c5 (rdf_le.mp x))]
          exact bad _ _ y1 (by rw [eF]; unfold mtO; rw [if_neg c5]) c5
    · rw [if_neg (fun x => c2 (bI_inj x))]
      exact bad z 5 E3.refl (by unfold mtF; rw [if_neg n4, if_neg (fun x => c2 (hs.trans x))]) (by decide)
  rw [fX9_meets_L209, if_pos l0, rdI_nI m60 (by decide), Option.bind_some, b10]
  by_cases c4 : rK q &&& 4 = 0
  · have c4' : haB h (nI m) 4 = false := by rw [h4]; simp [c4]
    rw [if_pos c4, Option.bind_some]
    by_cases c1 : rK q &&& 1 = 0
    · rw [if_pos c1]; exact step false (by rw [h1]; simp [c1]) c4'
    · rw [if_neg c1]; exact step true (by rw [h1]; simp [c1]) c4'
  · rw [if_neg c4]
    exact bad z 4 E3.refl (by unfold mtF; rw [if_pos (by rw [h4]; simp [c4])]) (by decide)
theorem e9_isGone {z : ST} {h : HA} (hr : RMt z h) (hn : hN h ≤ 12) (x : Int32) : fX9_isGone z x = some (bI (!decide (x = -2) && !isN x (hN h))) := by
  unfold fX9_isGone
  by_cases c : x = -2
  · rw [if_pos c]; simp [c, bI]
  · rw [if_neg c, e9_isType hr hn, Option.bind_some]
    cases isN x (hN h) <;> simp [c, bI]
theorem e9_meets (hfp : FPx) {h : HA} (hw : WF h) {z : ST} (hr : RMt z h) (hm : RMm z h) {c r : Nat} (hc : c < 25) (hrr : r < hN h) {so t n a b : Int32} {K : CK} (hso : so = 0 ∨ so = 1 ∨ so = 2) (hK : RMc z c so t n a b K) (ht2 : ¬ t = -2) (hse : kFi K = -2 → kSe K = -2) (hk : so = 0 → isN (kKd K) 8 = true) : ∃ z', fX9_meets z (nI c) (nI r) = some ((mt h so t n K r).1, z') ∧ Em z z' ∧ ((mt h so t n K r).1 = 0 → sL z' 43 = (mt h so t n K r).2) := by
  have hn := hw.1
  have lost : ∃ z', some ((3 : Int32), z) = some (((3, 0) : Int32 × Int64).1, z') ∧ Em z z' ∧ (((3, 0) : Int32 × Int64).1 = 0 → sL z' 43 = ((3, 0) : Int32 × Int64).2) := ⟨z, rfl, E3.refl, fun x => absurd x (by decide)⟩
  rw [fX9_meets, rdI_nI hc (by decide), Option.bind_some, hK.1.2.1, e9_isGone hr hn, Option.bind_some]
  unfold mt
  cases c1 : isN t (hN h) with
  | false => rw [if_neg (by simp [ht2, bI]), if_neg Bool.false_ne_true]; exact lost
  | true =>
    obtain ⟨j, hj, rfl⟩ := isN_true c1 (by omega)
    rw [if_pos (by simp [bI]), if_pos rfl, rdI_nI hc (by decide), Option.bind_some, hK.2.1, e9_isGone hr hn, Option.bind_some, cl_nI (by omega)]
    have eP : prB h (kFi K) (kSe K) = (!(!decide (kFi K = -2) && !isN (kFi K) (hN h)) && !(!decide (kSe K = -2) && !isN (kSe K) (hN h))) := by
      unfold prB
      by_cases d : kFi K = -2
      · rw [if_pos d, d, hse d]; rfl
      · rw [if_neg d]; simp [d]
    rw [eP]
    cases g1 : (!decide (kFi K = -2) && !isN (kFi K) (hN h)) with
    | true => rw [if_neg (by decide), if_neg (by simp)]; exact lost
    | false =>
      rw [if_pos bI_f, rdI_nI hc (by decide), Option.bind_some, hK.2.2.1, e9_isGone hr hn, Option.bind_some]
      cases g2 : (!decide (kSe K = -2) && !isN (kSe K) (hN h)) with
      | true => rw [if_neg (by decide), if_neg (by simp)]; exact lost
      | false =>
        rw [if_pos bI_f, if_pos (by decide), Option.bind_some, rdI_nI hc (by decide), Option.bind_some, hK.2.2.2.1]
        cases c3 : kKp K with
        | true =>
          rw [if_neg (by decide), if_pos rfl, rdL_nI hc (by decide), Option.bind_some, hK.2.2.2.2.2.2 c3, Option.bind_some]
          exact ⟨_, rfl, E3.uL (by decide), fun _ => sL_uL _ _ _⟩
        | false =>
          obtain ⟨z1, e1, y1⟩ := e9_readFails hr hm hw hj
          have hr1 := RMt_em y1 hr
          have hm1 := RMm_em y1 hm
          have hK1 := RMc_em y1 hK
          rw [if_pos bI_f, if_neg Bool.false_ne_true, e1, b2_eq]
          by_cases c4 : rdf h (chn h j) = 0
          · rw [if_pos (rdf_le.mpr c4), if_pos c4, rdI_nI hc (by decide), Option.bind_some, hK1.1.1]
            rcases hso with rfl | rfl | rfl
            · -- GET
              rw [if_neg (by decide), Option.bind_some, if_neg (by decide), if_pos rfl, fX9_meets_L142, if_pos rfl, fX9_meets_L166, if_pos rfl, rdI_nI hc (by decide), Option.bind_some, hK1.1.2.2.1]
              obtain ⟨z2, e2, y2⟩ := e9_lookForField hr1 hm1 hw hj n false
              have e2' : fX9_lookForField z1 (nI j) n 0 = some (oI (lkF h j n false), z2) := e2
              have hr2 := RMt_em (El_em y2) hr1
              have hm2 := RMm_em (El_em y2) hm1
              have hK2 := RMc_em (El_em y2) hK1
              rw [e2', b2_eq]
              unfold mtG
              cases el : lkF h j n false with
              | none =>
                rw [fX9_meets_L209, if_neg (by decide : ¬ (0 : Int32) ≤ oI none)]
                exact ⟨z2, rfl, y1.trans (El_em y2), fun x => absurd x (by dsimp only; decide)⟩
              | some m =>
                obtain ⟨m60, q, er, erm, -⟩ := lkF_some el
                obtain ⟨z3, e3, y3, v3⟩ := m_L209 hw hr2 hm2 hc hj hrr (Or.inl rfl) hK2 m60 er (E := if wdB (rA q) (kKd K) = true then (0, co (kKd K) (co (rA q) (rV q))) else (7, 0)) (by
                  intro z4 p1 p2 p3 _
                  obtain ⟨z5, e5, y5, v5⟩ := m_field hfp p2 hw hc p3 (hk rfl) m60 er erm
                  exact ⟨z5, by rw [fX9_meets_L307, if_pos rfl, e5, b2_eq], y5, v5⟩)
                rw [oI_some]
                dsimp only
                rw [er]
                exact ⟨z3, e3, (y1.trans (El_em y2)).trans y3, v3⟩
            · -- CALL
              have b39 := (hK1.2.2.2.2.2.1 rfl).2
              rw [if_neg (by decide), Option.bind_some, if_pos rfl, if_neg (by decide), if_pos rfl, fX9_meets_L142, if_neg (by decide), rdI_nI (by omega) (by decide), Option.bind_some, (hr1.2 j hj).1, rdI_nI hc (by decide), Option.bind_some, b39]
              unfold mtC
              by_cases c0 : hF h j = kFc K
              · rw [if_pos (by rw [c0]), if_pos c0, fX9_meets_L166, if_neg (by decide), rdI_nI hc (by decide), Option.bind_some, hK1.1.2.2.1, rdI_nI hc (by decide), Option.bind_some, hK1.2.1, rdI_nI hc (by decide), Option.bind_some, hK1.2.2.1]
                obtain ⟨z2, e2, y2⟩ := e9_lookForMethod hr1 hm1 hw hj n (kFi K) (kSe K)
                have hr2 := RMt_em (El_em y2) hr1
                have hm2 := RMm_em (El_em y2) hm1
                have hK2 := RMc_em (El_em y2) hK1
                rw [e2, b2_eq]
                cases el : lkM h j n (kFi K) (kSe K) with
                | none =>
                  rw [fX9_meets_L209, if_neg (by decide : ¬ (0 : Int32) ≤ oI none)]
                  exact ⟨z2, rfl, y1.trans (El_em y2), fun x => absurd x (by dsimp only; decide)⟩
                | some m =>
                  obtain ⟨m60, q, er, erm, -⟩ := lkM_some el
                  obtain ⟨z3, e3, y3, v3⟩ := m_L209 hw hr2 hm2 hc hj hrr (Or.inr rfl) hK2 m60 er (E := mtV h (if kSt K = true then nI m else slC h r n (kFi K) (kSe K))) (by
                    intro z4 p1 p2 p3 p4
                    obtain ⟨z5, e5, y5, v5⟩ := m_method p1 p2 hw hc hrr p3 m60 er erm p4
                    exact ⟨z5, by rw [fX9_meets_L307, if_neg (by decide), e5, b2_eq], y5, v5⟩)
                  rw [oI_some]
                  exact ⟨z3, e3, (y1.trans (El_em y2)).trans y3, v3⟩
              · rw [if_neg (fun x => c0 (bI_inj x)), if_neg c0]
                exact ⟨z1, rfl, y1, fun x => absurd x (by decide)⟩
            · -- NEW
              have y2 : Em z (uL z1 43 (nI j).toInt64) := y1.trans (E3.uL (by decide))
              have hr2 := RMt_em y2 hr
              have v2 : sL (uL z1 43 (nI j).toInt64) 43 = (nI j).toInt64 := sL_uL _ _ _
              rw [if_pos rfl, if_neg (by decide), if_neg (by decide), Option.bind_some]
              generalize uL z1 43 (nI j).toInt64 = z2 at *
              rw [rdI_nI (by omega) (by decide), Option.bind_some, (hr2.2 j hj).2.2.1]
              unfold mtN
              by_cases d1 : hM h j &&& 1 = 0
              · rw [if_pos d1, if_neg (by simp [d1])]
                exact ⟨z2, rfl, y2, fun _ => v2⟩
              · rw [if_neg d1, rdI_nI (by omega) (by decide), Option.bind_some, (hr2.2 j hj).1]
                cases d2 : hF h j with
                | true =>
                  rw [if_neg (by decide), if_neg (by simp)]
                  exact ⟨z2, rfl, y2, fun _ => v2⟩
                | false =>
                  rw [if_pos bI_f, if_pos (by simp [d1])]
                  exact ⟨z2, rfl, y2, fun x => absurd x (by decide)⟩
          · rw [if_neg (fun x => c4 (rdf_le.mp x)), if_neg c4]
            exact ⟨z1, rfl, y1, fun x => absurd x c4⟩
