/-! ===== making, whole: the reference ===== -/
theorem kpC_spec {h : HA} {t m : Nat} {r : MR} {z : ST} {c : Nat} (hc : c < 25) : ∃ v, kpC h t m r z c = v ∧ EM z v c ∧ aI v 39 c = bI (hF h t) ∧ aI v 34 c = rA r ∧ aI v 35 c = rB r ∧ aI v 38 c = bI (haB h (nI m) 1) ∧ ∀ k, k ∉ [39, 34, 35, 38] → aI v k = aI z k := by
  obtain ⟨z1, e1, y1, f1, o1, -, -⟩ := ww (z := z) (c := c) (k := 39) hc (by decide) (bI (hF h t))
  obtain ⟨z2, e2, y2, f2, o2, -, -⟩ := ww (z := z1) (c := c) (k := 34) hc (by decide) (rA r)
  obtain ⟨z3, e3, y3, f3, o3, -, -⟩ := ww (z := z2) (c := c) (k := 35) hc (by decide) (rB r)
  obtain ⟨z4, e4, y4, f4, o4, -, -⟩ := ww (z := z3) (c := c) (k := 38) hc (by decide) (bI (haB h (nI m) 1))
  rw [stI_nI hc (by decide)] at e1 e2 e3 e4
  injection e1 with e1
  injection e2 with e2
  injection e3 with e3
  injection e4 with e4
  refine ⟨z4, ?_, ((y1.trans y2).trans y3).trans y4, ?_, ?_, ?_, f4, fun k hk => ?_⟩
  · unfold kpC
    have o234 : aI z1 34 = aI z 34 := o1 34 (by decide)
    have o35 : aI z2 35 = aI z 35 := (o2 35 (by decide)).trans (o1 35 (by decide))
    have o38 : aI z3 38 = aI z 38 := (o3 38 (by decide)).trans ((o2 38 (by decide)).trans (o1 38 (by decide)))
    rw [← e4, o38, ← e3, o35, ← e2, o234, ← e1]
  · rw [o4 39 (by decide), o3 39 (by decide), o2 39 (by decide), f1]
  · rw [o4 34 (by decide), o3 34 (by decide), f2]
  · rw [o4 35 (by decide), f3]
  · have h1 : k ≠ 39 := fun e => hk (by rw [e]; decide)
    have h2 : k ≠ 34 := fun e => hk (by rw [e]; decide)
    have h3 : k ≠ 35 := fun e => hk (by rw [e]; decide)
    have h4 : k ≠ 38 := fun e => hk (by rw [e]; decide)
    rw [o4 k h4, o3 k h3, o2 k h2, o1 k h1]
theorem e9_makeC {h : HA} (hw : WF h) {z : ST} (hr : RMt z h) (hm : RMm z h) {c t : Nat} (hc : c < 25) (ht : t < hN h) {n a b : Int32} (ha : okP (hN h) a) (hb : okP (hN h) b) (h0 : RM0 z c 1 (nI t) n a b) : ∃ z', fX9_makingCall z (nI c) (nI t) n a b = some ((mkC h t n a b).1, z') ∧ EM z z' c ∧ aI z' 41 c = aI z 41 c ∧ ((mkC h t n a b).1 = 0 → RMc z' c 1 (nI t) n a b (mkC h t n a b).2) := by
  obtain ⟨z1, y1, w⟩ := e9_makingCall hw ht (nm := n) ha hb hc hr hm
  have g1 : aI z1 41 c = aI z 41 c := by rw [y1.2.2.1 41 (by decide)]
  have h1 := RM0_em y1 h0
  rcases w with ⟨q, e⟩ | ⟨q, eN, e⟩ | ⟨m, r, q, eN, er, erm, e⟩
  · have em : mkC h t n a b = (1, K0) := by unfold mkC; rw [if_pos q]
    exact ⟨z1, by rw [e, em], EM.of y1, g1, fun x => by rw [em] at x; exact absurd x (by decide)⟩
  · have em : mkC h t n a b = (2, K0) := by unfold mkC; rw [if_neg q, eN]
    exact ⟨z1, by rw [e, em], EM.of y1, g1, fun x => by rw [em] at x; exact absurd x (by decide)⟩
  · have em : mkC h t n a b = (0, (rA r, rB r, 0, haB h (nI m) 1, hF h t, false, 0)) := by unfold mkC; rw [if_neg q, eN]; dsimp only; rw [er]
    obtain ⟨v, ev, y2, f39, f34, f35, f38, o⟩ := kpC_spec (h := h) (t := t) (m := m) (r := r) (z := z1) hc
    rw [ev] at e
    refine ⟨v, by rw [e, em], (EM.of y1).trans y2, by rw [o 41 (by decide), g1], fun _ => ?_⟩
    rw [em]
    refine ⟨⟨?_, ?_, ?_, ?_, ?_⟩, f34, f35, ?_, fun x => absurd x (by decide), fun _ => ⟨f38, f39⟩, fun x => absurd x Bool.false_ne_true⟩
    · rw [o 29 (by decide)]; exact h1.1.1
    · rw [o 30 (by decide)]; exact h1.1.2.1
    · rw [o 31 (by decide)]; exact h1.1.2.2.1
    · rw [o 32 (by decide)]; exact h1.1.2.2.2.1
    · rw [o 33 (by decide)]; exact h1.1.2.2.2.2
    · rw [o 36 (by decide)]; exact h1.2.2.2
theorem e9_making (hfp : FPx) {h : HA} (hw : WF h) {z : ST} (hr : RMt z h) (hm : RMm z h) {c t : Nat} (hc : c < 25) (ht : t < hN h) {so n a b : Int32} (hso : so = 0 ∨ so = 1 ∨ so = 2) (ha : okP (hN h) a) (hb : okP (hN h) b) : ∃ z', fX9_making z (nI c) so (nI t) n a b = some ((mk h so t n a b).1, z') ∧ EM z z' c ∧ aI z' 41 c = sI z 16 ∧ ((mk h so t n a b).1 = 0 → RMc z' c so (nI t) n a b (mk h so t n a b).2) := by
  have hn := hw.1
  obtain ⟨z9, hd, y9, g9, h9⟩ := m_head (z := z) hc so (nI t) n a b
  have hr9 := RMt_EM y9 hr
  have hm9 := RMm_EM y9 hm
  unfold fX9_making
  rw [hd]
  unfold mk
  rcases hso with rfl | rfl | rfl
  · obtain ⟨z', e, x1, x2, x3⟩ := e9_makeG hfp hw hr9 hm9 hc ht h9
    exact ⟨z', by rw [if_pos rfl, if_pos rfl]; exact e, y9.trans x1, x2.trans g9, by rw [if_pos rfl]; exact x3⟩
  · obtain ⟨z', e, x1, x2, x3⟩ := e9_makeC hw hr9 hm9 hc ht ha hb h9
    exact ⟨z', by rw [if_neg (by decide), if_pos rfl, if_neg (by decide), if_pos rfl, e, b2_eq], y9.trans x1, x2.trans g9, by rw [if_neg (by decide), if_pos rfl]; exact x3⟩
  · have fin : RMc z9 c 2 (nI t) n a b K0 := ⟨h9.1, h9.2.1, h9.2.2.1, h9.2.2.2, fun x => absurd x (by decide), fun x => absurd x (by decide), fun x => absurd x (by decide)⟩
    rw [if_neg (by decide), if_neg (by decide), if_neg (by decide), if_neg (by decide), rdI_nI (by omega) (by decide), Option.bind_some, (hr9.2 t ht).1]
    unfold mkN
    cases c1 : hF h t with
    | true =>
      refine ⟨z9, ?_, y9, g9, fun q => by rw [Bool.true_or, if_pos rfl] at q; exact absurd q (by decide)⟩
      rw [if_neg (by decide)]; rfl
    | false =>
      rw [if_pos bI_f, rdI_nI (by omega) (by decide), Option.bind_some, (hr9.2 t ht).2.2.1]
      by_cases c2 : hM h t &&& 1 = 0
      · exact ⟨z9, by rw [if_pos c2]; simp [c2], y9, g9, fun _ => by simp [c2]; exact fin⟩
      · exact ⟨z9, by rw [if_neg c2]; simp [c2], y9, g9, fun q => by simp [c2] at q⟩
