/-! ===== which METHOD is SELECTED: the reference ===== -/
abbrev Eu (u v : ST) : Prop := E3 u v [] [] [15]
theorem Eu_em {u v : ST} (h : Eu u v) : Em u v := h.mono (by decide) (by decide) (by decide)
theorem m_L277 {h : HA} (hw : WF h) {z : ST} (hr : RMt z h) (hm : RMm z h) {t : Nat} {nm a b X : Int32} (hX : ∀ i, i < 32 → bt X i = (decide (i < hN h) && low h t nm a b i)) : ∀ (n k f : Nat) (x y : Int32), k + n = hN h → n < f → fX9_select_L277 f z nm a b X x y (nI k) = some (scM h (lwm h t nm a b) n k x y, z)
  | 0, k, f, x, y, hk, hf => by
    have hn := hw.1
    obtain ⟨f, rfl⟩ : ∃ j, f = j + 1 := ⟨f - 1, by omega⟩
    rw [fX9_select_L277, hr.1, if_pos (nI_le (by omega) (by omega)), scM]
    by_cases c : x < 0
    · rw [if_pos c, if_pos c]
    · rw [if_neg c, if_neg c]
  | n + 1, k, f, x, y, hk, hf => by
    have hn := hw.1
    obtain ⟨f, rfl⟩ : ∃ j, f = j + 1 := ⟨f - 1, by omega⟩
    have hk2 : k < hN h := by omega
    have ih := fun x y => m_L277 hw hr hm hX n (k + 1) f x y (by omega) (by omega)
    have hx := hX k (by omega)
    rw [fX9_select_L277, hr.1, if_neg (nI_ge hk2 (by omega)), scM]
    cases c4 : low h t nm a b k with
    | false =>
      have e : lwm h t nm a b k = none := by unfold lwm; rw [c4]; rfl
      have c3 : ¬ (X >>> (nI k &&& 31)) &&& 1 = 1 := by rw [tst1 X (by omega), hx, c4]; simp
      rw [if_neg c3, fX9_select_L347, nI_1, ih, e]
    | true =>
      have e : lwm h t nm a b k = own h k true nm a b := by unfold lwm; rw [c4]; rfl
      have hcf : cf h t nm a b k = true := by
        unfold low at c4
        exact (Bool.and_eq_true_iff.mp c4).1
      have hop : (opn h nm a b k).isSome = true := by
        unfold cf at hcf
        exact (Bool.and_eq_true_iff.mp (Bool.and_eq_true_iff.mp hcf).2).2
      obtain ⟨m, em⟩ := Option.isSome_iff_exists.mp hop
      obtain ⟨eo, -⟩ := opn_some em
      obtain ⟨m60, r, er, -⟩ := own_some eo
      have e1 : fX9_ownOf z (nI k) 1 nm a b = some (oI (own h k true nm a b)) := e9_own hm hn (WF_own hw) (by omega) true nm a b
      have c3 : (X >>> (nI k &&& 31)) &&& 1 = 1 := (tst1 X (by omega)).mpr (by rw [hx, c4]; simp [hk2])
      rw [if_pos c3, e1, Option.bind_some, eo, oI_some, rdI_nI m60 (by decide), Option.bind_some, RMm_marks hm m60 er, e, eo]
      dsimp only
      rw [haB_nI m60 er]
      by_cases c : rK r &&& 8 = 0
      · rw [if_pos c]
        have : ¬ (!decide (rK r &&& 8 = 0)) = true := by simp [c]
        rw [if_neg this]
        by_cases c6 : x = -2
        · rw [if_pos c6, if_pos c6, fX9_select_L347, nI_1, ih]
        · rw [if_neg c6, if_neg c6]
      · rw [if_neg c]
        have : (!decide (rK r &&& 8 = 0)) = true := by simp [c]
        rw [if_pos this, fX9_select_L347, nI_1, ih]
theorem m_L177 {h : HA} (hw : WF h) {t : Nat} {nm a b X : Int32} (hX : ∀ i, i < 32 → bt X i = (decide (i < hN h) && cf h t nm a b i)) {i : Nat} (hi : i < hN h) (K : ST → Int32 → Int32 → Int32 → Int32 → Int32 → Int32 → Option (Int32 × ST)) : ∀ (n k f : Nat) (z : ST) (Y : Int32), k + n = hN h → n < f → RMt z h → ∃ z' Y', fX9_select_L177 K f z nm a b X Y (nI i) (nI k) = K z' nm a b X Y' (nI i + 1) ∧ Eu z z' ∧ ∀ s, s < 32 → bt Y' s = (bt Y s && !(decide (s = i) && (ff (Qf h t nm a b i) n k).isSome))
  | 0, k, f, z, Y, hk, hf, hr => by
    have hn := hw.1
    obtain ⟨f, rfl⟩ : ∃ j, f = j + 1 := ⟨f - 1, by omega⟩
    refine ⟨z, Y, ?_, E3.refl, fun s hs => by simp [ff]⟩
    rw [fX9_select_L177, hr.1, if_pos (nI_le (by omega) (by omega))]
  | n + 1, k, f, z, Y, hk, hf, hr => by
    have hn := hw.1
    obtain ⟨f, rfl⟩ : ∃ j, f = j + 1 := ⟨f - 1, by omega⟩
    have hk2 : k < hN h := by omega
    have hx := hX k (by omega)
    have hxi := hX i (by omega)
    have ih := fun z Y hr => m_L177 hw hX hi K n (k + 1) f z Y (by omega) (by omega) hr
    -- nothing is taken away
    have skip : ∀ z1, Eu z z1 → ¬ Qf h t nm a b i k = true → ∃ z' Y', fX9_select_L230 (fX9_select_L177 K f) z1 nm a b X Y (nI i) (nI k) = K z' nm a b X Y' (nI i + 1) ∧ Eu z z' ∧ ∀ s, s < 32 → bt Y' s = (bt Y s && !(decide (s = i) && (ff (Qf h t nm a b i) (n + 1) k).isSome)) := by
      intro z1 hz eP
      obtain ⟨z', Y', e, x1, x2⟩ := ih z1 Y (RMt_em (Eu_em hz) hr)
      refine ⟨z', Y', ?_, hz.trans x1, fun s hs => by rw [x2 s hs, ff, if_neg eP]⟩
      rw [fX9_select_L230, fX9_select_L231, if_pos rfl, fX9_select_L252, nI_1, e]
    rw [fX9_select_L177, hr.1, if_neg (nI_ge hk2 (by omega))]
    by_cases c1 : i = k
    · rw [if_pos (by rw [c1])]
      exact skip z E3.refl (by simp [Qf, c1])
    · rw [if_neg (fun e => c1 (nI_inj (by omega) (by omega) e))]
      cases c2 : cf h t nm a b i with
      | false =>
        have c3 : ¬ (X >>> (nI i &&& 31)) &&& 1 = 1 := by rw [tst1 X (by omega), hxi, c2]; simp
        rw [if_neg c3]
        exact skip z E3.refl (by simp [Qf, c2])
      | true =>
        have c3 : (X >>> (nI i &&& 31)) &&& 1 = 1 := (tst1 X (by omega)).mpr (by rw [hxi, c2]; simp [hi])
        rw [if_pos c3]
        cases c4 : cf h t nm a b k with
        | false =>
          have c5 : ¬ (X >>> (nI k &&& 31)) &&& 1 = 1 := by rw [tst1 X (by omega), hx, c4]; simp
          rw [if_neg c5]
          exact skip z E3.refl (by simp [Qf, c4])
        | true =>
          have c5 : (X >>> (nI k &&& 31)) &&& 1 = 1 := (tst1 X (by omega)).mpr (by rw [hx, c4]; simp [hk2])
          obtain ⟨q, eq⟩ := e9_isBelow hw hr hk2 hi
          rw [if_pos c5, eq, b2_eq]
          have hz : Eu z (vI z 15 q) := E3.vI (by decide)
          cases c6 : bel h k i with
          | false =>
            rw [if_pos bI_f]
            exact skip _ hz (by simp [Qf, c6])
          | true =>
            have eP : Qf h t nm a b i k = true := by simp [Qf, c2, c4, c6]; exact fun e => c1 e.symm
            obtain ⟨z', Y', e, x1, x2⟩ := ih (vI z 15 q) (Y &&& (((1 : Int32) <<< (nI i &&& 31)) ^^^ (-1))) (RMt_em (Eu_em hz) hr)
            refine ⟨z', Y', ?_, hz.trans x1, fun s hs => ?_⟩
            · rw [if_neg (by decide : ¬ bI true = 0), fX9_select_L231, if_neg (by decide), fX9_select_L252, nI_1, e]
            · rw [x2 s hs, ff, if_pos eP, b_and, b_xor, b_bit (by omega) hs, b_m1 s hs]
              by_cases d : s = i <;> simp [d]
theorem m_L165 {h : HA} (hw : WF h) {t : Nat} {nm a b X : Int32} (hX : ∀ i, i < 32 → bt X i = (decide (i < hN h) && cf h t nm a b i)) : ∀ (n k f : Nat) (z : ST) (Y : Int32), k + n = hN h → n < f → RMt z h → RMm z h → (∀ s, s < 32 → bt Y s = (decide (s < hN h) && (cf h t nm a b s && !(decide (s < k) && (ff (Qf h t nm a b s) (hN h) 0).isSome)))) → ∃ z', fX9_select_L165 f z nm a b X Y (nI k) = some (scM h (lwm h t nm a b) (hN h) 0 (-2) (-2), z') ∧ Eu z z'
  | 0, k, f, z, Y, hk, hf, hr, hm, hY => by
    have hn := hw.1
    obtain ⟨f, rfl⟩ : ∃ j, f = j + 1 := ⟨f - 1, by omega⟩
    have hk2 : k = hN h := by omega
    refine ⟨z, ?_, E3.refl⟩
    rw [fX9_select_L165, hr.1, if_pos (nI_le (by omega) (by omega))]
    refine m_L277 hw hr hm (X := Y) (fun i hi => ?_) (hN h) 0 5000 (-2) (-2) (by omega) (by omega)
    rw [hY i hi, hk2]
    unfold low
    by_cases c : i < hN h
    · simp [c]
    · simp [c]
  | n + 1, k, f, z, Y, hk, hf, hr, hm, hY => by
    have hn := hw.1
    obtain ⟨f, rfl⟩ : ∃ j, f = j + 1 := ⟨f - 1, by omega⟩
    have hk2 : k < hN h := by omega
    obtain ⟨z1, Y1, e1, x1, x2⟩ := m_L177 hw hX hk2 (fX9_select_L165 f) (hN h) 0 5000 z Y (by omega) (by omega) hr
    obtain ⟨z2, e2, y1⟩ := m_L165 hw hX n (k + 1) f z1 Y1 (by omega) (by omega) (RMt_em (Eu_em x1) hr) (RMm_em (Eu_em x1) hm) (by
      intro s hs
      rw [x2 s hs, hY s hs]
      by_cases d : s = k
      · subst d; simp; cases decide (s < hN h) <;> cases cf h t nm a b s <;> simp
      · have : (s < k + 1) = (s < k) := by apply propext; omega
        simp [this, d])
    refine ⟨z2, ?_, x1.trans y1⟩
    have e1' : fX9_select_L177 (fX9_select_L165 f) 5000 z nm a b X Y (nI k) 0 = fX9_select_L165 f z1 nm a b X Y1 (nI k + 1) := e1
    rw [fX9_select_L165, hr.1, if_neg (nI_ge hk2 (by omega)), e1', nI_1, e2]
theorem m_L74 {h : HA} (hw : WF h) {z : ST} (hr : RMt z h) (hm : RMm z h) {t : Nat} {nm a b V : Int32} (hV : ∀ i, i < 32 → bt V i = (decide (i < hN h) && bel h t i)) : ∀ (n k f : Nat) (X : Int32), k + n = hN h → n < f → (∀ i, i < 32 → bt X i = (decide (i < k) && cf h t nm a b i)) → ∃ z', fX9_select_L74 f z nm a b V X (nI k) = some (scM h (lwm h t nm a b) (hN h) 0 (-2) (-2), z') ∧ Eu z z'
  | 0, k, f, X, hk, hf, hX => by
    have hn := hw.1
    obtain ⟨f, rfl⟩ : ∃ j, f = j + 1 := ⟨f - 1, by omega⟩
    have hk2 : k = hN h := by omega
    rw [hk2] at hX
    rw [fX9_select_L74, hr.1, if_pos (nI_le (by omega) (by omega))]
    exact m_L165 hw hX (hN h) 0 5000 z X (by omega) (by omega) hr hm (fun s hs => by rw [hX s hs]; simp)
  | n + 1, k, f, X, hk, hf, hX => by
    have hn := hw.1
    obtain ⟨f, rfl⟩ : ∃ j, f = j + 1 := ⟨f - 1, by omega⟩
    have hk2 : k < hN h := by omega
    have ih := m_L74 hw hr hm (nm := nm) (a := a) (b := b) hV n (k + 1) f
    have keep : cf h t nm a b k = false → ∀ i, i < 32 → bt (X ||| 0) i = (decide (i < k + 1) && cf h t nm a b i) := by
      intro c i hi
      rw [b_or, b_0, hX i hi]
      by_cases e : i = k
      · subst e; rw [c]; simp
      · have : (i < k + 1) = (i < k) := by apply propext; omega
        simp [this]
    have k148 : cf h t nm a b k = false → ∃ z', fX9_select_L148 (fX9_select_L74 f) z nm a b V (nI k) X = some (scM h (lwm h t nm a b) (hN h) 0 (-2) (-2), z') ∧ Eu z z' := by
      intro c
      rw [fX9_select_L148, fX9_select_L149, nI_1]
      exact ih (X ||| 0) (by omega) (by omega) (keep c)
    have k118 : cf h t nm a b k = false → ∃ z', fX9_select_L118 (fX9_select_L74 f) z nm a b V X (nI k) = some (scM h (lwm h t nm a b) (hN h) 0 (-2) (-2), z') ∧ Eu z z' := by
      intro c
      rw [fX9_select_L118, fX9_select_L120, if_pos (by decide)]
      exact k148 c
    rw [fX9_select_L74, hr.1, if_neg (nI_ge hk2 (by omega))]
    cases c1 : bel h t k with
    | false =>
      have c3 : ¬ (V >>> (nI k &&& 31)) &&& 1 = 1 := by rw [tst1 V (by omega), hV k (by omega), c1]; simp
      rw [if_neg c3]
      exact k118 (by unfold cf; rw [c1]; rfl)
    | true =>
      have c3 : (V >>> (nI k &&& 31)) &&& 1 = 1 := (tst1 V (by omega)).mpr (by rw [hV k (by omega), c1]; simp [hk2])
      rw [if_pos c3, rdI_nI (by omega) (by decide), Option.bind_some, (hr.2 k hk2).1]
      cases c4 : hF h k with
      | false =>
        rw [if_pos bI_f]
        exact k118 (by unfold cf; rw [c1, c4]; rfl)
      | true =>
        have cc : cf h t nm a b k = opB h (oI (own h k true nm a b)) := by unfold cf; rw [c1, c4, Bool.true_and, Bool.true_and, opn_isSome]
        have e1 : fX9_ownOf z (nI k) 1 nm a b = some (oI (own h k true nm a b)) := e9_own hm hn (WF_own hw) (by omega) true nm a b
        rw [if_neg (by decide : ¬ bI true = 0), e1, Option.bind_some, fX9_select_L120]
        cases eo : own h k true nm a b with
        | none =>
          rw [if_pos oI_lt]
          exact k148 (by rw [cc, eo, oI_none, opB_m2])
        | some m =>
          obtain ⟨m60, r, er, -, er2, -⟩ := own_some eo
          rw [eo, oI_some, opB_nI m60 er, er2, Bool.true_and] at cc
          rw [if_neg (oI_neg (by omega)), oI_some, rdI_nI m60 (by decide), Option.bind_some, RMm_marks hm m60 er]
          by_cases c : rK r &&& 5 = 0
          · rw [if_pos c, fX9_select_L149, nI_1]
            refine ih _ (by omega) (by omega) (fun i hi => ?_)
            rw [b_or, b_bit (by omega) hi, hX i hi]
            by_cases e : i = k
            · subst e; rw [cc]; simp [c]
            · have : (i < k + 1) = (i < k) := by apply propext; omega
              simp [this, e]
          · rw [if_neg c]
            exact k148 (by rw [cc]; simp [c])
theorem m_L10 {h : HA} (hw : WF h) {t : Nat} (ht : t < hN h) {C : List Nat} (hc : C.length ≤ 12) (hclt : ∀ x, x ∈ C → x < hN h) (nm a b : Int32) {z : ST} (hr : RMt z h) (hm : RMm z h) (hC : LR (aI z 27) C) : ∀ (n k f : Nat), k + n = C.length → n < f → ∃ z', fX9_select_L10 f z (nI t) nm a b (nI C.length) (nI k) = some ((match (C.drop k).findSome? (opn h nm a b) with | some m => nI m | none => scM h (lwm h t nm a b) (hN h) 0 (-2) (-2)), z') ∧ Eu z z'
  | 0, k, f, hk, hf => by
    have hn := hw.1
    obtain ⟨f, rfl⟩ : ∃ j, f = j + 1 := ⟨f - 1, by omega⟩
    obtain ⟨q, B, e, hb⟩ := e9_ups hw hr ht
    have hz : Eu z (vI z 15 q) := E3.vI (by decide)
    obtain ⟨z', e2, x1⟩ := m_L74 hw (RMt_em (Eu_em hz) hr) (RMm_em (Eu_em hz) hm) (nm := nm) (a := a) (b := b) hb (hN h) 0 5000 0 (by omega) (by omega) (fun i hi => by rw [b_0]; simp)
    refine ⟨z', ?_, hz.trans x1⟩
    rw [fX9_select_L10, if_pos (nI_le (by omega) (by omega)), List.drop_eq_nil_of_le (by omega), e, b2_eq]
    exact e2
  | n + 1, k, f, hk, hf => by
    have hn := hw.1
    obtain ⟨f, rfl⟩ : ∃ j, f = j + 1 := ⟨f - 1, by omega⟩
    have hk2 : k < C.length := by omega
    have htc := hclt _ (getD_mem hk2)
    obtain ⟨z', ih, y1⟩ := m_L10 hw ht hc hclt nm a b hr hm hC n (k + 1) f (by omega) (by omega)
    have e1 : fX9_ownOf z (nI (C.getD k 0)) 1 nm a b = some (oI (own h (C.getD k 0) true nm a b)) := e9_own hm hn (WF_own hw) (by omega) true nm a b
    rw [fX9_select_L10, if_neg (nI_ge hk2 (by omega)), rdI_nI (by omega) (by decide), Option.bind_some, hC k hk2, e1, Option.bind_some, drop_getD hk2, List.findSome?_cons]
    cases eo : own h (C.getD k 0) true nm a b with
    | none =>
      have e2 : opn h nm a b (C.getD k 0) = none := by unfold opn; rw [eo]
      exact ⟨z', by rw [if_pos oI_lt, fX9_select_L55, nI_1, ih, e2], y1⟩
    | some m =>
      obtain ⟨m60, r, er, -, er2, -⟩ := own_some eo
      have cc : opB h (nI m) = decide (rK r &&& 5 = 0) := by rw [opB_nI m60 er, er2, Bool.true_and]
      rw [if_neg (oI_neg (by omega)), oI_some, rdI_nI m60 (by decide), Option.bind_some, RMm_marks hm m60 er]
      by_cases c : rK r &&& 5 = 0
      · have e2 : opn h nm a b (C.getD k 0) = some m := by unfold opn; rw [eo]; dsimp only; rw [cc]; simp [c]
        exact ⟨z, by rw [if_pos c, e2], E3.refl⟩
      · have e2 : opn h nm a b (C.getD k 0) = none := by unfold opn; rw [eo]; dsimp only; rw [cc]; simp [c]
        exact ⟨z', by rw [if_neg c, fX9_select_L55, nI_1, ih, e2], y1⟩
theorem e9_select {z : ST} {h : HA} (hr : RMt z h) (hm : RMm z h) (hw : WF h) {t : Nat} (ht : t < hN h) (nm a b : Int32) : ∃ z', fX9_select z (nI t) nm a b = some (slM h t nm a b, z') ∧ Em z z' := by
  obtain ⟨z1, e1, x1, x2⟩ := e9_chainOf hr hw ht
  have hc := chn_12 hw ht
  obtain ⟨z2, e2, y1⟩ := m_L10 hw ht hc (chn_lt hw t ht) nm a b (RMt_em (El_em x1) hr) (RMm_em (El_em x1) hm) x2 (chn h t).length 0 5000 (by omega) (by omega)
  refine ⟨z2, ?_, (El_em x1).trans (Eu_em y1)⟩
  rw [fX9_select, e1, b2_eq]
  exact e2
