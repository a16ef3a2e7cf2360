/-! ===== which METHODS FIT: the reference ===== -/
def lst (F : Nat → Bool) : Nat → Int32
  | 0 => -2
  | k + 1 => if F k = true then nI k else lst F k
theorem lst_nil {F : Nat → Bool} : ∀ k, k ≤ 60 → (lst F k = -2 ↔ FL F k = [])
  | 0, _ => ⟨fun _ => rfl, fun _ => rfl⟩
  | k + 1, hk => by
    rw [lst, FL_succ]
    by_cases c : F k = true
    · rw [if_pos c, if_pos c]
      exact ⟨fun e => absurd e (nI_ne_m2 (by omega)), fun e => absurd e (by simp)⟩
    · rw [if_neg c, if_neg c]; exact lst_nil k (by omega)
def FT (z : ST) (F : Nat → Bool) (k : Nat) : Prop := ∀ m, m < k → aI z 42 m = bI (F m)
abbrev Eg (u v : ST) : Prop := E3 u v [25] [] [15, 24, 26, 27]
theorem Eg_em {u v : ST} (h : Eg u v) : Em u v := h.mono (by decide) (by decide) (by decide)
theorem Eu_eg {u v : ST} (h : Eu u v) : Eg u v := h.mono (by decide) (by decide) (by decide)
theorem El_eg {u v : ST} (h : El u v) : Eg u v := h.mono (by decide) (by decide) (by decide)
theorem FT_eg {u v : ST} {F : Nat → Bool} {k : Nat} (he : Eg u v) (h : FT u F k) : FT v F k := by
  unfold FT; rw [he.2.2.1 42 (by decide)]; exact h
theorem m_call_L125 {F : Nat → Bool} (K : ST → Int32 → Int32 → Int32 → Int32 → Int32 → Int32 → Int32 → Option (Int32 × ST)) {z : ST} {k : Nat} (hk : k < 60) (hF : FT z F k) (x1 x2 x3 x4 x5 : Int32) (v : Int32) (hv : v = bI (F k)) : ∃ z', fX9_makingCall_L125 K z x1 x2 x3 x4 x5 (lst F k) (nI k) (nI k) v = K z' x1 x2 x3 x4 x5 (lst F (k + 1)) (nI (k + 1)) ∧ Em z z' ∧ FT z' F (k + 1) := by
  refine ⟨vI z 42 (upd (aI z 42) k v), ?_, E3.vI (by decide), ?_⟩
  · have e1 : aI (vI z 42 (upd (aI z 42) k v)) 42 k = v := by rw [aI_vI, upd_rd, if_pos rfl]
    rw [fX9_makingCall_L125, stZ_nI hk (by decide) (by rw [hv]; exact bI_isB _), Option.bind_some, rdI_nI hk (by decide), Option.bind_some, e1, hv, lst]
    cases c : F k with
    | false => rw [if_pos bI_f, if_neg Bool.false_ne_true, fX9_makingCall_L143, nI_1]
    | true => rw [if_neg (by decide : ¬ bI true = 0), if_pos rfl, fX9_makingCall_L143, nI_1]
  · intro m hm
    rw [aI_vI, upd_rd]
    by_cases c : m = k
    · rw [if_pos c, hv, c]
    · rw [if_neg c]; exact hF m (by omega)
theorem m_call_L7 {h : HA} (hw : WF h) {t : Nat} (ht : t < hN h) {nm a b : Int32} (ha : okP (hN h) a) (hb : okP (hN h) b) (x1 : Int32) : ∀ (n k f : Nat) (z : ST), k + n = 60 → n < f → RMt z h → RMm z h → FT z (fitB h t nm a b) k → ∃ z', fX9_makingCall_L7 f z x1 (nI t) nm a b (lst (fitB h t nm a b) k) (nI k) = (if lst (fitB h t nm a b) 60 = -2 then some (1, z') else fX9_makingCall_L163 5000 z' x1 (nI t) 0) ∧ Em z z' ∧ FT z' (fitB h t nm a b) 60
  | 0, k, f, z, hk, hf, hr, hm, hF => by
    obtain ⟨f, rfl⟩ : ∃ j, f = j + 1 := ⟨f - 1, by omega⟩
    have c60 : (60 : Int32) ≤ nI k := nI_le (a := 60) (by omega) (by omega)
    have : k = 60 := by omega
    subst this
    exact ⟨z, by rw [fX9_makingCall_L7, if_pos c60], E3.refl, hF⟩
  | n + 1, k, f, z, hk, hf, hr, hm, hF => by
    have hn := hw.1
    obtain ⟨f, rfl⟩ : ∃ j, f = j + 1 := ⟨f - 1, by omega⟩
    have c60 : ¬ (60 : Int32) ≤ nI k := nI_ge (b := 60) (by omega) (by decide)
    have k60 : k < 60 := by omega
    have fin : ∀ (z1 : ST) (v : Int32), Eg z z1 → v = bI (fitB h t nm a b k) → ∃ z', fX9_makingCall_L125 (fX9_makingCall_L7 f) z1 x1 (nI t) nm a b (lst (fitB h t nm a b) k) (nI k) (nI k) v = (if lst (fitB h t nm a b) 60 = -2 then some (1, z') else fX9_makingCall_L163 5000 z' x1 (nI t) 0) ∧ Em z z' ∧ FT z' (fitB h t nm a b) 60 := by
      intro z1 v he hv
      obtain ⟨z2, e2, y1, y2⟩ := m_call_L125 (fX9_makingCall_L7 f) k60 (FT_eg he hF) x1 (nI t) nm a b v hv
      have hz := (Eg_em he).trans y1
      obtain ⟨z3, e3, w1, w2⟩ := m_call_L7 hw ht (nm := nm) ha hb x1 n (k + 1) f z2 (by omega) (by omega) (RMt_em hz hr) (RMm_em hz hm) y2
      exact ⟨z3, by rw [e2, e3], hz.trans w1, w2⟩
    have no : ∀ (z1 : ST), Eg z z1 → fitB h t nm a b k = false → ∃ z', fX9_makingCall_L124 (fX9_makingCall_L7 f) z1 x1 (nI t) nm a b (lst (fitB h t nm a b) k) (nI k) (nI k) = (if lst (fitB h t nm a b) 60 = -2 then some (1, z') else fX9_makingCall_L163 5000 z' x1 (nI t) 0) ∧ Em z z' ∧ FT z' (fitB h t nm a b) 60 := by
      intro z1 he hv
      rw [fX9_makingCall_L124]
      exact fin z1 0 he (by rw [hv]; rfl)
    rw [fX9_makingCall_L7, if_neg c60, rdI_nI k60 (by decide), Option.bind_some]
    cases e : hB h k with
    | none =>
      rw [RMm_no hm k60 e, if_pos rfl]
      exact no z E3.refl (by unfold fitB; rw [e])
    | some r =>
      obtain ⟨a1, a2, a3, a4, a5, a6, -, a8, -⟩ := RMm_at hm k60 e
      rw [a1, if_neg (by decide), rdI_nI k60 (by decide), Option.bind_some, a2]
      cases c1 : rM r with
      | false =>
        rw [if_pos bI_f]
        exact no z E3.refl (by unfold fitB; rw [e]; dsimp only; rw [c1]; rfl)
      | true =>
        obtain ⟨o1, o2⟩ := okP_r hw e c1
        rw [if_neg (by decide), rdI_nI k60 (by decide), Option.bind_some, a4]
        by_cases c2 : rN r = nm
        · rw [if_pos c2, rdI_nI k60 (by decide), Option.bind_some, a5]
          by_cases c3 : rK r &&& 4 = 0
          · obtain ⟨z1, e1, y1⟩ := e9_isUnder hw hr ha o1
            have hr1 := RMt_em (Eu_em y1) hr
            have hm1 := RMm_em (Eu_em y1) hm
            obtain ⟨z2, e2, y2⟩ := e9_isUnder hw hr1 hb o2
            have hr2 := RMt_em (Eu_em y2) hr1
            have hm2 := RMm_em (Eu_em y2) hm1
            obtain ⟨z3, e3, y3⟩ := e9_lookForMethod hr2 hm2 hw ht nm (rA r) (rB r)
            have b13 : aI z1 13 k = rB r := (RMm_at hm1 k60 e).2.2.2.2.2.2.2.1
            have d12 : aI z2 12 k = rA r := (RMm_at hm2 k60 e).2.2.2.2.2.1 c1
            have d13 : aI z2 13 k = rB r := (RMm_at hm2 k60 e).2.2.2.2.2.2.2.1
            rw [if_pos c3, rdI_nI k60 (by decide), Option.bind_some, a6 c1, e1, b2_eq]
            cases c4 : und h a (rA r) with
            | false =>
              rw [if_pos bI_f]
              exact no z1 (Eu_eg y1) (by unfold fitB; rw [e]; dsimp only; rw [c4]; simp)
            | true =>
              rw [if_neg (by decide), rdI_nI k60 (by decide), Option.bind_some, b13, e2, b2_eq]
              cases c5 : und h b (rB r) with
              | false =>
                rw [if_pos bI_f]
                exact no z2 (Eu_eg (y1.trans y2)) (by unfold fitB; rw [e]; dsimp only; rw [c5]; simp)
              | true =>
                rw [if_neg (by decide), rdI_nI k60 (by decide), Option.bind_some, rdI_nI k60 (by decide), Option.bind_some, d12, d13, e3, b2_eq]
                have hz3 : Eg z z3 := (Eu_eg (y1.trans y2)).trans (El_eg y3)
                by_cases c6 : lkM h t nm (rA r) (rB r) = some k
                · rw [if_pos ((oI_eq (fun j ej => lkM_60 ej) k60).mpr c6)]
                  exact fin z3 1 hz3 (by unfold fitB; rw [e]; dsimp only; rw [c1, c4, c5]; simp [c2, c3, c6, bI])
                · rw [if_neg (fun q => c6 ((oI_eq (fun j ej => lkM_60 ej) k60).mp q))]
                  exact no z3 hz3 (by unfold fitB; rw [e]; dsimp only; simp [c6])
          · rw [if_neg c3]
            exact no z E3.refl (by unfold fitB; rw [e]; dsimp only; simp [c3])
        · rw [if_neg c2]
          exact no z E3.refl (by unfold fitB; rw [e]; dsimp only; simp [c2])
/-- what is kept of the METHOD m in the row c -/
def kpC (h : HA) (t m : Nat) (r : MR) (z : ST) (c : Nat) : ST := vI (vI (vI (vI z 39 (upd (aI z 39) c (bI (hF h t)))) 34 (upd (aI z 34) c (rA r))) 35 (upd (aI z 35) c (rB r))) 38 (upd (aI z 38) c (bI (haB h (nI m) 1)))
theorem m_call_L259 {h : HA} (hw : WF h) {t : Nat} (ht : t < hN h) (K : ST → Int32 → Int32 → Int32 → Option (Int32 × ST)) {z : ST} (hr : RMt z h) (hm : RMm z h) {c : Nat} (hc : c < 25) {m : Nat} {r : MR} (e : hB h m = some r) (hM : rM r = true) : fX9_makingCall_L259 K z (nI c) (nI t) (nI m) 1 = some (0, kpC h t m r z c) := by
  have hn := hw.1
  have h60 := WF_60 hw e
  obtain ⟨-, -, -, -, a5, a6, -, a8, -⟩ := RMm_at hm h60 e
  unfold kpC
  rw [fX9_makingCall_L259, if_neg (by decide), rdI_nI (by omega) (by decide), Option.bind_some, (hr.2 t ht).1, stZ_nI hc (by decide) (bI_isB _), Option.bind_some]
  have e12 : ∀ f, rdI (vI z 39 f) 12 60 (nI m) = some (rA r) := fun f => by rw [rdI_nI h60 (by decide)]; exact congrArg some (a6 hM)
  have e13 : ∀ f g, rdI (vI (vI z 39 f) 34 g) 13 60 (nI m) = some (rB r) := fun f g => by rw [rdI_nI h60 (by decide)]; exact congrArg some a8
  have e10 : ∀ f g q, rdI (vI (vI (vI z 39 f) 34 g) 35 q) 10 60 (nI m) = some (rK r) := fun f g q => by rw [rdI_nI h60 (by decide)]; exact congrArg some a5
  rw [e12, Option.bind_some, stI_nI hc (by decide), Option.bind_some, e13, Option.bind_some, stI_nI hc (by decide), Option.bind_some, e10, Option.bind_some, haB_nI h60 e]
  by_cases q : rK r &&& 1 = 0
  · rw [if_pos q, fX9_makingCall_L324, stZ_nI hc (by decide) (by decide), Option.bind_some]
    have : bI (!decide (rK r &&& 1 = 0)) = 0 := by simp [q, bI]
    rw [this]; rfl
  · rw [if_neg q, fX9_makingCall_L324, stZ_nI hc (by decide) (by decide), Option.bind_some]
    have : bI (!decide (rK r &&& 1 = 0)) = 1 := by simp [q, bI]
    rw [this]; rfl
theorem m_call_L182 {h : HA} (hw : WF h) {F : Nat → Bool} (hF1 : ∀ m, F m = true → ∃ r, hB h m = some r ∧ rM r = true) (K : ST → Int32 → Int32 → Int32 → Option (Int32 × ST)) (x1 x2 : Int32) {m : Nat} (m60 : m < 60) : ∀ (n k f : Nat) (z : ST) (g : Bool), k + n = 60 → n < f → RMt z h → RMm z h → FT z F 60 → (g = true → F m = true) → ∃ z', fX9_makingCall_L182 K f z x1 x2 (nI m) (bI g) (nI k) = fX9_makingCall_L259 K z' x1 x2 (nI m) (bI (g && (ff (fun m' => F m' && !un2 h m m') n k).isNone)) ∧ Eu z z'
  | 0, k, f, z, g, hk, hf, hr, hm, hF, hg => by
    obtain ⟨f, rfl⟩ : ∃ j, f = j + 1 := ⟨f - 1, by omega⟩
    have c60 : (60 : Int32) ≤ nI k := nI_le (a := 60) (by omega) (by omega)
    exact ⟨z, by rw [fX9_makingCall_L182, if_pos c60]; simp [ff], E3.refl⟩
  | n + 1, k, f, z, g, hk, hf, hr, hm, hF, hg => by
    obtain ⟨f, rfl⟩ : ∃ j, f = j + 1 := ⟨f - 1, by omega⟩
    have c60 : ¬ (60 : Int32) ≤ nI k := nI_ge (b := 60) (by omega) (by decide)
    have k60 : k < 60 := by omega
    rw [fX9_makingCall_L182, if_neg c60]
    cases g with
    | false => exact ⟨z, by rw [if_pos bI_f]; simp, E3.refl⟩
    | true =>
      obtain ⟨r, er, erm⟩ := hF1 m (hg rfl)
      obtain ⟨o1, o2⟩ := okP_r hw er erm
      obtain ⟨-, -, -, -, -, a6, -, a8, -⟩ := RMm_at hm m60 er
      have go : ∀ (z1 : ST) (g' : Bool), Eu z z1 → g' = !(F k && !un2 h m k) → ∃ z', fX9_makingCall_L251 (fX9_makingCall_L182 K f) z1 x1 x2 (nI m) (nI k) (bI g') = fX9_makingCall_L259 K z' x1 x2 (nI m) (bI (true && (ff (fun m' => F m' && !un2 h m m') (n + 1) k).isNone)) ∧ Eu z z' := by
        intro z1 g' he hg'
        have hF' : FT z1 F 60 := FT_eg (Eu_eg he) hF
        obtain ⟨z2, e2, y2⟩ := m_call_L182 hw hF1 K x1 x2 m60 n (k + 1) f z1 g' (by omega) (by omega) (RMt_em (Eu_em he) hr) (RMm_em (Eu_em he) hm) hF' (fun _ => hg rfl)
        refine ⟨z2, ?_, he.trans y2⟩
        rw [fX9_makingCall_L251, nI_1, e2, ff, hg']
        cases (F k && !un2 h m k) <;> simp
      rw [if_neg (by decide), rdI_nI k60 (by decide), Option.bind_some, hF k k60]
      cases c1 : F k with
      | false =>
        rw [if_pos bI_f, fX9_makingCall_L246]
        exact go z true E3.refl (by rw [c1]; rfl)
      | true =>
        obtain ⟨r', er', erm'⟩ := hF1 k c1
        obtain ⟨o3, o4⟩ := okP_r hw er' erm'
        obtain ⟨-, -, -, -, -, b6, -, b8, -⟩ := RMm_at hm k60 er'
        have eu : un2 h m k = (und h (rA r) (rA r') && und h (rB r) (rB r')) := by unfold un2; rw [er]; dsimp only; rw [er']
        obtain ⟨z1, e1, y1⟩ := e9_isUnder hw hr o1 o3
        have hr1 := RMt_em (Eu_em y1) hr
        have hm1 := RMm_em (Eu_em y1) hm
        obtain ⟨z2, e2, y2⟩ := e9_isUnder hw hr1 o2 o4
        have d1 : aI z1 13 m = rB r := (RMm_at hm1 m60 er).2.2.2.2.2.2.2.1
        have d2 : aI z1 13 k = rB r' := (RMm_at hm1 k60 er').2.2.2.2.2.2.2.1
        rw [if_neg (by decide), rdI_nI m60 (by decide), Option.bind_some, rdI_nI k60 (by decide), Option.bind_some, a6 erm, b6 erm', e1, b2_eq]
        cases c4 : und h (rA r) (rA r') with
        | false =>
          rw [if_pos bI_f, fX9_makingCall_L250]
          exact go z1 false y1 (by rw [c1, eu, c4]; rfl)
        | true =>
          rw [if_neg (by decide), rdI_nI m60 (by decide), Option.bind_some, rdI_nI k60 (by decide), Option.bind_some, d1, d2, e2, b2_eq]
          cases c5 : und h (rB r) (rB r') with
          | false =>
            rw [if_pos bI_f, fX9_makingCall_L250]
            exact go z2 false (y1.trans y2) (by rw [c1, eu, c4, c5]; rfl)
          | true =>
            rw [if_neg (by decide), fX9_makingCall_L246]
            exact go z2 true (y1.trans y2) (by rw [c1, eu, c4, c5]; rfl)
theorem m_call_L163 {h : HA} (hw : WF h) {t : Nat} (ht : t < hN h) {F : Nat → Bool} (hF1 : ∀ m, F m = true → ∃ r, hB h m = some r ∧ rM r = true) {c : Nat} (hc : c < 25) : ∀ (n k f : Nat) (z : ST), k + n = 60 → n < f → RMt z h → RMm z h → FT z F 60 → ∃ z', Eu z z' ∧ ((ff (fun m => F m && (ff (fun m' => F m' && !un2 h m m') 60 0).isNone) n k = none ∧ fX9_makingCall_L163 f z (nI c) (nI t) (nI k) = some (2, z')) ∨ ∃ m r, ff (fun m => F m && (ff (fun m' => F m' && !un2 h m m') 60 0).isNone) n k = some m ∧ hB h m = some r ∧ rM r = true ∧ fX9_makingCall_L163 f z (nI c) (nI t) (nI k) = some (0, kpC h t m r z' c))
  | 0, k, f, z, hk, hf, hr, hm, hF => by
    obtain ⟨f, rfl⟩ : ∃ j, f = j + 1 := ⟨f - 1, by omega⟩
    have c60 : (60 : Int32) ≤ nI k := nI_le (a := 60) (by omega) (by omega)
    exact ⟨z, E3.refl, Or.inl ⟨rfl, by rw [fX9_makingCall_L163, if_pos c60]⟩⟩
  | n + 1, k, f, z, hk, hf, hr, hm, hF => by
    obtain ⟨f, rfl⟩ : ∃ j, f = j + 1 := ⟨f - 1, by omega⟩
    have c60 : ¬ (60 : Int32) ≤ nI k := nI_ge (b := 60) (by omega) (by decide)
    have k60 : k < 60 := by omega
    obtain ⟨z1, e1, y1⟩ := m_call_L182 hw hF1 (fX9_makingCall_L163 f) (nI c) (nI t) k60 60 0 5000 z (F k) (by omega) (by omega) hr hm hF (fun q => q)
    have e1' : fX9_makingCall_L182 (fX9_makingCall_L163 f) 5000 z (nI c) (nI t) (nI k) (bI (F k)) 0 = _ := e1
    have hr1 := RMt_em (Eu_em y1) hr
    have hm1 := RMm_em (Eu_em y1) hm
    rw [fX9_makingCall_L163, if_neg c60, rdI_nI k60 (by decide), Option.bind_some, hF k k60, e1']
    cases q : (F k && (ff (fun m' => F m' && !un2 h k m') 60 0).isNone) with
    | true =>
      have hk1 : F k = true := (Bool.and_eq_true_iff.mp q).1
      obtain ⟨r, er, erm⟩ := hF1 k hk1
      refine ⟨z1, y1, Or.inr ⟨k, r, by rw [ff, if_pos q], er, erm, ?_⟩⟩
      exact m_call_L259 hw ht _ hr1 hm1 hc er erm
    | false =>
      obtain ⟨z2, y2, ih⟩ := m_call_L163 hw ht hF1 hc n (k + 1) f z1 (by omega) (by omega) hr1 hm1 (FT_eg (Eu_eg y1) hF)
      refine ⟨z2, y1.trans y2, ?_⟩
      rw [ff, if_neg (by rw [q]; decide), fX9_makingCall_L259, if_pos bI_f, nI_1]
      exact ih
/-- the reference's CALL -/
theorem e9_makingCall {h : HA} (hw : WF h) {t : Nat} (ht : t < hN h) {nm a b : Int32} (ha : okP (hN h) a) (hb : okP (hN h) b) {c : Nat} (hc : c < 25) {z : ST} (hr : RMt z h) (hm : RMm z h) : ∃ z', Em z z' ∧ ((FL (fitB h t nm a b) 60 = [] ∧ fX9_makingCall z (nI c) (nI t) nm a b = some (1, z')) ∨ (FL (fitB h t nm a b) 60 ≠ [] ∧ nar h (fitB h t nm a b) = none ∧ fX9_makingCall z (nI c) (nI t) nm a b = some (2, z')) ∨ ∃ m r, FL (fitB h t nm a b) 60 ≠ [] ∧ nar h (fitB h t nm a b) = some m ∧ hB h m = some r ∧ rM r = true ∧ fX9_makingCall z (nI c) (nI t) nm a b = some (0, kpC h t m r z' c)) := by
  obtain ⟨z1, e1, y1, y2⟩ := m_call_L7 hw ht (nm := nm) ha hb (nI c) 60 0 5000 z (by omega) (by omega) hr hm (fun m q => absurd q (Nat.not_lt_zero m))
  have e1' : fX9_makingCall z (nI c) (nI t) nm a b = _ := e1
  by_cases q : FL (fitB h t nm a b) 60 = []
  · exact ⟨z1, y1, Or.inl ⟨q, by rw [e1', if_pos ((lst_nil 60 (Nat.le_refl _)).mpr q)]⟩⟩
  · have hF1 : ∀ m, fitB h t nm a b m = true → ∃ r, hB h m = some r ∧ rM r = true := by
      intro m hm2
      exact (FL_r (k := m + 1) (FL_mem.mpr ⟨Nat.lt_succ_self m, hm2⟩)).2
    obtain ⟨z2, w1, w2⟩ := m_call_L163 hw ht hF1 hc 60 0 5000 z1 (by omega) (by omega) (RMt_em y1 hr) (RMm_em y1 hm) y2
    refine ⟨z2, y1.trans (Eu_em w1), Or.inr ?_⟩
    rw [e1', if_neg (fun x => q ((lst_nil 60 (Nat.le_refl _)).mp x))]
    rcases w2 with ⟨n1, n2⟩ | ⟨m, r, n1, n2, n3, n4⟩
    · exact Or.inl ⟨q, n1, n2⟩
    · exact Or.inr ⟨m, r, q, n1, n2, n3, n4⟩
