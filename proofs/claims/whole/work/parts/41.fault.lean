/-! ===== making: the class ===== -/
theorem lkF_some {h : HA} {t : Nat} {n : Int32} {b : Bool} {m : Nat} (e : lkF h t n b = some m) : m < 60 ∧ ∃ r, hB h m = some r ∧ rM r = false ∧ rN r = n := by
  obtain ⟨c, -, e2⟩ := List.exists_of_findSome?_eq_some e
  unfold qF at e2
  cases e3 : own h c false n (-2) (-2) with
  | none => rw [e3] at e2; cases e2
  | some m' =>
    rw [e3] at e2
    dsimp only at e2
    by_cases c : (b && haB h (nI m') 4) = true
    · rw [if_pos c] at e2; cases e2
    · rw [if_neg c] at e2
      cases e2
      obtain ⟨h1, r, h2, -, h3, h4, -⟩ := own_some e3
      exact ⟨h1, r, h2, h3, h4⟩
theorem lkM_some {h : HA} {t : Nat} {n a b : Int32} {m : Nat} (e : lkM h t n a b = some m) : m < 60 ∧ ∃ r, hB h m = some r ∧ rM r = true ∧ rN r = n ∧ rA r = a ∧ rB r = b := by
  obtain ⟨c, -, e2⟩ := List.exists_of_findSome?_eq_some e
  obtain ⟨h1, r, h2, -, h3, h4, h5⟩ := own_some e2
  exact ⟨h1, r, h2, h3, h4, (h5 rfl).1, (h5 rfl).2⟩
theorem fiB_m2 (h : HA) : fiB h (-2) = false := by unfold fiB; rw [isN_m2]; rfl
theorem meB_m2 (h : HA) : meB h (-2) = false := by unfold meB; rw [isN_m2]; rfl
theorem heB_m2 (h : HA) : heB h (-2) = false := by unfold heB; rw [isN_m2]; rfl
theorem fiB_nI {h : HA} {m : Nat} {r : MR} (hlt : m < 60) (e : hB h m = some r) : fiB h (nI m) = !rM r := by
  unfold fiB; rw [isN_nI (by omega), cl_nI (by omega), e]; simp [hlt]
theorem heB_nI {h : HA} {m : Nat} {r : MR} (hlt : m < 60) (e : hB h m = some r) : heB h (nI m) = true := by
  unfold heB; rw [isN_nI (by omega), cl_nI (by omega), e]; simp [hlt]
theorem RCc_ec {u v : ST} {p : Nat} {so t n a b : Int32} {K : CK} (he : Ec u v) (h : RCc u p so t n a b K) : RCc v p so t n a b K := by
  unfold RCc at h ⊢
  rw [E3_isC he, E3_pI he, he.2.2.2.2.2.2.2.2.1]; exact h
theorem w_fi {u : ST} {p : Nat} {so t n a b : Int32} {K : CK} (hc : RCc u p so t n a b K) (x : Int32) : ∃ v, wcI u p 5 (x) = some v ∧ (∀ A B C, EP u v A B C p) ∧ RCc v p so t n a b (x, kSe K, kKd K, kSt K, kFc K, kKp K, kVl K) := by
  obtain ⟨h0, ⟨n0, n1, n2, n3, n4⟩, h5, h6, h7, h8, h9, h10, hv⟩ := hc
  exact ⟨qI u p 5 (x), wcI_ok h0, fun _ _ _ => EP.qI, h0, ⟨(by rw [pI_qI, if_neg (by decide)]; exact n0), (by rw [pI_qI, if_neg (by decide)]; exact n1), (by rw [pI_qI, if_neg (by decide)]; exact n2), (by rw [pI_qI, if_neg (by decide)]; exact n3), (by rw [pI_qI, if_neg (by decide)]; exact n4)⟩, (by rw [pI_qI, if_pos rfl]; rfl), (by rw [pI_qI, if_neg (by decide)]; exact h6), (by rw [pI_qI, if_neg (by decide)]; exact h7), (by rw [pI_qI, if_neg (by decide)]; exact h8), (by rw [pI_qI, if_neg (by decide)]; exact h9), (by rw [pI_qI, if_neg (by decide)]; exact h10), hv⟩
theorem w_se {u : ST} {p : Nat} {so t n a b : Int32} {K : CK} (hc : RCc u p so t n a b K) (x : Int32) : ∃ v, wcI u p 6 (x) = some v ∧ (∀ A B C, EP u v A B C p) ∧ RCc v p so t n a b (kFi K, x, kKd K, kSt K, kFc K, kKp K, kVl K) := by
  obtain ⟨h0, ⟨n0, n1, n2, n3, n4⟩, h5, h6, h7, h8, h9, h10, hv⟩ := hc
  exact ⟨qI u p 6 (x), wcI_ok h0, fun _ _ _ => EP.qI, h0, ⟨(by rw [pI_qI, if_neg (by decide)]; exact n0), (by rw [pI_qI, if_neg (by decide)]; exact n1), (by rw [pI_qI, if_neg (by decide)]; exact n2), (by rw [pI_qI, if_neg (by decide)]; exact n3), (by rw [pI_qI, if_neg (by decide)]; exact n4)⟩, (by rw [pI_qI, if_neg (by decide)]; exact h5), (by rw [pI_qI, if_pos rfl]; rfl), (by rw [pI_qI, if_neg (by decide)]; exact h7), (by rw [pI_qI, if_neg (by decide)]; exact h8), (by rw [pI_qI, if_neg (by decide)]; exact h9), (by rw [pI_qI, if_neg (by decide)]; exact h10), hv⟩
theorem w_kd {u : ST} {p : Nat} {so t n a b : Int32} {K : CK} (hc : RCc u p so t n a b K) (x : Int32) : ∃ v, wcI u p 7 (x) = some v ∧ (∀ A B C, EP u v A B C p) ∧ RCc v p so t n a b (kFi K, kSe K, x, kSt K, kFc K, kKp K, kVl K) := by
  obtain ⟨h0, ⟨n0, n1, n2, n3, n4⟩, h5, h6, h7, h8, h9, h10, hv⟩ := hc
  exact ⟨qI u p 7 (x), wcI_ok h0, fun _ _ _ => EP.qI, h0, ⟨(by rw [pI_qI, if_neg (by decide)]; exact n0), (by rw [pI_qI, if_neg (by decide)]; exact n1), (by rw [pI_qI, if_neg (by decide)]; exact n2), (by rw [pI_qI, if_neg (by decide)]; exact n3), (by rw [pI_qI, if_neg (by decide)]; exact n4)⟩, (by rw [pI_qI, if_neg (by decide)]; exact h5), (by rw [pI_qI, if_neg (by decide)]; exact h6), (by rw [pI_qI, if_pos rfl]; rfl), (by rw [pI_qI, if_neg (by decide)]; exact h8), (by rw [pI_qI, if_neg (by decide)]; exact h9), (by rw [pI_qI, if_neg (by decide)]; exact h10), hv⟩
theorem w_st {u : ST} {p : Nat} {so t n a b : Int32} {K : CK} (hc : RCc u p so t n a b K) (x : Bool) : ∃ v, wcZ u p 8 (bI x) = some v ∧ (∀ A B C, EP u v A B C p) ∧ RCc v p so t n a b (kFi K, kSe K, kKd K, x, kFc K, kKp K, kVl K) := by
  obtain ⟨h0, ⟨n0, n1, n2, n3, n4⟩, h5, h6, h7, h8, h9, h10, hv⟩ := hc
  exact ⟨qI u p 8 (bI x), wcZ_ok h0 (bI_isB x), fun _ _ _ => EP.qI, h0, ⟨(by rw [pI_qI, if_neg (by decide)]; exact n0), (by rw [pI_qI, if_neg (by decide)]; exact n1), (by rw [pI_qI, if_neg (by decide)]; exact n2), (by rw [pI_qI, if_neg (by decide)]; exact n3), (by rw [pI_qI, if_neg (by decide)]; exact n4)⟩, (by rw [pI_qI, if_neg (by decide)]; exact h5), (by rw [pI_qI, if_neg (by decide)]; exact h6), (by rw [pI_qI, if_neg (by decide)]; exact h7), (by rw [pI_qI, if_pos rfl]; rfl), (by rw [pI_qI, if_neg (by decide)]; exact h9), (by rw [pI_qI, if_neg (by decide)]; exact h10), hv⟩
theorem w_fc {u : ST} {p : Nat} {so t n a b : Int32} {K : CK} (hc : RCc u p so t n a b K) (x : Bool) : ∃ v, wcZ u p 9 (bI x) = some v ∧ (∀ A B C, EP u v A B C p) ∧ RCc v p so t n a b (kFi K, kSe K, kKd K, kSt K, x, kKp K, kVl K) := by
  obtain ⟨h0, ⟨n0, n1, n2, n3, n4⟩, h5, h6, h7, h8, h9, h10, hv⟩ := hc
  exact ⟨qI u p 9 (bI x), wcZ_ok h0 (bI_isB x), fun _ _ _ => EP.qI, h0, ⟨(by rw [pI_qI, if_neg (by decide)]; exact n0), (by rw [pI_qI, if_neg (by decide)]; exact n1), (by rw [pI_qI, if_neg (by decide)]; exact n2), (by rw [pI_qI, if_neg (by decide)]; exact n3), (by rw [pI_qI, if_neg (by decide)]; exact n4)⟩, (by rw [pI_qI, if_neg (by decide)]; exact h5), (by rw [pI_qI, if_neg (by decide)]; exact h6), (by rw [pI_qI, if_neg (by decide)]; exact h7), (by rw [pI_qI, if_neg (by decide)]; exact h8), (by rw [pI_qI, if_pos rfl]; rfl), (by rw [pI_qI, if_neg (by decide)]; exact h10), hv⟩
theorem w_kp {u : ST} {p : Nat} {so t n a b : Int32} {K : CK} (hc : RCc u p so t n a b K) (x : Bool) : ∃ v, wcZ u p 10 (bI x) = some v ∧ (∀ A B C, EP u v A B C p) ∧ RCc v p so t n a b (kFi K, kSe K, kKd K, kSt K, kFc K, x, kVl K) := by
  obtain ⟨h0, ⟨n0, n1, n2, n3, n4⟩, h5, h6, h7, h8, h9, h10, hv⟩ := hc
  exact ⟨qI u p 10 (bI x), wcZ_ok h0 (bI_isB x), fun _ _ _ => EP.qI, h0, ⟨(by rw [pI_qI, if_neg (by decide)]; exact n0), (by rw [pI_qI, if_neg (by decide)]; exact n1), (by rw [pI_qI, if_neg (by decide)]; exact n2), (by rw [pI_qI, if_neg (by decide)]; exact n3), (by rw [pI_qI, if_neg (by decide)]; exact n4)⟩, (by rw [pI_qI, if_neg (by decide)]; exact h5), (by rw [pI_qI, if_neg (by decide)]; exact h6), (by rw [pI_qI, if_neg (by decide)]; exact h7), (by rw [pI_qI, if_neg (by decide)]; exact h8), (by rw [pI_qI, if_neg (by decide)]; exact h9), (by rw [pI_qI, if_pos rfl]; rfl), hv⟩
theorem w_vl {u : ST} {p : Nat} {so t n a b : Int32} {K : CK} (hc : RCc u p so t n a b K) (x : Int64) : ∃ v, wcV u p x = some v ∧ (∀ A B C, EP u v A B C p) ∧ RCc v p so t n a b (kFi K, kSe K, kKd K, kSt K, kFc K, kKp K, x) := by
  obtain ⟨h0, hn, h5, h6, h7, h8, h9, h10, hv⟩ := hc
  exact ⟨qV u p x, wcV_ok h0, fun _ _ _ => EP.qV, h0, hn, h5, h6, h7, h8, h9, h10, pV_qV u p x⟩
theorem e4_faultOfGet {u : ST} {h : HA} (hr : RCt u h) (hm : RCm u h) (hw : WF h) {p t : Nat} (ht : t < hN h) {n a b : Int32} (hc : RCc u p 0 (nI t) n a b K0) : ∃ u', fX4_faultOfGet u p = some ((mkG h t n).1, u') ∧ Ek u u' p ∧ ((mkG h t n).1 = 0 → RCc u' p 0 (nI t) n a b (mkG h t n).2) := by
  have hn := hw.1
  obtain ⟨u3, e3, x1⟩ := e2_lookForField hr hm hw ht n true
  have e3' : fX2_lookForField u (nI t) n 1 = some (oI (lkF h t n true), u3) := e3
  have hm3 := RCm_ec (Eo_ec x1) hm
  have hc3 := RCc_ec (Eo_ec x1) hc
  have hz3 : Ek u u3 p := EP.of (Eo_ec x1)
  obtain ⟨i0, ⟨n0, n1, n2, n3, n4⟩, -⟩ := hc
  rw [fX4_faultOfGet, pcI_ok i0, Option.bind_some, pcI_ok i0, Option.bind_some, n1, n2, e3', b2_eq, e6_isField hm3 hn (WF_own hw), Option.bind_some]
  cases el : lkF h t n true with
  | none =>
    have em : mkG h t n = (1, K0) := by unfold mkG; rw [el]
    refine ⟨u3, ?_, hz3, fun q => ?_⟩
    · rw [oI_none, fiB_m2, if_pos bI_f, em]
    · rw [em] at q; exact absurd q (by decide)
  | some m =>
    obtain ⟨m60, r, er, erm, -⟩ := lkF_some el
    have em : mkG h t n = (0, (-2, -2, rA r, haB h (nI m) 1, false, haB h (nI m) 1 && haB h (nI m) 2, if (haB h (nI m) 1 && haB h (nI m) 2) = true then co (rA r) (rV r) else 0)) := by unfold mkG; rw [el]; dsimp only; rw [er]
    obtain ⟨a1, a2, a3, a4, a5, a6, -⟩ := RCm_at hm3 m60 er
    obtain ⟨u4, e4, y4, hc4⟩ := w_kd hc3 (rA r)
    have hz4 : Ek u u4 p := hz3.trans (y4 _ _ _)
    have hm4 := RCm_ek hz4 hm
    obtain ⟨u5, e5, y5, hc5⟩ := w_st hc4 (haB h (nI m) 1)
    have hz5 : Ek u u5 p := hz4.trans (y5 _ _ _)
    have hm5 := RCm_ek hz5 hm
    have p8 : pI u5 p 8 = bI (haB h (nI m) 1) := hc5.2.2.2.2.2.1
    rw [em]
    -- the end
    have fin : ∀ s : Bool, s = (haB h (nI m) 1 && haB h (nI m) 2) → ∃ u', fX4_faultOfGet_L77 u5 p (nI m) p (bI s) = some (0, u') ∧ Ek u u' p ∧ RCc u' p 0 (nI t) n a b (-2, -2, rA r, haB h (nI m) 1, false, haB h (nI m) 1 && haB h (nI m) 2, if (haB h (nI m) 1 && haB h (nI m) 2) = true then co (rA r) (rV r) else 0) := by
      intro s hs
      rw [← hs]
      obtain ⟨u6, e6, y6, hc6⟩ := w_kp hc5 s
      have hz6 : Ek u u6 p := hz5.trans (y6 _ _ _)
      have a7 := (RCm_at (RCm_ek hz6 hm) m60 er).2.2.2.2.2.2
      rw [if_neg (by rw [erm]; decide)] at a7
      have rl : rdL u6 21 60 (nI m) = some (co (rA r) (rV r)) := by rw [rdL_nI m60 (by decide), a7]
      have p10 : pI u6 p 10 = bI s := hc6.2.2.2.2.2.2.2.1
      rw [fX4_faultOfGet_L77, e6, Option.bind_some, pcI_ok hc6.1, Option.bind_some, p10]
      cases s with
      | false =>
        obtain ⟨u7, e7, y7, hc7⟩ := w_vl hc6 0
        exact ⟨u7, by rw [if_pos bI_f, fX4_faultOfGet_L98, e7, Option.bind_some], hz6.trans (y7 _ _ _), hc7⟩
      | true =>
        obtain ⟨u7, e7, y7, hc7⟩ := w_vl hc6 (co (rA r) (rV r))
        refine ⟨u7, by rw [if_neg (by decide), rl, Option.bind_some, fX4_faultOfGet_L98, e7, Option.bind_some], hz6.trans (y7 _ _ _), ?_⟩
        rw [if_pos rfl]; exact hc7
    have fin2 : ∀ s : Bool, s = (haB h (nI m) 1 && haB h (nI m) 2) → ∃ u', fX4_faultOfGet_L77 u5 p (nI m) p (bI s) = some (0, u') ∧ Ek u u' p ∧ ((0 : Int32) = 0 → RCc u' p 0 (nI t) n a b (-2, -2, rA r, haB h (nI m) 1, false, haB h (nI m) 1 && haB h (nI m) 2, if (haB h (nI m) 1 && haB h (nI m) 2) = true then co (rA r) (rV r) else 0)) := by
      intro s hs
      obtain ⟨u', b1, b2, b3⟩ := fin s hs
      exact ⟨u', b1, b2, fun _ => b3⟩
    rw [oI_some, fiB_nI m60 er, erm, if_neg (by decide), rdI_nI m60 (by decide), Option.bind_some, a5, e4, Option.bind_some, e6_has hm4 hn (WF_own hw), Option.bind_some, e5, Option.bind_some, pcI_ok hc5.1, Option.bind_some, p8]
    dsimp only
    cases c1 : haB h (nI m) 1 with
    | false =>
      rw [c1] at fin2
      rw [if_pos bI_f, fX4_faultOfGet_L76]
      exact fin2 false rfl
    | true =>
      rw [c1] at fin2
      rw [if_neg (by decide), e6_has hm5 hn (WF_own hw), Option.bind_some]
      cases c2 : haB h (nI m) 2 with
      | false =>
        rw [c2] at fin2
        rw [if_pos bI_f, fX4_faultOfGet_L76]
        exact fin2 false rfl
      | true =>
        rw [c2] at fin2
        rw [if_neg (by decide)]
        exact fin2 true rfl
