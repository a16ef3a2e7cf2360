/-! ===== making CALL, NEW: the class ===== -/
theorem RCc_ek {u v : ST} {p q : Nat} {so t n a b : Int32} {K : CK} (he : Ek u v q) (hpq : p ≠ q) (h : RCc u p so t n a b K) : RCc v p so t n a b K := by
  unfold RCc at h ⊢
  rw [EP_isC he, he.2.2.2.2.2.2.2.2.1 p hpq, he.2.2.2.2.2.2.2.2.2 p hpq]; exact h
theorem nar_some {h : HA} {t : Nat} {n a b : Int32} {m : Nat} (e : nar h (fitB h t n a b) = some m) : m < 60 ∧ ∃ r, hB h m = some r ∧ rM r = true := by
  obtain ⟨-, h2, h3, -⟩ := ff_some e
  rw [Bool.and_eq_true] at h3
  exact FL_r (k := 60) (FL_mem.mpr ⟨by omega, h3.1⟩)
theorem e4_faultOfCall {u : ST} {h : HA} (hr : RCt u h) (hm : RCm u h) (ho : RCo u h) (hw : WF h) {p t : Nat} (ht : t < hN h) {n a b : Int32} (ha : okP (hN h) a) (hb : okP (hN h) b) (hc : RCc u p 1 (nI t) n a b K0) : ∃ u', fX4_faultOfCall u p = some ((mkC h t n a b).1, u') ∧ Ek u u' p ∧ ((mkC h t n a b).1 = 0 → RCc u' p 1 (nI t) n a b (mkC h t n a b).2) := by
  have hn := hw.1
  have y1 : Ec u (uI u 402 0) := E3.uI (by decide)
  have q1 : pcI (uI u 402 0) p 1 = some (nI t) := by
    rw [pcI_ok (by rw [E3_isC y1]; exact hc.1), E3_pI y1, hc.2.1.2.1]
  obtain ⟨u3, e3, x3, o3⟩ := e7_orderFrom (RCt_ec y1 hr) hw false ht
  have e3' : fX7_orderFrom (uI u 402 0) (nI t) 0 = some u3 := e3
  have y3 : Ec u u3 := y1.trans (Eo_ec x3)
  have hc3 := RCc_ec y3 hc
  have s3 : sI u3 402 = nI (FL (fitB h t n a b) 0).length := by
    rw [x3.1 402 (by decide)]; exact sI_uI u 402 0
  obtain ⟨u4, e4, x4, s4, l4⟩ := e4_find_L hw (t := t) (p := p) (nm := n) ha hb 60 0 5000 u3 (by omega) (by omega) (RCt_ec y3 hr) (RCm_ec y3 hm) (RCo_ec y3 ho) o3 hc3.1 hc3.2.1.2.2.1 hc3.2.1.2.2.2.1 hc3.2.1.2.2.2.2 s3 LR_nil
  have y4 : Ec u u4 := y3.trans (Ef_ec x4)
  have hr4 := RCt_ec y4 hr
  have hm4 := RCm_ec y4 hm
  have ho4 := RCo_ec y4 ho
  have hc4 := RCc_ec y4 hc
  have z4 : Ek u u4 p := EP.of y4
  have hlen := FL_len (fitB h t n a b) 60
  have ef : fX4_findFitting u p = some u4 := by
    rw [fX4_findFitting, Option.bind_some, q1, Option.bind_some, e3', Option.bind_some]; exact e4
  rw [fX4_faultOfCall, ef, Option.bind_some, s4]
  by_cases c0 : FL (fitB h t n a b) 60 = []
  · have em : mkC h t n a b = (1, K0) := by unfold mkC; rw [if_pos c0]
    refine ⟨u4, ?_, z4, fun q => ?_⟩
    · rw [if_pos (by rw [c0]; rfl), em]
    · rw [em] at q; exact absurd q (by decide)
  · have hl0 : ¬ nI (FL (fitB h t n a b) 60).length = 0 := by
      intro e
      have : (FL (fitB h t n a b) 60).length = 0 := nI_inj (by omega) (by decide) e
      exact c0 (List.eq_nil_of_length_eq_zero this)
    have en : fX4_narrowest u4 = some (oI (nar h (fitB h t n a b))) := by
      have := e4_nar_L hr4 hm4 ho4 hw hlen (fun m hx => FL_r hx) s4 l4 _ 0 5000 (Nat.zero_add _) (by omega)
      rw [List.drop_zero, nar_FL] at this
      exact this
    rw [if_neg hl0, en, Option.bind_some, e6_isMethod hm4 hn (WF_own hw), Option.bind_some]
    cases eN : nar h (fitB h t n a b) with
    | none =>
      have em : mkC h t n a b = (2, K0) := by unfold mkC; rw [if_neg c0, eN]
      refine ⟨u4, ?_, z4, fun q => ?_⟩
      · rw [oI_none, meB_m2, if_pos bI_f, em]
      · rw [em] at q; exact absurd q (by decide)
    | some m =>
      obtain ⟨m60, r, er, erm⟩ := nar_some eN
      have em : mkC h t n a b = (0, (rA r, rB r, 0, haB h (nI m) 1, hF h t, false, 0)) := by unfold mkC; rw [if_neg c0, eN]; dsimp only; rw [er]
      obtain ⟨u5, e5, x5, hc5⟩ := w_fc hc4 (hF h t)
      have z5 : Ek u u5 p := z4.trans (x5 _ _ _)
      obtain ⟨-, -, -, -, a5, -, -⟩ := RCm_at (RCm_ek z5 hm) m60 er
      obtain ⟨u6, e6, x6, hc6⟩ := w_fi hc5 (rA r)
      have z6 : Ek u u6 p := z5.trans (x6 _ _ _)
      obtain ⟨-, -, -, -, -, a6, -⟩ := RCm_at (RCm_ek z6 hm) m60 er
      obtain ⟨u7, e7, x7, hc7⟩ := w_se hc6 (rB r)
      have z7 : Ek u u7 p := z6.trans (x7 _ _ _)
      obtain ⟨u8, e8, x8, hc8⟩ := w_st hc7 (haB h (nI m) 1)
      have it : faB h (nI t) = hF h t := by unfold faB; rw [isN_nI (by omega), cl_nI (by omega)]; simp [ht]
      refine ⟨u8, ?_, z7.trans (x8 _ _ _), fun _ => ?_⟩
      · rw [oI_some, meB_nI m60 er, erm, if_neg (by decide), pcI_ok hc4.1, Option.bind_some, hc4.2.1.2.1, e7_isFace hr4 hn, Option.bind_some, it, e5, Option.bind_some, rdI_nI m60 (by decide), Option.bind_some, a5, e6, Option.bind_some, rdI_nI m60 (by decide), Option.bind_some, a6, e7, Option.bind_some, e6_has (RCm_ek z7 hm) hn (WF_own hw), Option.bind_some, e8, Option.bind_some, em]
      · rw [em]; exact hc8
theorem e4_faultOf {u : ST} {h : HA} (hr : RCt u h) (hm : RCm u h) (ho : RCo u h) (hw : WF h) {p t : Nat} (ht : t < hN h) {so n a b : Int32} (hso : so = 0 ∨ so = 1 ∨ so = 2) (ha : okP (hN h) a) (hb : okP (hN h) b) (hc : RCc u p so (nI t) n a b K0) : ∃ u', fX4_faultOf u p = some ((mk h so t n a b).1, u') ∧ Ek u u' p ∧ ((mk h so t n a b).1 = 0 → RCc u' p so (nI t) n a b (mk h so t n a b).2) := by
  have hn := hw.1
  rw [fX4_faultOf, pcI_ok hc.1, Option.bind_some, hc.2.1.1]
  unfold mk
  rcases hso with rfl | rfl | rfl
  · obtain ⟨u', e, x1, x2⟩ := e4_faultOfGet hr hm hw ht hc
    exact ⟨u', by rw [if_pos rfl, if_pos rfl, e, b2_eq], x1, by rw [if_pos rfl]; exact x2⟩
  · obtain ⟨u', e, x1, x2⟩ := e4_faultOfCall hr hm ho hw ht ha hb hc
    exact ⟨u', by rw [if_neg (by decide), if_pos rfl, if_neg (by decide), if_pos rfl, e, b2_eq], x1, by rw [if_neg (by decide), if_pos rfl]; exact x2⟩
  · have it : faB h (nI t) = hF h t := by unfold faB; rw [isN_nI (by omega), cl_nI (by omega)]; simp [ht]
    have ib : abB h (nI t) = (!hF h t && !decide (hM h t &&& 1 = 0)) := by unfold abB; rw [isN_nI (by omega), cl_nI (by omega)]; simp [ht]
    rw [if_neg (by decide), if_neg (by decide), if_neg (by decide), if_neg (by decide), pcI_ok hc.1, Option.bind_some, hc.2.1.2.1, e7_isFace hr hn, Option.bind_some, it]
    unfold mkN
    cases c1 : hF h t with
    | true =>
      refine ⟨u, ?_, EP.of E3.refl, fun q => by rw [Bool.true_or, if_pos rfl] at q; exact absurd q (by decide)⟩
      rw [if_neg (by decide)]; rfl
    | false =>
      rw [if_pos bI_f, Option.bind_some, e7_isAbstract hr hn, Option.bind_some, ib, c1]
      cases c2 : decide (hM h t &&& 1 = 0) with
      | true => exact ⟨u, rfl, EP.of E3.refl, fun _ => hc⟩
      | false => exact ⟨u, rfl, EP.of E3.refl, fun q => absurd q (by decide)⟩
