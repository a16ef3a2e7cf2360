/-! ===== MEETING: the class, CALL, NEW, whole ===== -/
theorem sc_cases {h : HA} {L : Nat → Option Nat} (hL' : ∀ i m, L i = some m → m < 60 ∧ ∃ r, hB h m = some r ∧ rM r = true) : ∀ (n k : Nat) (x : Int32), (x = -2 ∨ ∃ m r, m < 60 ∧ x = nI m ∧ hB h m = some r ∧ rM r = true) → (scC h L n k x = -2 ∨ scC h L n k x = -4 ∨ ∃ m r, m < 60 ∧ scC h L n k x = nI m ∧ hB h m = some r ∧ rM r = true)
  | 0, k, x, hx => by
    rcases hx with hx | hx
    · exact Or.inl hx
    · exact Or.inr (Or.inr hx)
  | n + 1, k, x, hx => by
    rw [scC]
    cases e : L k with
    | none => exact sc_cases hL' n (k + 1) x hx
    | some m =>
      obtain ⟨m60, r, er, erm⟩ := hL' k m e
      dsimp only
      by_cases c : haB h (nI m) 8 = true
      · rw [if_pos c]; exact sc_cases hL' n (k + 1) x hx
      · rw [if_neg c]
        by_cases d : x = -2
        · rw [if_pos d]; exact sc_cases hL' n (k + 1) (nI m) (Or.inr ⟨m, r, m60, rfl, er, erm⟩)
        · rw [if_neg d]; exact Or.inr (Or.inl rfl)
theorem slC_cases (h : HA) (t : Nat) (n a b : Int32) : slC h t n a b = -2 ∨ slC h t n a b = -4 ∨ ∃ m r, m < 60 ∧ slC h t n a b = nI m ∧ hB h m = some r ∧ rM r = true := by
  unfold slC
  cases e : (chn h t).findSome? (opn h n a b) with
  | none => exact sc_cases (fun i m q => lwm_some q) (hN h) 0 (-2) (Or.inl rfl)
  | some m =>
    obtain ⟨c, -, e2⟩ := List.exists_of_findSome?_eq_some e
    obtain ⟨m60, r, er, -, erm, -⟩ := own_some (opn_some e2).1
    dsimp only
    by_cases d : haB h (nI m) 8 = true
    · rw [if_pos d]; exact Or.inl rfl
    · rw [if_neg d]; exact Or.inr (Or.inr ⟨m, r, m60, rfl, er, erm⟩)
theorem mtV_nI {h : HA} {m : Nat} {r : MR} (m60 : m < 60) (er : hB h m = some r) : mtV h (nI m) = (0, (rV r).toInt32.toInt64) := by
  unfold mtV; rw [isN_nI (by omega), cl_nI (by omega), er]; simp [m60]
theorem e5_L125 {u : ST} {h : HA} (hm : RCm u h) (hw : WF h) {y : Int32} (hy : y = -2 ∨ y = -4 ∨ ∃ m r, m < 60 ∧ y = nI m ∧ hB h m = some r ∧ rM r = true) (h501 : sL u 501 = 0) : ∃ u', fX5_failureOfCall_L125 u y = some ((mtV h y).1, u') ∧ Ec u u' ∧ sL u' 501 = (mtV h y).2 := by
  have hn := hw.1
  rw [fX5_failureOfCall_L125, e6_isMethod hm hn (WF_own hw), Option.bind_some]
  rcases hy with rfl | rfl | ⟨m, r, m60, rfl, er, erm⟩
  · refine ⟨u, ?_, E3.refl, h501⟩
    rw [meB_m2, if_pos bI_f, if_neg (by decide)]; rfl
  · have : meB h (-4) = false := by unfold meB; rw [isN_lt0 (by decide)]; rfl
    refine ⟨u, ?_, E3.refl, h501⟩
    rw [this, if_pos bI_f, if_pos rfl]; rfl
  · have a7 := (RCm_at hm m60 er).2.2.2.2.2.2
    rw [if_pos erm] at a7
    refine ⟨uL u 501 (rV r).toInt32.toInt64, ?_, E3.uL (by decide), ?_⟩
    · rw [meB_nI m60 er, erm, if_neg (by decide), rdL_nI m60 (by decide), Option.bind_some, a7, Option.bind_some, mtV_nI m60 er]
    · rw [sL_uL, mtV_nI m60 er]
theorem e5_call {u : ST} {h : HA} (hr : RCt u h) (hm : RCm u h) (ho : RCo u h) (hw : WF h) {p t r : Nat} (ht : t < hN h) (hrr : r < hN h) {so n a b : Int32} {K : CK} (hc : RCc u p so (nI t) n a b K) (h501 : sL u 501 = 0) : ∃ u', fX5_failureOfCall u p (nI r) = some ((mtC h n K t r).1, u') ∧ Ec u u' ∧ sL u' 501 = (mtC h n K t r).2 := by
  have hn := hw.1
  have it : faB h (nI t) = hF h t := by unfold faB; rw [isN_nI (by omega), cl_nI (by omega)]; simp [ht]
  rw [fX5_failureOfCall, pcI_ok hc.1, Option.bind_some, hc.2.1.2.1, e7_isFace hr hn, Option.bind_some, it, pcI_ok hc.1, Option.bind_some, hc.2.2.2.2.2.2.1]
  unfold mtC
  by_cases c0 : hF h t = kFc K
  · rw [if_pos (by rw [c0]), if_pos c0, Option.bind_some, pcI_ok hc.1, Option.bind_some, hc.2.1.2.2.1, pcI_ok hc.1, Option.bind_some, hc.2.2.1, pcI_ok hc.1, Option.bind_some, hc.2.2.2.1]
    obtain ⟨u3, e3, x1, -⟩ := e2_lookForMethod hr hm hw ht n (kFi K) (kSe K)
    have y3 := Eo_ec x1
    have hr3 := RCt_ec y3 hr
    have hm3 := RCm_ec y3 hm
    have ho3 := RCo_ec y3 ho
    have hc3 := RCc_ec y3 hc
    have s3 : sL u3 501 = 0 := by rw [x1.2.1 501 (by decide)]; exact h501
    rw [e3, b2_eq]
    cases el : lkM h t n (kFi K) (kSe K) with
    | none =>
      refine ⟨u3, ?_, y3, s3⟩
      have : fX5_failureOfFound u3 p (oI none) = some 3 := by rw [fX5_failureOfFound, e6_isMember hm3 hn (WF_own hw), Option.bind_some, oI_none, heB_m2, if_pos bI_f]
      rw [this, Option.bind_some, if_neg (by decide), fX5_failureOfCall_L85, if_neg (by decide)]
    | some m =>
      obtain ⟨m60, q, er, erm, -⟩ := lkM_some el
      have e8 := hc3.2.2.2.2.2.1
      have fin : ∀ x : Int32, x = mtF h K t r m → ∃ u', fX5_failureOfCall_L85 u3 p (nI r) (nI m) x = some ((if mtF h K t r m = 0 then mtV h (if kSt K = true then nI m else slC h r n (kFi K) (kSe K)) else (mtF h K t r m, 0)).1, u') ∧ Ec u u' ∧ sL u' 501 = (if mtF h K t r m = 0 then mtV h (if kSt K = true then nI m else slC h r n (kFi K) (kSe K)) else (mtF h K t r m, 0)).2 := by
        intro x hx
        subst hx
        rw [fX5_failureOfCall_L85]
        by_cases c : mtF h K t r m = 0
        · rw [if_pos c, if_pos c, pcI_ok hc3.1, Option.bind_some, e8]
          cases c3 : kSt K with
          | false =>
            obtain ⟨u', b1, b2', b3⟩ := e5_L125 hm3 hw (slC_cases h r n (kFi K) (kSe K)) s3
            refine ⟨u', ?_, y3.trans b2', ?_⟩
            · rw [if_pos bI_f, pcI_ok hc3.1, Option.bind_some, hc3.2.1.2.2.1, pcI_ok hc3.1, Option.bind_some, hc3.2.2.1, pcI_ok hc3.1, Option.bind_some, hc3.2.2.2.1, e2_select hr3 hm3 ho3 hw hrr, Option.bind_some, b1, if_neg Bool.false_ne_true]
            · rw [b3, if_neg Bool.false_ne_true]
          | true =>
            obtain ⟨u', b1, b2', b3⟩ := e5_L125 hm3 hw (y := nI m) (Or.inr (Or.inr ⟨m, q, m60, rfl, er, erm⟩)) s3
            refine ⟨u', ?_, y3.trans b2', ?_⟩
            · rw [if_neg (by decide), b1, if_pos rfl]
            · rw [b3, if_pos rfl]
        · rw [if_neg c, if_neg c]
          exact ⟨u3, rfl, y3, s3⟩
      rw [oI_some, e5_found hm3 hw hc3 m60 er, Option.bind_some]
      dsimp only
      by_cases c1 : haB h (nI m) 4 = true
      · rw [if_pos c1, if_neg (by decide)]
        exact fin 4 (by unfold mtF; rw [if_pos c1])
      · rw [if_neg c1]
        by_cases c2 : haB h (nI m) 1 = kSt K
        · rw [if_pos c2, if_pos rfl, pcI_ok hc3.1, Option.bind_some, e8]
          cases c3 : kSt K with
          | false =>
            rw [c3] at fin
            rw [if_pos bI_f, e5_object hr3 hm3 ho3 hw ht hrr hc3, Option.bind_some]
            exact fin _ (by unfold mtF; rw [if_neg c1, if_pos c2, c3, if_neg Bool.false_ne_true])
          | true =>
            rw [c3] at fin
            rw [if_neg (by decide)]
            exact fin 0 (by unfold mtF; rw [if_neg c1, if_pos c2, c3, if_pos rfl])
        · rw [if_neg c2, if_neg (by decide)]
          exact fin 5 (by unfold mtF; rw [if_neg c1, if_neg c2])
  · rw [if_neg (fun q => c0 (bI_inj q)), if_neg c0]
    exact ⟨u, rfl, E3.refl, h501⟩
theorem e5_failureOf {u : ST} {h : HA} (hr : RCt u h) (hm : RCm u h) (ho : RCo u h) (hw : WF h) {p r : Nat} (hrr : r < hN h) {so t n a b : Int32} {K : CK} (hso : so = 0 ∨ so = 1 ∨ so = 2) (hc : RCc u p so t n a b K) (hk : so = 0 → isN (kKd K) 8 = true) : ∃ u', fX5_failureOf u p (nI r) = some ((mt h so t n K r).1, u') ∧ Ec u u' ∧ sL u' 501 = (mt h so t n K r).2 := by
  have hn := hw.1
  have y1 : Ec u (uL u 501 0) := E3.uL (by decide)
  have s1 : sL (uL u 501 0) 501 = 0 := sL_uL u 501 0
  have hr1 := RCt_ec y1 hr
  have hm1 := RCm_ec y1 hm
  have ho1 := RCo_ec y1 ho
  have hc1 := RCc_ec y1 hc
  rw [fX5_failureOf, Option.bind_some]
  generalize uL u 501 0 = u1 at *
  rw [pcI_ok hc1.1, Option.bind_some, hc1.2.1.2.1, e7_isType hr1 hn, Option.bind_some]
  unfold mt
  cases c1 : isN t (hN h) with
  | false => exact ⟨u1, by rw [if_pos bI_f]; rfl, y1, s1⟩
  | true =>
    obtain ⟨j, hj, rfl⟩ := isN_true c1 (by omega)
    rw [if_neg (by decide), if_pos rfl, pcI_ok hc1.1, Option.bind_some, hc1.2.2.1, pcI_ok hc1.1, Option.bind_some, hc1.2.2.2.1, e7_par hr1 hn, Option.bind_some, cl_nI (by omega)]
    cases c2 : prB h (kFi K) (kSe K) with
    | false => exact ⟨u1, by rw [if_pos bI_f]; rfl, y1, s1⟩
    | true =>
      rw [if_neg (by decide), if_pos rfl, pcI_ok hc1.1, Option.bind_some, hc1.2.2.2.2.2.2.2.1]
      cases c3 : kKp K with
      | true =>
        refine ⟨uL u1 501 (kVl K), ?_, y1.trans (E3.uL (by decide)), by rw [sL_uL, if_pos rfl]⟩
        have : pcV u1 p = some (kVl K) := by rw [pcV, ck_pos hc1.1, hc1.2.2.2.2.2.2.2.2]
        rw [if_neg (by decide), this, Option.bind_some, Option.bind_some, if_pos rfl]
      | false =>
        rw [if_pos bI_f, if_neg Bool.false_ne_true, Option.bind_some, e2_reading hr1 hm1 ho1 hw hj, Option.bind_some]
        by_cases c4 : rdf h (chn h j) = 0
        · rw [if_pos c4, if_pos c4, pcI_ok hc1.1, Option.bind_some, hc1.2.1.1]
          rcases hso with rfl | rfl | rfl
          · obtain ⟨u', b1, b2', b3⟩ := e5_get hr1 hm1 ho1 hw hj hrr hc1 (hk rfl) s1
            exact ⟨u', by rw [if_pos rfl, if_pos rfl, b1, b2_eq], y1.trans b2', by rw [if_pos rfl]; exact b3⟩
          · obtain ⟨u', b1, b2', b3⟩ := e5_call hr1 hm1 ho1 hw hj hrr hc1 s1
            exact ⟨u', by rw [if_neg (by decide), if_pos rfl, if_neg (by decide), if_pos rfl, b1, b2_eq], y1.trans b2', by rw [if_neg (by decide), if_pos rfl]; exact b3⟩
          · have ib : abB h (nI j) = (!hF h j && !decide (hM h j &&& 1 = 0)) := by unfold abB; rw [isN_nI (by omega), cl_nI (by omega)]; simp [hj]
            rw [if_neg (by decide), if_neg (by decide), if_neg (by decide), if_neg (by decide), fX5_failureOfNew, pcI_ok hc1.1, Option.bind_some, hc1.2.1.2.1, e7_isAbstract hr1 hn, Option.bind_some, ib]
            unfold mtN
            cases c5 : (!hF h j && !decide (hM h j &&& 1 = 0)) with
            | true => exact ⟨u1, by rw [if_neg (by decide), b2_eq]; rfl, y1, s1⟩
            | false => exact ⟨uL u1 501 (nI j).toInt64, by rw [if_pos bI_f, Option.bind_some, Option.bind_some, b2_eq]; rfl, y1.trans (E3.uL (by decide)), by rw [sL_uL]; rfl⟩
        · rw [if_neg c4, if_neg c4]
          exact ⟨u1, rfl, y1, s1⟩
