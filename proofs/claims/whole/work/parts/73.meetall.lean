/-! ===== CALLERS: told, met, made anew ===== -/
theorem e8_callerAt {u : ST} {f : Nat → AE} {n : Nat} {c : Nat → CA} {m : Nat} {h : HA} (hU : RU u f n c m h) (hm : m ≤ 24) (x : Int32) : (isN x m = false ∧ fX8_callerAt u x = some none) ∨ ∃ k p, k < m ∧ x = nI k ∧ isN x m = true ∧ fX8_callerAt u x = some (some p) ∧ p ≠ ag u ∧ RCx u p (c k) ∧ pI u p 12 = nI (c k).2.2.2.2.2.2 := by
  have s6 := hU.2.1
  rcases tri x (n := m) (by omega) with ⟨h1, h2⟩ | ⟨h1, h2, h3⟩ | ⟨k, hk, e, h1, h2, h3, -⟩
  · exact Or.inl ⟨h2, by rw [fX8_callerAt, if_pos h1, fX8_callerAt_L21]⟩
  · exact Or.inl ⟨h3, by rw [fX8_callerAt, if_neg h1, s6, if_pos h2, fX8_callerAt_L21]⟩
  · obtain ⟨p, e1, e2, e3, e4⟩ := hU.2.2.2.2.2 k hk
    refine Or.inr ⟨k, p, hk, e, h3, ?_, e2, e3, e4⟩
    rw [fX8_callerAt, if_neg h1, s6, if_neg h2, e, rdR_nI (by omega) (by decide), Option.bind_some, e1]; rfl
theorem e9_isCaller {z : ST} {f : Nat → AE} {n : Nat} {c : Nat → CA} {m : Nat} {h : HA} (hZ : RZ z f n c m h) (hm : m ≤ 24) (x : Int32) : fX9_isCaller z x = some (bI (isN x m)) := by
  rw [fX9_isCaller, hZ.2.1, in_isN z x (nI m - 1) m (pred_toInt (by omega)), Option.bind_some, ck_pos (bI_isB _)]
theorem oC_none {β : Type} {x : β} {k : Nat → β} : oC none x k = x := rfl
theorem oC_some {β : Type} {a : Nat} {x : β} {k : Nat → β} : oC (some a) x k = k a := rfl
theorem s_caller : sim_caller Rl := by
  intro u z x1 x2 hR
  obtain ⟨f, n, cc, m, ⟨hn, hL, hm, hA⟩, hU, hZ, hS⟩ := hR
  have e7 : fX9_in z x2.toInt64 0 6 = some (bI (isN x2 7)) := in_isN z x2 6 7 (by decide)
  rw [fX8_caller, fX9_caller, e9_isCaller hZ hm, Option.bind_some]
  rcases e8_callerAt hU hm x1 with ⟨c1, e1⟩ | ⟨k, p, hk, rfl, c1, e1, -, y, y12⟩
  · rw [e1, c1, Option.bind_some]
    exact ⟨-1, rfl, by rw [if_pos bI_f]⟩
  · obtain ⟨q1, q2⟩ := hZ.2.2.2.2 k hk
    obtain ⟨y0, ⟨y1, y2, y3, y4, y5⟩, y6, y7, y8, y9, y10, y11, y13⟩ := y
    obtain ⟨⟨r1, r2, r3, r4, r5⟩, r6, r7, r8, -⟩ := q1
    have k25 : k < 25 := by omega
    rw [e1, c1, Option.bind_some, oC_some, ck_pos y0, if_neg (by decide), e7, Option.bind_some]
    cases c2 : isN x2 7 with
    | false =>
      have g : ∀ k, k < 7 → ¬ x2 = nI k := fun k hk => not7 c2 hk
      have g0 : ¬ x2 = 0 := g 0 (by decide)
      have g1 : ¬ x2 = 1 := g 1 (by decide)
      have g2 : ¬ x2 = 2 := g 2 (by decide)
      have g3 : ¬ x2 = 3 := g 3 (by decide)
      have g4 : ¬ x2 = 4 := g 4 (by decide)
      have g5 : ¬ x2 = 5 := g 5 (by decide)
      have g6 : ¬ x2 = 6 := g 6 (by decide)
      refine ⟨-1, ?_, by rw [if_pos bI_f]⟩
      rw [fX0_tell, if_neg g0, if_neg g1, if_neg g2, if_neg g3, if_neg g4, if_neg g5, if_neg g6]; rfl
    | true =>
      obtain ⟨i, i7, rfl⟩ := isN_true c2 (by omega)
      have : i = 0 ∨ i = 1 ∨ i = 2 ∨ i = 3 ∨ i = 4 ∨ i = 5 ∨ i = 6 := by omega
      rw [if_neg (by decide), fX0_tell]
      rcases this with e | e | e | e | e | e | e
      · subst e
        refine ⟨(cc k).1, ?_, ?_⟩
        · rw [if_pos (by decide), pcI_ok y0, y1]; rfl
        · rw [if_pos (by decide), rdI_nI k25 (by decide), r1]; rfl
      · subst e
        refine ⟨(cc k).2.1, ?_, ?_⟩
        · rw [if_neg (by decide), if_pos (by decide), pcI_ok y0, y2]; rfl
        · rw [if_neg (by decide), if_pos (by decide), rdI_nI k25 (by decide), r2]; rfl
      · subst e
        refine ⟨(cc k).2.2.1, ?_, ?_⟩
        · rw [if_neg (by decide), if_neg (by decide), if_pos (by decide), pcI_ok y0, y3]; rfl
        · rw [if_neg (by decide), if_neg (by decide), if_pos (by decide), rdI_nI k25 (by decide), r3]; rfl
      · subst e
        refine ⟨kFi (cc k).2.2.2.2.2.1, ?_, ?_⟩
        · rw [if_neg (by decide), if_neg (by decide), if_neg (by decide), if_pos (by decide), pcI_ok y0, y6]; rfl
        · rw [if_neg (by decide), if_neg (by decide), if_neg (by decide), if_pos (by decide), rdI_nI k25 (by decide), r6]; rfl
      · subst e
        refine ⟨kSe (cc k).2.2.2.2.2.1, ?_, ?_⟩
        · rw [if_neg (by decide), if_neg (by decide), if_neg (by decide), if_neg (by decide), if_pos (by decide), pcI_ok y0, y7]; rfl
        · rw [if_neg (by decide), if_neg (by decide), if_neg (by decide), if_neg (by decide), if_pos (by decide), rdI_nI k25 (by decide), r7]; rfl
      · subst e
        refine ⟨bI (kKp (cc k).2.2.2.2.2.1), ?_, ?_⟩
        · rw [if_neg (by decide), if_neg (by decide), if_neg (by decide), if_neg (by decide), if_neg (by decide), if_pos (by decide), pcI_ok y0, y11, Option.bind_some]
          cases kKp (cc k).2.2.2.2.2.1 <;> rfl
        · rw [if_neg (by decide), if_neg (by decide), if_neg (by decide), if_neg (by decide), if_neg (by decide), if_pos (by decide), rdI_nI k25 (by decide), r8, Option.bind_some]
          cases kKp (cc k).2.2.2.2.2.1 <;> rfl
      · subst e
        refine ⟨nI (cc k).2.2.2.2.2.2, ?_, ?_⟩
        · rw [if_neg (by decide), if_neg (by decide), if_neg (by decide), if_neg (by decide), if_neg (by decide), if_neg (by decide), if_pos (by decide), pcI_ok y0, y12]; rfl
        · rw [if_neg (by decide), if_neg (by decide), if_neg (by decide), if_neg (by decide), if_neg (by decide), if_neg (by decide), rdI_nI k25 (by decide), q2]; rfl
theorem RU_uL {u : ST} {f : Nat → AE} {n : Nat} {c : Nat → CA} {m : Nat} {h : HA} (k : Nat) (x : Int64) (hU : RU u f n c m h) : RU (uL u k x) f n c m h := hU
theorem RZ_uL {u : ST} {f : Nat → AE} {n : Nat} {c : Nat → CA} {m : Nat} {h : HA} (k : Nat) (x : Int64) (hU : RZ u f n c m h) : RZ (uL u k x) f n c m h := hU
theorem e8_tell {u : ST} {f : Nat → AE} {n : Nat} {c : Nat → CA} {m : Nat} {h : HA} (hU : RU u f n c m h) (hw : WF h) {p r : Nat} (hrr : r < hN h) {so t nm a b : Int32} {K : CK} (hso : so = 0 ∨ so = 1 ∨ so = 2) (hc : RCc u p so t nm a b K) (hk8 : so = 0 → isN (kKd K) 8 = true) : ∃ u', fX8_tellMeeting u p (nI r) = some (if (mt h so t nm K r).1 = 0 then 0 else (-30) - (mt h so t nm K r).1, u') ∧ RU u' f n c m h ∧ sL u' 8 = (if (mt h so t nm K r).1 = 0 then (mt h so t nm K r).2 else sL u 8) := by
  obtain ⟨u1, e1, x1, s1⟩ := e5_failureOf hU.2.2.2.1.1 hU.2.2.2.1.2.1 hU.2.2.2.1.2.2 hw hrr hso hc hk8
  by_cases c0 : (mt h so t nm K r).1 = 0
  · refine ⟨uL u1 8 (sL u1 501), ?_, RU_uL 8 _ (RU_e3 x1 hU), ?_⟩
    · rw [fX8_tellMeeting, e1, b2_eq, if_pos c0, if_pos c0]; rfl
    · rw [if_pos c0, sL_uL, s1]
  · refine ⟨u1, ?_, RU_e3 x1 hU, ?_⟩
    · rw [fX8_tellMeeting, e1, b2_eq, if_neg c0, if_neg c0]
    · rw [if_neg c0, x1.2.1 8 (by decide)]
theorem e9_answer (hfp : FPx) {z : ST} {f : Nat → AE} {n : Nat} {c : Nat → CA} {m : Nat} {h : HA} (hZ : RZ z f n c m h) (hw : WF h) {k r : Nat} (k25 : k < 25) (hrr : r < hN h) {so t nm a b : Int32} {K : CK} (hso : so = 0 ∨ so = 1 ∨ so = 2) (hc : RMc z k so t nm a b K) (ht : ¬ t = -2) (hse : kFi K = -2 → kSe K = -2) (hk8 : so = 0 → isN (kKd K) 8 = true) : ∃ z', fX9_answer z (nI k) (nI r) = some (if (mt h so t nm K r).1 = 0 then 0 else (-30) - (mt h so t nm K r).1, z') ∧ RZ z' f n c m h ∧ sL z' 44 = (if (mt h so t nm K r).1 = 0 then (mt h so t nm K r).2 else sL z 44) := by
  obtain ⟨z1, e1, x1, s1⟩ := e9_meets hfp hw hZ.2.2.1.1 hZ.2.2.1.2 k25 hrr hso hc ht hse hk8
  rcases mt_pz h so t nm K r with c0 | ⟨c1, -⟩
  · refine ⟨uL z1 44 (sL z1 43), ?_, RZ_uL 44 _ (RZ_em x1 hZ), ?_⟩
    · have le : (mt h so t nm K r).1 ≤ 0 := by rw [c0]; decide
      rw [fX9_answer, e1, b2_eq, if_pos le, if_pos c0]; rfl
    · rw [if_pos c0, sL_uL, s1 c0]
  · have c0 : ¬ (mt h so t nm K r).1 = 0 := fun e => c1 (by rw [e]; decide)
    refine ⟨z1, ?_, RZ_em x1 hZ, ?_⟩
    · rw [fX9_answer, e1, b2_eq, if_neg c1, if_neg c0]
    · rw [if_neg c0, x1.2.1 44 (by decide)]
theorem s_meet (hfp : FPx) : sim_meet Rl := by
  intro u z x1 x2 hR
  obtain ⟨f, n, cc, m, hO, hU, hZ, hS⟩ := id hR
  obtain ⟨hn, hL, hm, hA⟩ := id hO
  have hw := hk_WF hL n (Nat.le_refl _)
  have hn12 := hw.1
  rw [fX8_meet, fX9_meet, e9_isCaller hZ hm, Option.bind_some]
  rcases e8_callerAt hU hm x1 with ⟨c1, e1⟩ | ⟨k, p, hk', rfl, c1, e1, -, y, y12⟩
  · rw [e1, c1, Option.bind_some, oC_none]
    exact ⟨-1, u, z, rfl, by rw [if_pos bI_f], hR⟩
  · rw [e1, c1, Option.bind_some, oC_some, if_neg (by decide), e9_isClass hZ.2.2.1.1 hn12, Option.bind_some, e7_isClass hU.2.2.2.1.1 hn12, Option.bind_some]
    cases c2 : clB (hk f n) x2 with
    | false => exact ⟨-1, u, z, by rw [if_pos bI_f], by rw [if_pos bI_f], hR⟩
    | true =>
      obtain ⟨r, hrr, rfl, -⟩ := clB_nI hn12 c2
      obtain ⟨a1, a2, a3, a4, a5, a6⟩ := hA k hk'
      obtain ⟨u1, d1, d2, d3⟩ := e8_tell hU hw hrr a1 y a4
      obtain ⟨z1, g1, g2, g3⟩ := e9_answer hfp hZ hw (k := k) (by omega) hrr a1 (hZ.2.2.2.2 k hk').1 a2 a3 a4
      refine ⟨_, u1, z1, by rw [if_neg (by decide), d1, b2_eq], by rw [if_neg (by decide), g1, b2_eq], f, n, cc, m, hO, d2, g2, by rw [d3, g3, hS]⟩
theorem gone_p {h : HA} {a b : Int32} (hab : a = -2 → b = -2) : prB h a b = (!(!decide (a = -2) && !isN a (hN h)) && !(!decide (b = -2) && !isN b (hN h))) := by
  unfold prB
  by_cases c : a = -2
  · rw [if_pos c, hab c, c]; simp
  · rw [if_neg c]
    by_cases d : b = -2
    · rw [d]; simp [c]
    · simp [c, d]
theorem s_anew (hfp : FPx) : sim_anew Rl := by
  intro u z x1 x2 hR
  obtain ⟨f, n, cc, m, hO, hU, hZ, hS⟩ := id hR
  obtain ⟨hn, hL, hm, hA⟩ := id hO
  have hw := hk_WF hL n (Nat.le_refl _)
  have hn12 := hw.1
  rw [fX8_anew, fX9_anew, e9_isCaller hZ hm, Option.bind_some]
  rcases e8_callerAt hU hm x1 with ⟨c1, e1⟩ | ⟨k, p, hk', rfl, c1, e1, -, y, y12⟩
  · rw [e1, c1, Option.bind_some, oC_none]
    exact ⟨-1, u, z, rfl, by rw [if_pos bI_f], hR⟩
  · rw [e1, c1, Option.bind_some, oC_some, if_neg (by decide), e9_isClass hZ.2.2.1.1 hn12, Option.bind_some, e7_isClass hU.2.2.2.1.1 hn12, Option.bind_some]
    cases c2 : clB (hk f n) x2 with
    | false => exact ⟨-1, u, z, by rw [if_pos bI_f], by rw [if_pos bI_f], hR⟩
    | true =>
      obtain ⟨r, hrr, rfl, -⟩ := clB_nI hn12 c2
      obtain ⟨a1, a2, a3, a4, a5, a6⟩ := hA k hk'
      have k25 : k < 25 := by omega
      obtain ⟨⟨r1, r2, r3, r4, r5⟩, -⟩ := (hZ.2.2.2.2 k hk').1
      obtain ⟨y0, ⟨y1, y2, y3, y4, y5⟩, -⟩ := y
      rw [if_neg (by decide), if_neg (by decide), pcI_ok y0, Option.bind_some, y2, e7_isType hU.2.2.2.1.1 hn12, Option.bind_some, rdI_nI k25 (by decide), Option.bind_some, r2, e9_isGone hZ.2.2.1.1 hn12, Option.bind_some]
      have et : (!decide ((cc k).2.1 = -2) && !isN (cc k).2.1 (hN (hk f n))) = !isN (cc k).2.1 (hN (hk f n)) := by simp [a2]
      rw [et]
      cases c3 : isN (cc k).2.1 (hN (hk f n)) with
      | false => exact ⟨-2, u, z, by rw [if_pos bI_f], by rw [if_neg (by decide)], hR⟩
      | true =>
        obtain ⟨t, ht, ett⟩ := isN_true c3 (by omega)
        rw [if_neg (by decide), if_pos (by decide), pcI_ok y0, Option.bind_some, pcI_ok y0, Option.bind_some, y4, y5, e7_par hU.2.2.2.1.1 hn12, Option.bind_some, rdI_nI k25 (by decide), Option.bind_some, r4, e9_isGone hZ.2.2.1.1 hn12, Option.bind_some, gone_p a5]
        cases c4 : (!decide ((cc k).2.2.2.1 = -2) && !isN (cc k).2.2.2.1 (hN (hk f n))) with
        | true => exact ⟨-2, u, z, by rw [if_pos (by simp [bI])], by rw [if_neg (by decide)], hR⟩
        | false =>
          rw [if_pos bI_f, rdI_nI k25 (by decide), Option.bind_some, r5, e9_isGone hZ.2.2.1.1 hn12, Option.bind_some]
          cases c5 : (!decide ((cc k).2.2.2.2.1 = -2) && !isN (cc k).2.2.2.2.1 (hN (hk f n))) with
          | true => exact ⟨-2, u, z, by rw [if_pos (by simp [bI])], by rw [if_neg (by decide)], hR⟩
          | false =>
            have hp : prB (hk f n) (cc k).2.2.2.1 (cc k).2.2.2.2.1 = true := by rw [gone_p a5, c4, c5]; rfl
            obtain ⟨o1, o2, -⟩ := prB_ok hn12 hp
            have hag := hU.2.2.1
            have R : ∀ s, rdI z s 25 (nI k) = some (aI z s k) := fun s => rdI_nI k25 (by decide)
            rw [if_neg (by decide), if_pos bI_f]
            simp only [pcI_ok y0, R, Option.bind_some, y1, y2, y3, y4, y5, r1, r2, r3, r4, r5, ett]
            rw [ck_pos hag]
            obtain ⟨u1, d1, d2, d3⟩ := e0_name (u := u) (q := ag u) hag (cc k).1 (nI t) (cc k).2.2.1 (cc k).2.2.2.1 (cc k).2.2.2.2.1
            have hU1 := RU_ek (d3 _ _ _) hU
            have g1 : ag u1 = ag u := (d3 [] [] []).2.2.2.2.2.2.2.1
            have S1 : sL u1 8 = sL u 8 := (d3 [] [] []).2.1 8 (by decide)
            obtain ⟨u2, b1, b2', b3⟩ := e4_faultOf hU1.2.2.2.1.1 hU1.2.2.2.1.2.1 hU1.2.2.2.1.2.2 hw ht a1 o1 o2 d2
            rw [← g1] at b1 b2' b3
            have hU2 := RU_ek b2' hU1
            have g2 : ag u2 = ag u1 := b2'.2.2.2.2.2.2.2.1
            have S2 : sL u2 8 = sL u 8 := by rw [b2'.2.1 8 (by decide), S1]
            obtain ⟨z1, e9, w1, -, w3⟩ := e9_making hfp hw hZ.2.2.1.1 hZ.2.2.1.2 (c := 24) (by decide) ht (n := (cc k).2.2.1) a1 o1 o2
            have hZ1 := RZ_EM w1 hm hZ
            have S3 : sL z1 44 = sL z 44 := w1.2.1 44 (by decide)
            have e9' : fX9_making z 24 (cc k).1 (nI t) (cc k).2.2.1 (cc k).2.2.2.1 (cc k).2.2.2.2.1 = _ := e9
            rw [d1, Option.bind_some, b1, b2_eq, e9', b2_eq]
            rcases mk_ok (so := (cc k).1) (t := t) (n := (cc k).2.2.1) (a := (cc k).2.2.2.1) (b := (cc k).2.2.2.2.1) hw with ⟨m0, mok⟩ | mpos
            · have le : (mk (hk f n) (cc k).1 t (cc k).2.2.1 (cc k).2.2.2.1 (cc k).2.2.2.2.1).1 ≤ 0 := by rw [m0]; decide
              have bb := b3 m0
              rw [← g2] at bb
              obtain ⟨u3, h1, h2, h3⟩ := e8_tell hU2 hw hrr a1 bb mok.2
              obtain ⟨z3, j1, j2, j3⟩ := e9_answer hfp hZ1 hw (k := 24) (by decide) hrr a1 (w3 m0) (nI_ne_m2 (by omega)) mok.1 mok.2
              have j1' : fX9_answer z1 24 (nI r) = _ := j1
              refine ⟨_, u3, z3, by rw [if_pos m0, h1, b2_eq], by rw [if_pos le, j1', b2_eq], f, n, cc, m, hO, h2, j2, by rw [h3, j3, S2, S3, hS]⟩
            · have m0 : ¬ (mk (hk f n) (cc k).1 t (cc k).2.2.1 (cc k).2.2.2.1 (cc k).2.2.2.2.1).1 = 0 := fun e => mpos (by rw [e]; decide)
              refine ⟨_, u2, z1, by rw [if_neg m0], by rw [if_neg mpos], f, n, cc, m, hO, hU2, hZ1, by rw [S2, S3, hS]⟩
