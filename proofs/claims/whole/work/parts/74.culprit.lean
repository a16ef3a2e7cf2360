/-! ===== culprit ===== -/
def mx (h : HA) (x : CA) (r : Nat) : Int32 × Int64 := mt h x.1 x.2.1 x.2.2.1 x.2.2.2.2.2.1 r
/-- the first EDIT behind which what is met is something else (0: none) -/
def chg (f : Nat → AE) (x : CA) (r : Nat) (F0 : Int32 × Int64) : Nat → Nat → Nat
  | 0, _ => 0
  | rem + 1, i => if clB (hk f (i + 1)) (nI r) = true ∧ mx (hk f (i + 1)) x r = F0 then chg f x r F0 rem (i + 1) else i + 1
theorem chg_s {f : Nat → AE} {x : CA} {r : Nat} {F0 : Int32 × Int64} {rem i : Nat} (c1 : clB (hk f (i + 1)) (nI r) = true) (c2 : mx (hk f (i + 1)) x r = F0) : chg f x r F0 (rem + 1) i = chg f x r F0 rem (i + 1) := by
  rw [chg, if_pos ⟨c1, c2⟩]
theorem chg_f {f : Nat → AE} {x : CA} {r : Nat} {F0 : Int32 × Int64} {rem i : Nat} (c1 : clB (hk f (i + 1)) (nI r) = false) : chg f x r F0 (rem + 1) i = i + 1 := by
  rw [chg, if_neg (fun q => by rw [c1] at q; exact Bool.false_ne_true q.1)]
theorem chg_n {f : Nat → AE} {x : CA} {r : Nat} {F0 : Int32 × Int64} {rem i : Nat} (c2 : ¬ mx (hk f (i + 1)) x r = F0) : chg f x r F0 (rem + 1) i = i + 1 := by
  rw [chg, if_neg (fun q => c2 q.2)]
theorem chg_le {f : Nat → AE} {x : CA} {r : Nat} {F0 : Int32 × Int64} : ∀ {rem i : Nat}, chg f x r F0 rem i = 0 ∨ (i < chg f x r F0 rem i ∧ chg f x r F0 rem i ≤ i + rem)
  | 0, _ => Or.inl rfl
  | rem + 1, i => by
    rw [chg]
    by_cases c : clB (hk f (i + 1)) (nI r) = true ∧ mx (hk f (i + 1)) x r = F0
    · rw [if_pos c]
      rcases chg_le (f := f) (x := x) (r := r) (F0 := F0) (rem := rem) (i := i + 1) with h | h
      · exact Or.inl h
      · exact Or.inr (by omega)
    · rw [if_neg c]; exact Or.inr (by omega)
theorem pz_eq {x y : Int32 × Int64} (hx : pz x) (hy : pz y) (h1 : x.1 = y.1) (h2 : x.1 = 0 → x.2 = y.2) : x = y := by
  refine Prod.ext h1 ?_
  rcases hx with a | ⟨a, b⟩
  · exact h2 a
  · rcases hy with c | ⟨c, d⟩
    · rw [← h1] at c
      exact absurd (show x.1 ≤ 0 by rw [c]; decide) a
    · rw [b, d]
theorem isC_nI {h : HA} {r : Nat} (hr12 : r < 2 ^ 31) (e : clB h (nI r) = true) : r < hN h := by
  unfold clB at e
  rw [Bool.and_eq_true, isN_nI hr12] at e
  simpa using e.1
/-- the CALLER at p -/
theorem RU_p {u : ST} {f : Nat → AE} {n : Nat} {c : Nat → CA} {m : Nat} {h : HA} (hU : RU u f n c m h) {k p : Nat} (hk : k < m) (e : aR u 7 k = some p) : RCx u p (c k) ∧ pI u p 12 = nI (c k).2.2.2.2.2.2 := by
  obtain ⟨p', e1, -, e3, e4⟩ := hU.2.2.2.2.2 k hk
  rw [e] at e1
  cases e1
  exact ⟨e3, e4⟩
theorem first_L {f : Nat → AE} {n : Nat} {c : Nat → CA} {m : Nat} (hO : OK f n c m) {k p r : Nat} (hkm : k < m) (hr : r < 12) {F0 : Int32 × Int64} (hF : pz F0) : ∀ (rem i fu : Nat) (u : ST), i + rem = n → rem < fu → aR u 7 k = some p → RU u f n c m (hk f i) → ∃ u', fX8_firstChange_L25 fu u p (nI r) F0.1 F0.2 (nI i) = some (nI (chg f (c k) r F0 rem i), u') ∧ RU u' f n c m (hk f (if chg f (c k) r F0 rem i = 0 then n else chg f (c k) r F0 rem i)) ∧ sL u' 8 = sL u 8
  | 0, i, fu, u, hi, hfu, hp, hU => by
    have hn := hO.1
    obtain ⟨fu, rfl⟩ : ∃ j, fu = j + 1 := ⟨fu - 1, by omega⟩
    have e : i = n := by omega
    subst e
    refine ⟨u, ?_, hU, rfl⟩
    rw [fX8_firstChange_L25, hU.1, if_pos (nI_le (by omega) (by omega))]; rfl
  | rem + 1, i, fu, u, hi, hfu, hp, hU => by
    obtain ⟨hn, hL, hm, hA⟩ := id hO
    obtain ⟨fu, rfl⟩ : ∃ j, fu = j + 1 := ⟨fu - 1, by omega⟩
    obtain ⟨u1, e1, h1, x1⟩ := e8_redo hL hn (i := i) (j := i + 1) (by omega) (by omega) hU.2.2.2.2.1 hU.2.2.2.1
    have hU1 := RU_ec x1 hU h1
    have hw1 := hk_WF hL (i + 1) (by omega)
    have hp1 : aR u1 7 k = some p := by rw [x1.2.2.2.2.1]; exact hp
    rw [fX8_firstChange_L25, hU.1, if_neg (nI_ge (by omega) (by omega)), nI_1, e1, Option.bind_some, e7_isClass h1.1 hw1.1, Option.bind_some]
    cases cc : clB (hk f (i + 1)) (nI r) with
    | false =>
      rw [chg_f cc, if_neg (Nat.succ_ne_zero i), if_pos bI_f]
      exact ⟨u1, rfl, hU1, by rw [x1.2.1]⟩
    | true =>
      have hrr := isC_nI (by omega) cc
      obtain ⟨a1, a2, a3, a4, a5, a6⟩ := hA k hkm
      obtain ⟨y, -⟩ := RU_p hU1 hkm hp1
      obtain ⟨u2, e2, x2, s2⟩ := e5_failureOf h1.1 h1.2.1 h1.2.2 hw1 hrr a1 y a4
      have hU2 := RU_e3 x2 hU1
      have hp2 : aR u2 7 k = some p := by rw [x2.2.2.2.2.1]; exact hp1
      have s8 : sL u2 8 = sL u 8 := by rw [x2.2.1 8 (by decide), x1.2.1]
      have e2' : fX5_failureOf u1 p (nI r) = some ((mx (hk f (i + 1)) (c k) r).1, u2) := e2
      have s2' : sL u2 501 = (mx (hk f (i + 1)) (c k) r).2 := s2
      rw [if_neg (by decide), e2', b2_eq, s2']
      by_cases cF : mx (hk f (i + 1)) (c k) r = F0
      · have l0 : lg_cmp F0.2 F0.2 = 0 := (lg_eq0 _ _).mpr rfl
        rw [chg_s cc cF, cF, if_pos rfl, if_pos l0]
        obtain ⟨u3, e3, h3, s3⟩ := first_L hO hkm hr hF rem (i + 1) fu u2 (by omega) (by omega) hp2 hU2
        exact ⟨u3, e3, h3, by rw [s3, s8]⟩
      · rw [chg_n cF, if_neg (Nat.succ_ne_zero i)]
        refine ⟨u2, ?_, hU2, s8⟩
        by_cases c1 : (mx (hk f (i + 1)) (c k) r).1 = F0.1
        · rw [if_pos c1]
          have c2 : ¬ lg_cmp (mx (hk f (i + 1)) (c k) r).2 F0.2 = 0 := fun q => cF (Prod.ext c1 ((lg_eq0 _ _).mp q))
          rw [if_neg c2]
        · rw [if_neg c1]
theorem culp_L (hfp : FPx) {f : Nat → AE} {n : Nat} {c : Nat → CA} {m : Nat} (hO : OK f n c m) {k r : Nat} (hkm : k < m) (hr : r < 12) {F0 : Int32 × Int64} (hF : pz F0) {was : Int64} (hwas : F0.1 = 0 → was = F0.2) : ∀ (rem i fu g : Nat) (z : ST), i + rem = n → rem < fu → g ≤ n → RZ z f n c m (hk f i) → ∃ z', fX9_culprit_L89 fu z (nI k) (nI r) F0.1 was (nI g) (nI i) = some (nI (if g = 0 then chg f (c k) r F0 rem i else g), z') ∧ RZ z' f n c m (hk f n) ∧ sL z' 44 = sL z 44
  | 0, i, fu, g, z, hi, hfu, hg, hZ => by
    have hn := hO.1
    obtain ⟨fu, rfl⟩ : ∃ j, fu = j + 1 := ⟨fu - 1, by omega⟩
    have e : i = n := by omega
    subst e
    refine ⟨z, ?_, hZ, rfl⟩
    rw [fX9_culprit_L89, hZ.1, if_pos (nI_le (by omega) (by omega)), chg]
    by_cases c0 : g = 0
    · rw [if_pos c0, c0]
    · rw [if_neg c0]
  | rem + 1, i, fu, g, z, hi, hfu, hg, hZ => by
    obtain ⟨hn, hL, hm, hA⟩ := id hO
    obtain ⟨fu, rfl⟩ : ∃ j, fu = j + 1 := ⟨fu - 1, by omega⟩
    obtain ⟨z1, e1, h1, x1⟩ := e9_again hfp hL hn (i := i) (j := i + 1) (by omega) (by omega) hZ.2.2.2.1 hZ.2.2.1
    have hZ1 := RZ_eh x1 hZ h1
    have hw1 := hk_WF hL (i + 1) (by omega)
    have s1 : sL z1 44 = sL z 44 := by rw [x1.2.1]
    rw [fX9_culprit_L89, hZ.1, if_neg (nI_ge (by omega) (by omega)), nI_1, e1, Option.bind_some]
    by_cases c0 : g = 0
    · subst c0
      rw [if_pos (show nI 0 = 0 from rfl), if_pos rfl, e9_isClass h1.1 hw1.1, Option.bind_some]
      have next : ∀ (z2 : ST), RZ z2 f n c m (hk f (i + 1)) → sL z2 44 = sL z 44 → ∃ z', fX9_culprit_L155 (fX9_culprit_L89 fu) z2 (nI k) (nI r) F0.1 was (nI i) = some (nI (i + 1), z') ∧ RZ z' f n c m (hk f n) ∧ sL z' 44 = sL z 44 := by
        intro z2 hZ2 s2
        obtain ⟨z3, e3, h3, s3⟩ := culp_L hfp hO hkm hr hF hwas rem (i + 1) fu (i + 1) z2 (by omega) (by omega) (by omega) hZ2
        rw [if_neg (by omega)] at e3
        exact ⟨z3, by rw [fX9_culprit_L155, fX9_culprit_L163, fX9_culprit_L165, nI_1, e3], h3, by rw [s3, s2]⟩
      have same : ∀ (z2 : ST), RZ z2 f n c m (hk f (i + 1)) → sL z2 44 = sL z 44 → ∃ z', fX9_culprit_L162 (fX9_culprit_L89 fu) z2 (nI k) (nI r) F0.1 was (nI i) = some (nI (chg f (c k) r F0 rem (i + 1)), z') ∧ RZ z' f n c m (hk f n) ∧ sL z' 44 = sL z 44 := by
        intro z2 hZ2 s2
        obtain ⟨z3, e3, h3, s3⟩ := culp_L hfp hO hkm hr hF hwas rem (i + 1) fu 0 z2 (by omega) (by omega) (by omega) hZ2
        rw [if_pos rfl] at e3
        have e3' : fX9_culprit_L89 fu z2 (nI k) (nI r) F0.1 was 0 (nI (i + 1)) = _ := e3
        exact ⟨z3, by rw [fX9_culprit_L162, fX9_culprit_L163, fX9_culprit_L165, nI_1, e3'], h3, by rw [s3, s2]⟩
      cases cc : clB (hk f (i + 1)) (nI r) with
      | false =>
        have ne : ¬ (-1 : Int32) = F0.1 := by
          rcases hF with q | ⟨q, -⟩
          · rw [q]; decide
          · exact fun e => q (by rw [← e]; decide)
        rw [chg_f cc, if_pos bI_f, fX9_culprit_L131, if_neg ne]
        exact next z1 hZ1 s1
      | true =>
        have hrr := isC_nI (by omega) cc
        obtain ⟨a1, a2, a3, a4, a5, a6⟩ := hA k hkm
        obtain ⟨z2, e2, x2, s2⟩ := e9_meets hfp hw1 h1.1 h1.2 (c := k) (by omega) hrr a1 (hZ1.2.2.2.2 k hkm).1 a2 a3 a4
        have hZ2 := RZ_em x2 hZ1
        have s8 : sL z2 44 = sL z 44 := by rw [x2.2.1 44 (by decide), s1]
        have e2' : fX9_meets z1 (nI k) (nI r) = some ((mx (hk f (i + 1)) (c k) r).1, z2) := e2
        have s2' : (mx (hk f (i + 1)) (c k) r).1 = 0 → sL z2 43 = (mx (hk f (i + 1)) (c k) r).2 := s2
        have hp : pz (mx (hk f (i + 1)) (c k) r) := mt_pz _ _ _ _ _ _
        rw [if_neg (by decide), e2', b2_eq, fX9_culprit_L131]
        by_cases cF : mx (hk f (i + 1)) (c k) r = F0
        · rw [chg_s cc cF, cF, if_pos rfl]
          by_cases c0 : F0.1 = 0
          · have l0 : lg_cmp (sL z2 43) was = 0 := (lg_eq0 _ _).mpr (by rw [hwas c0, s2' (by rw [cF]; exact c0), cF])
            rw [if_pos c0, if_pos l0]
            exact same z2 hZ2 s8
          · rw [if_neg c0]
            exact same z2 hZ2 s8
        · rw [chg_n cF]
          by_cases c1 : (mx (hk f (i + 1)) (c k) r).1 = F0.1
          · rw [if_pos c1]
            by_cases c0 : (mx (hk f (i + 1)) (c k) r).1 = 0
            · have l0 : ¬ lg_cmp (sL z2 43) was = 0 := fun q => cF (Prod.ext c1 (by rw [← s2' c0, (lg_eq0 _ _).mp q, hwas (by rw [← c1]; exact c0)]))
              rw [if_pos c0, if_neg l0]
              exact next z2 hZ2 s8
            · exact absurd (pz_eq hp hF c1 (fun q => absurd q c0)) cF
          · rw [if_neg c1]
            exact next z2 hZ2 s8
    · have g0 : ¬ nI g = 0 := fun e => c0 (nI_inj (b := 0) (by omega) (by decide) e)
      obtain ⟨z3, e3, h3, s3⟩ := culp_L hfp hO hkm hr hF hwas rem (i + 1) fu g z1 (by omega) (by omega) hg hZ1
      rw [if_neg c0] at e3
      rw [if_neg g0, if_neg c0, fX9_culprit_L165, nI_1, e3]
      exact ⟨z3, rfl, h3, by rw [s3, s1]⟩
theorem s_culprit (hfp : FPx) : sim_culprit Rl := by
  intro u z x1 x2 hR
  obtain ⟨f, n, cc, m, hO, hU, hZ, hS⟩ := id hR
  obtain ⟨hn, hL, hm, hA⟩ := id hO
  have hw := hk_WF hL n (Nat.le_refl _)
  have hn12 := hw.1
  rw [fX8_culprit, fX9_culprit, e9_isCaller hZ hm, Option.bind_some]
  rcases e8_callerAt hU hm x1 with ⟨c1, e1⟩ | ⟨k, p, hk', rfl, c1, e1, -, y, y12⟩
  · rw [e1, c1, Option.bind_some, oC_none]
    exact ⟨-1, u, z, rfl, by rw [if_pos bI_f], hR⟩
  · rw [e1, c1, Option.bind_some, oC_some, if_neg (by decide), e9_isClass hZ.2.2.1.1 hn12, Option.bind_some, e7_isClass hU.2.2.2.1.1 hn12, Option.bind_some]
    cases c2 : clB (hk f n) x2 with
    | false => exact ⟨-1, u, z, by rw [if_pos bI_f], by rw [if_pos bI_f], hR⟩
    | true =>
      obtain ⟨r, hrr, rfl, -⟩ := clB_nI hn12 c2
      obtain ⟨a1, a2, a3, a4, a5, a6⟩ := hA k hk'
      have k25 : k < 25 := by omega
      obtain ⟨mm, hmm⟩ : ∃ mm, (cc k).2.2.2.2.2.2 = mm := ⟨_, rfl⟩
      rw [hmm] at y12 a6
      have z41 : aI z 41 k = nI mm := by rw [(hZ.2.2.2.2 k hk').2, hmm]
      have hp : aR u 7 k = some p := by
        obtain ⟨p', q1, -⟩ := hU.2.2.2.2.2 k hk'
        have q2 : fX8_callerAt u (nI k) = some (some p') := by
          rw [fX8_callerAt, if_neg (nI_pos (by omega)), hU.2.1, if_neg (nI_ge hk' (by omega)), rdR_nI (by omega) (by decide), Option.bind_some, q1]; rfl
        rw [e1] at q2
        cases q2
        exact q1
      have hC := y.1
      rw [if_neg (by decide), if_neg (by decide), pcI_ok hC, Option.bind_some, y12, hU.1, rdI_nI k25 (by decide), Option.bind_some, z41, hZ.1]
      by_cases cm : mm ≤ n
      · rw [if_pos (nI_le cm (by omega)), if_pos (nI_le cm (by omega))]
        obtain ⟨u1, d1, h1, x1⟩ := e2_clear u
        have hU1 : RU u1 f n cc m (hk f 0) := RU_ec x1 hU h1
        have hp1 : aR u1 7 k = some p := by rw [x1.2.2.2.2.1]; exact hp
        obtain ⟨y1, y12'⟩ := RU_p hU1 hk' hp1
        rw [hmm] at y12'
        obtain ⟨u2, d2, h2, x2⟩ := e8_redo hL hn (Nat.zero_le mm) cm hU1.2.2.2.2.1 hU1.2.2.2.1
        have d2' : fX8_redo u1 0 (nI mm) = some u2 := d2
        have hU2 := RU_ec x2 hU1 h2
        have hp2 : aR u2 7 k = some p := by rw [x2.2.2.2.2.1]; exact hp1
        obtain ⟨y2, y12''⟩ := RU_p hU2 hk' hp2
        rw [hmm] at y12''
        have S2 : sL u2 8 = sL u 8 := by rw [x2.2.1, x1.2.1]
        obtain ⟨z1, b1, g1, w1⟩ := e9_nothing z
        have hZ1 : RZ z1 f n cc m (hk f 0) := RZ_eh w1 hZ g1
        obtain ⟨z2, b2', g2, w2⟩ := e9_again hfp hL hn (Nat.zero_le mm) cm hZ1.2.2.2.1 hZ1.2.2.1
        have b2'' : fX9_doAgain z1 0 (nI mm) = some z2 := b2'
        have hZ2 := RZ_eh w2 hZ1 g2
        have T2 : sL z2 44 = sL z 44 := by rw [w2.2.1, w1.2.1]
        have hwm := hk_WF hL mm cm
        rw [d1, Option.bind_some, pcI_ok y1.1, Option.bind_some, y12', d2', Option.bind_some, e7_isClass h2.1 hwm.1, Option.bind_some, b1, Option.bind_some, b2'', Option.bind_some, e9_isClass g2.1 hwm.1, Option.bind_some]
        cases c3 : clB (hk f mm) (nI r) with
        | false =>
          obtain ⟨u3, d3, h3, x3⟩ := e8_redo hL hn cm (Nat.le_refl n) hU2.2.2.2.2.1 hU2.2.2.2.1
          obtain ⟨z3, b3, g3, w3⟩ := e9_nothing z2
          have hZ3 : RZ z3 f n cc m (hk f 0) := RZ_eh w3 hZ2 g3
          obtain ⟨z4, b4, g4, w4⟩ := e9_again hfp hL hn (Nat.zero_le n) (Nat.le_refl n) hZ3.2.2.2.1 hZ3.2.2.1
          have b4' : fX9_doAgain z3 0 (nI n) = some z4 := b4
          refine ⟨-1, u3, z4, ?_, ?_, f, n, cc, m, hO, RU_ec x3 hU2 h3, RZ_eh w4 hZ3 g4, by rw [x3.2.1, S2, w4.2.1, w3.2.1, T2]; exact hS⟩
          · rw [if_pos bI_f, pcI_ok y2.1, Option.bind_some, y12'', hU2.1, d3, Option.bind_some]
          · rw [if_pos bI_f, b3, Option.bind_some, hZ3.1, b4', Option.bind_some]
        | true =>
          have hrm := isC_nI (by omega) c3
          -- the class: what was met
          obtain ⟨u3, d3, x3, s3⟩ := e5_failureOf h2.1 h2.2.1 h2.2.2 hwm hrm a1 y2 a4
          have hU3 := RU_e3 x3 hU2
          have hp3 : aR u3 7 k = some p := by rw [x3.2.2.2.2.1]; exact hp2
          obtain ⟨y3, y12'''⟩ := RU_p hU3 hk' hp3
          rw [hmm] at y12'''
          have d3' : fX5_failureOf u2 p (nI r) = some ((mx (hk f mm) (cc k) r).1, u3) := d3
          have s3' : sL u3 501 = (mx (hk f mm) (cc k) r).2 := s3
          have S3 : sL u3 8 = sL u 8 := by rw [x3.2.1 8 (by decide), S2]
          have hF : pz (mx (hk f mm) (cc k) r) := mt_pz _ _ _ _ _ _
          obtain ⟨u4, d4, h4, s4⟩ := first_L hO hk' (r := r) (by omega) hF (n - mm) mm 5000 u3 (by omega) (by omega) hp3 hU3
          obtain ⟨cg, hcg⟩ : ∃ cg, chg f (cc k) r (mx (hk f mm) (cc k) r) (n - mm) mm = cg := ⟨_, rfl⟩
          have hle := chg_le (f := f) (x := cc k) (r := r) (F0 := mx (hk f mm) (cc k) r) (rem := n - mm) (i := mm)
          rw [hcg] at d4 h4 hle
          have eF : fX8_firstChange u2 p (nI r) = some (nI cg, u4) := by rw [fX8_firstChange, d3', b2_eq, pcI_ok y3.1, Option.bind_some, y12''', s3', d4]
          -- to the present again
          have back : ∃ u5, (if nI cg = 0 then fX8_culprit_L107 u4 (nI cg) (sI u4 4) else fX8_culprit_L107 u4 (nI cg) (nI cg)) = some (nI cg, u5) ∧ RU u5 f n cc m (hk f n) ∧ sL u5 8 = sL u 8 := by
            by_cases c0 : cg = 0
            · rw [if_pos c0] at h4
              obtain ⟨u5, d5, h5, x5⟩ := e8_redo hL hn (Nat.le_refl n) (Nat.le_refl n) h4.2.2.2.2.1 h4.2.2.2.1
              refine ⟨u5, ?_, RU_ec x5 h4 h5, by rw [x5.2.1, s4, S3]⟩
              rw [if_pos (by rw [c0]; rfl), fX8_culprit_L107, h4.1, d5, Option.bind_some]
            · rw [if_neg c0] at h4
              have n0 : ¬ nI cg = 0 := fun e => c0 (nI_inj (b := 0) (by omega) (by decide) e)
              obtain ⟨u5, d5, h5, x5⟩ := e8_redo hL hn (i := cg) (by omega) (Nat.le_refl n) h4.2.2.2.2.1 h4.2.2.2.1
              refine ⟨u5, ?_, RU_ec x5 h4 h5, by rw [x5.2.1, s4, S3]⟩
              rw [if_neg n0, fX8_culprit_L107, h4.1, d5, Option.bind_some]
          obtain ⟨u5, d5, h5, S5⟩ := back
          -- the reference
          obtain ⟨z3, b3, w3, t3⟩ := e9_meets hfp hwm g2.1 g2.2 (c := k) k25 hrm a1 (hZ2.2.2.2.2 k hk').1 a2 a3 a4
          have hZ3 := RZ_em w3 hZ2
          have b3' : fX9_meets z2 (nI k) (nI r) = some ((mx (hk f mm) (cc k) r).1, z3) := b3
          have t3' : (mx (hk f mm) (cc k) r).1 = 0 → sL z3 43 = (mx (hk f mm) (cc k) r).2 := t3
          obtain ⟨z4, b4, g4, t4⟩ := culp_L hfp hO hk' (r := r) (by omega) hF t3' (n - mm) mm 5000 0 z3 (by omega) (by omega) (by omega) hZ3
          rw [if_pos rfl, hcg] at b4
          have b4' : fX9_culprit_L89 5000 z3 (nI k) (nI r) (mx (hk f mm) (cc k) r).1 (sL z3 43) 0 (nI mm) = some (nI cg, z4) := b4
          refine ⟨nI cg, u5, z4, ?_, ?_, f, n, cc, m, hO, h5, g4, by rw [S5, t4, w3.2.1 44 (by decide), T2]; exact hS⟩
          · rw [if_neg (by decide), eF, b2_eq, d5]
          · rw [if_neg (by decide), b3', b2_eq, b4']
      · have nle : ¬ nI mm ≤ nI n := nI_ge (by omega) (by omega)
        exact ⟨-2, u, z, by rw [if_neg nle], by rw [if_neg nle], hR⟩
