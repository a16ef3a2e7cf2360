/-! ===== selected, count, digest ===== -/
theorem haB_at {h : HA} {m : Nat} {r : MR} (m60 : m < 60) (er : hB h m = some r) (k : Int32) : haB h (nI m) k = !decide (rK r &&& k = 0) := by
  unfold haB; rw [isN_nI (by omega), cl_nI (by omega), er]; simp [m60]
theorem meB_he {h : HA} {a : Int32} (e : heB h a = false) : meB h a = false := by
  unfold heB at e; unfold meB
  cases c : isN a 60 with
  | false => rfl
  | true =>
    rw [c, Bool.true_and] at e
    cases d : hB h (cl a) with
    | none => rfl
    | some r => rw [d] at e; cases e
theorem s_selected : sim_selected Rl := by
  intro u z x1 x2 hR
  obtain ⟨f, n, cc, m, ⟨hn, hL, hm, hA⟩, hU, hZ, hS⟩ := id hR
  have hw := hk_WF hL n (Nat.le_refl _)
  have hn12 := hw.1
  obtain ⟨hr, hrm, ho⟩ := hU.2.2.2.1
  obtain ⟨gr, gm⟩ := hZ.2.2.1
  rw [fX8_selected, fX9_selected, e9_isClass gr hn12, Option.bind_some, e7_isClass hr hn12, Option.bind_some]
  cases c1 : clB (hk f n) x1 with
  | false => exact ⟨-1, z, by rw [if_pos bI_f], by rw [if_pos bI_f], hR⟩
  | true =>
    obtain ⟨t, ht, rfl, -⟩ := clB_nI hn12 c1
    rw [if_neg (by decide), if_neg (by decide), e9_isHere gm, Option.bind_some, e6_isMethod hrm hn12 (WF_own hw), Option.bind_some]
    cases c2 : heB (hk f n) x2 with
    | false => exact ⟨-1, z, by rw [meB_he c2, if_pos bI_f], by rw [if_pos bI_f], hR⟩
    | true =>
      obtain ⟨j, r, m60, rfl, er⟩ := heB_some c2
      obtain ⟨q6, q7, q8, q9, q10, q11, q13, q14⟩ := rowM_at gm m60 er
      obtain ⟨p15, p16, p17, p18, p19, p20, p21⟩ := rowC_at hrm m60 er
      rw [if_neg (by decide : ¬ bI true = 0), rdI_nI (u := z) (k := 7) (n := 60) m60 (by decide), Option.bind_some, q7, meB_nI m60 er]
      cases c3 : rM r with
      | false => exact ⟨-1, z, by rw [if_pos bI_f], by rw [if_pos bI_f], hR⟩
      | true =>
        rw [c3, if_pos rfl] at q11
        rw [if_neg (by decide : ¬ bI true = 0), if_neg (by decide : ¬ bI true = 0), rdI_nI m60 (by decide), Option.bind_some, rdI_nI m60 (by decide), Option.bind_some, rdI_nI m60 (by decide), Option.bind_some, p17, p19, p20, e2_select hr hrm ho hw ht, Option.bind_some, rdI_nI m60 (by decide), Option.bind_some, rdI_nI m60 (by decide), Option.bind_some, rdI_nI m60 (by decide), Option.bind_some, q9, q11, q13]
        obtain ⟨z1, e1, x1⟩ := e9_select gr gm hw ht (rN r) (rA r) (rB r)
        rw [e1, b2_eq, ← sl_pst]
        have hR1 : Rl u z1 := ⟨f, n, cc, m, ⟨hn, hL, hm, hA⟩, hU, RZ_em x1 hZ, by rw [x1.2.1 44 (by decide)]; exact hS⟩
        refine ⟨_, z1, rfl, ?_, hR1⟩
        rcases slM_cases (hk f n) t (rN r) (rA r) (rB r) with e | e | ⟨i, s, i60, e, es, -⟩
        · rw [e, pst_m2, if_pos (by decide)]
        · rw [e, pst_m4, if_pos (by decide)]
        · rw [e]
          unfold pst
          rw [if_neg (nI_pos (by omega)), if_neg (nI_pos (by omega)), rdI_nI i60 (by decide), Option.bind_some, (rowM_at (RMm_em x1 gm) i60 es).2.2.2.2.1, haB_at i60 es]
          by_cases c4 : rK s &&& 8 = 0
          · rw [if_pos c4]; simp [c4]
          · rw [if_neg c4]; simp [c4]
theorem count_L {z : ST} {h : HA} (hm : RMm z h) (x1 : Int32) : ∀ (rem k fu : Nat), k + rem = 60 → rem < fu → fX9_count_L4 z fu x1 (nI (cnt h k)) (nI k) = some (if x1 = 0 then sI z 0 else if x1 = 1 then nI (cnt h 60) else if x1 = 2 then sI z 28 else if x1 = 3 then sI z 16 else -1)
  | 0, k, fu, hk, hf => by
    obtain ⟨fu, rfl⟩ : ∃ j, fu = j + 1 := ⟨fu - 1, by omega⟩
    have e : k = 60 := by omega
    subst e
    have c : (60 : Int32) ≤ nI 60 := by decide
    rw [fX9_count_L4, if_pos c]
    by_cases c0 : x1 = 0
    · rw [if_pos c0, if_pos c0]
    · rw [if_neg c0, if_neg c0]
      by_cases c1 : x1 = 1
      · rw [if_pos c1, if_pos c1]
      · rw [if_neg c1, if_neg c1]
        by_cases c2 : x1 = 2
        · rw [if_pos c2, if_pos c2]
        · rw [if_neg c2, if_neg c2]
          by_cases c3 : x1 = 3
          · rw [if_pos c3, if_pos c3]
          · rw [if_neg c3, if_neg c3]
  | rem + 1, k, fu, hk, hf => by
    obtain ⟨fu, rfl⟩ : ∃ j, fu = j + 1 := ⟨fu - 1, by omega⟩
    have c : ¬ (60 : Int32) ≤ nI k := nI_ge (b := 60) (by omega) (by decide)
    rw [fX9_count_L4, if_neg c, rdI_nI (by omega) (by decide), Option.bind_some]
    have ih := count_L hm x1 rem (k + 1) fu (by omega) (by omega)
    have row := RMm_row.mp hm k (by omega)
    cases e : hB h k with
    | none =>
      rw [e] at row
      have row' : aI z 6 k = 0 := row
      rw [cnt, e, if_neg (by simp), Nat.add_zero] at ih
      rw [row', if_pos rfl, fX9_count_L25, nI_1, show nI (cnt h k) + 0 = nI (cnt h k) from nI_add (cnt h k) 0, ih]
    | some r =>
      rw [e] at row
      have row' : aI z 6 k = 1 := row.1
      rw [cnt, e, if_pos (by simp)] at ih
      rw [row', if_neg (by decide), fX9_count_L25, nI_1, nI_1, ih]
theorem s_count : sim_count Rl := by
  intro u z x1 hR
  obtain ⟨f, n, cc, m, ⟨hn, hL, hm, hA⟩, hU, hZ, hS⟩ := hR
  have e := count_L (h := hk f n) hZ.2.2.1.2 x1 60 0 5000 rfl (by decide)
  have e' : fX9_count_L4 z 5000 x1 0 0 = _ := e
  refine ⟨_, ?_, by rw [fX9_count, e']⟩
  rw [hZ.1, hZ.2.1, hZ.2.2.1.1.1, fX8_count, hU.1, hU.2.1, hU.2.2.2.1.1.1, hU.2.2.2.1.2.1.1]
  by_cases c0 : x1 = 0
  · rw [if_pos c0, if_pos c0]
  · rw [if_neg c0, if_neg c0]
    by_cases c1 : x1 = 1
    · rw [if_pos c1, if_pos c1]
    · rw [if_neg c1, if_neg c1]
      by_cases c2 : x1 = 2
      · rw [if_pos c2, if_pos c2]
      · rw [if_neg c2, if_neg c2]
        by_cases c3 : x1 = 3
        · rw [if_pos c3, if_pos c3]
        · rw [if_neg c3, if_neg c3]
/-! digest -/
def dT (h : HA) (t : Nat) : Nat → Nat → Int64 → Int64
  | 0, _, x => x
  | r + 1, k, x => dT h t r (k + 1) (31 * x + (tl h t k).toInt64)
def dTs (h : HA) : Nat → Nat → Int64 → Int64
  | 0, _, x => x
  | r + 1, t, x => dTs h r (t + 1) (dT h t 7 0 x)
def dB (q : MR) : Nat → Nat → Int64 → Int64
  | 0, _, x => 31 * x + (if rM q = true then (rV q).toInt32.toInt64 else co (rA q) (rV q))
  | r + 1, k, x => dB q r (k + 1) (31 * x + (mb q k).toInt64)
def dM (h : HA) (m : Nat) (x : Int64) : Int64 := match hB h m with
  | none => x
  | some q => dB q 6 0 (31 * x + (nI m).toInt64)
def dMs (h : HA) : Nat → Nat → Int64 → Int64
  | 0, _, x => x
  | r + 1, m, x => dMs h r (m + 1) (dM h m x)
theorem d9_17 {z : ST} {h : HA} (hw : WF h) (hr : RMt z h) (K : Int64 → Int32 → Option Int64) {t : Nat} (ht : t < hN h) : ∀ (rem k fu : Nat) (x : Int64), k + rem = 7 → rem < fu → fX9_digest_L17 z K fu x (nI t) (nI k) = K (dT h t rem k x) (nI (t + 1))
  | 0, k, fu, x, hk, hf => by
    obtain ⟨fu, rfl⟩ : ∃ j, fu = j + 1 := ⟨fu - 1, by omega⟩
    have e : k = 7 := by omega
    subst e
    have c : (7 : Int32) ≤ nI 7 := by decide
    rw [fX9_digest_L17, if_pos c, nI_1]; rfl
  | rem + 1, k, fu, x, hk, hf => by
    obtain ⟨fu, rfl⟩ : ∃ j, fu = j + 1 := ⟨fu - 1, by omega⟩
    have c : ¬ (7 : Int32) ≤ nI k := nI_ge (b := 7) (by omega) (by decide)
    rw [fX9_digest_L17, if_neg c, e9_toldOf hw hr ht (by omega), Option.bind_some, nI_1, d9_17 hw hr K ht rem (k + 1) fu _ (by omega) (by omega)]; rfl
theorem d9_6 {z : ST} {h : HA} (hw : WF h) (hr : RMt z h) : ∀ (rem t fu : Nat) (x : Int64), t + rem = hN h → rem < fu → fX9_digest_L6 z fu x (nI t) = fX9_digest_L53 z 5000 (dTs h rem t x) 0
  | 0, t, fu, x, hk, hf => by
    have hn := hw.1
    obtain ⟨fu, rfl⟩ : ∃ j, fu = j + 1 := ⟨fu - 1, by omega⟩
    rw [fX9_digest_L6, hr.1, if_pos (nI_le (by omega) (by omega))]; rfl
  | rem + 1, t, fu, x, hk, hf => by
    have hn := hw.1
    obtain ⟨fu, rfl⟩ : ∃ j, fu = j + 1 := ⟨fu - 1, by omega⟩
    have e := d9_17 hw hr (fX9_digest_L6 z fu) (t := t) (by omega) 7 0 5000 x rfl (by decide)
    have e' : fX9_digest_L17 z (fX9_digest_L6 z fu) 5000 x (nI t) 0 = _ := e
    rw [fX9_digest_L6, hr.1, if_neg (nI_ge (by omega) (by omega)), e', d9_6 hw hr rem (t + 1) fu _ (by omega) (by omega)]; rfl
theorem d9_80 (hfp : FPx) {z : ST} {h : HA} (hw : WF h) (hm : RMm z h) (K : Int64 → Int32 → Option Int64) {m : Nat} {q : MR} (m60 : m < 60) (er : hB h m = some q) : ∀ (rem k fu : Nat) (x : Int64), k + rem = 6 → rem < fu → fX9_digest_L80 z K fu x (nI m) (nI k) = K (dB q rem k x) (nI (m + 1))
  | 0, k, fu, x, hk, hf => by
    obtain ⟨fu, rfl⟩ : ∃ j, fu = j + 1 := ⟨fu - 1, by omega⟩
    have e : k = 6 := by omega
    subst e
    have c : (6 : Int32) ≤ nI 6 := by decide
    obtain ⟨q6, q7, q8, q9, q10, q11, q13, q14⟩ := rowM_at hm m60 er
    rw [fX9_digest_L80, if_pos c, rdI_nI m60 (by decide), Option.bind_some, q7]
    cases c3 : rM q with
    | true =>
      rw [c3, if_pos rfl] at q14
      rw [if_neg (by decide), rdL_nI m60 (by decide), Option.bind_some, q14, fX9_digest_L152, fX9_digest_L154, nI_1, dB, c3, if_pos rfl]
    | false =>
      rw [c3, if_neg Bool.false_ne_true] at q14 q11
      have k8 := (okR_f hw er c3).2
      rw [if_pos bI_f, rdI_nI m60 (by decide), Option.bind_some, rdL_nI m60 (by decide), Option.bind_some, Option.bind_some, q14, q11, e9_comes hfp k8 k8 (wd_refl k8), Option.bind_some, co_co hfp k8, fX9_digest_L152, fX9_digest_L154, nI_1, dB, c3, if_neg Bool.false_ne_true]
  | rem + 1, k, fu, x, hk, hf => by
    obtain ⟨fu, rfl⟩ : ∃ j, fu = j + 1 := ⟨fu - 1, by omega⟩
    have c : ¬ (6 : Int32) ≤ nI k := nI_ge (b := 6) (by omega) (by decide)
    rw [fX9_digest_L80, if_neg c, e9_memberOf hm m60 er (by omega), Option.bind_some, nI_1, d9_80 hfp hw hm K m60 er rem (k + 1) fu _ (by omega) (by omega)]; rfl
theorem d9_53 (hfp : FPx) {z : ST} {h : HA} (hw : WF h) (hm : RMm z h) : ∀ (rem m fu : Nat) (x : Int64), m + rem = 60 → rem < fu → fX9_digest_L53 z fu x (nI m) = some (31 * dMs h rem m x + (sI z 16).toInt64)
  | 0, m, fu, x, hk, hf => by
    obtain ⟨fu, rfl⟩ : ∃ j, fu = j + 1 := ⟨fu - 1, by omega⟩
    have c : (60 : Int32) ≤ nI m := by rw [show m = 60 by omega]; decide
    rw [fX9_digest_L53, if_pos c]; rfl
  | rem + 1, m, fu, x, hk, hf => by
    obtain ⟨fu, rfl⟩ : ∃ j, fu = j + 1 := ⟨fu - 1, by omega⟩
    have c : ¬ (60 : Int32) ≤ nI m := nI_ge (b := 60) (by omega) (by decide)
    rw [fX9_digest_L53, if_neg c, rdI_nI (by omega) (by decide), Option.bind_some]
    have row := RMm_row.mp hm m (by omega)
    have ih := fun y => d9_53 hfp hw hm rem (m + 1) fu y (by omega) (by omega)
    rw [dMs, dM]
    cases e : hB h m with
    | none =>
      rw [e] at row
      have row' : aI z 6 m = 0 := row
      rw [row', if_pos rfl, fX9_digest_L154, nI_1, ih]
    | some q =>
      rw [e] at row
      have row' : aI z 6 m = 1 := row.1
      have e1 := d9_80 hfp hw hm (fX9_digest_L53 z fu) (m := m) (by omega) e 6 0 5000 (31 * x + (nI m).toInt64) rfl (by decide)
      have e1' : fX9_digest_L80 z (fX9_digest_L53 z fu) 5000 (31 * x + (nI m).toInt64) (nI m) 0 = _ := e1
      rw [row', if_neg (by decide), e1', ih]
theorem d7_17 {u : ST} {h : HA} (hw : WF h) (hr : RCt u h) (K : Int64 → Int32 → Option Int64) {t : Nat} (ht : t < hN h) : ∀ (rem k fu : Nat) (x : Int64), k + rem = 7 → rem < fu → fX7_digestOn_L17 u K fu x (nI t) (nI k) = K (dT h t rem k x) (nI (t + 1))
  | 0, k, fu, x, hk, hf => by
    obtain ⟨fu, rfl⟩ : ∃ j, fu = j + 1 := ⟨fu - 1, by omega⟩
    have e : k = 7 := by omega
    subst e
    have c : (6 : Int32) < nI 7 := by decide
    rw [fX7_digestOn_L17, if_pos c, nI_1]; rfl
  | rem + 1, k, fu, x, hk, hf => by
    obtain ⟨fu, rfl⟩ : ∃ j, fu = j + 1 := ⟨fu - 1, by omega⟩
    have c : ¬ (6 : Int32) < nI k := by
      rw [Int32.lt_iff_toInt_lt, nI_toInt (by omega)]
      have : (6 : Int32).toInt = 6 := rfl
      omega
    rw [fX7_digestOn_L17, if_neg c, e7_tell hw hr ht (by omega), Option.bind_some, nI_1, d7_17 hw hr K ht rem (k + 1) fu _ (by omega) (by omega)]; rfl
theorem d7_5 {u : ST} {h : HA} (hw : WF h) (hr : RCt u h) : ∀ (rem t fu : Nat) (x : Int64), t + rem = hN h → rem < fu → fX7_digestOn_L5 u fu x (nI t) = some (dTs h rem t x)
  | 0, t, fu, x, hk, hf => by
    have hn := hw.1
    obtain ⟨fu, rfl⟩ : ∃ j, fu = j + 1 := ⟨fu - 1, by omega⟩
    rw [fX7_digestOn_L5, hr.1, if_pos (nI_le (by omega) (by omega))]; rfl
  | rem + 1, t, fu, x, hk, hf => by
    have hn := hw.1
    obtain ⟨fu, rfl⟩ : ∃ j, fu = j + 1 := ⟨fu - 1, by omega⟩
    have e := d7_17 hw hr (fX7_digestOn_L5 u fu) (t := t) (by omega) 7 0 5000 x rfl (by decide)
    have e' : fX7_digestOn_L17 u (fX7_digestOn_L5 u fu) 5000 x (nI t) 0 = _ := e
    rw [fX7_digestOn_L5, hr.1, if_neg (nI_ge (by omega) (by omega)), e', d7_5 hw hr rem (t + 1) fu _ (by omega) (by omega)]; rfl
theorem d6_34 {u : ST} {h : HA} (hw : WF h) (hm : RCm u h) (K : Int64 → Int32 → Option Int64) {m : Nat} {q : MR} (m60 : m < 60) (er : hB h m = some q) : ∀ (rem k fu : Nat) (x : Int64), k + rem = 6 → rem < fu → fX6_digestOn_L34 u K fu x (nI m) (nI k) = K (dB q rem k x) (nI (m + 1))
  | 0, k, fu, x, hk, hf => by
    obtain ⟨fu, rfl⟩ : ∃ j, fu = j + 1 := ⟨fu - 1, by omega⟩
    have e : k = 6 := by omega
    subst e
    have c : (5 : Int32) < nI 6 := by decide
    obtain ⟨p15, p16, p17, p18, p19, p20, p21⟩ := rowC_at hm m60 er
    rw [fX6_digestOn_L34, if_pos c, rdL_nI m60 (by decide), Option.bind_some, p21, fX6_digestOn_L76, nI_1, dB]
  | rem + 1, k, fu, x, hk, hf => by
    obtain ⟨fu, rfl⟩ : ∃ j, fu = j + 1 := ⟨fu - 1, by omega⟩
    have c : ¬ (5 : Int32) < nI k := by
      rw [Int32.lt_iff_toInt_lt, nI_toInt (by omega)]
      have : (5 : Int32).toInt = 5 := rfl
      omega
    rw [fX6_digestOn_L34, if_neg c, e6_tell hw hm m60 er (by omega), Option.bind_some, nI_1, d6_34 hw hm K m60 er rem (k + 1) fu _ (by omega) (by omega)]; rfl
theorem heB_no {h : HA} {m : Nat} (m60 : m < 60) (e : hB h m = none) : heB h (nI m) = false := by
  unfold heB; rw [cl_nI (by omega), e]; simp
theorem d6_5 {u : ST} {h : HA} (hw : WF h) (hm : RCm u h) : ∀ (rem m fu : Nat) (x : Int64), m + rem = 60 → rem < fu → fX6_digestOn_L5 u fu x (nI m) = some (dMs h rem m x)
  | 0, m, fu, x, hk, hf => by
    obtain ⟨fu, rfl⟩ : ∃ j, fu = j + 1 := ⟨fu - 1, by omega⟩
    have c : (60 : Int32) ≤ nI m := by rw [show m = 60 by omega]; decide
    rw [fX6_digestOn_L5, if_pos c]; rfl
  | rem + 1, m, fu, x, hk, hf => by
    obtain ⟨fu, rfl⟩ : ∃ j, fu = j + 1 := ⟨fu - 1, by omega⟩
    have c : ¬ (60 : Int32) ≤ nI m := nI_ge (b := 60) (by omega) (by decide)
    rw [fX6_digestOn_L5, if_neg c, e6_isMember hm hw.1 (WF_own hw), Option.bind_some]
    have ih := fun y => d6_5 hw hm rem (m + 1) fu y (by omega) (by omega)
    rw [dMs, dM]
    cases e : hB h m with
    | none =>
      rw [heB_no (by omega) e, if_pos bI_f, fX6_digestOn_L76, nI_1, ih]
    | some q =>
      have e1 := d6_34 hw hm (fX6_digestOn_L5 u fu) (m := m) (by omega) e 6 0 5000 (31 * x + (nI m).toInt64) rfl (by decide)
      have e1' : fX6_digestOn_L34 u (fX6_digestOn_L5 u fu) 5000 (31 * x + (nI m).toInt64) (nI m) 0 = _ := e1
      rw [heB_nI (by omega) e, if_neg (by decide), e1', ih]
theorem s_digest (hfp : FPx) : sim_digest Rl := by
  intro u z hR
  obtain ⟨f, n, cc, m, ⟨hn, hL, hm, hA⟩, hU, hZ, hS⟩ := hR
  have hw := hk_WF hL n (Nat.le_refl _)
  have hn12 := hw.1
  obtain ⟨hr, hrm, ho⟩ := hU.2.2.2.1
  obtain ⟨gr, gm⟩ := hZ.2.2.1
  have a1 : fX9_digest_L6 z 5000 17 0 = _ := d9_6 hw gr (hN (hk f n)) 0 5000 17 (by omega) (by omega)
  have a2 : fX9_digest_L53 z 5000 (dTs (hk f n) (hN (hk f n)) 0 17) 0 = _ := d9_53 hfp hw gm 60 0 5000 _ rfl (by decide)
  have b1 : fX7_digestOn_L5 u 5000 17 0 = _ := d7_5 hw hr (hN (hk f n)) 0 5000 17 (by omega) (by omega)
  have b2' : fX6_digestOn_L5 u 5000 (dTs (hk f n) (hN (hk f n)) 0 17) 0 = _ := d6_5 hw hrm 60 0 5000 _ rfl (by decide)
  refine ⟨_, ?_, by rw [fX9_digest, a1, a2, hZ.1]⟩
  rw [fX8_digest, fX7_digestOn, b1, Option.bind_some, fX6_digestOn, b2', Option.bind_some, hU.1]
