/-! ===== EDITS: both sides answer alike ===== -/
theorem neg_ite {p : Prop} [Decidable p] {x y : Int32} (hx : x = 0 ∨ ¬ (0 : Int32) ≤ x) (hy : y = 0 ∨ ¬ (0 : Int32) ≤ y) : (if p then x else y) = 0 ∨ ¬ (0 : Int32) ≤ (if p then x else y) := by
  by_cases c : p
  · rw [if_pos c]; exact hx
  · rw [if_neg c]; exact hy
theorem neg_bY {b : Bool} {y : Int32} (hy : y = 0 ∨ ¬ (0 : Int32) ≤ y) : bY b y = 0 ∨ ¬ (0 : Int32) ≤ bY b y := neg_ite hy (Or.inr (by decide))
theorem neg_bN {b : Bool} : bN b = 0 ∨ ¬ (0 : Int32) ≤ bN b := neg_ite (Or.inl rfl) (Or.inr (by decide))
theorem rfs_neg (h : HA) (w a b c d e : Int32) : rfs h w a b c d e = 0 ∨ ¬ (0 : Int32) ≤ rfs h w a b c d e := by
  unfold rfs
  have z : (0 : Int32) = 0 ∨ ¬ (0 : Int32) ≤ 0 := Or.inl rfl
  have m3 : (-3 : Int32) = 0 ∨ ¬ (0 : Int32) ≤ -3 := Or.inr (by decide)
  have m4 : (-4 : Int32) = 0 ∨ ¬ (0 : Int32) ≤ -4 := Or.inr (by decide)
  exact neg_ite (neg_bY (neg_ite m3 z)) (neg_ite (neg_bY (neg_ite z (neg_ite m4 z))) (neg_ite (neg_bY (neg_ite m4 z)) (neg_ite (neg_bY z) (neg_ite (neg_bY z) (neg_ite (neg_bY (neg_ite m3 z)) (neg_ite (neg_bY (neg_ite m3 z)) neg_bN))))))
/-! a new Edit -/
theorem EN_qI {u0 u : ST} {q k : Nat} {x : Int32} (h : EN u0 u q) : EN u0 (qI u q k x) q := by
  obtain ⟨h1, h2, h3, h4, h5, h6, h7, h8, h9, h10⟩ := h
  refine ⟨h1, h2, h3, h4, h5, h6, h7, h8, fun y hy => ?_, h10⟩
  show va_up (pI u) q _ y = pI u0 y
  rw [va_up_ne _ _ hy]; exact h9 y hy
theorem EN_qV {u0 u : ST} {q : Nat} {x : Int64} (h : EN u0 u q) : EN u0 (qV u q x) q := by
  obtain ⟨h1, h2, h3, h4, h5, h6, h7, h8, h9, h10⟩ := h
  refine ⟨h1, h2, h3, h4, h5, h6, h7, h8, h9, fun y hy => ?_⟩
  show va_up (pV u) q _ y = pV u0 y
  rw [va_up_ne _ _ hy]; exact h10 y hy
theorem EN_qN {u : ST} {q : Nat} {b : Bool} : EN u (qN u q b) q := by
  refine ⟨rfl, rfl, rfl, rfl, rfl, rfl, fun x hx => List.mem_append_left _ hx, fun y hy => ?_, fun y hy => ?_, fun y hy => ?_⟩
  · show va_up (pK u) q _ y = _
    rw [va_up_ne _ _ hy]
  · show va_up (pI u) q _ y = _
    rw [va_up_ne _ _ hy]
  · show va_up (pV u) q _ y = _
    rw [va_up_ne _ _ hy]
theorem isE_qN {u : ST} {q : Nat} : isE (qN u q true) q = true := by
  unfold isE
  rw [Bool.and_eq_true, decide_eq_true_eq]
  refine ⟨List.mem_append_right _ (by simp), ?_⟩
  show va_up (pK u) q true q = true
  rw [va_up_self]
theorem wE {u : ST} {q k : Nat} (hE : isE u q = true) (x : Int32) : ∃ v, weI u q k x = some v ∧ isE v q = true ∧ pI v q k = x ∧ (∀ j, j ≠ k → pI v q j = pI u q j) ∧ ∀ u0, EN u0 u q → EN u0 v q :=
  ⟨qI u q k x, by rw [weI, ck_pos hE], hE, by rw [pI_qI, if_pos rfl], fun j hj => by rw [pI_qI, if_neg hj], fun _ h => EN_qI h⟩
theorem wEV {u : ST} {q : Nat} (hE : isE u q = true) (x : Int64) : ∃ v, weV u q x = some v ∧ isE v q = true ∧ pV v q = x ∧ pI v = pI u ∧ ∀ u0, EN u0 u q → EN u0 v q :=
  ⟨qV u q x, by rw [weV, ck_pos hE], hE, pV_qV u q x, rfl, fun _ h => EN_qV h⟩
theorem e1_init {u : ST} {q : Nat} (w a b c d e : Int32) (v : Int64) : ∃ u', fX1_init (qN u q true) q w a b c d e v = some u' ∧ EN u u' q ∧ isE u' q = true ∧ pI u' q 0 = w ∧ pI u' q 1 = a ∧ pI u' q 2 = b ∧ pI u' q 3 = c ∧ pI u' q 4 = d ∧ pI u' q 5 = e ∧ pV u' q = v := by
  have i0 : isE (qN u q true) q = true := isE_qN
  obtain ⟨u1, e1, i1, f1, o1, y1⟩ := wE (u := qN u q true) (q := q) (k := 0) i0 w
  obtain ⟨u2, e2, i2, f2, o2, y2⟩ := wE (u := u1) (q := q) (k := 1) i1 a
  obtain ⟨u3, e3, i3, f3, o3, y3⟩ := wE (u := u2) (q := q) (k := 2) i2 b
  obtain ⟨u4, e4, i4, f4, o4, y4⟩ := wE (u := u3) (q := q) (k := 3) i3 c
  obtain ⟨u5, e5, i5, f5, o5, y5⟩ := wE (u := u4) (q := q) (k := 4) i4 d
  obtain ⟨u6, e6, i6, f6, o6, y6⟩ := wE (u := u5) (q := q) (k := 5) i5 e
  obtain ⟨u7, e7, i7, f7, o7, y7⟩ := wEV (u := u6) (q := q) i6 v
  refine ⟨u7, ?_, y7 _ (y6 _ (y5 _ (y4 _ (y3 _ (y2 _ (y1 _ EN_qN)))))), i7, (by rw [o7, o6 0 (by decide), o5 0 (by decide), o4 0 (by decide), o3 0 (by decide), o2 0 (by decide), f1]), (by rw [o7, o6 1 (by decide), o5 1 (by decide), o4 1 (by decide), o3 1 (by decide), f2]), (by rw [o7, o6 2 (by decide), o5 2 (by decide), o4 2 (by decide), f3]), (by rw [o7, o6 3 (by decide), o5 3 (by decide), f4]), (by rw [o7, o6 4 (by decide), f5]), (by rw [o7, f6]), f7⟩
  rw [fX1_init, e1, Option.bind_some, e2, Option.bind_some, e3, Option.bind_some, e4, Option.bind_some, e5, Option.bind_some, e6, Option.bind_some, e7, Option.bind_some]
/-- the Edit comes into the row -/
theorem add_C {u u7 : ST} {q : Nat} (hq : q ∉ pA u) {f : Nat → AE} {n : Nat} {c : Nat → CA} {m : Nat} (hr : RU u f n c m (hk f n)) (x7 : EN u u7 q) (hn : n < 120) {x : AE} (y : EQx u7 q x) : ∃ u3, ((stE u7 6 120 (sI u7 4) q).bind fun u2 => some (uI u2 4 ((sI u2 4) + 1))) = some u3 ∧ RU u3 (va_up f n x) (n + 1) c m (hk f n) ∧ EQx u3 q x ∧ sL u3 = sL u := by
  have hr7 := RU_en x7 hq hr
  obtain ⟨h1, h2, h3, h4, h5, h6⟩ := hr7
  obtain ⟨u2, hu2⟩ : ∃ u2, u2 = vR u7 6 (va_up (aR u7 6) n (some q)) := ⟨_, rfl⟩
  have e2 : stE u7 6 120 (sI u7 4) q = some u2 := by rw [stE, ck_pos y.1, h1, stR_nI hn (by decide), hu2]
  have a2 : aR u2 6 = va_up (aR u7 6) n (some q) := by
    rw [hu2]
    show va_up (aR u7) 6 (va_up (aR u7 6) n (some q)) 6 = _
    rw [va_up_self]
  have a7 : aR u2 7 = aR u7 7 := by
    rw [hu2]
    show va_up (aR u7) 6 (va_up (aR u7 6) n (some q)) 7 = _
    rw [va_up_ne _ _ (by decide)]
  have r2 : sI u2 = sI u7 ∧ sL u2 = sL u7 ∧ aI u2 = aI u7 ∧ aL u2 = aL u7 ∧ pA u2 = pA u7 ∧ pK u2 = pK u7 ∧ pI u2 = pI u7 ∧ pV u2 = pV u7 ∧ ag u2 = ag u7 := by rw [hu2]; exact ⟨rfl, rfl, rfl, rfl, rfl, rfl, rfl, rfl, rfl⟩
  clear hu2
  obtain ⟨u3, hu3⟩ : ∃ u3, u3 = uI u2 4 (nI (n + 1)) := ⟨_, rfl⟩
  have s4 : sI u3 4 = nI (n + 1) := by rw [hu3]; exact sI_uI _ _ _
  have so : ∀ k, k ≠ 4 → sI u3 k = sI u7 k := fun k hk => by rw [← r2.1, hu3]; exact va_up_ne _ _ hk
  have r3 : sL u3 = sL u7 ∧ aI u3 = aI u7 ∧ aL u3 = aL u7 ∧ aR u3 = aR u2 ∧ pA u3 = pA u7 ∧ pK u3 = pK u7 ∧ pI u3 = pI u7 ∧ pV u3 = pV u7 ∧ ag u3 = ag u7 := by
    rw [← r2.2.1, ← r2.2.2.1, ← r2.2.2.2.1, ← r2.2.2.2.2.1, ← r2.2.2.2.2.2.1, ← r2.2.2.2.2.2.2.1, ← r2.2.2.2.2.2.2.2.1, ← r2.2.2.2.2.2.2.2.2, hu3]; exact ⟨rfl, rfl, rfl, rfl, rfl, rfl, rfl, rfl, rfl⟩
  obtain ⟨t1, t2, t3, t4, t5, t6, t7, t8, t9⟩ := r3
  have iE : ∀ a, isE u3 a = isE u7 a := fun a => by unfold isE; rw [t5, t6]
  have iC : ∀ a, isC u3 a = isC u7 a := fun a => by unfold isC; rw [t5, t6]
  have yE : ∀ a x, EQx u7 a x → EQx u3 a x := fun a x y => by
    unfold EQx EQ at y ⊢
    rw [iE, t7, t8]; exact y
  refine ⟨u3, ?_, ⟨s4, by rw [so 6 (by decide)]; exact h2, by rw [t9, iC]; exact h3, ⟨?_, ?_, ?_⟩, fun k hk => ?_, fun k hk => ?_⟩, yE q x y, by rw [t1, x7.2.1]⟩
  · rw [e2, Option.bind_some, r2.1, h1, nI_1, hu3]
  · exact RCt_same h4.1 (so 200 (by decide)) (by rw [t2]) (by rw [t2]) (by rw [t2]) (by rw [t2]) (by rw [t2])
  · exact RCm_same h4.2.1 (so 300 (by decide)) (by rw [t2]) (by rw [t2]) (by rw [t2]) (by rw [t2]) (by rw [t2]) (by rw [t2]) (by rw [t3])
  · exact RCo_same h4.2.2 rfl rfl (fun _ => rfl) (by rw [t2]) (so 207 (by decide))
  · by_cases d : k = n
    · subst d
      exact ⟨q, by rw [t4, a2, va_up_self], by rw [va_up_self]; exact yE q x y⟩
    · obtain ⟨p, e, yp⟩ := h5 k (by omega)
      exact ⟨p, by rw [t4, a2, va_up_ne _ _ d]; exact e, by rw [va_up_ne _ _ d]; exact yE p _ yp⟩
  · obtain ⟨p, e, e2, yp, e4⟩ := h6 k hk
    refine ⟨p, by rw [t4, a7]; exact e, by rw [t9]; exact e2, ?_, by rw [t7]; exact e4⟩
    unfold RCx RCc at yp ⊢
    rw [iC, t7, t8]; exact yp
theorem add_M {z : ST} {f : Nat → AE} {n : Nat} {cc : Nat → CA} {m : Nat} {h : HA} (hr : RZ z f n cc m h) (hn : n < 120) (w a b c d e : Int32) (v : Int64) : ∃ z8, ((stI z 17 120 (sI z 16) w).bind fun u5 => (stI u5 18 120 (sI u5 16) a).bind fun u6 => (stI u6 19 120 (sI u6 16) b).bind fun u7 => (stI u7 20 120 (sI u7 16) c).bind fun u8 => (stI u8 21 120 (sI u8 16) d).bind fun u9 => (stI u9 22 120 (sI u9 16) e).bind fun u10 => (stL u10 23 120 (sI u10 16) v).bind fun u11 => some (uI u11 16 ((sI u11 16) + 1))) = some z8 ∧ RZ z8 (va_up f n (w, a, b, c, d, e, v)) (n + 1) cc m h ∧ sL z8 = sL z := by
  obtain ⟨h1, h2, h3, h4, h5⟩ := hr
  obtain ⟨z1, e1, f1, o1, s1, l1, x1⟩ := wI (z := z) (k := 17) (n := 120) (j := n) hn (by decide) w
  obtain ⟨z2, e2, f2, o2, s2, l2, x2⟩ := wI (z := z1) (k := 18) (n := 120) (j := n) hn (by decide) a
  obtain ⟨z3, e3, f3, o3, s3, l3, x3⟩ := wI (z := z2) (k := 19) (n := 120) (j := n) hn (by decide) b
  obtain ⟨z4, e4, f4, o4, s4, l4, x4⟩ := wI (z := z3) (k := 20) (n := 120) (j := n) hn (by decide) c
  obtain ⟨z5, e5, f5, o5, s5, l5, x5⟩ := wI (z := z4) (k := 21) (n := 120) (j := n) hn (by decide) d
  obtain ⟨z6, e6, f6, o6, s6, l6, x6⟩ := wI (z := z5) (k := 22) (n := 120) (j := n) hn (by decide) e
  obtain ⟨z7, e7, ⟨f7a, f7b⟩, s7, i7, x7⟩ := wL (z := z6) (k := 23) (n := 120) (j := n) hn (by decide) v
  obtain ⟨z8, e8, f8, o8, i8, l8, x8⟩ := wS z7 16 (nI (n + 1))
  have q17 : aI z8 17 = upd (aI z 17) n w := by rw [i8, i7, o6 17 (by decide), o5 17 (by decide), o4 17 (by decide), o3 17 (by decide), o2 17 (by decide), f1]
  have q18 : aI z8 18 = upd (aI z 18) n a := by rw [i8, i7, o6 18 (by decide), o5 18 (by decide), o4 18 (by decide), o3 18 (by decide), f2, o1 18 (by decide)]
  have q19 : aI z8 19 = upd (aI z 19) n b := by rw [i8, i7, o6 19 (by decide), o5 19 (by decide), o4 19 (by decide), f3, o2 19 (by decide), o1 19 (by decide)]
  have q20 : aI z8 20 = upd (aI z 20) n c := by rw [i8, i7, o6 20 (by decide), o5 20 (by decide), f4, o3 20 (by decide), o2 20 (by decide), o1 20 (by decide)]
  have q21 : aI z8 21 = upd (aI z 21) n d := by rw [i8, i7, o6 21 (by decide), f5, o4 21 (by decide), o3 21 (by decide), o2 21 (by decide), o1 21 (by decide)]
  have q22 : aI z8 22 = upd (aI z 22) n e := by rw [i8, i7, f6, o5 22 (by decide), o4 22 (by decide), o3 22 (by decide), o2 22 (by decide), o1 22 (by decide)]
  have xx : EX z z8 [16] [17, 18, 19, 20, 21, 22] [23] := ((((((((x1 _ _ _ (by decide)).trans (x2 _ _ _ (by decide))).trans (x3 _ _ _ (by decide))).trans (x4 _ _ _ (by decide))).trans (x5 _ _ _ (by decide))).trans (x6 _ _ _ (by decide))).trans (x7 _ _ _ (by decide))).trans (x8 _ _ _ (by decide)))
  have ql : aL z8 23 n = v ∧ ∀ j, j ≠ n → aL z8 23 j = aL z 23 j := by
    rw [l8]
    exact ⟨f7a, fun j hj => by rw [f7b j hj, l6, l5, l4, l3, l2, l1]⟩
  refine ⟨z8, ?_, ⟨f8, by rw [xx.1 28 (by decide)]; exact h2, ⟨?_, ?_⟩, fun k hk => ?_, fun k hk => ?_⟩, xx.2.1⟩
  · rw [h1, e1, Option.bind_some, s1, h1, e2, Option.bind_some, s2, s1, h1, e3, Option.bind_some, s3, s2, s1, h1, e4, Option.bind_some, s4, s3, s2, s1, h1, e5, Option.bind_some, s5, s4, s3, s2, s1, h1, e6, Option.bind_some, s6, s5, s4, s3, s2, s1, h1, e7, Option.bind_some, s7, s6, s5, s4, s3, s2, s1, h1, nI_1, e8]
  · exact RMt_same h3.1 (xx.1 0 (by decide)) (xx.2.2.1 1 (by decide)) (xx.2.2.1 2 (by decide)) (xx.2.2.1 3 (by decide)) (xx.2.2.1 4 (by decide)) (xx.2.2.1 5 (by decide))
  · exact RMm_same h3.2 (xx.2.2.1 6 (by decide)) (xx.2.2.1 7 (by decide)) (xx.2.2.1 8 (by decide)) (xx.2.2.1 9 (by decide)) (xx.2.2.1 10 (by decide)) (xx.2.2.1 11 (by decide)) (xx.2.2.1 12 (by decide)) (xx.2.2.1 13 (by decide)) (xx.2.2.2.1 14 (by decide))
  · by_cases d : k = n
    · subst d
      rw [va_up_self]
      exact ⟨by rw [q17, upd_s], by rw [q18, upd_s], by rw [q19, upd_s], by rw [q20, upd_s], by rw [q21, upd_s], by rw [q22, upd_s], ql.1⟩
    · rw [va_up_ne _ _ d]
      obtain ⟨r1, r2, r3, r4, r5, r6, r7⟩ := h4 k (by omega)
      exact ⟨by rw [q17, upd_n d]; exact r1, by rw [q18, upd_n d]; exact r2, by rw [q19, upd_n d]; exact r3, by rw [q20, upd_n d]; exact r4, by rw [q21, upd_n d]; exact r5, by rw [q22, upd_n d]; exact r6, by rw [ql.2 k d]; exact r7⟩
  · obtain ⟨r1, r2⟩ := h5 k hk
    refine ⟨?_, by rw [xx.2.2.1 41 (by decide)]; exact r2⟩
    unfold RMx RMc at r1 ⊢
    rw [xx.2.2.1 29 (by decide), xx.2.2.1 30 (by decide), xx.2.2.1 31 (by decide), xx.2.2.1 32 (by decide), xx.2.2.1 33 (by decide), xx.2.2.1 34 (by decide), xx.2.2.1 35 (by decide), xx.2.2.1 36 (by decide), xx.2.2.1 38 (by decide), xx.2.2.1 39 (by decide), xx.2.2.1 40 (by decide), xx.2.2.2.1 37 (by decide)]
    exact r1
theorem LG_add {f : Nat → AE} {n : Nat} (hL : LG f n) {x : AE} (hx : lg (hk f n) x) : LG (va_up f n x) (n + 1) ∧ hk (va_up f n x) n = hk f n ∧ hk (va_up f n x) (n + 1) = ap (hk f n) x := by
  have e : ∀ k, k ≤ n → hk (va_up f n x) k = hk f k := fun k hk => hk_congr (fun j hj => va_up_ne _ _ (by omega))
  refine ⟨fun k hk => ?_, e n (Nat.le_refl _), ?_⟩
  · rw [e k (by omega)]
    by_cases d : k = n
    · subst d; rw [va_up_self]; exact hx
    · rw [va_up_ne _ _ d]; exact hL k (by omega)
  · rw [hk, e n (Nat.le_refl _), va_up_self]
theorem edit_sim (hfp : FPx) {u z : ST} (hR : Rl u z) {w a b c d e : Int32} {v : Int64} (h12 : isN w 12 = true) (h01 : w = 0 → a = 0 ∨ a = 1) {F : Option NR} (hF : ∀ h, WF h → HC u h → F = CR u (rfs h w a b c d e) (CE u w a b c (if w = 5 then -2 else d) (if w = 5 then d else e) v)) : ∃ x r z1, F = some x ∧ okN u x ∧ fX9_edit z w a b c d e v = some (r, z1) ∧ ∀ r1 u1, poN u x r1 u1 → r1 = r ∧ Rl u1 z1 := by
  obtain ⟨f, n, cc, m, ⟨hn, hL, hm, hA⟩, hU, hZ, hS⟩ := hR
  have hw := hk_WF hL n (Nat.le_refl _)
  have hF := hF _ hw hU.2.2.2.1
  obtain ⟨z1, ez, xz⟩ := e9_refusal hw hZ.2.2.1.1 hZ.2.2.1.2 w a b c d e
  have hZ1 := RZ_em (Eu_em xz) hZ
  have hS1 : sL z1 44 = sL z 44 := xz.2.1 44 (by decide)
  by_cases hx : rfs (hk f n) w a b c d e = 0
  · rw [hx] at ez
    have hlg : lg (hk f n) (w, a, b, c, d, e, v) := ⟨h12, h01, hx⟩
    obtain ⟨L1, L2, L3⟩ := LG_add hL hlg
    have eF : F = some (.inr fun q => (some (qN u q true)).bind fun u5 => (fX1_init u5 q w a b c (if w = 5 then -2 else d) (if w = 5 then d else e) v).bind fun u7 => b2 (fX8_carryOut u7 q) fun v9 u8 => some (v9, u8)) := by rw [hF, CR, if_pos hx, CE]
    by_cases hn2 : n = 120
    · have k1 : ∀ q, q ∉ pA u → ∃ u7, ((some (qN u q true)).bind fun u5 => (fX1_init u5 q w a b c (if w = 5 then -2 else d) (if w = 5 then d else e) v).bind fun u7 => b2 (fX8_carryOut u7 q) fun v9 u8 => some (v9, u8)) = some (-3, u7) ∧ EN u u7 q := by
        intro q hq
        obtain ⟨u7, e7, x7, -⟩ := e1_init (u := u) (q := q) w a b c (if w = 5 then -2 else d) (if w = 5 then d else e) v
        refine ⟨u7, ?_, x7⟩
        have c120 : ¬ sI u7 4 < 120 := by rw [x7.1, hU.1, hn2]; decide
        rw [Option.bind_some, e7, Option.bind_some, fX8_carryOut, if_neg c120, b2_eq]
      refine ⟨_, -3, z1, eF, ?_, ?_, ?_⟩
      · intro K hK q hq
        cases hK
        obtain ⟨u7, e7, -⟩ := k1 q hq
        exact ⟨_, _, e7⟩
      · have c120 : sI z1 16 = 120 := by rw [hZ1.1, hn2]; decide
        rw [fX9_edit, ez, b2_eq, if_pos (by decide), if_pos c120]
      · rintro r1 u1 (hp | ⟨K, q, hK, hq, hp⟩)
        · cases hp
        · cases hK
          obtain ⟨u7, e7, x7⟩ := k1 q hq
          have hp' := e7.symm.trans hp
          cases hp'
          exact ⟨rfl, f, n, cc, m, ⟨hn, hL, hm, hA⟩, RU_en x7 hq hU, hZ1, by rw [x7.2.1, hS1]; exact hS⟩
    · have hn3 : n < 120 := by omega
      have k1 : ∀ q, q ∉ pA u → ∃ u4, ((some (qN u q true)).bind fun u5 => (fX1_init u5 q w a b c (if w = 5 then -2 else d) (if w = 5 then d else e) v).bind fun u7 => b2 (fX8_carryOut u7 q) fun v9 u8 => some (v9, u8)) = some (ans (hk f n) w a b, u4) ∧ RU u4 (va_up f n (w, a, b, c, d, e, v)) (n + 1) cc m (hk (va_up f n (w, a, b, c, d, e, v)) (n + 1)) ∧ sL u4 = sL u := by
        intro q hq
        obtain ⟨u7, e7, x7, y1, y2, y3, y4, y5, y6, y7, y8⟩ := e1_init (u := u) (q := q) w a b c (if w = 5 then -2 else d) (if w = 5 then d else e) v
        have yq : EQx u7 q (w, a, b, c, d, e, v) := ⟨y1, y2, y3, y4, y5, y6, y7, y8⟩
        obtain ⟨u3, e3, r3, y3', s3⟩ := add_C hq hU x7 hn3 yq
        obtain ⟨u4, e4, q1, q2, q3, x4⟩ := e2_carryOut hw r3.2.2.2.1.1 r3.2.2.2.1.2.1 r3.2.2.2.1.2.2 y3' hlg
        refine ⟨u4, ?_, ?_, by rw [x4.2.1, s3]⟩
        · have c120 : sI u7 4 < 120 := by rw [x7.1, hU.1]; exact nI_lt (b := 120) hn3 (by decide)
          cases e5 : stE u7 6 120 (sI u7 4) q with
          | none => rw [e5] at e3; cases e3
          | some u2 =>
            rw [e5, Option.bind_some] at e3
            rw [Option.bind_some, e7, Option.bind_some, fX8_carryOut, if_pos c120, e5, Option.bind_some, e3, Option.bind_some, e4]; rfl
        · rw [L3]
          exact RU_ec x4 r3 ⟨q1, q2, q3⟩
      obtain ⟨z8, e8, r8, s8⟩ := add_M hZ1 hn3 w a b c d e v
      obtain ⟨z9, e9, q1, q2, x9⟩ := e9_does hfp hw r8.2.2.1.1 r8.2.2.1.2 (v := v) hlg
      refine ⟨_, ans (hk f n) w a b, z9, eF, ?_, ?_, ?_⟩
      · intro K hK q hq
        cases hK
        obtain ⟨u7, e7, -⟩ := k1 q hq
        exact ⟨_, _, e7⟩
      · have c120 : ¬ sI z1 16 = 120 := by
          rw [hZ1.1]
          exact fun x => hn2 (nI_inj (b := 120) (by omega) (by decide) x)
        rw [fX9_edit, ez, b2_eq, if_pos (by decide), if_neg c120]
        have g : ∀ (K : ST → Option (Int32 × ST)), ((stI z1 17 120 (sI z1 16) w).bind fun u5 => (stI u5 18 120 (sI u5 16) a).bind fun u6 => (stI u6 19 120 (sI u6 16) b).bind fun u7 => (stI u7 20 120 (sI u7 16) c).bind fun u8 => (stI u8 21 120 (sI u8 16) d).bind fun u9 => (stI u9 22 120 (sI u9 16) e).bind fun u10 => (stL u10 23 120 (sI u10 16) v).bind fun u11 => (some (uI u11 16 ((sI u11 16) + 1))).bind K) = K z8 := by
          intro K
          have := congrArg (fun o : Option ST => o.bind K) e8
          simp only [Option.bind_assoc, Option.bind_some] at this ⊢
          exact this
        rw [g, e9]; rfl
      · rintro r1 u1 (hp | ⟨K, q, hK, hq, hp⟩)
        · cases hp
        · cases hK
          obtain ⟨u4, e4, r4, s4⟩ := k1 q hq
          have hp' := e4.symm.trans hp
          cases hp'
          refine ⟨rfl, va_up f n (w, a, b, c, d, e, v), n + 1, cc, m, ⟨by omega, L1, hm, hA⟩, r4, ?_, by rw [s4, x9.2.1, s8, hS1]; exact hS⟩
          rw [L3]
          exact RZ_eh x9 r8 ⟨q1, q2⟩
  · have eF : F = some (.inl (rfs (hk f n) w a b c d e, u)) := by rw [hF, CR, if_neg hx]
    have hneg := (rfs_neg (hk f n) w a b c d e).resolve_left hx
    refine ⟨_, rfs (hk f n) w a b c d e, z1, eF, fun K hK => (by cases hK), ?_, ?_⟩
    · rw [fX9_edit, ez, b2_eq, if_neg hneg]
    · rintro r1 u1 (hp | ⟨K, q, hK, hq, hp⟩)
      · cases hp
        exact ⟨rfl, f, n, cc, m, ⟨hn, hL, hm, hA⟩, hU, hZ1, by rw [hS1]; exact hS⟩
      · cases hK
