/-! ===== an EDIT is carried out: the class, TYPES ===== -/
def csl : List Nat := [8, 9, 10, 11, 12, 13, 15, 16, 17, 18, 19, 20]
abbrev EC (u v : ST) : Prop := EX u v [200, 207, 300] csl [21]
def EQ (u : ST) (q : Nat) (w a b c d e : Int32) (v : Int64) : Prop := isE u q = true ∧ pI u q 0 = w ∧ pI u q 1 = a ∧ pI u q 2 = b ∧ pI u q 3 = c ∧ pI u q 4 = (if w = 5 then -2 else d) ∧ pI u q 5 = (if w = 5 then d else e) ∧ pV u q = v
theorem peI_ok {u : ST} {q k : Nat} (h : isE u q = true) : peI u q k = some (pI u q k) := by rw [peI, ck_pos h]
theorem peV_ok {u : ST} {q : Nat} (h : isE u q = true) : peV u q = some (pV u q) := by rw [peV, ck_pos h]
theorem RCt_same {z v : ST} {h : HA} (hr : RCt z h) (h0 : sI v 200 = sI z 200) (h1 : aI v 8 = aI z 8) (h2 : aI v 9 = aI z 9) (h3 : aI v 10 = aI z 10) (h4 : aI v 11 = aI z 11) (h5 : aI v 12 = aI z 12) : RCt v h := by
  unfold RCt at hr ⊢
  rw [h0, h1, h2, h3, h4, h5]; exact hr
theorem RCm_same {z v : ST} {h : HA} (hm : RCm z h) (h0 : sI v 300 = sI z 300) (h15 : aI v 15 = aI z 15) (h16 : aI v 16 = aI z 16) (h17 : aI v 17 = aI z 17) (h18 : aI v 18 = aI z 18) (h19 : aI v 19 = aI z 19) (h20 : aI v 20 = aI z 20) (h21 : aL v 21 = aL z 21) : RCm v h := by
  unfold RCm at hm ⊢
  rw [h0, h15, h16, h17, h18, h19, h20, h21]; exact hm
theorem cnt_B {h g : HA} (e : hB g = hB h) : ∀ k, cnt g k = cnt h k
  | 0 => rfl
  | k + 1 => by rw [cnt, cnt, cnt_B e k, e]
theorem RCm_B {z : ST} {h g : HA} (e : hB g = hB h) (hm : RCm z h) : RCm z g := by
  unfold RCm at hm ⊢
  rw [e, cnt_B e]; exact hm
theorem RCt_T {z : ST} {h : HA} {B : Nat → Option MR} (hr : RCt z h) : RCt z (hN h, hF h, hA h, hM h, hL h, B) := hr
theorem belF_congr {h g : HA} (e : ∀ t, suc g t = suc h t) : ∀ k t s, belF g k t s = belF h k t s
  | 0, _, _ => rfl
  | k + 1, t, s => by
    rw [belF, belF, e t]
    congr 1
    exact any_congr (fun m _ => belF_congr e k m s)
theorem RCo_same {z v : ST} {h g : HA} (ho : RCo z h) (e1 : hN g = hN h) (e2 : hF g = hF h) (e3 : ∀ t, suc g t = suc h t) (h1 : aI v 13 = aI z 13) (h2 : sI v 207 = sI z 207) : RCo v g := by
  obtain ⟨o1, o2⟩ := ho
  refine ⟨fun t ht i hi => ?_, fun i hi => ?_⟩
  · rw [h1, e1]
    rw [e1] at ht
    have : bel g t i = bel h t i := belF_congr e3 12 t i
    rw [this]; exact o1 t ht i hi
  · rw [h2, e1, e2]; exact o2 i hi
/-- what stands over what is found anew -/
theorem over_anew {u : ST} {g : HA} (hr : RCt u g) (hm : RCm u g) (hw : WF g) (hcl : ∀ i, i < 32 → bt (sI u 207) i = (decide (i < hN g) && !hF g i)) : ∃ v, fX7_findOver u = some v ∧ RCt v g ∧ RCm v g ∧ RCo v g ∧ aI v 11 = aI u 11 ∧ EC u v := by
  obtain ⟨O, e, hO⟩ := e7_findOver hr hw
  have q : ∀ k, k ≠ 13 → aI (vI u 13 O) k = aI u k := fun k hk => va_up_ne _ _ hk
  refine ⟨vI u 13 O, e, RCt_same hr rfl (q 8 (by decide)) (q 9 (by decide)) (q 10 (by decide)) (q 11 (by decide)) (q 12 (by decide)), RCm_same hm rfl (q 15 (by decide)) (q 16 (by decide)) (q 17 (by decide)) (q 18 (by decide)) (q 19 (by decide)) (q 20 (by decide)) rfl, ⟨?_, hcl⟩, q 11 (by decide), EX.vI (by decide)⟩
  rw [aI_vI]; exact hO
theorem carry_0 {u : ST} {h : HA} (hw : WF h) (hr : RCt u h) (hm : RCm u h) (ho : RCo u h) {a b c d e : Int32} {v : Int64} {q : Nat} (hq : EQ u q 0 a b c d e v) (hf : rfs h 0 a b c d e = 0) : ∃ u', fX2_carryOut u q = some (ans h 0 a b, u') ∧ RCt u' (app h 0 a b c d e v) ∧ RCm u' (app h 0 a b c d e v) ∧ RCo u' (app h 0 a b c d e v) ∧ EC u u' := by
  obtain ⟨n12, c4, hb⟩ := rfs0_in hw hf
  have hw2 : WF (app h 0 a b c d e v) := keep_0 hw hf
  have eb : b = oI (oN b) := by
    rcases hb with ⟨q, q2⟩ | ⟨-, j, -, q, q2, -⟩
    · rw [q2, q]; rfl
    · rw [q2, q]; rfl
  obtain ⟨i0, p0, p1, p2, p3, -⟩ := hq
  have s0 : sI u 200 = nI (hN h) := hr.1
  have key : ∀ f : Bool, f = !decide (a = 0) → ∃ u', fX7_add u (bI f) b c = some (nI (hN h), u') ∧ RCt u' (app h 0 a b c d e v) ∧ RCm u' (app h 0 a b c d e v) ∧ RCo u' (app h 0 a b c d e v) ∧ EC u u' := by
    intro f ef
    obtain ⟨u1, e1, f1, o1, i1, l1, x1⟩ := wS u 200 (nI (hN h + 1))
    obtain ⟨u2, e2, f2, o2, s2, l2, x2⟩ := wZ (z := u1) (k := 8) (n := 12) n12 (by decide) f
    obtain ⟨u3, e3, f3, o3, i3, l3, x3⟩ := wS u2 207 (sI u2 207 ||| (if f = true then 0 else (1 : Int32) <<< (nI (hN h) &&& 31)))
    obtain ⟨u4, e4, f4, o4, s4, l4, x4⟩ := wI (z := u3) (k := 9) (n := 12) n12 (by decide) b
    obtain ⟨u5, e5, f5, o5, s5, l5, x5⟩ := wI (z := u4) (k := 10) (n := 12) n12 (by decide) c
    obtain ⟨u6, e6, f6, o6, s6, l6, x6⟩ := wI (z := u5) (k := 11) (n := 12) n12 (by decide) 0
    have q8 : aI u6 8 = upd (aI u 8) (hN h) (bI f) := by rw [o6 8 (by decide), o5 8 (by decide), o4 8 (by decide), i3, f2, i1]
    have q9 : aI u6 9 = upd (aI u 9) (hN h) (oI (oN b)) := by rw [o6 9 (by decide), o5 9 (by decide), f4, i3, o2 9 (by decide), i1, ← eb]
    have q10 : aI u6 10 = upd (aI u 10) (hN h) c := by rw [o6 10 (by decide), f5, o4 10 (by decide), i3, o2 10 (by decide), i1]
    have q11 : aI u6 11 = upd (aI u 11) (hN h) 0 := by rw [f6, o5 11 (by decide), o4 11 (by decide), i3, o2 11 (by decide), i1]
    have qq : ∀ k, k ≠ 8 → k ≠ 9 → k ≠ 10 → k ≠ 11 → aI u6 k = aI u k := fun k k1 k2 k3 k4 => by rw [o6 k k4, o5 k k3, o4 k k2, i3, o2 k k1, i1]
    have qs : sI u6 200 = nI (hN h + 1) := by rw [s6, s5, s4, o3 200 (by decide), s2, f1]
    have q3 : sI u6 300 = sI u 300 := by rw [s6, s5, s4, o3 300 (by decide), s2, o1 300 (by decide)]
    have q7 : sI u6 207 = sI u 207 ||| (if f = true then 0 else (1 : Int32) <<< (nI (hN h) &&& 31)) := by rw [s6, s5, s4, f3, s2, o1 207 (by decide)]
    have ql : aL u6 21 = aL u 21 := by rw [l6, l5, l4, l3, l2, l1]
    have hr6 : RCt u6 (app h 0 a b c d e v) := by
      show RT (sI u6 200) (aI u6 8) (aI u6 9) (aI u6 10) (aI u6 11) (aI u6 12) (hN h + 1, va_up (hF h) (hN h) (!decide (a = 0)), va_up (hA h) (hN h) (oN b), va_up (hM h) (hN h) c, va_up (hL h) (hN h) [], hB h)
      rw [qs, q8, q9, q10, q11, qq 12 (by decide) (by decide) (by decide) (by decide), ef]
      exact RT_0 hr _ _ _
    have hm6 : RCm u6 (app h 0 a b c d e v) := RCm_B (h := h) rfl (RCm_same hm q3 (qq 15 (by decide) (by decide) (by decide) (by decide)) (qq 16 (by decide) (by decide) (by decide) (by decide)) (qq 17 (by decide) (by decide) (by decide) (by decide)) (qq 18 (by decide) (by decide) (by decide) (by decide)) (qq 19 (by decide) (by decide) (by decide) (by decide)) (qq 20 (by decide) (by decide) (by decide) (by decide)) ql)
    obtain ⟨u7, e7, r7, m7, c7, -, x7⟩ := over_anew hr6 hm6 hw2 (fun i hi => by
      show bt (sI u6 207) i = (decide (i < hN h + 1) && !va_up (hF h) (hN h) (!decide (a = 0)) i)
      rw [q7, b_or, ho.2 i hi]
      by_cases k : i = hN h
      · subst k
        rw [va_up_self, ← ef]
        cases f with
        | true => rw [if_pos rfl, b_0]; simp
        | false => rw [if_neg Bool.false_ne_true, b_bit (by omega) (by omega)]; simp
      · rw [va_up_ne _ _ k]
        have e1 : decide (i < hN h + 1) = decide (i < hN h) := by
          by_cases c : i < hN h
          · simp [c]; omega
          · simp [c]; omega
        have e2 : bt (if f = true then 0 else (1 : Int32) <<< (nI (hN h) &&& 31)) i = false := by
          cases f with
          | true => rw [if_pos rfl, b_0]
          | false => rw [if_neg Bool.false_ne_true, b_bit (by omega) hi]; simp [k]
        rw [e1, e2, Bool.or_false])
    refine ⟨u7, ?_, r7, m7, c7, ((((((x1 _ _ _ (by decide)).trans (x2 _ _ _ (by decide))).trans (x3 _ _ _ (by decide))).trans (x4 _ _ _ (by decide))).trans (x5 _ _ _ (by decide))).trans (x6 _ _ _ (by decide))).trans x7⟩
    rw [fX7_add, s0, if_pos (show nI (hN h) < 12 from nI_lt (b := 12) n12 (by decide)), nI_1, e1, Option.bind_some, e2, Option.bind_some]
    cases f with
    | true =>
      rw [if_pos rfl] at e3
      rw [if_neg (by decide), fX7_add_L53, e3, Option.bind_some, e4, Option.bind_some, e5, Option.bind_some, e6, Option.bind_some, e7]; rfl
    | false =>
      rw [if_neg Bool.false_ne_true] at e3
      rw [if_pos bI_f, fX7_add_L53, e3, Option.bind_some, e4, Option.bind_some, e5, Option.bind_some, e6, Option.bind_some, e7]; rfl
  rw [fX2_carryOut, peI_ok i0, Option.bind_some, p0, if_pos rfl, peI_ok i0, Option.bind_some, p1]
  by_cases ca : a = 0
  · obtain ⟨u', e', r⟩ := key false (by simp [ca])
    rw [bI_f] at e'
    refine ⟨u', ?_, r⟩
    rw [if_pos ca, fX2_carryOut_L84, peI_ok i0, Option.bind_some, peI_ok i0, Option.bind_some, p2, p3, e']; rfl
  · obtain ⟨u', e', r⟩ := key true (by simp [ca])
    rw [bI_t] at e'
    refine ⟨u', ?_, r⟩
    rw [if_neg ca, fX2_carryOut_L84, peI_ok i0, Option.bind_some, peI_ok i0, Option.bind_some, p2, p3, e']; rfl
theorem isT_true {u : ST} {h : HA} (hw : WF h) (hr : RCt u h) {i : Nat} (hi : i < hN h) : fX7_isType u (nI i) = some 1 := by
  have hn := hw.1
  rw [e7_isType hr hn, isN_nI (by omega)]; simp [hi, bI]
theorem carry_1 {u : ST} {h : HA} (hw : WF h) (hr : RCt u h) (hm : RCm u h) (ho : RCo u h) {a b c d e : Int32} {v : Int64} {q : Nat} (hq : EQ u q 1 a b c d e v) (hf : rfs h 1 a b c d e = 0) : ∃ u', fX2_carryOut u q = some (ans h 1 a b, u') ∧ RCt u' (app h 1 a b c d e v) ∧ RCm u' (app h 1 a b c d e v) ∧ RCo u' (app h 1 a b c d e v) ∧ EC u u' := by
  have hn := hw.1
  have hw2 : WF (app h 1 a b c d e v) := keep_1 hw hf
  obtain ⟨i, hi, rfl, eb⟩ := rfs1_in hw hf
  obtain ⟨i0, p0, p1, p2, -⟩ := hq
  obtain ⟨u1, e1, f1, o1, s1, l1, x1⟩ := wI (z := u) (k := 9) (n := 12) (j := i) (by omega) (by decide) b
  have hr1 : RCt u1 (app h 1 (nI i) b c d e v) := by
    show RT (sI u1 200) (aI u1 8) (aI u1 9) (aI u1 10) (aI u1 11) (aI u1 12) (hN h, hF h, va_up (hA h) (cl (nI i)) (oN b), hM h, hL h, hB h)
    have f1' : aI u1 9 = upd (aI u 9) i (oI (oN b)) := by rw [f1, ← eb]
    rw [cl_nI (by omega), s1, o1 8 (by decide), f1', o1 10 (by decide), o1 11 (by decide), o1 12 (by decide)]
    exact RT_1 hr i _
  have hm1 : RCm u1 (app h 1 (nI i) b c d e v) := RCm_B (h := h) rfl (RCm_same hm (by rw [s1]) (o1 15 (by decide)) (o1 16 (by decide)) (o1 17 (by decide)) (o1 18 (by decide)) (o1 19 (by decide)) (o1 20 (by decide)) (by rw [l1]))
  obtain ⟨u2, e2, r2, m2, c2, -, x2⟩ := over_anew hr1 hm1 hw2 (fun j hj => by rw [s1]; exact ho.2 j hj)
  refine ⟨u2, ?_, r2, m2, c2, (x1 _ _ _ (by decide)).trans x2⟩
  rw [fX2_carryOut, peI_ok i0, Option.bind_some, p0, if_neg (by decide), if_pos rfl, peI_ok i0, Option.bind_some, peI_ok i0, Option.bind_some, p1, p2, fX7_putAbove, isT_true hw hr hi, Option.bind_some, if_neg (by decide), e1, Option.bind_some, e2]; rfl
theorem idx3' (i k : Nat) : nI i * 3 + nI k = nI (3 * i + k) := by
  have : (3 : Int32) = nI 3 := rfl
  rw [this, pk_mul, nI_add, Nat.mul_comm]
theorem carry_2 {u : ST} {h : HA} (hw : WF h) (hr : RCt u h) (hm : RCm u h) (ho : RCo u h) {a b c d e : Int32} {v : Int64} {q : Nat} (hq : EQ u q 2 a b c d e v) (hf : rfs h 2 a b c d e = 0) : ∃ u', fX2_carryOut u q = some (ans h 2 a b, u') ∧ RCt u' (app h 2 a b c d e v) ∧ RCm u' (app h 2 a b c d e v) ∧ RCo u' (app h 2 a b c d e v) ∧ EC u u' := by
  have hn := hw.1
  have hw2 : WF (app h 2 a b c d e v) := keep_2 hw hf
  obtain ⟨i, j, hi, hj, rfl, rfl, h3⟩ := rfs2_in hw hf
  obtain ⟨i0, p0, p1, p2, -⟩ := hq
  have q4 := (hr.2 i hi).2.2.2.1
  obtain ⟨u1, e1, f1, o1, s1, l1, x1⟩ := wI (z := u) (k := 12) (n := 36) (j := 3 * i + (hL h i).length) (by omega) (by decide) (nI j)
  obtain ⟨u2, e2, f2, o2, s2, l2, x2⟩ := wI (z := u1) (k := 11) (n := 12) (j := i) (by omega) (by decide) (nI ((hL h i).length + 1))
  have hr2 : RCt u2 (app h 2 (nI i) (nI j) c d e v) := by
    show RT (sI u2 200) (aI u2 8) (aI u2 9) (aI u2 10) (aI u2 11) (aI u2 12) (hN h, hF h, hA h, hM h, va_up (hL h) (cl (nI i)) (hL h (cl (nI i)) ++ [cl (nI j)]), hB h)
    rw [cl_nI (by omega), cl_nI (by omega), s2, s1, o2 8 (by decide), o1 8 (by decide), o2 9 (by decide), o1 9 (by decide), o2 10 (by decide), o1 10 (by decide), f2, o1 11 (by decide), o2 12 (by decide), f1]
    exact RT_2 hw hr hi h3 j
  have qq : ∀ k, k ≠ 11 → k ≠ 12 → aI u2 k = aI u k := fun k k1 k2 => by rw [o2 k k1, o1 k k2]
  have hm2 : RCm u2 (app h 2 (nI i) (nI j) c d e v) := RCm_B (h := h) rfl (RCm_same hm (by rw [s2, s1]) (qq 15 (by decide) (by decide)) (qq 16 (by decide) (by decide)) (qq 17 (by decide) (by decide)) (qq 18 (by decide) (by decide)) (qq 19 (by decide) (by decide)) (qq 20 (by decide) (by decide)) (by rw [l2, l1]))
  obtain ⟨u3, e3, r3, m3, c3, k3, x3⟩ := over_anew hr2 hm2 hw2 (fun j hj => by rw [s2, s1]; exact ho.2 j hj)
  refine ⟨u3, ?_, r3, m3, c3, ((x1 _ _ _ (by decide)).trans (x2 _ _ _ (by decide))).trans x3⟩
  rw [fX2_carryOut, peI_ok i0, Option.bind_some, p0, if_neg (by decide), if_neg (by decide), if_pos rfl, peI_ok i0, Option.bind_some, peI_ok i0, Option.bind_some, p1, p2, fX7_addFace, isT_true hw hr hi, Option.bind_some, if_neg (by decide), rdI_nI (by omega) (by decide), Option.bind_some, q4, if_pos (show nI (hL h i).length < 3 from nI_lt (b := 3) h3 (by decide)), Option.bind_some, idx3', e1, Option.bind_some, rdI_nI (by omega) (by decide), Option.bind_some, o1 11 (by decide), q4, nI_1, e2, Option.bind_some, e3, Option.bind_some, rdI_nI (by omega) (by decide), Option.bind_some, b2_eq, k3, f2, upd_s]
  show some (nI ((hL h i).length + 1), u3) = some (nI ((hL h (cl (nI i))).length + 1), u3)
  rw [cl_nI (by omega)]
def rmF (u : ST) (x1 : Int32) : Option (Int32 × ST) :=
  (rdI u 11 12 x1).bind fun v8 =>
  (stI u 11 12 x1 (v8 - 1)).bind fun u9 =>
  (fX7_findOver u9).bind fun u10 =>
  (rdI u10 11 12 x1).bind fun v11 =>
  some (v11, u10)
theorem rm_L26 {i len : Nat} (hi : i < 12) (hlen : len ≤ 3) (h0 : 0 < len) : ∀ (rem k f : Nat) (u : ST), len ≤ k + 1 + rem → rem < f → k ≤ 3 → aI u 11 i = nI len → fX7_removeFace_L26 f u (nI i) (nI k) = rmF (vI u 12 (shf (aI u 12) (3 * i + k) (3 * i + (len - 1)))) (nI i)
  | 0, k, f, u, hk, hf, hk3, h4 => by
    obtain ⟨f, rfl⟩ : ∃ j, f = j + 1 := ⟨f - 1, by omega⟩
    rw [fX7_removeFace_L26, nI_1, shf_end (by omega), vI_self]
    rw [rdI_nI (by omega) (by decide), Option.bind_some, h4, if_pos (nI_le (by omega) (by omega)), rmF, rdI_nI (by omega) (by decide), h4]
  | rem + 1, k, f, u, hk, hf, hk3, h4 => by
    obtain ⟨f, rfl⟩ : ∃ j, f = j + 1 := ⟨f - 1, by omega⟩
    rw [fX7_removeFace_L26, nI_1]
    by_cases c : len ≤ k + 1
    · rw [shf_end (by omega), vI_self]
      rw [rdI_nI (by omega) (by decide), Option.bind_some, h4, if_pos (nI_le c (by omega)), rmF, rdI_nI (by omega) (by decide), h4]
    · rw [rdI_nI (by omega) (by decide), Option.bind_some, h4, if_neg (nI_ge (by omega) (by omega)), idx3', nI_1, rdI_nI (by omega) (by decide), Option.bind_some, stI_nI (by omega) (by decide), Option.bind_some]
      rw [rm_L26 hi hlen h0 rem (k + 1) f (vI u 12 (upd (aI u 12) (3 * i + k) (aI u 12 (3 * i + k + 1)))) (by omega) (by omega) (by omega) h4, aI_vI, vI_vI]
      congr 2
      exact shf_step (by omega)
theorem carry_3 {u : ST} {h : HA} (hw : WF h) (hr : RCt u h) (hm : RCm u h) (ho : RCo u h) {a b c d e : Int32} {v : Int64} {q : Nat} (hq : EQ u q 3 a b c d e v) (hf : rfs h 3 a b c d e = 0) : ∃ u', fX2_carryOut u q = some (ans h 3 a b, u') ∧ RCt u' (app h 3 a b c d e v) ∧ RCm u' (app h 3 a b c d e v) ∧ RCo u' (app h 3 a b c d e v) ∧ EC u u' := by
  have hn := hw.1
  have hw2 : WF (app h 3 a b c d e v) := keep_3 hw
  obtain ⟨i, j, hi, hj, rfl, rfl⟩ := rfs3_in hw hf
  obtain ⟨i0, p0, p1, p2, -⟩ := hq
  have h3 := (hw.2.2.1 i hi).1
  have q4 := (hr.2 i hi).2.2.2.1
  have ep : nI (hL h i).length - 1 = nI ((hL h i).length - 1) := by
    obtain ⟨n, hn⟩ : ∃ n, (hL h i).length = n + 1 := ⟨(hL h i).length - 1, by omega⟩
    rw [hn, pred_nI]; rfl
  have el := rm_L26 (i := i) (len := (hL h i).length) (by omega) h3 (by omega) 5 j 5000 u (by omega) (by omega) (by omega) q4
  obtain ⟨u1, hu1⟩ : ∃ u1, u1 = vI u 12 (shf (aI u 12) (3 * i + j) (3 * i + ((hL h i).length - 1))) := ⟨_, rfl⟩
  have f1 : aI u1 12 = shf (aI u 12) (3 * i + j) (3 * i + ((hL h i).length - 1)) := by rw [hu1, aI_vI]
  have o1 : ∀ k, k ≠ 12 → aI u1 k = aI u k := fun k hk => by rw [hu1]; exact va_up_ne _ _ hk
  have s1 : sI u1 = sI u := by rw [hu1]; rfl
  have l1 : aL u1 = aL u := by rw [hu1]; rfl
  have x1 : EC u u1 := by rw [hu1]; exact EX.vI (by decide)
  rw [← hu1] at el
  obtain ⟨u2, e2, f2, o2, s2, l2, x2⟩ := wI (z := u1) (k := 11) (n := 12) (j := i) (by omega) (by decide) (nI ((hL h i).length - 1))
  have hr2 : RCt u2 (app h 3 (nI i) (nI j) c d e v) := by
    show RT (sI u2 200) (aI u2 8) (aI u2 9) (aI u2 10) (aI u2 11) (aI u2 12) (hN h, hF h, hA h, hM h, va_up (hL h) (cl (nI i)) ((hL h (cl (nI i))).eraseIdx (cl (nI j))), hB h)
    rw [cl_nI (by omega), cl_nI (by omega), s2, s1, o2 8 (by decide), o1 8 (by decide), o2 9 (by decide), o1 9 (by decide), o2 10 (by decide), o1 10 (by decide), f2, o1 11 (by decide), o2 12 (by decide), f1]
    exact RT_3 hw hr hi hj
  have qq : ∀ k, k ≠ 11 → k ≠ 12 → aI u2 k = aI u k := fun k k1 k2 => by rw [o2 k k1, o1 k k2]
  have hm2 : RCm u2 (app h 3 (nI i) (nI j) c d e v) := RCm_B (h := h) rfl (RCm_same hm (by rw [s2, s1]) (qq 15 (by decide) (by decide)) (qq 16 (by decide) (by decide)) (qq 17 (by decide) (by decide)) (qq 18 (by decide) (by decide)) (qq 19 (by decide) (by decide)) (qq 20 (by decide) (by decide)) (by rw [l2, l1]))
  obtain ⟨u3, e3, r3, m3, c3, k3, x3⟩ := over_anew hr2 hm2 hw2 (fun j hj => by rw [s2, s1]; exact ho.2 j hj)
  refine ⟨u3, ?_, r3, m3, c3, (x1.trans (x2 _ _ _ (by decide))).trans x3⟩
  rw [fX2_carryOut, peI_ok i0, Option.bind_some, p0, if_neg (by decide), if_neg (by decide), if_neg (by decide), if_pos rfl, peI_ok i0, Option.bind_some, peI_ok i0, Option.bind_some, p1, p2, fX7_removeFace, isT_true hw hr hi, Option.bind_some, if_neg (by decide), if_neg (nI_pos (by omega)), rdI_nI (by omega) (by decide), Option.bind_some, q4, if_pos (nI_lt hj (by omega)), el, rmF, rdI_nI (by omega) (by decide), Option.bind_some, o1 11 (by decide), q4, ep, e2, Option.bind_some, e3, Option.bind_some, rdI_nI (by omega) (by decide), Option.bind_some, b2_eq, k3, f2, upd_s]
  show some (nI ((hL h i).length - 1), u3) = some (nI ((hL h (cl (nI i))).length - 1), u3)
  rw [cl_nI (by omega)]
theorem carry_4 {u : ST} {h : HA} (hw : WF h) (hr : RCt u h) (hm : RCm u h) (ho : RCo u h) {a b c d e : Int32} {v : Int64} {q : Nat} (hq : EQ u q 4 a b c d e v) (hf : rfs h 4 a b c d e = 0) : ∃ u', fX2_carryOut u q = some (ans h 4 a b, u') ∧ RCt u' (app h 4 a b c d e v) ∧ RCm u' (app h 4 a b c d e v) ∧ RCo u' (app h 4 a b c d e v) ∧ EC u u' := by
  have hn := hw.1
  obtain ⟨i, hi, rfl⟩ := rfs4_in hw hf
  obtain ⟨i0, p0, p1, p2, -⟩ := hq
  obtain ⟨u1, e1, f1, o1, s1, l1, x1⟩ := wI (z := u) (k := 10) (n := 12) (j := i) (by omega) (by decide) b
  refine ⟨u1, ?_, ?_, RCm_B (h := h) rfl (RCm_same hm (by rw [s1]) (o1 15 (by decide)) (o1 16 (by decide)) (o1 17 (by decide)) (o1 18 (by decide)) (o1 19 (by decide)) (o1 20 (by decide)) (by rw [l1])), RCo_same ho rfl rfl (fun _ => rfl) (o1 13 (by decide)) (by rw [s1]), x1 _ _ _ (by decide)⟩
  · rw [fX2_carryOut, peI_ok i0, Option.bind_some, p0, if_neg (by decide), if_neg (by decide), if_neg (by decide), if_neg (by decide), if_pos rfl, peI_ok i0, Option.bind_some, peI_ok i0, Option.bind_some, p1, p2, fX7_changeMarks, isT_true hw hr hi, Option.bind_some, if_neg (by decide), rdI_nI (by omega) (by decide), Option.bind_some, e1, Option.bind_some, b2_eq, (hr.2 i hi).2.2.1]
    show some (hM h i, u1) = some (hM h (cl (nI i)), u1)
    rw [cl_nI (by omega)]
  · show RT (sI u1 200) (aI u1 8) (aI u1 9) (aI u1 10) (aI u1 11) (aI u1 12) (hN h, hF h, hA h, va_up (hM h) (cl (nI i)) b, hL h, hB h)
    rw [cl_nI (by omega), s1, o1 8 (by decide), o1 9 (by decide), f1, o1 11 (by decide), o1 12 (by decide)]
    exact RT_4 hr i b
