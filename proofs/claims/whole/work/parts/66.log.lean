/-! ===== EDITS in a row: the house behind them, and doing them again ===== -/
abbrev AE : Type := Int32 × Int32 × Int32 × Int32 × Int32 × Int32 × Int64
def ap (h : HA) (x : AE) : HA := app h x.1 x.2.1 x.2.2.1 x.2.2.2.1 x.2.2.2.2.1 x.2.2.2.2.2.1 x.2.2.2.2.2.2
def lg (h : HA) (x : AE) : Prop := lgl h x.1 x.2.1 x.2.2.1 x.2.2.2.1 x.2.2.2.2.1 x.2.2.2.2.2.1
def hk (f : Nat → AE) : Nat → HA
  | 0 => hE
  | k + 1 => ap (hk f k) (f k)
def LG (f : Nat → AE) (n : Nat) : Prop := ∀ k, k < n → lg (hk f k) (f k)
theorem hk_congr {f g : Nat → AE} : ∀ {k : Nat}, (∀ j, j < k → f j = g j) → hk f k = hk g k
  | 0, _ => rfl
  | k + 1, h => by rw [hk, hk, hk_congr (fun j hj => h j (by omega)), h k (by omega)]
theorem WF_hE : WF hE := by
  refine ⟨Nat.zero_le _, fun t ht => absurd ht (Nat.not_lt_zero t), fun t ht => absurd ht (Nat.not_lt_zero t), ⟨fun _ => 0, fun t ht => absurd ht (Nat.not_lt_zero t)⟩, fun t ht => absurd ht (Nat.not_lt_zero t), fun _ _ => rfl, fun m r e => ?_, fun m q r s e => ?_⟩
  · exact absurd e (by show ¬ (none : Option MR) = some r; simp)
  · exact absurd e (by show ¬ (none : Option MR) = some r; simp)
theorem hk_WF {f : Nat → AE} {n : Nat} (hL : LG f n) : ∀ k, k ≤ n → WF (hk f k)
  | 0, _ => WF_hE
  | k + 1, h => by
    obtain ⟨l1, l2, l3⟩ := hL k (by omega)
    exact keep (hk_WF hL k (by omega)) l1 l3
def HC (u : ST) (h : HA) : Prop := RCt u h ∧ RCm u h ∧ RCo u h
def HM (z : ST) (h : HA) : Prop := RMt z h ∧ RMm z h
def EQx (u : ST) (q : Nat) (x : AE) : Prop := EQ u q x.1 x.2.1 x.2.2.1 x.2.2.2.1 x.2.2.2.2.1 x.2.2.2.2.2.1 x.2.2.2.2.2.2
def LCr (u : ST) (f : Nat → AE) (n : Nat) : Prop := ∀ k, k < n → ∃ q, aR u 6 k = some q ∧ EQx u q (f k)
def rwE (z : ST) (k : Nat) (x : AE) : Prop := aI z 17 k = x.1 ∧ aI z 18 k = x.2.1 ∧ aI z 19 k = x.2.2.1 ∧ aI z 20 k = x.2.2.2.1 ∧ aI z 21 k = x.2.2.2.2.1 ∧ aI z 22 k = x.2.2.2.2.2.1 ∧ aL z 23 k = x.2.2.2.2.2.2
def LMr (z : ST) (f : Nat → AE) (n : Nat) : Prop := ∀ k, k < n → rwE z k (f k)
theorem EX_isE {u v : ST} {a c d : List Nat} (x : EX u v a c d) (q : Nat) : isE v q = isE u q := by unfold isE; rw [x.2.2.2.2.2.1, x.2.2.2.2.2.2.1]
theorem EX_isC {u v : ST} {a c d : List Nat} (x : EX u v a c d) (q : Nat) : isC v q = isC u q := by unfold isC; rw [x.2.2.2.2.2.1, x.2.2.2.2.2.2.1]
theorem EQx_ex {u v : ST} {a c d : List Nat} (x : EX u v a c d) {q : Nat} {y : AE} (h : EQx u q y) : EQx v q y := by
  unfold EQx EQ at h ⊢
  rw [EX_isE x, x.2.2.2.2.2.2.2.1, x.2.2.2.2.2.2.2.2.1]; exact h
theorem LCr_ex {u v : ST} {a c d : List Nat} (x : EX u v a c d) {f : Nat → AE} {n : Nat} (h : LCr u f n) : LCr v f n := fun k hk => by
  obtain ⟨q, e, y⟩ := h k hk
  exact ⟨q, by rw [x.2.2.2.2.1]; exact e, EQx_ex x y⟩
theorem LMr_eh {u v : ST} (x : EH u v) {f : Nat → AE} {n : Nat} (h : LMr u f n) : LMr v f n := fun k hk => by
  have y := h k hk
  unfold rwE at y ⊢
  rw [x.2.2.1 17 (by decide), x.2.2.1 18 (by decide), x.2.2.1 19 (by decide), x.2.2.1 20 (by decide), x.2.2.1 21 (by decide), x.2.2.1 22 (by decide), x.2.2.2.1 23 (by decide)]
  exact y
/-! the class -/
theorem clear_L {u : ST} : ∀ (rem k fu : Nat) (v : ST), k + rem = 60 → rem < fu → EC u v → sI v = sI u → (∀ j, j < k → aI v 15 j = -2) → ∃ v', fX6_clear_L7 fu v (nI k) = some v' ∧ EC u v' ∧ sI v' = sI u ∧ ∀ j, j < 60 → aI v' 15 j = -2
  | 0, k, fu, v, hk, hf, x, hs, h => by
    obtain ⟨fu, rfl⟩ : ∃ j, fu = j + 1 := ⟨fu - 1, by omega⟩
    have c : (60 : Int32) ≤ nI k := by rw [show k = 60 by omega]; decide
    exact ⟨v, by rw [fX6_clear_L7, if_pos c], x, hs, fun j hj => h j (by omega)⟩
  | rem + 1, k, fu, v, hk, hf, x, hs, h => by
    obtain ⟨fu, rfl⟩ : ∃ j, fu = j + 1 := ⟨fu - 1, by omega⟩
    have c : ¬ (60 : Int32) ≤ nI k := nI_ge (b := 60) (by omega) (by decide)
    obtain ⟨v1, e1, f1, o1, s1, l1, x1⟩ := wI (z := v) (k := 15) (n := 60) (j := k) (by omega) (by decide) (-2)
    rw [fX6_clear_L7, if_neg c, e1, Option.bind_some, nI_1]
    refine clear_L rem (k + 1) fu v1 (by omega) (by omega) (x.trans (x1 _ _ _ (by decide))) (by rw [s1, hs]) (fun j hj => ?_)
    rw [f1]
    by_cases d : j = k
    · rw [d, upd_s]
    · rw [upd_n d]; exact h j (by omega)
theorem HC_hE {u : ST} (h200 : sI u 200 = 0) (h207 : sI u 207 = 0) (h300 : sI u 300 = 0) (h15 : ∀ j, j < 60 → aI u 15 j = -2) : HC u hE := by
  refine ⟨⟨h200, fun t ht => absurd ht (Nat.not_lt_zero t)⟩, RCm_row.mpr ⟨?_, fun m hm => h15 m hm⟩, fun t ht => absurd ht (Nat.not_lt_zero t), fun i hi => ?_⟩
  · rw [h300]; decide
  · rw [h207, b_0]; rfl
theorem e2_clear (u : ST) : ∃ u', fX2_clear u = some u' ∧ HC u' hE ∧ EC u u' := by
  obtain ⟨u1, e1, f1, o1, i1, l1, x1⟩ := wS u 200 0
  obtain ⟨u2, e2, f2, o2, i2, l2, x2⟩ := wS u1 207 0
  obtain ⟨u3, e3, f3, o3, i3, l3, x3⟩ := wS u2 300 0
  obtain ⟨u4, e4, x4, s4, h4⟩ := clear_L (u := u3) 60 0 5000 u3 rfl (by decide) EX.refl rfl (fun j hj => absurd hj (Nat.not_lt_zero j))
  have e4' : fX6_clear_L7 5000 u3 0 = some u4 := e4
  refine ⟨u4, ?_, HC_hE (by rw [s4, o3 200 (by decide), o2 200 (by decide), f1]) (by rw [s4, o3 207 (by decide), f2]) (by rw [s4, f3]) h4, (((x1 _ _ _ (by decide)).trans (x2 _ _ _ (by decide))).trans (x3 _ _ _ (by decide))).trans x4⟩
  rw [fX2_clear, fX7_clear, e1, Option.bind_some, e2, Option.bind_some, Option.bind_some, fX6_clear, e3, Option.bind_some, e4']; rfl
theorem redo_L {f : Nat → AE} {n : Nat} (hL : LG f n) (hn : n ≤ 120) : ∀ (rem i j fu : Nat) (u : ST), i + rem = j → j ≤ n → rem < fu → LCr u f n → HC u (hk f i) → ∃ u', fX8_redo_L6 fu u (nI j) (nI i) = some u' ∧ HC u' (hk f j) ∧ EC u u'
  | 0, i, j, fu, u, hj, hjn, hf, hl, hh => by
    obtain ⟨fu, rfl⟩ : ∃ j, fu = j + 1 := ⟨fu - 1, by omega⟩
    have : i = j := by omega
    subst this
    exact ⟨u, by rw [fX8_redo_L6, if_pos (nI_le (by omega) (by omega))], hh, EX.refl⟩
  | rem + 1, i, j, fu, u, hj, hjn, hf, hl, hh => by
    obtain ⟨fu, rfl⟩ : ∃ j, fu = j + 1 := ⟨fu - 1, by omega⟩
    have c : ¬ (120 : Int32) ≤ nI i := nI_ge (b := 120) (by omega) (by decide)
    obtain ⟨q, eq, y⟩ := hl i (by omega)
    obtain ⟨u1, e1, r1, r2, r3, x1⟩ := e2_carryOut (hk_WF hL i (by omega)) hh.1 hh.2.1 hh.2.2 y (hL i (by omega))
    obtain ⟨u2, e2, h2, x2⟩ := redo_L hL hn rem (i + 1) j fu u1 (by omega) hjn (by omega) (LCr_ex x1 hl) ⟨r1, r2, r3⟩
    refine ⟨u2, ?_, h2, x1.trans x2⟩
    rw [fX8_redo_L6, if_neg (nI_ge (by omega) (by omega)), if_neg c, rdR_nI (by omega) (by decide), Option.bind_some, eq]
    show b2 (fX2_carryOut u q) (fun v7 u6 => fX8_redo_L43 (fX8_redo_L6 fu) u6 (nI j) (nI i)) = some u2
    rw [e1, b2_eq, fX8_redo_L43, nI_1, e2]
theorem e8_redo {f : Nat → AE} {n : Nat} (hL : LG f n) (hn : n ≤ 120) {i j : Nat} (hij : i ≤ j) (hjn : j ≤ n) {u : ST} (hl : LCr u f n) (hh : HC u (hk f i)) : ∃ u', fX8_redo u (nI i) (nI j) = some u' ∧ HC u' (hk f j) ∧ EC u u' := by
  obtain ⟨u1, e1, r1⟩ := redo_L hL hn (j - i) i j 5000 u (by omega) hjn (by omega) hl hh
  refine ⟨u1, ?_, r1⟩
  rw [fX8_redo, fJ9_max_7cf53, if_neg (nI_pos (by omega)), Option.bind_some, e1]
/-! the reference -/
theorem nothing_L {u : ST} : ∀ (rem k fu : Nat) (v : ST), k + rem = 60 → rem < fu → EH u v → sI v = sI u → (∀ j, j < k → aI v 6 j = 0) → ∃ v', fX9_nothing_L7 fu v (nI k) = some v' ∧ EH u v' ∧ sI v' = sI u ∧ ∀ j, j < 60 → aI v' 6 j = 0
  | 0, k, fu, v, hk, hf, x, hs, h => by
    obtain ⟨fu, rfl⟩ : ∃ j, fu = j + 1 := ⟨fu - 1, by omega⟩
    have c : (60 : Int32) ≤ nI k := by rw [show k = 60 by omega]; decide
    exact ⟨v, by rw [fX9_nothing_L7, if_pos c], x, hs, fun j hj => h j (by omega)⟩
  | rem + 1, k, fu, v, hk, hf, x, hs, h => by
    obtain ⟨fu, rfl⟩ : ∃ j, fu = j + 1 := ⟨fu - 1, by omega⟩
    have c : ¬ (60 : Int32) ≤ nI k := nI_ge (b := 60) (by omega) (by decide)
    obtain ⟨v1, e1, f1, o1, s1, l1, x1⟩ := wZ (z := v) (k := 6) (n := 60) (j := k) (by omega) (by decide) false
    rw [bI_f] at e1 f1
    rw [fX9_nothing_L7, if_neg c, e1, Option.bind_some, nI_1]
    refine nothing_L rem (k + 1) fu v1 (by omega) (by omega) (x.trans (x1 _ _ _ (by decide))) (by rw [s1, hs]) (fun j hj => ?_)
    rw [f1]
    by_cases d : j = k
    · rw [d, upd_s]
    · rw [upd_n d]; exact h j (by omega)
theorem e9_nothing (z : ST) : ∃ z', fX9_nothing z = some z' ∧ HM z' hE ∧ EH z z' := by
  obtain ⟨u1, e1, f1, o1, i1, l1, x1⟩ := wS z 0 0
  obtain ⟨u4, e4, x4, s4, h4⟩ := nothing_L (u := u1) 60 0 5000 u1 rfl (by decide) EX.refl rfl (fun j hj => absurd hj (Nat.not_lt_zero j))
  have e4' : fX9_nothing_L7 5000 u1 0 = some u4 := e4
  refine ⟨u4, ?_, ⟨⟨by rw [s4, f1]; rfl, fun t ht => absurd ht (Nat.not_lt_zero t)⟩, RMm_row.mpr (fun m hm => h4 m hm)⟩, (x1 _ _ _ (by decide)).trans x4⟩
  rw [fX9_nothing, e1, Option.bind_some, e4']
theorem again_L (hfp : FPx) {f : Nat → AE} {n : Nat} (hL : LG f n) (hn : n ≤ 120) : ∀ (rem i j fu : Nat) (z : ST), i + rem = j → j ≤ n → rem < fu → LMr z f n → HM z (hk f i) → ∃ z', fX9_doAgain_L2 fu z (nI j) (nI i) = some z' ∧ HM z' (hk f j) ∧ EH z z'
  | 0, i, j, fu, z, hj, hjn, hf, hl, hh => by
    obtain ⟨fu, rfl⟩ : ∃ j, fu = j + 1 := ⟨fu - 1, by omega⟩
    have : i = j := by omega
    subst this
    exact ⟨z, by rw [fX9_doAgain_L2, if_pos (nI_le (by omega) (by omega))], hh, EX.refl⟩
  | rem + 1, i, j, fu, z, hj, hjn, hf, hl, hh => by
    obtain ⟨fu, rfl⟩ : ∃ j, fu = j + 1 := ⟨fu - 1, by omega⟩
    obtain ⟨q1, q2, q3, q4, q5, q6, q7⟩ := hl i (by omega)
    obtain ⟨u1, e1, r1, r2, x1⟩ := e9_does hfp (hk_WF hL i (by omega)) hh.1 hh.2 (v := (f i).2.2.2.2.2.2) (hL i (by omega))
    obtain ⟨u2, e2, h2, x2⟩ := again_L hfp hL hn rem (i + 1) j fu u1 (by omega) hjn (by omega) (LMr_eh x1 hl) ⟨r1, r2⟩
    refine ⟨u2, ?_, h2, x1.trans x2⟩
    rw [fX9_doAgain_L2, if_neg (nI_ge (by omega) (by omega)), rdI_nI (by omega) (by decide), Option.bind_some, rdI_nI (by omega) (by decide), Option.bind_some, rdI_nI (by omega) (by decide), Option.bind_some, rdI_nI (by omega) (by decide), Option.bind_some, rdI_nI (by omega) (by decide), Option.bind_some, rdI_nI (by omega) (by decide), Option.bind_some, rdL_nI (by omega) (by decide), Option.bind_some, q1, q2, q3, q4, q5, q6, q7, e1, b2_eq, nI_1, e2]
theorem e9_again (hfp : FPx) {f : Nat → AE} {n : Nat} (hL : LG f n) (hn : n ≤ 120) {i j : Nat} (hij : i ≤ j) (hjn : j ≤ n) {z : ST} (hl : LMr z f n) (hh : HM z (hk f i)) : ∃ z', fX9_doAgain z (nI i) (nI j) = some z' ∧ HM z' (hk f j) ∧ EH z z' := by
  obtain ⟨u1, e1, r1⟩ := again_L hfp hL hn (j - i) i j 5000 z (by omega) hjn (by omega) hl hh
  exact ⟨u1, by rw [fX9_doAgain, e1], r1⟩
