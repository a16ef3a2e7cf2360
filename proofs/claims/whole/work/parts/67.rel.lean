/-! ===== the relation between both sides ===== -/
/-- a CALLER: sort, TYPE, NAME, arguments, what it keeps, how many EDITS there were -/
abbrev CA : Type := Int32 × Int32 × Int32 × Int32 × Int32 × CK × Nat
def okA (x : CA) : Prop := (x.1 = 0 ∨ x.1 = 1 ∨ x.1 = 2) ∧ (¬ x.2.1 = -2) ∧ (kFi x.2.2.2.2.2.1 = -2 → kSe x.2.2.2.2.2.1 = -2) ∧ (x.1 = 0 → isN (kKd x.2.2.2.2.2.1) 8 = true) ∧ (x.2.2.2.1 = -2 → x.2.2.2.2.1 = -2) ∧ x.2.2.2.2.2.2 ≤ 120
def RCx (u : ST) (p : Nat) (x : CA) : Prop := RCc u p x.1 x.2.1 x.2.2.1 x.2.2.2.1 x.2.2.2.2.1 x.2.2.2.2.2.1
def RMx (z : ST) (k : Nat) (x : CA) : Prop := RMc z k x.1 x.2.1 x.2.2.1 x.2.2.2.1 x.2.2.2.2.1 x.2.2.2.2.2.1
def CCr (u : ST) (c : Nat → CA) (m : Nat) : Prop := ∀ k, k < m → ∃ p, aR u 7 k = some p ∧ p ≠ ag u ∧ RCx u p (c k) ∧ pI u p 12 = nI (c k).2.2.2.2.2.2
def CMr (z : ST) (c : Nat → CA) (m : Nat) : Prop := ∀ k, k < m → RMx z k (c k) ∧ aI z 41 k = nI (c k).2.2.2.2.2.2
def RU (u : ST) (f : Nat → AE) (n : Nat) (c : Nat → CA) (m : Nat) (h : HA) : Prop := sI u 4 = nI n ∧ sI u 6 = nI m ∧ isC u (ag u) = true ∧ HC u h ∧ LCr u f n ∧ CCr u c m
def RZ (z : ST) (f : Nat → AE) (n : Nat) (c : Nat → CA) (m : Nat) (h : HA) : Prop := sI z 16 = nI n ∧ sI z 28 = nI m ∧ HM z h ∧ LMr z f n ∧ CMr z c m
def OK (f : Nat → AE) (n : Nat) (c : Nat → CA) (m : Nat) : Prop := n ≤ 120 ∧ LG f n ∧ m ≤ 24 ∧ ∀ k, k < m → okA (c k)
def Rl (u z : ST) : Prop := ∃ f n c m, OK f n c m ∧ RU u f n c m (hk f n) ∧ RZ z f n c m (hk f n) ∧ sL u 8 = sL z 44
/-! what keeps it -/
theorem CCr_ex {u v : ST} {a b d : List Nat} (x : EX u v a b d) {c : Nat → CA} {m : Nat} (h : CCr u c m) : CCr v c m := fun k hk => by
  obtain ⟨p, e1, e2, e3, e4⟩ := h k hk
  refine ⟨p, by rw [x.2.2.2.2.1]; exact e1, by rw [x.2.2.2.2.2.2.2.2.2]; exact e2, ?_, by rw [x.2.2.2.2.2.2.2.1]; exact e4⟩
  unfold RCx RCc at e3 ⊢
  rw [EX_isC x, x.2.2.2.2.2.2.2.1, x.2.2.2.2.2.2.2.2.1]; exact e3
theorem RU_ec {u v : ST} (x : EC u v) {f : Nat → AE} {n : Nat} {c : Nat → CA} {m : Nat} {h g : HA} (hr : RU u f n c m h) (hh : HC v g) : RU v f n c m g := by
  obtain ⟨h1, h2, h3, -, h5, h6⟩ := hr
  exact ⟨by rw [x.1 4 (by decide)]; exact h1, by rw [x.1 6 (by decide)]; exact h2, by rw [x.2.2.2.2.2.2.2.2.2, EX_isC x]; exact h3, hh, LCr_ex x h5, CCr_ex x h6⟩
theorem CMr_eh {u v : ST} (x : EH u v) {c : Nat → CA} {m : Nat} (h : CMr u c m) : CMr v c m := fun k hk => by
  obtain ⟨e1, e2⟩ := h k hk
  refine ⟨?_, by rw [x.2.2.1 41 (by decide)]; exact e2⟩
  unfold RMx RMc at e1 ⊢
  rw [x.2.2.1 29 (by decide), x.2.2.1 30 (by decide), x.2.2.1 31 (by decide), x.2.2.1 32 (by decide), x.2.2.1 33 (by decide), x.2.2.1 34 (by decide), x.2.2.1 35 (by decide), x.2.2.1 36 (by decide), x.2.2.1 38 (by decide), x.2.2.1 39 (by decide), x.2.2.1 40 (by decide), x.2.2.2.1 37 (by decide)]
  exact e1
theorem RZ_eh {u v : ST} (x : EH u v) {f : Nat → AE} {n : Nat} {c : Nat → CA} {m : Nat} {h g : HA} (hr : RZ u f n c m h) (hh : HM v g) : RZ v f n c m g := by
  obtain ⟨h1, h2, -, h5, h6⟩ := hr
  exact ⟨by rw [x.1 16 (by decide)]; exact h1, by rw [x.1 28 (by decide)]; exact h2, hh, LMr_eh x h5, CMr_eh x h6⟩
theorem CMr_em {u v : ST} (x : Em u v) {c : Nat → CA} {m : Nat} (h : CMr u c m) : CMr v c m := fun k hk => by
  obtain ⟨e1, e2⟩ := h k hk
  exact ⟨RMc_em x e1, by rw [x.2.2.1 41 (by decide)]; exact e2⟩
theorem LMr_em {u v : ST} (x : Em u v) {f : Nat → AE} {n : Nat} (h : LMr u f n) : LMr v f n := fun k hk => by
  have y := h k hk
  unfold rwE at y ⊢
  rw [x.2.2.1 17 (by decide), x.2.2.1 18 (by decide), x.2.2.1 19 (by decide), x.2.2.1 20 (by decide), x.2.2.1 21 (by decide), x.2.2.1 22 (by decide), x.2.2.2.1]
  exact y
theorem RZ_em {u v : ST} (x : Em u v) {f : Nat → AE} {n : Nat} {c : Nat → CA} {m : Nat} {h : HA} (hr : RZ u f n c m h) : RZ v f n c m h := by
  obtain ⟨h1, h2, h3, h5, h6⟩ := hr
  exact ⟨by rw [x.1 16 (by decide)]; exact h1, by rw [x.1 28 (by decide)]; exact h2, ⟨RMt_em x h3.1, RMm_em x h3.2⟩, LMr_em x h5, CMr_em x h6⟩
/-- the row r of CALLERS, which isn't one yet, changes -/
theorem RZ_EM {u v : ST} {r : Nat} (x : EM u v r) {f : Nat → AE} {n : Nat} {c : Nat → CA} {m : Nat} (hmr : m ≤ r) {h : HA} (hr : RZ u f n c m h) : RZ v f n c m h := by
  obtain ⟨h1, h2, h3, h5, h6⟩ := hr
  have g : ∀ k, k ∉ [15, 24, 26, 27, 42] → k ∉ rws → aI v k = aI u k := fun k h1 h2 => funext (fun j => x.2.2.1 k h1 j (fun q => absurd q h2))
  refine ⟨by rw [x.1 16 (by decide)]; exact h1, by rw [x.1 28 (by decide)]; exact h2, ⟨RMt_EM x h3.1, RMm_EM x h3.2⟩, fun k hk => ?_, fun k hk => ?_⟩
  · have y := h5 k hk
    unfold rwE at y ⊢
    rw [g 17 (by decide) (by decide), g 18 (by decide) (by decide), g 19 (by decide) (by decide), g 20 (by decide) (by decide), g 21 (by decide) (by decide), g 22 (by decide) (by decide), x.2.2.2.1 23 k (fun q => absurd q (by decide))]
    exact y
  · obtain ⟨e1, e2⟩ := h6 k hk
    have w : ∀ j, j ∉ [15, 24, 26, 27, 42] → aI v j k = aI u j k := fun j hj => x.2.2.1 j hj k (fun _ => by omega)
    refine ⟨?_, by rw [w 41 (by decide)]; exact e2⟩
    unfold RMx RMc at e1 ⊢
    rw [w 29 (by decide), w 30 (by decide), w 31 (by decide), w 32 (by decide), w 33 (by decide), w 34 (by decide), w 35 (by decide), w 36 (by decide), w 38 (by decide), w 39 (by decide), w 40 (by decide), x.2.2.2.1 37 k (fun _ => by omega)]
    exact e1
theorem LCr_p {u v : ST} {p : Nat} {f : Nat → AE} {n : Nat} (hp : ∀ q, isE u q = true → q ≠ p) (hE : ∀ q, isE u q = true → isE v q = true) (hR : aR v 6 = aR u 6) (hI : ∀ q, q ≠ p → pI v q = pI u q) (hV : ∀ q, q ≠ p → pV v q = pV u q) (h : LCr u f n) : LCr v f n := fun k hk => by
  obtain ⟨q, e, y⟩ := h k hk
  have ne := hp q y.1
  refine ⟨q, by rw [hR]; exact e, ?_⟩
  obtain ⟨y1, y2⟩ := y
  refine ⟨hE q y1, ?_⟩
  rw [hI q ne, hV q ne]; exact y2
theorem CCr_p {u v : ST} {p : Nat} {c : Nat → CA} {m : Nat} (hp : ∀ q, isC u q = true → q ≠ ag u → q ≠ p) (hC : ∀ q, isC u q = true → isC v q = true) (hg : ag v = ag u) (hR : aR v 7 = aR u 7) (hI : ∀ q, q ≠ p → pI v q = pI u q) (hV : ∀ q, q ≠ p → pV v q = pV u q) (h : CCr u c m) : CCr v c m := fun k hk => by
  obtain ⟨q, e, e2, y, e4⟩ := h k hk
  have ne := hp q y.1 e2
  refine ⟨q, by rw [hR]; exact e, by rw [hg]; exact e2, ?_, by rw [hI q ne]; exact e4⟩
  obtain ⟨y1, y2⟩ := y
  refine ⟨hC q y1, ?_⟩
  rw [hI q ne, hV q ne]; exact y2
/-- scratch, and 'again', change -/
theorem RU_ek {u v : ST} (x : Ek u v (ag u)) {f : Nat → AE} {n : Nat} {c : Nat → CA} {m : Nat} {h : HA} (hr : RU u f n c m h) : RU v f n c m h := by
  obtain ⟨h1, h2, h3, h4, h5, h6⟩ := hr
  have iE : ∀ q, isE v q = isE u q := fun q => by unfold isE; rw [x.2.2.2.2.2.1, x.2.2.2.2.2.2.1]
  have hg : ag v = ag u := x.2.2.2.2.2.2.2.1
  refine ⟨by rw [x.1 4 (by decide)]; exact h1, by rw [x.1 6 (by decide)]; exact h2, by rw [hg, EP_isC x]; exact h3, ⟨RCt_ek x h4.1, RCm_ek x h4.2.1, RCo_ek x h4.2.2⟩, LCr_p (p := ag u) (fun q hq e => ?_) (fun q hq => by rw [iE]; exact hq) (by rw [x.2.2.2.2.1]) x.2.2.2.2.2.2.2.2.1 x.2.2.2.2.2.2.2.2.2 h5, CCr_p (p := ag u) (fun q _ hq => hq) (fun q hq => by rw [EP_isC x]; exact hq) hg (by rw [x.2.2.2.2.1]) x.2.2.2.2.2.2.2.2.1 x.2.2.2.2.2.2.2.2.2 h6⟩
  subst e
  unfold isE at hq; unfold isC at h3
  rw [Bool.and_eq_true] at hq h3
  rw [hq.2] at h3
  exact absurd h3.2 (by decide)
theorem RU_e3 {u v : ST} (x : Ec u v) {f : Nat → AE} {n : Nat} {c : Nat → CA} {m : Nat} {h : HA} (hr : RU u f n c m h) : RU v f n c m h := RU_ek (EP.of x) hr
/-- one more in the pool -/
def EN (u v : ST) (q : Nat) : Prop := sI v = sI u ∧ sL v = sL u ∧ aI v = aI u ∧ aL v = aL u ∧ aR v = aR u ∧ ag v = ag u ∧ (∀ x, x ∈ pA u → x ∈ pA v) ∧ (∀ x, x ≠ q → pK v x = pK u x) ∧ (∀ x, x ≠ q → pI v x = pI u x) ∧ (∀ x, x ≠ q → pV v x = pV u x)
theorem EN_isE {u v : ST} {q : Nat} (x : EN u v q) (hq : q ∉ pA u) {a : Nat} (h : isE u a = true) : isE v a = true := by
  unfold isE at h ⊢
  rw [Bool.and_eq_true, decide_eq_true_eq] at h ⊢
  refine ⟨x.2.2.2.2.2.2.1 a h.1, ?_⟩
  rw [x.2.2.2.2.2.2.2.1 a (fun e => hq (e ▸ h.1))]; exact h.2
theorem EN_isC {u v : ST} {q : Nat} (x : EN u v q) (hq : q ∉ pA u) {a : Nat} (h : isC u a = true) : isC v a = true := by
  unfold isC at h ⊢
  rw [Bool.and_eq_true, decide_eq_true_eq] at h ⊢
  refine ⟨x.2.2.2.2.2.2.1 a h.1, ?_⟩
  rw [x.2.2.2.2.2.2.2.1 a (fun e => hq (e ▸ h.1))]; exact h.2
theorem isE_in {u : ST} {a : Nat} (h : isE u a = true) : a ∈ pA u := by
  unfold isE at h
  rw [Bool.and_eq_true, decide_eq_true_eq] at h; exact h.1
theorem isC_in {u : ST} {a : Nat} (h : isC u a = true) : a ∈ pA u := by
  unfold isC at h
  rw [Bool.and_eq_true, decide_eq_true_eq] at h; exact h.1
theorem RU_en {u v : ST} {q : Nat} (x : EN u v q) (hq : q ∉ pA u) {f : Nat → AE} {n : Nat} {c : Nat → CA} {m : Nat} {h : HA} (hr : RU u f n c m h) : RU v f n c m h := by
  obtain ⟨h1, h2, h3, h4, h5, h6⟩ := hr
  refine ⟨by rw [x.1]; exact h1, by rw [x.1]; exact h2, by rw [x.2.2.2.2.2.1]; exact EN_isC x hq h3, ⟨?_, ?_, ?_⟩, LCr_p (p := q) (fun a ha e => hq (e ▸ isE_in ha)) (fun a ha => EN_isE x hq ha) (by rw [x.2.2.2.2.1]) x.2.2.2.2.2.2.2.2.1 x.2.2.2.2.2.2.2.2.2 h5, CCr_p (p := q) (fun a ha _ e => hq (e ▸ isC_in ha)) (fun a ha => EN_isC x hq ha) x.2.2.2.2.2.1 (by rw [x.2.2.2.2.1]) x.2.2.2.2.2.2.2.2.1 x.2.2.2.2.2.2.2.2.2 h6⟩
  · exact RCt_same h4.1 (by rw [x.1]) (by rw [x.2.2.1]) (by rw [x.2.2.1]) (by rw [x.2.2.1]) (by rw [x.2.2.1]) (by rw [x.2.2.1])
  · exact RCm_same h4.2.1 (by rw [x.1]) (by rw [x.2.2.1]) (by rw [x.2.2.1]) (by rw [x.2.2.1]) (by rw [x.2.2.1]) (by rw [x.2.2.1]) (by rw [x.2.2.1]) (by rw [x.2.2.2.1])
  · exact RCo_same h4.2.2 rfl rfl (fun _ => rfl) (by rw [x.2.2.1]) (by rw [x.1])
