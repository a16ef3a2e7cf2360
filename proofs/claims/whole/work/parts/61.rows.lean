/-! ===== states that differ in the house's slots alone; writes ===== -/
def EX (u v : ST) (a c d : List Nat) : Prop := (∀ k, k ∉ a → sI v k = sI u k) ∧ sL v = sL u ∧ (∀ k, k ∉ c → aI v k = aI u k) ∧ (∀ k, k ∉ d → aL v k = aL u k) ∧ aR v = aR u ∧ pA v = pA u ∧ pK v = pK u ∧ pI v = pI u ∧ pV v = pV u ∧ ag v = ag u
theorem EX.refl {u : ST} {a c d : List Nat} : EX u u a c d := ⟨fun _ _ => rfl, rfl, fun _ _ => rfl, fun _ _ => rfl, rfl, rfl, rfl, rfl, rfl, rfl⟩
theorem EX.trans {u v w : ST} {a c d : List Nat} (h1 : EX u v a c d) (h2 : EX v w a c d) : EX u w a c d := by
  obtain ⟨p1, p2, p3, p4, p5, p6, p7, p8, p9, p10⟩ := h1
  obtain ⟨r1, r2, r3, r4, r5, r6, r7, r8, r9, r10⟩ := h2
  exact ⟨fun k h => (r1 k h).trans (p1 k h), r2.trans p2, fun k h => (r3 k h).trans (p3 k h), fun k h => (r4 k h).trans (p4 k h), r5.trans p5, r6.trans p6, r7.trans p7, r8.trans p8, r9.trans p9, r10.trans p10⟩
theorem EX.vI {u : ST} {a c d : List Nat} {k : Nat} {f : Nat → Int32} (h : k ∈ c) : EX u (vI u k f) a c d := ⟨fun _ _ => rfl, rfl, fun j hj => by
  show va_up (aI u) k f j = aI u j
  exact va_up_ne _ _ (fun e => hj (e ▸ h)), fun _ _ => rfl, rfl, rfl, rfl, rfl, rfl, rfl⟩
theorem EX.vL {u : ST} {a c d : List Nat} {k : Nat} {f : Nat → Int64} (h : k ∈ d) : EX u (vL u k f) a c d := ⟨fun _ _ => rfl, rfl, fun _ _ => rfl, fun j hj => by
  show va_up (aL u) k f j = aL u j
  exact va_up_ne _ _ (fun e => hj (e ▸ h)), rfl, rfl, rfl, rfl, rfl, rfl⟩
theorem EX.uI {u : ST} {a c d : List Nat} {k : Nat} {x : Int32} (h : k ∈ a) : EX u (uI u k x) a c d := ⟨fun j hj => by
  show va_up (sI u) k x j = sI u j
  exact va_up_ne _ _ (fun e => hj (e ▸ h)), rfl, fun _ _ => rfl, fun _ _ => rfl, rfl, rfl, rfl, rfl, rfl, rfl⟩
theorem wI {z : ST} {k n j : Nat} (hj : j < n) (hn : n < 2 ^ 31) (x : Int32) : ∃ v, stI z k n (nI j) x = some v ∧ aI v k = upd (aI z k) j x ∧ (∀ k', k' ≠ k → aI v k' = aI z k') ∧ sI v = sI z ∧ aL v = aL z ∧ ∀ a c d, k ∈ c → EX z v a c d :=
  ⟨vI z k (upd (aI z k) j x), stI_nI hj hn, aI_vI _ _ _, fun k' hk => va_up_ne _ _ hk, rfl, rfl, fun _ _ _ h => EX.vI h⟩
theorem wZ {z : ST} {k n j : Nat} (hj : j < n) (hn : n < 2 ^ 31) (x : Bool) : ∃ v, stZ z k n (nI j) (bI x) = some v ∧ aI v k = upd (aI z k) j (bI x) ∧ (∀ k', k' ≠ k → aI v k' = aI z k') ∧ sI v = sI z ∧ aL v = aL z ∧ ∀ a c d, k ∈ c → EX z v a c d :=
  ⟨vI z k (upd (aI z k) j (bI x)), stZ_nI hj hn (bI_isB x), aI_vI _ _ _, fun k' hk => va_up_ne _ _ hk, rfl, rfl, fun _ _ _ h => EX.vI h⟩
theorem wL {z : ST} {k n j : Nat} (hj : j < n) (hn : n < 2 ^ 31) (x : Int64) : ∃ v, stL z k n (nI j) x = some v ∧ (aL v k j = x ∧ ∀ i, i ≠ j → aL v k i = aL z k i) ∧ sI v = sI z ∧ aI v = aI z ∧ ∀ a c d, k ∈ d → EX z v a c d := by
  refine ⟨vL z k (vp_updL (aL z k) j x), stL_nI hj hn, ⟨?_, fun i hi => ?_⟩, rfl, rfl, fun _ _ _ h => EX.vL h⟩
  · show va_up (aL z) k (vp_updL (aL z k) j x) k j = _
    rw [va_up_self]; exact pk_uLs
  · show va_up (aL z) k (vp_updL (aL z k) j x) k i = _
    rw [va_up_self]; exact pk_uLn hi
theorem wS (z : ST) (k : Nat) (x : Int32) : ∃ v, uI z k x = v ∧ sI v k = x ∧ (∀ k', k' ≠ k → sI v k' = sI z k') ∧ aI v = aI z ∧ aL v = aL z ∧ ∀ a c d, k ∈ a → EX z v a c d :=
  ⟨uI z k x, rfl, sI_uI _ _ _, fun k' hk => va_up_ne _ _ hk, rfl, rfl, fun _ _ _ h => EX.uI h⟩
theorem upd_s {f : Nat → Int32} {k : Nat} {x : Int32} : upd f k x k = x := by rw [upd_rd, if_pos rfl]
theorem upd_n {f : Nat → Int32} {k j : Nat} {x : Int32} (h : j ≠ k) : upd f k x j = f j := by rw [upd_rd, if_neg h]
/-! ===== rows of TYPES, changed ===== -/
theorem RT_0 {s0 : Int32} {a1 a2 a3 a4 a5 : Nat → Int32} {h : HA} (hr : RT s0 a1 a2 a3 a4 a5 h) (f : Bool) (o : Option Nat) (c : Int32) : RT (nI (hN h + 1)) (upd a1 (hN h) (bI f)) (upd a2 (hN h) (oI o)) (upd a3 (hN h) c) (upd a4 (hN h) 0) a5 (hN h + 1, va_up (hF h) (hN h) f, va_up (hA h) (hN h) o, va_up (hM h) (hN h) c, va_up (hL h) (hN h) [], hB h) := by
  refine ⟨rfl, fun t ht => ?_⟩
  have ht' : t < hN h + 1 := ht
  show upd a1 (hN h) (bI f) t = bI (va_up (hF h) (hN h) f t) ∧ upd a2 (hN h) (oI o) t = oI (va_up (hA h) (hN h) o t) ∧ upd a3 (hN h) c t = va_up (hM h) (hN h) c t ∧ upd a4 (hN h) 0 t = nI (va_up (hL h) (hN h) [] t).length ∧ ∀ i, i < (va_up (hL h) (hN h) [] t).length → a5 (3 * t + i) = nI ((va_up (hL h) (hN h) [] t).getD i 0)
  by_cases k : t = hN h
  · subst k
    rw [upd_s, upd_s, upd_s, upd_s, va_up_self, va_up_self, va_up_self, va_up_self]
    exact ⟨rfl, rfl, rfl, rfl, fun i hi => absurd hi (by simp)⟩
  · rw [upd_n k, upd_n k, upd_n k, upd_n k, va_up_ne _ _ k, va_up_ne _ _ k, va_up_ne _ _ k, va_up_ne _ _ k]
    exact hr.2 t (by omega)
theorem RT_1 {s0 : Int32} {a1 a2 a3 a4 a5 : Nat → Int32} {h : HA} (hr : RT s0 a1 a2 a3 a4 a5 h) (i : Nat) (o : Option Nat) : RT s0 a1 (upd a2 i (oI o)) a3 a4 a5 (hN h, hF h, va_up (hA h) i o, hM h, hL h, hB h) := by
  refine ⟨hr.1, fun t ht => ?_⟩
  obtain ⟨q1, q2, q3⟩ := hr.2 t ht
  refine ⟨q1, ?_, q3⟩
  show upd a2 i (oI o) t = oI (va_up (hA h) i o t)
  by_cases k : t = i
  · subst k; rw [upd_s, va_up_self]
  · rw [upd_n k, va_up_ne _ _ k]; exact q2
theorem RT_4 {s0 : Int32} {a1 a2 a3 a4 a5 : Nat → Int32} {h : HA} (hr : RT s0 a1 a2 a3 a4 a5 h) (i : Nat) (x : Int32) : RT s0 a1 a2 (upd a3 i x) a4 a5 (hN h, hF h, hA h, va_up (hM h) i x, hL h, hB h) := by
  refine ⟨hr.1, fun t ht => ?_⟩
  obtain ⟨q1, q2, q3, q4⟩ := hr.2 t ht
  refine ⟨q1, q2, ?_, q4⟩
  show upd a3 i x t = va_up (hM h) i x t
  by_cases k : t = i
  · subst k; rw [upd_s, va_up_self]
  · rw [upd_n k, va_up_ne _ _ k]; exact q3
theorem RT_2 {s0 : Int32} {a1 a2 a3 a4 a5 : Nat → Int32} {h : HA} (hw : WF h) (hr : RT s0 a1 a2 a3 a4 a5 h) {i : Nat} (hi : i < hN h) (h3 : (hL h i).length < 3) (j : Nat) : RT s0 a1 a2 a3 (upd a4 i (nI ((hL h i).length + 1))) (upd a5 (3 * i + (hL h i).length) (nI j)) (hN h, hF h, hA h, hM h, va_up (hL h) i (hL h i ++ [j]), hB h) := by
  refine ⟨hr.1, fun t ht => ?_⟩
  have ht' : t < hN h := ht
  obtain ⟨q1, q2, q3, q4, q5⟩ := hr.2 t ht
  refine ⟨q1, q2, q3, ?_⟩
  show upd a4 i (nI ((hL h i).length + 1)) t = nI (va_up (hL h) i (hL h i ++ [j]) t).length ∧ ∀ k, k < (va_up (hL h) i (hL h i ++ [j]) t).length → upd a5 (3 * i + (hL h i).length) (nI j) (3 * t + k) = nI ((va_up (hL h) i (hL h i ++ [j]) t).getD k 0)
  by_cases k : t = i
  · subst k
    rw [upd_s, va_up_self, List.length_append, List.length_singleton]
    refine ⟨rfl, fun k hk => ?_⟩
    by_cases e : k = (hL h t).length
    · subst e
      rw [upd_s]
      simp
    · rw [upd_n (by omega), q5 k (by omega)]
      congr 1
      simp [List.getD_eq_getElem?_getD, List.getElem?_append_left (show k < (hL h t).length by omega)]
  · rw [upd_n k, va_up_ne _ _ k]
    refine ⟨q4, fun k' hk => ?_⟩
    have := (hw.2.2.1 t ht').1
    rw [upd_n (by omega)]
    exact q5 k' hk
/-- moved down by one between lo and hi -/
def shf (F : Nat → Int32) (lo hi : Nat) : Nat → Int32 := fun p => if lo ≤ p ∧ p < hi then F (p + 1) else F p
theorem shf_end {F : Nat → Int32} {lo hi : Nat} (h : hi ≤ lo) : shf F lo hi = F := by
  funext p; unfold shf; rw [if_neg (by omega)]
theorem shf_step {F : Nat → Int32} {lo hi : Nat} (h : lo < hi) : shf (upd F lo (F (lo + 1))) (lo + 1) hi = shf F lo hi := by
  funext p
  unfold shf
  by_cases c : p = lo
  · subst c
    rw [if_neg (by omega), if_pos (by omega), upd_s]
  · by_cases d : lo + 1 ≤ p ∧ p < hi
    · rw [if_pos d, if_pos (by omega), upd_n (by omega)]
    · rw [if_neg d, if_neg (by omega), upd_n c]
theorem getD_erase {l : List Nat} {b k : Nat} : (l.eraseIdx b).getD k 0 = if k < b then l.getD k 0 else l.getD (k + 1) 0 := by
  rw [List.getD_eq_getElem?_getD, List.getElem?_eraseIdx]
  by_cases c : k < b
  · rw [if_pos c, if_pos c, List.getD_eq_getElem?_getD]
  · rw [if_neg c, if_neg c, List.getD_eq_getElem?_getD]
theorem RT_3 {s0 : Int32} {a1 a2 a3 a4 a5 : Nat → Int32} {h : HA} (hw : WF h) (hr : RT s0 a1 a2 a3 a4 a5 h) {i b : Nat} (hi : i < hN h) (hb : b < (hL h i).length) : RT s0 a1 a2 a3 (upd a4 i (nI ((hL h i).length - 1))) (shf a5 (3 * i + b) (3 * i + ((hL h i).length - 1))) (hN h, hF h, hA h, hM h, va_up (hL h) i ((hL h i).eraseIdx b), hB h) := by
  refine ⟨hr.1, fun t ht => ?_⟩
  have ht' : t < hN h := ht
  obtain ⟨q1, q2, q3, q4, q5⟩ := hr.2 t ht
  refine ⟨q1, q2, q3, ?_⟩
  show upd a4 i (nI ((hL h i).length - 1)) t = nI (va_up (hL h) i ((hL h i).eraseIdx b) t).length ∧ ∀ k, k < (va_up (hL h) i ((hL h i).eraseIdx b) t).length → shf a5 (3 * i + b) (3 * i + ((hL h i).length - 1)) (3 * t + k) = nI ((va_up (hL h) i ((hL h i).eraseIdx b) t).getD k 0)
  by_cases k : t = i
  · subst k
    rw [upd_s, va_up_self, List.length_eraseIdx, if_pos hb]
    refine ⟨rfl, fun k hk => ?_⟩
    rw [getD_erase]
    unfold shf
    by_cases c : k < b
    · rw [if_pos c, if_neg (by omega)]
      exact q5 k (by omega)
    · rw [if_neg c, if_pos (by omega)]
      exact q5 (k + 1) (by omega)
  · rw [upd_n k, va_up_ne _ _ k]
    refine ⟨q4, fun k' hk => ?_⟩
    have l1 := (hw.2.2.1 t ht').1
    have l2 := (hw.2.2.1 i hi).1
    have e : shf a5 (3 * i + b) (3 * i + ((hL h i).length - 1)) (3 * t + k') = a5 (3 * t + k') := by
      unfold shf; rw [if_neg (by omega)]
    rw [e]
    exact q5 k' hk
/-! ===== rows of MEMBERS, changed ===== -/
def rowM (z : ST) (m : Nat) (x : Option MR) : Prop := match x with
  | none => aI z 6 m = 0
  | some r => aI z 6 m = 1 ∧ aI z 7 m = bI (rM r) ∧ aI z 8 m = nI (rT r) ∧ aI z 9 m = rN r ∧ aI z 10 m = rK r ∧ (if rM r = true then aI z 12 m else aI z 11 m) = rA r ∧ aI z 13 m = rB r ∧ aL z 14 m = (if rM r = true then (rV r).toInt32.toInt64 else kp (rA r) (rV r))
theorem RMm_row {z : ST} {h : HA} : RMm z h ↔ ∀ m, m < 60 → rowM z m (hB h m) := Iff.rfl
def rowC (u : ST) (m : Nat) (x : Option MR) : Prop := match x with
  | none => aI u 15 m = -2
  | some r => aI u 15 m = nI (rT r) ∧ aI u 16 m = bI (rM r) ∧ aI u 17 m = rN r ∧ aI u 18 m = rK r ∧ aI u 19 m = rA r ∧ aI u 20 m = rB r ∧ aL u 21 m = (if rM r = true then (rV r).toInt32.toInt64 else co (rA r) (rV r))
theorem RCm_row {u : ST} {h : HA} : RCm u h ↔ sI u 300 = nI (cnt h 60) ∧ ∀ m, m < 60 → rowC u m (hB h m) := Iff.rfl
theorem rowM_same {z v : ST} {m : Nat} {x : Option MR} (h : rowM z m x) (h6 : aI v 6 m = aI z 6 m) (h7 : aI v 7 m = aI z 7 m) (h8 : aI v 8 m = aI z 8 m) (h9 : aI v 9 m = aI z 9 m) (h10 : aI v 10 m = aI z 10 m) (h11 : aI v 11 m = aI z 11 m) (h12 : aI v 12 m = aI z 12 m) (h13 : aI v 13 m = aI z 13 m) (h14 : aL v 14 m = aL z 14 m) : rowM v m x := by
  unfold rowM at h ⊢
  rw [h6, h7, h8, h9, h10, h11, h12, h13, h14]; exact h
theorem rowC_same {z v : ST} {m : Nat} {x : Option MR} (h : rowC z m x) (h15 : aI v 15 m = aI z 15 m) (h16 : aI v 16 m = aI z 16 m) (h17 : aI v 17 m = aI z 17 m) (h18 : aI v 18 m = aI z 18 m) (h19 : aI v 19 m = aI z 19 m) (h20 : aI v 20 m = aI z 20 m) (h21 : aL v 21 m = aL z 21 m) : rowC v m x := by
  unfold rowC at h ⊢
  rw [h15, h16, h17, h18, h19, h20, h21]; exact h
/-- one MEMBER changes -/
theorem RMm_up {z v : ST} {h : HA} (hm : RMm z h) {m : Nat} {x : Option MR} (h6 : ∀ j, j ≠ m → aI v 6 j = aI z 6 j) (h7 : ∀ j, j ≠ m → aI v 7 j = aI z 7 j) (h8 : ∀ j, j ≠ m → aI v 8 j = aI z 8 j) (h9 : ∀ j, j ≠ m → aI v 9 j = aI z 9 j) (h10 : ∀ j, j ≠ m → aI v 10 j = aI z 10 j) (h11 : ∀ j, j ≠ m → aI v 11 j = aI z 11 j) (h12 : ∀ j, j ≠ m → aI v 12 j = aI z 12 j) (h13 : ∀ j, j ≠ m → aI v 13 j = aI z 13 j) (h14 : ∀ j, j ≠ m → aL v 14 j = aL z 14 j) (hx : rowM v m x) : RMm v (hN h, hF h, hA h, hM h, hL h, va_up (hB h) m x) := by
  refine RMm_row.mpr (fun j hj => ?_)
  show rowM v j (va_up (hB h) m x j)
  by_cases k : j = m
  · subst k; rw [va_up_self]; exact hx
  · rw [va_up_ne _ _ k]
    exact rowM_same (RMm_row.mp hm j hj) (h6 j k) (h7 j k) (h8 j k) (h9 j k) (h10 j k) (h11 j k) (h12 j k) (h13 j k) (h14 j k)
theorem RCm_up {z v : ST} {h : HA} (hm : RCm z h) {m : Nat} {x : Option MR} (hc : sI v 300 = nI (cnt (hN h, hF h, hA h, hM h, hL h, va_up (hB h) m x) 60)) (h15 : ∀ j, j ≠ m → aI v 15 j = aI z 15 j) (h16 : ∀ j, j ≠ m → aI v 16 j = aI z 16 j) (h17 : ∀ j, j ≠ m → aI v 17 j = aI z 17 j) (h18 : ∀ j, j ≠ m → aI v 18 j = aI z 18 j) (h19 : ∀ j, j ≠ m → aI v 19 j = aI z 19 j) (h20 : ∀ j, j ≠ m → aI v 20 j = aI z 20 j) (h21 : ∀ j, j ≠ m → aL v 21 j = aL z 21 j) (hx : rowC v m x) : RCm v (hN h, hF h, hA h, hM h, hL h, va_up (hB h) m x) := by
  refine RCm_row.mpr ⟨hc, fun j hj => ?_⟩
  show rowC v j (va_up (hB h) m x j)
  by_cases k : j = m
  · subst k; rw [va_up_self]; exact hx
  · rw [va_up_ne _ _ k]
    exact rowC_same ((RCm_row.mp hm).2 j hj) (h15 j k) (h16 j k) (h17 j k) (h18 j k) (h19 j k) (h20 j k) (h21 j k)
