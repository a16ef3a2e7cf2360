/-! ===== making: the reference ===== -/
def rws : List Nat := [29, 30, 31, 32, 33, 34, 35, 36, 38, 39, 40, 41]
/-- scratch, and the row c of CALLERS -/
def EM (u v : ST) (c : Nat) : Prop := (∀ k, k ∉ [25] → sI v k = sI u k) ∧ (∀ k, k ∉ [43] → sL v k = sL u k) ∧ (∀ k, k ∉ [15, 24, 26, 27, 42] → ∀ j, (k ∈ rws → j ≠ c) → aI v k j = aI u k j) ∧ (∀ k, ∀ j, (k = 37 → j ≠ c) → aL v k j = aL u k j) ∧ aR v = aR u ∧ pA v = pA u ∧ pK v = pK u ∧ pI v = pI u ∧ pV v = pV u ∧ ag v = ag u
theorem EM.of {u v : ST} {c : Nat} (h : Em u v) : EM u v c :=
  ⟨h.1, h.2.1, fun k hk j _ => by rw [h.2.2.1 k hk], fun k j _ => by rw [h.2.2.2.1], h.2.2.2.2⟩
theorem EM.trans {u v w : ST} {c : Nat} (h1 : EM u v c) (h2 : EM v w c) : EM u w c := by
  obtain ⟨p1, p2, p3, p4, p5, p6, p7, p8, p9, p10⟩ := h1
  obtain ⟨r1, r2, r3, r4, r5, r6, r7, r8, r9, r10⟩ := h2
  exact ⟨fun k h => (r1 k h).trans (p1 k h), fun k h => (r2 k h).trans (p2 k h), fun k h j q => (r3 k h j q).trans (p3 k h j q), fun k j q => (r4 k j q).trans (p4 k j q), r5.trans p5, r6.trans p6, r7.trans p7, r8.trans p8, r9.trans p9, r10.trans p10⟩
theorem RMt_EM {u v : ST} {h : HA} {c : Nat} (he : EM u v c) (hr : RMt u h) : RMt v h := by
  have f : ∀ k, k ∉ [15, 24, 26, 27, 42] → k ∉ rws → aI v k = aI u k := fun k h1 h2 => funext (fun j => he.2.2.1 k h1 j (fun q => absurd q h2))
  unfold RMt at hr ⊢
  rw [he.1 0 (by decide), f 1 (by decide) (by decide), f 2 (by decide) (by decide), f 3 (by decide) (by decide), f 4 (by decide) (by decide), f 5 (by decide) (by decide)]
  exact hr
theorem RMm_EM {u v : ST} {h : HA} {c : Nat} (he : EM u v c) (hr : RMm u h) : RMm v h := by
  have f : ∀ k, k ∉ [15, 24, 26, 27, 42] → k ∉ rws → aI v k = aI u k := fun k h1 h2 => funext (fun j => he.2.2.1 k h1 j (fun q => absurd q h2))
  have g : aL v 14 = aL u 14 := funext (fun j => he.2.2.2.1 14 j (fun q => absurd q (by decide)))
  unfold RMm at hr ⊢
  rw [f 6 (by decide) (by decide), f 7 (by decide) (by decide), f 8 (by decide) (by decide), f 9 (by decide) (by decide), f 10 (by decide) (by decide), f 11 (by decide) (by decide), f 12 (by decide) (by decide), f 13 (by decide) (by decide), g]
  exact hr
/-- one write into the row c -/
theorem ww {z : ST} {c k : Nat} (hc : c < 25) (hk : k ∈ rws) (x : Int32) : ∃ v, stI z k 25 (nI c) x = some v ∧ EM z v c ∧ aI v k c = x ∧ (∀ k', k' ≠ k → aI v k' = aI z k') ∧ aL v = aL z ∧ sI v = sI z := by
  refine ⟨vI z k (upd (aI z k) c x), stI_nI hc (by decide), ⟨fun _ _ => rfl, fun _ _ => rfl, fun k' _ j hj => ?_, fun _ _ _ => rfl, rfl, rfl, rfl, rfl, rfl, rfl⟩, by rw [aI_vI, upd_rd, if_pos rfl], fun k' hk' => va_up_ne _ _ hk', rfl, rfl⟩
  by_cases e : k' = k
  · subst e; rw [aI_vI, upd_rd, if_neg (hj hk)]
  · have : aI (vI z k (upd (aI z k) c x)) k' = aI z k' := va_up_ne _ _ e
    rw [this]
theorem wwz {z : ST} {c k : Nat} (hc : c < 25) (hk : k ∈ rws) (x : Bool) : ∃ v, stZ z k 25 (nI c) (bI x) = some v ∧ EM z v c ∧ aI v k c = bI x ∧ (∀ k', k' ≠ k → aI v k' = aI z k') ∧ aL v = aL z ∧ sI v = sI z := by
  obtain ⟨v, e, r⟩ := ww (z := z) hc hk (bI x)
  refine ⟨v, ?_, r⟩
  rw [stI_nI hc (by decide)] at e
  rw [stZ_nI hc (by decide) (bI_isB x)]; exact e
theorem wwl {z : ST} {c : Nat} (hc : c < 25) (x : Int64) : ∃ v, stL z 37 25 (nI c) x = some v ∧ EM z v c ∧ aL v 37 c = x ∧ aI v = aI z ∧ sI v = sI z := by
  refine ⟨vL z 37 (vp_updL (aL z 37) c x), stL_nI hc (by decide), ⟨fun _ _ => rfl, fun _ _ => rfl, fun _ _ _ _ => rfl, fun k j hj => ?_, rfl, rfl, rfl, rfl, rfl, rfl⟩, ?_, rfl, rfl⟩
  · by_cases e : k = 37
    · subst e
      show va_up (aL z) 37 (vp_updL (aL z 37) c x) 37 j = _
      rw [va_up_self]; exact pk_uLn (hj rfl)
    · show va_up (aL z) 37 (vp_updL (aL z 37) c x) k j = _
      rw [va_up_ne _ _ e]
  · show va_up (aL z) 37 (vp_updL (aL z 37) c x) 37 c = _
    rw [va_up_self]; exact pk_uLs
def RMc (z : ST) (c : Nat) (so t n a b : Int32) (K : CK) : Prop := (aI z 29 c = so ∧ aI z 30 c = t ∧ aI z 31 c = n ∧ aI z 32 c = a ∧ aI z 33 c = b) ∧ aI z 34 c = kFi K ∧ aI z 35 c = kSe K ∧ aI z 36 c = bI (kKp K) ∧ (so = 0 → aI z 40 c = kKd K ∧ aI z 38 c = bI (kSt K)) ∧ (so = 1 → aI z 38 c = bI (kSt K) ∧ aI z 39 c = bI (kFc K)) ∧ (kKp K = true → aL z 37 c = kVl K)
/-- what stands in the row c ahead of the sorts -/
def RM0 (z : ST) (c : Nat) (so t n a b : Int32) : Prop := (aI z 29 c = so ∧ aI z 30 c = t ∧ aI z 31 c = n ∧ aI z 32 c = a ∧ aI z 33 c = b) ∧ aI z 34 c = -2 ∧ aI z 35 c = -2 ∧ aI z 36 c = 0
theorem m_head {z : ST} {c : Nat} (hc : c < 25) (so t n a b : Int32) : ∃ z9, (∀ {β : Type} (k : ST → Option β), ((stI z 29 25 (nI c) so).bind fun u1 => (stI u1 30 25 (nI c) t).bind fun u2 => (stI u2 31 25 (nI c) n).bind fun u3 => (stI u3 32 25 (nI c) a).bind fun u4 => (stI u4 33 25 (nI c) b).bind fun u5 => (stI u5 34 25 (nI c) (-2)).bind fun u6 => (stI u6 35 25 (nI c) (-2)).bind fun u7 => (stZ u7 36 25 (nI c) 0).bind fun u8 => (stI u8 41 25 (nI c) (sI u8 16)).bind k) = k z9) ∧ EM z z9 c ∧ aI z9 41 c = sI z 16 ∧ RM0 z9 c so t n a b := by
  obtain ⟨z1, e1, y1, f1, o1, -, s1⟩ := ww (z := z) (c := c) (k := 29) hc (by decide) so
  obtain ⟨z2, e2, y2, f2, o2, -, s2⟩ := ww (z := z1) (c := c) (k := 30) hc (by decide) t
  obtain ⟨z3, e3, y3, f3, o3, -, s3⟩ := ww (z := z2) (c := c) (k := 31) hc (by decide) n
  obtain ⟨z4, e4, y4, f4, o4, -, s4⟩ := ww (z := z3) (c := c) (k := 32) hc (by decide) a
  obtain ⟨z5, e5, y5, f5, o5, -, s5⟩ := ww (z := z4) (c := c) (k := 33) hc (by decide) b
  obtain ⟨z6, e6, y6, f6, o6, -, s6⟩ := ww (z := z5) (c := c) (k := 34) hc (by decide) (-2)
  obtain ⟨z7, e7, y7, f7, o7, -, s7⟩ := ww (z := z6) (c := c) (k := 35) hc (by decide) (-2)
  obtain ⟨z8, e8, y8, f8, o8, -, s8⟩ := wwz (z := z7) (c := c) (k := 36) hc (by decide) false
  obtain ⟨z9, e9, y9, f9, o9, -, s9⟩ := ww (z := z8) (c := c) (k := 41) hc (by decide) (sI z8 16)
  rw [bI_f] at e8 f8
  refine ⟨z9, fun k => ?_, (((((((y1.trans y2).trans y3).trans y4).trans y5).trans y6).trans y7).trans y8).trans y9, ?_, ⟨?_, ?_, ?_, ?_, ?_⟩, ?_, ?_, ?_⟩
  · rw [e1, Option.bind_some, e2, Option.bind_some, e3, Option.bind_some, e4, Option.bind_some, e5, Option.bind_some, e6, Option.bind_some, e7, Option.bind_some, e8, Option.bind_some, e9, Option.bind_some]
  · rw [f9, s8, s7, s6, s5, s4, s3, s2, s1]
  · rw [o9 29 (by decide), o8 29 (by decide), o7 29 (by decide), o6 29 (by decide), o5 29 (by decide), o4 29 (by decide), o3 29 (by decide), o2 29 (by decide), f1]
  · rw [o9 30 (by decide), o8 30 (by decide), o7 30 (by decide), o6 30 (by decide), o5 30 (by decide), o4 30 (by decide), o3 30 (by decide), f2]
  · rw [o9 31 (by decide), o8 31 (by decide), o7 31 (by decide), o6 31 (by decide), o5 31 (by decide), o4 31 (by decide), f3]
  · rw [o9 32 (by decide), o8 32 (by decide), o7 32 (by decide), o6 32 (by decide), o5 32 (by decide), f4]
  · rw [o9 33 (by decide), o8 33 (by decide), o7 33 (by decide), o6 33 (by decide), f5]
  · rw [o9 34 (by decide), o8 34 (by decide), o7 34 (by decide), f6]
  · rw [o9 35 (by decide), o8 35 (by decide), f7]
  · rw [o9 36 (by decide), f8]
theorem RM0_em {u v : ST} {c : Nat} {so t n a b : Int32} (he : Em u v) (h : RM0 u c so t n a b) : RM0 v c so t n a b := by
  unfold RM0 at h ⊢
  rw [he.2.2.1 29 (by decide), he.2.2.1 30 (by decide), he.2.2.1 31 (by decide), he.2.2.1 32 (by decide), he.2.2.1 33 (by decide), he.2.2.1 34 (by decide), he.2.2.1 35 (by decide), he.2.2.1 36 (by decide)]; exact h
theorem k3 : ∀ i, i < 8 → (nI i &&& 3 = 3 ↔ (!decide (nI i &&& 1 = 0) && !decide (nI i &&& 2 = 0)) = true) := by decide +kernel
