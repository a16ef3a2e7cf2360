/-! ===== CALLERS: what they are named by, what they keep ===== -/
abbrev CK : Type := Int32 × Int32 × Int32 × Bool × Bool × Bool × Int64
def kFi (K : CK) : Int32 := K.1
def kSe (K : CK) : Int32 := K.2.1
def kKd (K : CK) : Int32 := K.2.2.1
def kSt (K : CK) : Bool := K.2.2.2.1
def kFc (K : CK) : Bool := K.2.2.2.2.1
def kKp (K : CK) : Bool := K.2.2.2.2.2.1
def kVl (K : CK) : Int64 := K.2.2.2.2.2.2
def K0 : CK := (-2, -2, 0, false, false, false, 0)
def mkG (h : HA) (t : Nat) (n : Int32) : Int32 × CK := match lkF h t n true with
  | none => (1, K0)
  | some m => match hB h m with
    | none => (1, K0)
    | some r => (0, (-2, -2, rA r, haB h (nI m) 1, false, haB h (nI m) 1 && haB h (nI m) 2, if (haB h (nI m) 1 && haB h (nI m) 2) = true then co (rA r) (rV r) else 0))
def mkC (h : HA) (t : Nat) (n a b : Int32) : Int32 × CK := if FL (fitB h t n a b) 60 = [] then (1, K0) else match nar h (fitB h t n a b) with
  | none => (2, K0)
  | some m => match hB h m with
    | none => (2, K0)
    | some r => (0, (rA r, rB r, 0, haB h (nI m) 1, hF h t, false, 0))
def mkN (h : HA) (t : Nat) : Int32 × CK := if (hF h t || !decide (hM h t &&& 1 = 0)) = true then (3, K0) else (0, K0)
def mk (h : HA) (so : Int32) (t : Nat) (n a b : Int32) : Int32 × CK := if so = 0 then mkG h t n else if so = 1 then mkC h t n a b else mkN h t
/-! the class -/
def RCc (u : ST) (p : Nat) (so t n a b : Int32) (K : CK) : Prop := isC u p = true ∧ (pI u p 0 = so ∧ pI u p 1 = t ∧ pI u p 2 = n ∧ pI u p 3 = a ∧ pI u p 4 = b) ∧ pI u p 5 = kFi K ∧ pI u p 6 = kSe K ∧ pI u p 7 = kKd K ∧ pI u p 8 = bI (kSt K) ∧ pI u p 9 = bI (kFc K) ∧ pI u p 10 = bI (kKp K) ∧ pV u p = kVl K
def EP (u v : ST) (a b c : List Nat) (p : Nat) : Prop := (∀ k, k ∉ a → sI v k = sI u k) ∧ (∀ k, k ∉ b → sL v k = sL u k) ∧ (∀ k, k ∉ c → aI v k = aI u k) ∧ aL v = aL u ∧ aR v = aR u ∧ pA v = pA u ∧ pK v = pK u ∧ ag v = ag u ∧ (∀ x, x ≠ p → pI v x = pI u x) ∧ (∀ x, x ≠ p → pV v x = pV u x)
theorem EP.of {u v : ST} {a b c : List Nat} {p : Nat} (h : E3 u v a b c) : EP u v a b c p := by
  obtain ⟨h1, h2, h3, h4, h5, h6, h7, h8, h9, h10⟩ := h
  exact ⟨h1, h2, h3, h4, h5, h6, h7, h10, fun _ _ => by rw [h8], fun _ _ => by rw [h9]⟩
theorem EP.trans {u v w : ST} {a b c : List Nat} {p : Nat} (h1 : EP u v a b c p) (h2 : EP v w a b c p) : EP u w a b c p := by
  obtain ⟨p1, p2, p3, p4, p5, p6, p7, p8, p9, p10⟩ := h1
  obtain ⟨r1, r2, r3, r4, r5, r6, r7, r8, r9, r10⟩ := h2
  exact ⟨fun k h => (r1 k h).trans (p1 k h), fun k h => (r2 k h).trans (p2 k h), fun k h => (r3 k h).trans (p3 k h), r4.trans p4, r5.trans p5, r6.trans p6, r7.trans p7, r8.trans p8, fun x h => (r9 x h).trans (p9 x h), fun x h => (r10 x h).trans (p10 x h)⟩
theorem EP.qI {u : ST} {a b c : List Nat} {p k : Nat} {v : Int32} : EP u (qI u p k v) a b c p := ⟨fun _ _ => rfl, fun _ _ => rfl, fun _ _ => rfl, rfl, rfl, rfl, rfl, rfl, fun x hx => by
  show va_up (pI u) p _ x = pI u x
  exact va_up_ne _ _ hx, fun _ _ => rfl⟩
theorem EP.qV {u : ST} {a b c : List Nat} {p : Nat} {v : Int64} : EP u (qV u p v) a b c p := ⟨fun _ _ => rfl, fun _ _ => rfl, fun _ _ => rfl, rfl, rfl, rfl, rfl, rfl, fun _ _ => rfl, fun x hx => by
  show va_up (pV u) p _ x = pV u x
  exact va_up_ne _ _ hx⟩
abbrev Ek (u v : ST) (p : Nat) : Prop := EP u v [209, 210, 402] [501] [14, 22] p
theorem RCt_ek {u v : ST} {h : HA} {p : Nat} (he : Ek u v p) (hr : RCt u h) : RCt v h := by
  unfold RCt at hr ⊢
  rw [he.1 200 (by decide), he.2.2.1 8 (by decide), he.2.2.1 9 (by decide), he.2.2.1 10 (by decide), he.2.2.1 11 (by decide), he.2.2.1 12 (by decide)]
  exact hr
theorem RCm_ek {u v : ST} {h : HA} {p : Nat} (he : Ek u v p) (hr : RCm u h) : RCm v h := by
  unfold RCm at hr ⊢
  rw [he.1 300 (by decide), he.2.2.1 15 (by decide), he.2.2.1 16 (by decide), he.2.2.1 17 (by decide), he.2.2.1 18 (by decide), he.2.2.1 19 (by decide), he.2.2.1 20 (by decide), he.2.2.2.1]
  exact hr
theorem RCo_ek {u v : ST} {h : HA} {p : Nat} (he : Ek u v p) (hr : RCo u h) : RCo v h := by
  unfold RCo at hr ⊢
  rw [he.1 207 (by decide), he.2.2.1 13 (by decide)]
  exact hr
theorem EP_isC {u v : ST} {a b c : List Nat} {p : Nat} (h : EP u v a b c p) (x : Nat) : isC v x = isC u x := by unfold isC; rw [h.2.2.2.2.2.1, h.2.2.2.2.2.2.1]
theorem pI_qI (u : ST) (p k : Nat) (v : Int32) (j : Nat) : pI (qI u p k v) p j = if j = k then v else pI u p j := by
  show va_up (pI u) p (va_up (pI u p) k v) p j = _
  rw [va_up_self]; rfl
theorem pI_qV (u : ST) (p : Nat) (v : Int64) (x : Nat) : pI (qV u p v) x = pI u x := rfl
theorem pV_qV (u : ST) (p : Nat) (v : Int64) : pV (qV u p v) p = v := by
  show va_up (pV u) p v p = v
  rw [va_up_self]
theorem pV_qI (u : ST) (p k : Nat) (v : Int32) : pV (qI u p k v) = pV u := rfl
theorem isC_qI (u : ST) (p k : Nat) (v : Int32) (x : Nat) : isC (qI u p k v) x = isC u x := rfl
theorem isC_qV (u : ST) (p : Nat) (v : Int64) (x : Nat) : isC (qV u p v) x = isC u x := rfl
theorem wcI_ok {u : ST} {p k : Nat} {x : Int32} (h : isC u p = true) : wcI u p k x = some (qI u p k x) := by rw [wcI, ck_pos h]
theorem wcZ_ok {u : ST} {p k : Nat} {x : Int32} (h : isC u p = true) (hx : isB x = true) : wcZ u p k x = some (qI u p k x) := by rw [wcZ, ck_pos h, ck_pos hx]
theorem wcV_ok {u : ST} {p : Nat} {x : Int64} (h : isC u p = true) : wcV u p x = some (qV u p x) := by rw [wcV, ck_pos h]
