/-! ===== the rules of a house are kept: MEMBERS, MARKS ===== -/
theorem like_symm {r s : MR} (h : like r s) : like s r := ⟨h.1.symm, h.2.1.symm, fun c => ⟨(h.2.2 (h.1 ▸ c)).1.symm, (h.2.2 (h.1 ▸ c)).2.symm⟩⟩
theorem WF_B {h : HA} (hw : WF h) {m : Nat} {x : Option MR} (m60 : m < 60) (hx : ∀ r, x = some r → okR h r ∧ ∀ q s, q ≠ m → hB h q = some s → rT r = rT s → ¬ like r s) : WF (hN h, hF h, hA h, hM h, hL h, va_up (hB h) m x) := by
  obtain ⟨h1, h2, h3, h4, h5, h6, h7, h8⟩ := hw
  refine ⟨h1, h2, h3, h4, h5, fun k hk => ?_, fun k r e => ?_, fun k q r s e1 e2 et hl => ?_⟩
  · show va_up (hB h) m x k = none
    rw [va_up_ne _ _ (by omega)]; exact h6 k hk
  · have e' : va_up (hB h) m x k = some r := e
    by_cases c : k = m
    · subst c; rw [va_up_self] at e'; exact (hx r e').1
    · rw [va_up_ne _ _ c] at e'; exact h7 k r e'
  · have e1' : va_up (hB h) m x k = some r := e1
    have e2' : va_up (hB h) m x q = some s := e2
    by_cases c : k = m
    · by_cases d : q = m
      · rw [c, d]
      · rw [c, va_up_self] at e1'
        rw [va_up_ne _ _ d] at e2'
        exact absurd hl ((hx r e1').2 q s d e2' et)
    · rw [va_up_ne _ _ c] at e1'
      by_cases d : q = m
      · rw [d, va_up_self] at e2'
        exact absurd (like_symm hl) ((hx s e2').2 k r c e1' et.symm)
      · rw [va_up_ne _ _ d] at e2'
        exact h8 k q r s e1' e2' et hl
theorem WF_M {h : HA} (hw : WF h) {t : Nat} {x : Int32} (hx : isN x 4 = true) : WF (hN h, hF h, hA h, va_up (hM h) t x, hL h, hB h) := by
  obtain ⟨h1, h2, h3, h4, h5, h6, h7, h8⟩ := hw
  refine ⟨h1, h2, h3, h4, fun k hk => ?_, h6, h7, h8⟩
  show isN (va_up (hM h) t x k) 4 = true
  by_cases c : k = t
  · rw [c, va_up_self]; exact hx
  · rw [va_up_ne _ _ c]; exact h5 k hk
/-- nothing like it there: none is like it -/
theorem own_no {h : HA} {t : Nat} {im : Bool} {n a b : Int32} (e : own h t im n a b = none) {q : Nat} {s : MR} (es : hB h q = some s) (q60 : q < 60) (et : rT s = t) (em : rM s = im) (en : rN s = n) : ¬ (im = true → rA s = a ∧ rB s = b) := by
  intro hab
  have h1 := ff_none e q (Nat.zero_le _) (by omega)
  unfold isOwn at h1
  rw [es] at h1
  dsimp only at h1
  rw [et, em, en] at h1
  cases im with
  | false => simp at h1
  | true =>
    obtain ⟨x, y⟩ := hab rfl
    rw [x, y] at h1; simp at h1
