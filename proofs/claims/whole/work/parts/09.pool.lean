def stE (u : ST) (k n : Nat) (i : Int32) (a : Nat) : Option ST := ck (isE u a) (stR u k n i (some a))
def stC (u : ST) (k n : Nat) (i : Int32) (a : Nat) : Option ST := ck (isC u a) (stR u k n i (some a))
theorem isE_spec {u : ST} {a : Nat} (h : isE u a = true) : a ∈ pA u ∧ pK u a = true := by simpa [isE] using h
theorem isC_spec {u : ST} {a : Nat} (h : isC u a = true) : a ∈ pA u ∧ pK u a = false := by simpa [isC] using h
theorem pF_E {u : ST} {a : Nat} (h : pK u a = true) : pF u a = .inr (1, eF u a) := by simp [pF, h]
theorem pF_C {u : ST} {a : Nat} (h : pK u a = false) : pF u a = .inr (0, cF u a) := by simp [pF, h]
theorem pF_cg {u u1 : ST} {b : Nat} (h1 : pK u1 b = pK u b) (h2 : pI u1 b = pI u b) (h3 : pV u1 b = pV u b) : pF u b = pF u1 b := by
  unfold pF eF cF
  rw [h1, h2, h3]
theorem atE {g : GP} {ad : Nat → Nat} {u : ST} {a : Nat} (h : isE u a = true) : ∃ k : Nat, (cW g ad u)[k]? = some (a, pF u a) ∧ (cW g ad u)[k]? = some (a, .inr (1, eF u a)) := by
  obtain ⟨hm, hk⟩ := isE_spec h
  obtain ⟨k, h1⟩ := va_pl_get (X := cX g ad u) (f := pF u) hm
  exact ⟨k, h1, by rw [← pF_E hk]; exact h1⟩
theorem atC {g : GP} {ad : Nat → Nat} {u : ST} {a : Nat} (h : isC u a = true) : ∃ k : Nat, (cW g ad u)[k]? = some (a, pF u a) ∧ (cW g ad u)[k]? = some (a, .inr (0, cF u a)) := by
  obtain ⟨hm, hk⟩ := isC_spec h
  obtain ⟨k, h1⟩ := va_pl_get (X := cX g ad u) (f := pF u) hm
  exact ⟨k, h1, by rw [← pF_C hk]; exact h1⟩
theorem setP {g : GP} {ad : Nat → Nat} {u u1 : ST} {A : Nat → Prop} {a k : Nat} {e : va_E} (hD : va_D A (cW g ad u)) (hm : a ∈ pA u) (hk : (cW g ad u)[k]? = some (a, pF u a)) (hX : cX g ad u1 = cX g ad u) (hL : pA u1 = pA u) (hf : ∀ b, va_up (pF u) a e b = pF u1 b) : (cW g ad u).set k (a, e) = cW g ad u1 := by
  unfold cW at hD hk ⊢
  rw [va_pl_set hD hm hk, hX, hL]
  exact congrArg (fun z => cX g ad u ++ z) (va_pl_congr hf)
theorem setE_0 {g : GP} {ad : Nat → Nat} {u : ST} {A : Nat → Prop} {a k : Nat} {v : Int32} (hD : va_D A (cW g ad u)) (h : isE u a = true) (hk : (cW g ad u)[k]? = some (a, pF u a)) : (cW g ad u).set k (a, .inr (1, (eF u a).set 0 (.int v))) = cW g ad (qI u a 0 v) := by
  obtain ⟨hm, hp⟩ := isE_spec h
  refine setP hD hm hk rfl rfl (fun b => ?_)
  by_cases hb : b = a
  · subst hb
    rw [va_up_self]
    refine Eq.trans ?_ (pF_E (u := qI u b 0 v) (a := b) hp).symm
    simp [eF, qI, qV, mkS, pI, pV, va_up]
  · rw [va_up_ne _ _ hb]
    exact pF_cg rfl (va_up_ne _ _ hb) rfl
theorem setE_1 {g : GP} {ad : Nat → Nat} {u : ST} {A : Nat → Prop} {a k : Nat} {v : Int32} (hD : va_D A (cW g ad u)) (h : isE u a = true) (hk : (cW g ad u)[k]? = some (a, pF u a)) : (cW g ad u).set k (a, .inr (1, (eF u a).set 1 (.int v))) = cW g ad (qI u a 1 v) := by
  obtain ⟨hm, hp⟩ := isE_spec h
  refine setP hD hm hk rfl rfl (fun b => ?_)
  by_cases hb : b = a
  · subst hb
    rw [va_up_self]
    refine Eq.trans ?_ (pF_E (u := qI u b 1 v) (a := b) hp).symm
    simp [eF, qI, qV, mkS, pI, pV, va_up]
  · rw [va_up_ne _ _ hb]
    exact pF_cg rfl (va_up_ne _ _ hb) rfl
theorem setE_2 {g : GP} {ad : Nat → Nat} {u : ST} {A : Nat → Prop} {a k : Nat} {v : Int32} (hD : va_D A (cW g ad u)) (h : isE u a = true) (hk : (cW g ad u)[k]? = some (a, pF u a)) : (cW g ad u).set k (a, .inr (1, (eF u a).set 2 (.int v))) = cW g ad (qI u a 2 v) := by
  obtain ⟨hm, hp⟩ := isE_spec h
  refine setP hD hm hk rfl rfl (fun b => ?_)
  by_cases hb : b = a
  · subst hb
    rw [va_up_self]
    refine Eq.trans ?_ (pF_E (u := qI u b 2 v) (a := b) hp).symm
    simp [eF, qI, qV, mkS, pI, pV, va_up]
  · rw [va_up_ne _ _ hb]
    exact pF_cg rfl (va_up_ne _ _ hb) rfl
theorem setE_3 {g : GP} {ad : Nat → Nat} {u : ST} {A : Nat → Prop} {a k : Nat} {v : Int32} (hD : va_D A (cW g ad u)) (h : isE u a = true) (hk : (cW g ad u)[k]? = some (a, pF u a)) : (cW g ad u).set k (a, .inr (1, (eF u a).set 3 (.int v))) = cW g ad (qI u a 3 v) := by
  obtain ⟨hm, hp⟩ := isE_spec h
  refine setP hD hm hk rfl rfl (fun b => ?_)
  by_cases hb : b = a
  · subst hb
    rw [va_up_self]
    refine Eq.trans ?_ (pF_E (u := qI u b 3 v) (a := b) hp).symm
    simp [eF, qI, qV, mkS, pI, pV, va_up]
  · rw [va_up_ne _ _ hb]
    exact pF_cg rfl (va_up_ne _ _ hb) rfl
theorem setE_4 {g : GP} {ad : Nat → Nat} {u : ST} {A : Nat → Prop} {a k : Nat} {v : Int32} (hD : va_D A (cW g ad u)) (h : isE u a = true) (hk : (cW g ad u)[k]? = some (a, pF u a)) : (cW g ad u).set k (a, .inr (1, (eF u a).set 4 (.int v))) = cW g ad (qI u a 4 v) := by
  obtain ⟨hm, hp⟩ := isE_spec h
  refine setP hD hm hk rfl rfl (fun b => ?_)
  by_cases hb : b = a
  · subst hb
    rw [va_up_self]
    refine Eq.trans ?_ (pF_E (u := qI u b 4 v) (a := b) hp).symm
    simp [eF, qI, qV, mkS, pI, pV, va_up]
  · rw [va_up_ne _ _ hb]
    exact pF_cg rfl (va_up_ne _ _ hb) rfl
theorem setE_5 {g : GP} {ad : Nat → Nat} {u : ST} {A : Nat → Prop} {a k : Nat} {v : Int32} (hD : va_D A (cW g ad u)) (h : isE u a = true) (hk : (cW g ad u)[k]? = some (a, pF u a)) : (cW g ad u).set k (a, .inr (1, (eF u a).set 5 (.int v))) = cW g ad (qI u a 5 v) := by
  obtain ⟨hm, hp⟩ := isE_spec h
  refine setP hD hm hk rfl rfl (fun b => ?_)
  by_cases hb : b = a
  · subst hb
    rw [va_up_self]
    refine Eq.trans ?_ (pF_E (u := qI u b 5 v) (a := b) hp).symm
    simp [eF, qI, qV, mkS, pI, pV, va_up]
  · rw [va_up_ne _ _ hb]
    exact pF_cg rfl (va_up_ne _ _ hb) rfl
theorem setE_6 {g : GP} {ad : Nat → Nat} {u : ST} {A : Nat → Prop} {a k : Nat} {v : Int64} (hD : va_D A (cW g ad u)) (h : isE u a = true) (hk : (cW g ad u)[k]? = some (a, pF u a)) : (cW g ad u).set k (a, .inr (1, (eF u a).set 6 (.long v))) = cW g ad (qV u a v) := by
  obtain ⟨hm, hp⟩ := isE_spec h
  refine setP hD hm hk rfl rfl (fun b => ?_)
  by_cases hb : b = a
  · subst hb
    rw [va_up_self]
    refine Eq.trans ?_ (pF_E (u := qV u b v) (a := b) hp).symm
    simp [eF, qI, qV, mkS, pI, pV, va_up]
  · rw [va_up_ne _ _ hb]
    exact pF_cg rfl rfl (va_up_ne _ _ hb)
theorem setC_0 {g : GP} {ad : Nat → Nat} {u : ST} {A : Nat → Prop} {a k : Nat} {v : Int32} (hD : va_D A (cW g ad u)) (h : isC u a = true) (hk : (cW g ad u)[k]? = some (a, pF u a)) : (cW g ad u).set k (a, .inr (0, (cF u a).set 0 (.int v))) = cW g ad (qI u a 0 v) := by
  obtain ⟨hm, hp⟩ := isC_spec h
  refine setP hD hm hk rfl rfl (fun b => ?_)
  by_cases hb : b = a
  · subst hb
    rw [va_up_self]
    refine Eq.trans ?_ (pF_C (u := qI u b 0 v) (a := b) hp).symm
    simp [cF, qI, qV, mkS, pI, pV, va_up]
  · rw [va_up_ne _ _ hb]
    exact pF_cg rfl (va_up_ne _ _ hb) rfl
theorem setC_1 {g : GP} {ad : Nat → Nat} {u : ST} {A : Nat → Prop} {a k : Nat} {v : Int32} (hD : va_D A (cW g ad u)) (h : isC u a = true) (hk : (cW g ad u)[k]? = some (a, pF u a)) : (cW g ad u).set k (a, .inr (0, (cF u a).set 1 (.int v))) = cW g ad (qI u a 1 v) := by
  obtain ⟨hm, hp⟩ := isC_spec h
  refine setP hD hm hk rfl rfl (fun b => ?_)
  by_cases hb : b = a
  · subst hb
    rw [va_up_self]
    refine Eq.trans ?_ (pF_C (u := qI u b 1 v) (a := b) hp).symm
    simp [cF, qI, qV, mkS, pI, pV, va_up]
  · rw [va_up_ne _ _ hb]
    exact pF_cg rfl (va_up_ne _ _ hb) rfl
theorem setC_2 {g : GP} {ad : Nat → Nat} {u : ST} {A : Nat → Prop} {a k : Nat} {v : Int32} (hD : va_D A (cW g ad u)) (h : isC u a = true) (hk : (cW g ad u)[k]? = some (a, pF u a)) : (cW g ad u).set k (a, .inr (0, (cF u a).set 2 (.int v))) = cW g ad (qI u a 2 v) := by
  obtain ⟨hm, hp⟩ := isC_spec h
  refine setP hD hm hk rfl rfl (fun b => ?_)
  by_cases hb : b = a
  · subst hb
    rw [va_up_self]
    refine Eq.trans ?_ (pF_C (u := qI u b 2 v) (a := b) hp).symm
    simp [cF, qI, qV, mkS, pI, pV, va_up]
  · rw [va_up_ne _ _ hb]
    exact pF_cg rfl (va_up_ne _ _ hb) rfl
theorem setC_3 {g : GP} {ad : Nat → Nat} {u : ST} {A : Nat → Prop} {a k : Nat} {v : Int32} (hD : va_D A (cW g ad u)) (h : isC u a = true) (hk : (cW g ad u)[k]? = some (a, pF u a)) : (cW g ad u).set k (a, .inr (0, (cF u a).set 3 (.int v))) = cW g ad (qI u a 3 v) := by
  obtain ⟨hm, hp⟩ := isC_spec h
  refine setP hD hm hk rfl rfl (fun b => ?_)
  by_cases hb : b = a
  · subst hb
    rw [va_up_self]
    refine Eq.trans ?_ (pF_C (u := qI u b 3 v) (a := b) hp).symm
    simp [cF, qI, qV, mkS, pI, pV, va_up]
  · rw [va_up_ne _ _ hb]
    exact pF_cg rfl (va_up_ne _ _ hb) rfl
theorem setC_4 {g : GP} {ad : Nat → Nat} {u : ST} {A : Nat → Prop} {a k : Nat} {v : Int32} (hD : va_D A (cW g ad u)) (h : isC u a = true) (hk : (cW g ad u)[k]? = some (a, pF u a)) : (cW g ad u).set k (a, .inr (0, (cF u a).set 4 (.int v))) = cW g ad (qI u a 4 v) := by
  obtain ⟨hm, hp⟩ := isC_spec h
  refine setP hD hm hk rfl rfl (fun b => ?_)
  by_cases hb : b = a
  · subst hb
    rw [va_up_self]
    refine Eq.trans ?_ (pF_C (u := qI u b 4 v) (a := b) hp).symm
    simp [cF, qI, qV, mkS, pI, pV, va_up]
  · rw [va_up_ne _ _ hb]
    exact pF_cg rfl (va_up_ne _ _ hb) rfl
theorem setC_5 {g : GP} {ad : Nat → Nat} {u : ST} {A : Nat → Prop} {a k : Nat} {v : Int32} (hD : va_D A (cW g ad u)) (h : isC u a = true) (hk : (cW g ad u)[k]? = some (a, pF u a)) : (cW g ad u).set k (a, .inr (0, (cF u a).set 5 (.int v))) = cW g ad (qI u a 5 v) := by
  obtain ⟨hm, hp⟩ := isC_spec h
  refine setP hD hm hk rfl rfl (fun b => ?_)
  by_cases hb : b = a
  · subst hb
    rw [va_up_self]
    refine Eq.trans ?_ (pF_C (u := qI u b 5 v) (a := b) hp).symm
    simp [cF, qI, qV, mkS, pI, pV, va_up]
  · rw [va_up_ne _ _ hb]
    exact pF_cg rfl (va_up_ne _ _ hb) rfl
theorem setC_6 {g : GP} {ad : Nat → Nat} {u : ST} {A : Nat → Prop} {a k : Nat} {v : Int32} (hD : va_D A (cW g ad u)) (h : isC u a = true) (hk : (cW g ad u)[k]? = some (a, pF u a)) : (cW g ad u).set k (a, .inr (0, (cF u a).set 6 (.int v))) = cW g ad (qI u a 6 v) := by
  obtain ⟨hm, hp⟩ := isC_spec h
  refine setP hD hm hk rfl rfl (fun b => ?_)
  by_cases hb : b = a
  · subst hb
    rw [va_up_self]
    refine Eq.trans ?_ (pF_C (u := qI u b 6 v) (a := b) hp).symm
    simp [cF, qI, qV, mkS, pI, pV, va_up]
  · rw [va_up_ne _ _ hb]
    exact pF_cg rfl (va_up_ne _ _ hb) rfl
theorem setC_7 {g : GP} {ad : Nat → Nat} {u : ST} {A : Nat → Prop} {a k : Nat} {v : Int32} (hD : va_D A (cW g ad u)) (h : isC u a = true) (hk : (cW g ad u)[k]? = some (a, pF u a)) : (cW g ad u).set k (a, .inr (0, (cF u a).set 7 (.int v))) = cW g ad (qI u a 7 v) := by
  obtain ⟨hm, hp⟩ := isC_spec h
  refine setP hD hm hk rfl rfl (fun b => ?_)
  by_cases hb : b = a
  · subst hb
    rw [va_up_self]
    refine Eq.trans ?_ (pF_C (u := qI u b 7 v) (a := b) hp).symm
    simp [cF, qI, qV, mkS, pI, pV, va_up]
  · rw [va_up_ne _ _ hb]
    exact pF_cg rfl (va_up_ne _ _ hb) rfl
theorem setC_8 {g : GP} {ad : Nat → Nat} {u : ST} {A : Nat → Prop} {a k : Nat} {v : Int32} (hD : va_D A (cW g ad u)) (h : isC u a = true) (hk : (cW g ad u)[k]? = some (a, pF u a)) : (cW g ad u).set k (a, .inr (0, (cF u a).set 8 (.int v))) = cW g ad (qI u a 8 v) := by
  obtain ⟨hm, hp⟩ := isC_spec h
  refine setP hD hm hk rfl rfl (fun b => ?_)
  by_cases hb : b = a
  · subst hb
    rw [va_up_self]
    refine Eq.trans ?_ (pF_C (u := qI u b 8 v) (a := b) hp).symm
    simp [cF, qI, qV, mkS, pI, pV, va_up]
  · rw [va_up_ne _ _ hb]
    exact pF_cg rfl (va_up_ne _ _ hb) rfl
theorem setC_9 {g : GP} {ad : Nat → Nat} {u : ST} {A : Nat → Prop} {a k : Nat} {v : Int32} (hD : va_D A (cW g ad u)) (h : isC u a = true) (hk : (cW g ad u)[k]? = some (a, pF u a)) : (cW g ad u).set k (a, .inr (0, (cF u a).set 9 (.int v))) = cW g ad (qI u a 9 v) := by
  obtain ⟨hm, hp⟩ := isC_spec h
  refine setP hD hm hk rfl rfl (fun b => ?_)
  by_cases hb : b = a
  · subst hb
    rw [va_up_self]
    refine Eq.trans ?_ (pF_C (u := qI u b 9 v) (a := b) hp).symm
    simp [cF, qI, qV, mkS, pI, pV, va_up]
  · rw [va_up_ne _ _ hb]
    exact pF_cg rfl (va_up_ne _ _ hb) rfl
theorem setC_10 {g : GP} {ad : Nat → Nat} {u : ST} {A : Nat → Prop} {a k : Nat} {v : Int32} (hD : va_D A (cW g ad u)) (h : isC u a = true) (hk : (cW g ad u)[k]? = some (a, pF u a)) : (cW g ad u).set k (a, .inr (0, (cF u a).set 10 (.int v))) = cW g ad (qI u a 10 v) := by
  obtain ⟨hm, hp⟩ := isC_spec h
  refine setP hD hm hk rfl rfl (fun b => ?_)
  by_cases hb : b = a
  · subst hb
    rw [va_up_self]
    refine Eq.trans ?_ (pF_C (u := qI u b 10 v) (a := b) hp).symm
    simp [cF, qI, qV, mkS, pI, pV, va_up]
  · rw [va_up_ne _ _ hb]
    exact pF_cg rfl (va_up_ne _ _ hb) rfl
theorem setC_11 {g : GP} {ad : Nat → Nat} {u : ST} {A : Nat → Prop} {a k : Nat} {v : Int64} (hD : va_D A (cW g ad u)) (h : isC u a = true) (hk : (cW g ad u)[k]? = some (a, pF u a)) : (cW g ad u).set k (a, .inr (0, (cF u a).set 11 (.long v))) = cW g ad (qV u a v) := by
  obtain ⟨hm, hp⟩ := isC_spec h
  refine setP hD hm hk rfl rfl (fun b => ?_)
  by_cases hb : b = a
  · subst hb
    rw [va_up_self]
    refine Eq.trans ?_ (pF_C (u := qV u b v) (a := b) hp).symm
    simp [cF, qI, qV, mkS, pI, pV, va_up]
  · rw [va_up_ne _ _ hb]
    exact pF_cg rfl rfl (va_up_ne _ _ hb)
theorem setC_12 {g : GP} {ad : Nat → Nat} {u : ST} {A : Nat → Prop} {a k : Nat} {v : Int32} (hD : va_D A (cW g ad u)) (h : isC u a = true) (hk : (cW g ad u)[k]? = some (a, pF u a)) : (cW g ad u).set k (a, .inr (0, (cF u a).set 12 (.int v))) = cW g ad (qI u a 12 v) := by
  obtain ⟨hm, hp⟩ := isC_spec h
  refine setP hD hm hk rfl rfl (fun b => ?_)
  by_cases hb : b = a
  · subst hb
    rw [va_up_self]
    refine Eq.trans ?_ (pF_C (u := qI u b 12 v) (a := b) hp).symm
    simp [cF, qI, qV, mkS, pI, pV, va_up]
  · rw [va_up_ne _ _ hb]
    exact pF_cg rfl (va_up_ne _ _ hb) rfl
section Pool
variable {p : Program} {l : Launch} {e : Env} {R : Room} {s : State} {m : MethodId} {args : Array Value} {below : List Frame} {meth : Method} {c : Code} {H : Heap} {locs : List Loc} {cells slots : Nat} {Q : State → Prop} {cc : ByteArray} {nL : Nat} {own : String} {ret : Option FieldType} {g : GP} {pc idx : Nat} {ls : Array Slot} {A : Nat → Prop} {ad : Nat → Nat} {u u1 : ST} {rest : List Value}
theorem rcP_E {a : Nat} (C : Cx p s m args meth c cc nL own ret g) (hP : va_P g.1 vwCl (cW g ad u) H) (h : isE u a = true) : ∃ cell : Cell, H[a]? = some cell ∧ cell.vm.isStatics = false ∧ s.vm.findClass RX1 = some cell.cls := by
  obtain ⟨k, -, he⟩ := atE (g := g) (ad := ad) h
  exact va_recv (q := (RX1, TX1, 7)) C.2.2.2.2.2.2.2 hP (ci := 1) rfl he
theorem gE_sort {a : Nat} {v : Int32} (C : Cx p s m args meth c cc nL own ret g) (hP : va_P g.1 vwCl (cW g ad u) H) (hv : peI u a 0 = some v) (hl : Cond.fieldLink own idx "Edits13$Edit" "sort" "I" ∈ lw_g) (hdg : decode cc pc = .ok (.getfield idx, 3)) (kk : W p l e R s m args below meth c H locs cells slots Q (F0 m (pc + 3) ls (.int v :: rest))) : W p l e R s m args below meth c H locs cells slots Q (F0 m pc ls (.ref a :: rest)) := by
  obtain ⟨h1, h2⟩ := ck_some hv
  cases h2
  obtain ⟨k, -, he⟩ := atE (g := g) (ad := ad) h1
  exact va_get (D := g.1) (ci := 1) (v := .int (pI u a 0)) (C := RX1) (T := TX1) (N := 7) C.1 C.2.1 C.2.2.2.2.1 inX1 C.2.2.2.1 C.2.2.2.2.2.2.2 hP k he rfl 0 (by decide) (C.2.2.2.2.1 _ hl) (fun _ h9 => h9) rfl hdg kk
theorem pE_sort {a : Nat} {v : Int32} (C : Cx p s m args meth c cc nL own ret g) (hP : va_P g.1 vwCl (cW g ad u) H) (hD : va_D A (cW g ad u)) (hS : va_S A s.heap H locs) (hv : weI u a 0 v = some u1) (hl : Cond.fieldLink own idx "Edits13$Edit" "sort" "I" ∈ lw_g) (hin : meth.name = "<init>") (hdecl : own = RX1) (hdg : decode cc pc = .ok (.putfield idx, 3)) (kk : ∀ (H1 : Heap) (locs1 : List Loc), va_P g.1 vwCl (cW g ad u1) H1 → va_D A (cW g ad u1) → va_S A s.heap H1 locs1 → W p l e R s m args below meth c H1 locs1 cells slots Q (F0 m (pc + 3) ls rest)) : W p l e R s m args below meth c H locs cells slots Q (F0 m pc ls (.int v :: .ref a :: rest)) := by
  obtain ⟨h1, h2⟩ := ck_some hv
  cases h2
  obtain ⟨k, hk, he⟩ := atE (g := g) (ad := ad) h1
  refine va_putF (D := g.1) (ci := 1) (v := .int v) (ty := .int) (C := RX1) (T := TX1) (N := 7) C.1 C.2.1 C.2.2.2.2.1 inX1 tyX1 tyX1_ok nmX1 C.2.2.2.1 C.2.2.2.2.2.2.2 hP hD hS k he rfl 0 (by decide) (C.2.2.2.2.1 _ hl) (fun _ h9 => h9) rfl hin (by rw [hdecl]; rfl) (by decide +kernel) rfl rfl (Nat.le_of_ble_eq_true rfl) hdg (fun H1 locs1 a1 a2 a3 => ?_)
  rw [setE_0 hD h1 hk] at a1 a2
  exact kk H1 locs1 a1 a2 a3
theorem gE_a {a : Nat} {v : Int32} (C : Cx p s m args meth c cc nL own ret g) (hP : va_P g.1 vwCl (cW g ad u) H) (hv : peI u a 1 = some v) (hl : Cond.fieldLink own idx "Edits13$Edit" "a" "I" ∈ lw_g) (hdg : decode cc pc = .ok (.getfield idx, 3)) (kk : W p l e R s m args below meth c H locs cells slots Q (F0 m (pc + 3) ls (.int v :: rest))) : W p l e R s m args below meth c H locs cells slots Q (F0 m pc ls (.ref a :: rest)) := by
  obtain ⟨h1, h2⟩ := ck_some hv
  cases h2
  obtain ⟨k, -, he⟩ := atE (g := g) (ad := ad) h1
  exact va_get (D := g.1) (ci := 1) (v := .int (pI u a 1)) (C := RX1) (T := TX1) (N := 7) C.1 C.2.1 C.2.2.2.2.1 inX1 C.2.2.2.1 C.2.2.2.2.2.2.2 hP k he rfl 1 (by decide) (C.2.2.2.2.1 _ hl) (fun _ h9 => h9) rfl hdg kk
theorem pE_a {a : Nat} {v : Int32} (C : Cx p s m args meth c cc nL own ret g) (hP : va_P g.1 vwCl (cW g ad u) H) (hD : va_D A (cW g ad u)) (hS : va_S A s.heap H locs) (hv : weI u a 1 v = some u1) (hl : Cond.fieldLink own idx "Edits13$Edit" "a" "I" ∈ lw_g) (hin : meth.name = "<init>") (hdecl : own = RX1) (hdg : decode cc pc = .ok (.putfield idx, 3)) (kk : ∀ (H1 : Heap) (locs1 : List Loc), va_P g.1 vwCl (cW g ad u1) H1 → va_D A (cW g ad u1) → va_S A s.heap H1 locs1 → W p l e R s m args below meth c H1 locs1 cells slots Q (F0 m (pc + 3) ls rest)) : W p l e R s m args below meth c H locs cells slots Q (F0 m pc ls (.int v :: .ref a :: rest)) := by
  obtain ⟨h1, h2⟩ := ck_some hv
  cases h2
  obtain ⟨k, hk, he⟩ := atE (g := g) (ad := ad) h1
  refine va_putF (D := g.1) (ci := 1) (v := .int v) (ty := .int) (C := RX1) (T := TX1) (N := 7) C.1 C.2.1 C.2.2.2.2.1 inX1 tyX1 tyX1_ok nmX1 C.2.2.2.1 C.2.2.2.2.2.2.2 hP hD hS k he rfl 1 (by decide) (C.2.2.2.2.1 _ hl) (fun _ h9 => h9) rfl hin (by rw [hdecl]; rfl) (by decide +kernel) rfl rfl (Nat.le_of_ble_eq_true rfl) hdg (fun H1 locs1 a1 a2 a3 => ?_)
  rw [setE_1 hD h1 hk] at a1 a2
  exact kk H1 locs1 a1 a2 a3
theorem gE_b {a : Nat} {v : Int32} (C : Cx p s m args meth c cc nL own ret g) (hP : va_P g.1 vwCl (cW g ad u) H) (hv : peI u a 2 = some v) (hl : Cond.fieldLink own idx "Edits13$Edit" "b" "I" ∈ lw_g) (hdg : decode cc pc = .ok (.getfield idx, 3)) (kk : W p l e R s m args below meth c H locs cells slots Q (F0 m (pc + 3) ls (.int v :: rest))) : W p l e R s m args below meth c H locs cells slots Q (F0 m pc ls (.ref a :: rest)) := by
  obtain ⟨h1, h2⟩ := ck_some hv
  cases h2
  obtain ⟨k, -, he⟩ := atE (g := g) (ad := ad) h1
  exact va_get (D := g.1) (ci := 1) (v := .int (pI u a 2)) (C := RX1) (T := TX1) (N := 7) C.1 C.2.1 C.2.2.2.2.1 inX1 C.2.2.2.1 C.2.2.2.2.2.2.2 hP k he rfl 2 (by decide) (C.2.2.2.2.1 _ hl) (fun _ h9 => h9) rfl hdg kk
theorem pE_b {a : Nat} {v : Int32} (C : Cx p s m args meth c cc nL own ret g) (hP : va_P g.1 vwCl (cW g ad u) H) (hD : va_D A (cW g ad u)) (hS : va_S A s.heap H locs) (hv : weI u a 2 v = some u1) (hl : Cond.fieldLink own idx "Edits13$Edit" "b" "I" ∈ lw_g) (hin : meth.name = "<init>") (hdecl : own = RX1) (hdg : decode cc pc = .ok (.putfield idx, 3)) (kk : ∀ (H1 : Heap) (locs1 : List Loc), va_P g.1 vwCl (cW g ad u1) H1 → va_D A (cW g ad u1) → va_S A s.heap H1 locs1 → W p l e R s m args below meth c H1 locs1 cells slots Q (F0 m (pc + 3) ls rest)) : W p l e R s m args below meth c H locs cells slots Q (F0 m pc ls (.int v :: .ref a :: rest)) := by
  obtain ⟨h1, h2⟩ := ck_some hv
  cases h2
  obtain ⟨k, hk, he⟩ := atE (g := g) (ad := ad) h1
  refine va_putF (D := g.1) (ci := 1) (v := .int v) (ty := .int) (C := RX1) (T := TX1) (N := 7) C.1 C.2.1 C.2.2.2.2.1 inX1 tyX1 tyX1_ok nmX1 C.2.2.2.1 C.2.2.2.2.2.2.2 hP hD hS k he rfl 2 (by decide) (C.2.2.2.2.1 _ hl) (fun _ h9 => h9) rfl hin (by rw [hdecl]; rfl) (by decide +kernel) rfl rfl (Nat.le_of_ble_eq_true rfl) hdg (fun H1 locs1 a1 a2 a3 => ?_)
  rw [setE_2 hD h1 hk] at a1 a2
  exact kk H1 locs1 a1 a2 a3
theorem gE_c {a : Nat} {v : Int32} (C : Cx p s m args meth c cc nL own ret g) (hP : va_P g.1 vwCl (cW g ad u) H) (hv : peI u a 3 = some v) (hl : Cond.fieldLink own idx "Edits13$Edit" "c" "I" ∈ lw_g) (hdg : decode cc pc = .ok (.getfield idx, 3)) (kk : W p l e R s m args below meth c H locs cells slots Q (F0 m (pc + 3) ls (.int v :: rest))) : W p l e R s m args below meth c H locs cells slots Q (F0 m pc ls (.ref a :: rest)) := by
  obtain ⟨h1, h2⟩ := ck_some hv
  cases h2
  obtain ⟨k, -, he⟩ := atE (g := g) (ad := ad) h1
  exact va_get (D := g.1) (ci := 1) (v := .int (pI u a 3)) (C := RX1) (T := TX1) (N := 7) C.1 C.2.1 C.2.2.2.2.1 inX1 C.2.2.2.1 C.2.2.2.2.2.2.2 hP k he rfl 3 (by decide) (C.2.2.2.2.1 _ hl) (fun _ h9 => h9) rfl hdg kk
theorem pE_c {a : Nat} {v : Int32} (C : Cx p s m args meth c cc nL own ret g) (hP : va_P g.1 vwCl (cW g ad u) H) (hD : va_D A (cW g ad u)) (hS : va_S A s.heap H locs) (hv : weI u a 3 v = some u1) (hl : Cond.fieldLink own idx "Edits13$Edit" "c" "I" ∈ lw_g) (hin : meth.name = "<init>") (hdecl : own = RX1) (hdg : decode cc pc = .ok (.putfield idx, 3)) (kk : ∀ (H1 : Heap) (locs1 : List Loc), va_P g.1 vwCl (cW g ad u1) H1 → va_D A (cW g ad u1) → va_S A s.heap H1 locs1 → W p l e R s m args below meth c H1 locs1 cells slots Q (F0 m (pc + 3) ls rest)) : W p l e R s m args below meth c H locs cells slots Q (F0 m pc ls (.int v :: .ref a :: rest)) := by
  obtain ⟨h1, h2⟩ := ck_some hv
  cases h2
  obtain ⟨k, hk, he⟩ := atE (g := g) (ad := ad) h1
  refine va_putF (D := g.1) (ci := 1) (v := .int v) (ty := .int) (C := RX1) (T := TX1) (N := 7) C.1 C.2.1 C.2.2.2.2.1 inX1 tyX1 tyX1_ok nmX1 C.2.2.2.1 C.2.2.2.2.2.2.2 hP hD hS k he rfl 3 (by decide) (C.2.2.2.2.1 _ hl) (fun _ h9 => h9) rfl hin (by rw [hdecl]; rfl) (by decide +kernel) rfl rfl (Nat.le_of_ble_eq_true rfl) hdg (fun H1 locs1 a1 a2 a3 => ?_)
  rw [setE_3 hD h1 hk] at a1 a2
  exact kk H1 locs1 a1 a2 a3
theorem gE_d {a : Nat} {v : Int32} (C : Cx p s m args meth c cc nL own ret g) (hP : va_P g.1 vwCl (cW g ad u) H) (hv : peI u a 4 = some v) (hl : Cond.fieldLink own idx "Edits13$Edit" "d" "I" ∈ lw_g) (hdg : decode cc pc = .ok (.getfield idx, 3)) (kk : W p l e R s m args below meth c H locs cells slots Q (F0 m (pc + 3) ls (.int v :: rest))) : W p l e R s m args below meth c H locs cells slots Q (F0 m pc ls (.ref a :: rest)) := by
  obtain ⟨h1, h2⟩ := ck_some hv
  cases h2
  obtain ⟨k, -, he⟩ := atE (g := g) (ad := ad) h1
  exact va_get (D := g.1) (ci := 1) (v := .int (pI u a 4)) (C := RX1) (T := TX1) (N := 7) C.1 C.2.1 C.2.2.2.2.1 inX1 C.2.2.2.1 C.2.2.2.2.2.2.2 hP k he rfl 4 (by decide) (C.2.2.2.2.1 _ hl) (fun _ h9 => h9) rfl hdg kk
theorem pE_d {a : Nat} {v : Int32} (C : Cx p s m args meth c cc nL own ret g) (hP : va_P g.1 vwCl (cW g ad u) H) (hD : va_D A (cW g ad u)) (hS : va_S A s.heap H locs) (hv : weI u a 4 v = some u1) (hl : Cond.fieldLink own idx "Edits13$Edit" "d" "I" ∈ lw_g) (hin : meth.name = "<init>") (hdecl : own = RX1) (hdg : decode cc pc = .ok (.putfield idx, 3)) (kk : ∀ (H1 : Heap) (locs1 : List Loc), va_P g.1 vwCl (cW g ad u1) H1 → va_D A (cW g ad u1) → va_S A s.heap H1 locs1 → W p l e R s m args below meth c H1 locs1 cells slots Q (F0 m (pc + 3) ls rest)) : W p l e R s m args below meth c H locs cells slots Q (F0 m pc ls (.int v :: .ref a :: rest)) := by
  obtain ⟨h1, h2⟩ := ck_some hv
  cases h2
  obtain ⟨k, hk, he⟩ := atE (g := g) (ad := ad) h1
  refine va_putF (D := g.1) (ci := 1) (v := .int v) (ty := .int) (C := RX1) (T := TX1) (N := 7) C.1 C.2.1 C.2.2.2.2.1 inX1 tyX1 tyX1_ok nmX1 C.2.2.2.1 C.2.2.2.2.2.2.2 hP hD hS k he rfl 4 (by decide) (C.2.2.2.2.1 _ hl) (fun _ h9 => h9) rfl hin (by rw [hdecl]; rfl) (by decide +kernel) rfl rfl (Nat.le_of_ble_eq_true rfl) hdg (fun H1 locs1 a1 a2 a3 => ?_)
  rw [setE_4 hD h1 hk] at a1 a2
  exact kk H1 locs1 a1 a2 a3
theorem gE_e {a : Nat} {v : Int32} (C : Cx p s m args meth c cc nL own ret g) (hP : va_P g.1 vwCl (cW g ad u) H) (hv : peI u a 5 = some v) (hl : Cond.fieldLink own idx "Edits13$Edit" "e" "I" ∈ lw_g) (hdg : decode cc pc = .ok (.getfield idx, 3)) (kk : W p l e R s m args below meth c H locs cells slots Q (F0 m (pc + 3) ls (.int v :: rest))) : W p l e R s m args below meth c H locs cells slots Q (F0 m pc ls (.ref a :: rest)) := by
  obtain ⟨h1, h2⟩ := ck_some hv
  cases h2
  obtain ⟨k, -, he⟩ := atE (g := g) (ad := ad) h1
  exact va_get (D := g.1) (ci := 1) (v := .int (pI u a 5)) (C := RX1) (T := TX1) (N := 7) C.1 C.2.1 C.2.2.2.2.1 inX1 C.2.2.2.1 C.2.2.2.2.2.2.2 hP k he rfl 5 (by decide) (C.2.2.2.2.1 _ hl) (fun _ h9 => h9) rfl hdg kk
theorem pE_e {a : Nat} {v : Int32} (C : Cx p s m args meth c cc nL own ret g) (hP : va_P g.1 vwCl (cW g ad u) H) (hD : va_D A (cW g ad u)) (hS : va_S A s.heap H locs) (hv : weI u a 5 v = some u1) (hl : Cond.fieldLink own idx "Edits13$Edit" "e" "I" ∈ lw_g) (hin : meth.name = "<init>") (hdecl : own = RX1) (hdg : decode cc pc = .ok (.putfield idx, 3)) (kk : ∀ (H1 : Heap) (locs1 : List Loc), va_P g.1 vwCl (cW g ad u1) H1 → va_D A (cW g ad u1) → va_S A s.heap H1 locs1 → W p l e R s m args below meth c H1 locs1 cells slots Q (F0 m (pc + 3) ls rest)) : W p l e R s m args below meth c H locs cells slots Q (F0 m pc ls (.int v :: .ref a :: rest)) := by
  obtain ⟨h1, h2⟩ := ck_some hv
  cases h2
  obtain ⟨k, hk, he⟩ := atE (g := g) (ad := ad) h1
  refine va_putF (D := g.1) (ci := 1) (v := .int v) (ty := .int) (C := RX1) (T := TX1) (N := 7) C.1 C.2.1 C.2.2.2.2.1 inX1 tyX1 tyX1_ok nmX1 C.2.2.2.1 C.2.2.2.2.2.2.2 hP hD hS k he rfl 5 (by decide) (C.2.2.2.2.1 _ hl) (fun _ h9 => h9) rfl hin (by rw [hdecl]; rfl) (by decide +kernel) rfl rfl (Nat.le_of_ble_eq_true rfl) hdg (fun H1 locs1 a1 a2 a3 => ?_)
  rw [setE_5 hD h1 hk] at a1 a2
  exact kk H1 locs1 a1 a2 a3
theorem gE_v {a : Nat} {v : Int64} (C : Cx p s m args meth c cc nL own ret g) (hP : va_P g.1 vwCl (cW g ad u) H) (hv : peV u a = some v) (hl : Cond.fieldLink own idx "Edits13$Edit" "v" "J" ∈ lw_g) (hdg : decode cc pc = .ok (.getfield idx, 3)) (kk : W p l e R s m args below meth c H locs cells slots Q (F0 m (pc + 3) ls (.long v :: rest))) : W p l e R s m args below meth c H locs cells slots Q (F0 m pc ls (.ref a :: rest)) := by
  obtain ⟨h1, h2⟩ := ck_some hv
  cases h2
  obtain ⟨k, -, he⟩ := atE (g := g) (ad := ad) h1
  exact va_get (D := g.1) (ci := 1) (v := .long (pV u a)) (C := RX1) (T := TX1) (N := 7) C.1 C.2.1 C.2.2.2.2.1 inX1 C.2.2.2.1 C.2.2.2.2.2.2.2 hP k he rfl 6 (by decide) (C.2.2.2.2.1 _ hl) (fun _ h9 => h9) rfl hdg kk
theorem pE_v {a : Nat} {v : Int64} (C : Cx p s m args meth c cc nL own ret g) (hP : va_P g.1 vwCl (cW g ad u) H) (hD : va_D A (cW g ad u)) (hS : va_S A s.heap H locs) (hv : weV u a v = some u1) (hl : Cond.fieldLink own idx "Edits13$Edit" "v" "J" ∈ lw_g) (hin : meth.name = "<init>") (hdecl : own = RX1) (hdg : decode cc pc = .ok (.putfield idx, 3)) (kk : ∀ (H1 : Heap) (locs1 : List Loc), va_P g.1 vwCl (cW g ad u1) H1 → va_D A (cW g ad u1) → va_S A s.heap H1 locs1 → W p l e R s m args below meth c H1 locs1 cells slots Q (F0 m (pc + 3) ls rest)) : W p l e R s m args below meth c H locs cells slots Q (F0 m pc ls (.long v :: .ref a :: rest)) := by
  obtain ⟨h1, h2⟩ := ck_some hv
  cases h2
  obtain ⟨k, hk, he⟩ := atE (g := g) (ad := ad) h1
  refine va_putF (D := g.1) (ci := 1) (v := .long v) (ty := .long) (C := RX1) (T := TX1) (N := 7) C.1 C.2.1 C.2.2.2.2.1 inX1 tyX1 tyX1_ok nmX1 C.2.2.2.1 C.2.2.2.2.2.2.2 hP hD hS k he rfl 6 (by decide) (C.2.2.2.2.1 _ hl) (fun _ h9 => h9) rfl hin (by rw [hdecl]; rfl) (by decide +kernel) rfl rfl (Nat.le_of_ble_eq_true rfl) hdg (fun H1 locs1 a1 a2 a3 => ?_)
  rw [setE_6 hD h1 hk] at a1 a2
  exact kk H1 locs1 a1 a2 a3
theorem rcP_C {a : Nat} (C : Cx p s m args meth c cc nL own ret g) (hP : va_P g.1 vwCl (cW g ad u) H) (h : isC u a = true) : ∃ cell : Cell, H[a]? = some cell ∧ cell.vm.isStatics = false ∧ s.vm.findClass RX0 = some cell.cls := by
  obtain ⟨k, -, he⟩ := atC (g := g) (ad := ad) h
  exact va_recv (q := (RX0, TX0, 13)) C.2.2.2.2.2.2.2 hP (ci := 0) rfl he
theorem gC_sort {a : Nat} {v : Int32} (C : Cx p s m args meth c cc nL own ret g) (hP : va_P g.1 vwCl (cW g ad u) H) (hv : pcI u a 0 = some v) (hl : Cond.fieldLink own idx "Edits13$Caller" "sort" "I" ∈ lw_g) (hdg : decode cc pc = .ok (.getfield idx, 3)) (kk : W p l e R s m args below meth c H locs cells slots Q (F0 m (pc + 3) ls (.int v :: rest))) : W p l e R s m args below meth c H locs cells slots Q (F0 m pc ls (.ref a :: rest)) := by
  obtain ⟨h1, h2⟩ := ck_some hv
  cases h2
  obtain ⟨k, -, he⟩ := atC (g := g) (ad := ad) h1
  exact va_get (D := g.1) (ci := 0) (v := .int (pI u a 0)) (C := RX0) (T := TX0) (N := 13) C.1 C.2.1 C.2.2.2.2.1 inX0 C.2.2.2.1 C.2.2.2.2.2.2.2 hP k he rfl 0 (by decide) (C.2.2.2.2.1 _ hl) (fun _ h9 => h9) rfl hdg kk
theorem pC_sort {a : Nat} {v : Int32} (C : Cx p s m args meth c cc nL own ret g) (hP : va_P g.1 vwCl (cW g ad u) H) (hD : va_D A (cW g ad u)) (hS : va_S A s.heap H locs) (hv : wcI u a 0 v = some u1) (hl : Cond.fieldLink own idx "Edits13$Caller" "sort" "I" ∈ lw_g) (hdg : decode cc pc = .ok (.putfield idx, 3)) (kk : ∀ (H1 : Heap) (locs1 : List Loc), va_P g.1 vwCl (cW g ad u1) H1 → va_D A (cW g ad u1) → va_S A s.heap H1 locs1 → W p l e R s m args below meth c H1 locs1 cells slots Q (F0 m (pc + 3) ls rest)) : W p l e R s m args below meth c H locs cells slots Q (F0 m pc ls (.int v :: .ref a :: rest)) := by
  obtain ⟨h1, h2⟩ := ck_some hv
  cases h2
  obtain ⟨k, hk, he⟩ := atC (g := g) (ad := ad) h1
  refine va_put (D := g.1) (ci := 0) (v := .int v) (ty := .int) (C := RX0) (T := TX0) (N := 13) C.1 C.2.1 C.2.2.2.2.1 inX0 tyX0 tyX0_ok nmX0 C.2.2.2.1 C.2.2.2.2.2.2.2 hP hD hS k he rfl 0 (by decide) (C.2.2.2.2.1 _ hl) (fun _ h9 => h9) rfl (by decide +kernel) rfl rfl (Nat.le_of_ble_eq_true rfl) hdg (fun H1 locs1 a1 a2 a3 => ?_)
  rw [setC_0 hD h1 hk] at a1 a2
  exact kk H1 locs1 a1 a2 a3
theorem gC_t {a : Nat} {v : Int32} (C : Cx p s m args meth c cc nL own ret g) (hP : va_P g.1 vwCl (cW g ad u) H) (hv : pcI u a 1 = some v) (hl : Cond.fieldLink own idx "Edits13$Caller" "t" "I" ∈ lw_g) (hdg : decode cc pc = .ok (.getfield idx, 3)) (kk : W p l e R s m args below meth c H locs cells slots Q (F0 m (pc + 3) ls (.int v :: rest))) : W p l e R s m args below meth c H locs cells slots Q (F0 m pc ls (.ref a :: rest)) := by
  obtain ⟨h1, h2⟩ := ck_some hv
  cases h2
  obtain ⟨k, -, he⟩ := atC (g := g) (ad := ad) h1
  exact va_get (D := g.1) (ci := 0) (v := .int (pI u a 1)) (C := RX0) (T := TX0) (N := 13) C.1 C.2.1 C.2.2.2.2.1 inX0 C.2.2.2.1 C.2.2.2.2.2.2.2 hP k he rfl 1 (by decide) (C.2.2.2.2.1 _ hl) (fun _ h9 => h9) rfl hdg kk
theorem pC_t {a : Nat} {v : Int32} (C : Cx p s m args meth c cc nL own ret g) (hP : va_P g.1 vwCl (cW g ad u) H) (hD : va_D A (cW g ad u)) (hS : va_S A s.heap H locs) (hv : wcI u a 1 v = some u1) (hl : Cond.fieldLink own idx "Edits13$Caller" "t" "I" ∈ lw_g) (hdg : decode cc pc = .ok (.putfield idx, 3)) (kk : ∀ (H1 : Heap) (locs1 : List Loc), va_P g.1 vwCl (cW g ad u1) H1 → va_D A (cW g ad u1) → va_S A s.heap H1 locs1 → W p l e R s m args below meth c H1 locs1 cells slots Q (F0 m (pc + 3) ls rest)) : W p l e R s m args below meth c H locs cells slots Q (F0 m pc ls (.int v :: .ref a :: rest)) := by
  obtain ⟨h1, h2⟩ := ck_some hv
  cases h2
  obtain ⟨k, hk, he⟩ := atC (g := g) (ad := ad) h1
  refine va_put (D := g.1) (ci := 0) (v := .int v) (ty := .int) (C := RX0) (T := TX0) (N := 13) C.1 C.2.1 C.2.2.2.2.1 inX0 tyX0 tyX0_ok nmX0 C.2.2.2.1 C.2.2.2.2.2.2.2 hP hD hS k he rfl 1 (by decide) (C.2.2.2.2.1 _ hl) (fun _ h9 => h9) rfl (by decide +kernel) rfl rfl (Nat.le_of_ble_eq_true rfl) hdg (fun H1 locs1 a1 a2 a3 => ?_)
  rw [setC_1 hD h1 hk] at a1 a2
  exact kk H1 locs1 a1 a2 a3
theorem gC_n {a : Nat} {v : Int32} (C : Cx p s m args meth c cc nL own ret g) (hP : va_P g.1 vwCl (cW g ad u) H) (hv : pcI u a 2 = some v) (hl : Cond.fieldLink own idx "Edits13$Caller" "n" "I" ∈ lw_g) (hdg : decode cc pc = .ok (.getfield idx, 3)) (kk : W p l e R s m args below meth c H locs cells slots Q (F0 m (pc + 3) ls (.int v :: rest))) : W p l e R s m args below meth c H locs cells slots Q (F0 m pc ls (.ref a :: rest)) := by
  obtain ⟨h1, h2⟩ := ck_some hv
  cases h2
  obtain ⟨k, -, he⟩ := atC (g := g) (ad := ad) h1
  exact va_get (D := g.1) (ci := 0) (v := .int (pI u a 2)) (C := RX0) (T := TX0) (N := 13) C.1 C.2.1 C.2.2.2.2.1 inX0 C.2.2.2.1 C.2.2.2.2.2.2.2 hP k he rfl 2 (by decide) (C.2.2.2.2.1 _ hl) (fun _ h9 => h9) rfl hdg kk
theorem pC_n {a : Nat} {v : Int32} (C : Cx p s m args meth c cc nL own ret g) (hP : va_P g.1 vwCl (cW g ad u) H) (hD : va_D A (cW g ad u)) (hS : va_S A s.heap H locs) (hv : wcI u a 2 v = some u1) (hl : Cond.fieldLink own idx "Edits13$Caller" "n" "I" ∈ lw_g) (hdg : decode cc pc = .ok (.putfield idx, 3)) (kk : ∀ (H1 : Heap) (locs1 : List Loc), va_P g.1 vwCl (cW g ad u1) H1 → va_D A (cW g ad u1) → va_S A s.heap H1 locs1 → W p l e R s m args below meth c H1 locs1 cells slots Q (F0 m (pc + 3) ls rest)) : W p l e R s m args below meth c H locs cells slots Q (F0 m pc ls (.int v :: .ref a :: rest)) := by
  obtain ⟨h1, h2⟩ := ck_some hv
  cases h2
  obtain ⟨k, hk, he⟩ := atC (g := g) (ad := ad) h1
  refine va_put (D := g.1) (ci := 0) (v := .int v) (ty := .int) (C := RX0) (T := TX0) (N := 13) C.1 C.2.1 C.2.2.2.2.1 inX0 tyX0 tyX0_ok nmX0 C.2.2.2.1 C.2.2.2.2.2.2.2 hP hD hS k he rfl 2 (by decide) (C.2.2.2.2.1 _ hl) (fun _ h9 => h9) rfl (by decide +kernel) rfl rfl (Nat.le_of_ble_eq_true rfl) hdg (fun H1 locs1 a1 a2 a3 => ?_)
  rw [setC_2 hD h1 hk] at a1 a2
  exact kk H1 locs1 a1 a2 a3
theorem gC_a {a : Nat} {v : Int32} (C : Cx p s m args meth c cc nL own ret g) (hP : va_P g.1 vwCl (cW g ad u) H) (hv : pcI u a 3 = some v) (hl : Cond.fieldLink own idx "Edits13$Caller" "a" "I" ∈ lw_g) (hdg : decode cc pc = .ok (.getfield idx, 3)) (kk : W p l e R s m args below meth c H locs cells slots Q (F0 m (pc + 3) ls (.int v :: rest))) : W p l e R s m args below meth c H locs cells slots Q (F0 m pc ls (.ref a :: rest)) := by
  obtain ⟨h1, h2⟩ := ck_some hv
  cases h2
  obtain ⟨k, -, he⟩ := atC (g := g) (ad := ad) h1
  exact va_get (D := g.1) (ci := 0) (v := .int (pI u a 3)) (C := RX0) (T := TX0) (N := 13) C.1 C.2.1 C.2.2.2.2.1 inX0 C.2.2.2.1 C.2.2.2.2.2.2.2 hP k he rfl 3 (by decide) (C.2.2.2.2.1 _ hl) (fun _ h9 => h9) rfl hdg kk
theorem pC_a {a : Nat} {v : Int32} (C : Cx p s m args meth c cc nL own ret g) (hP : va_P g.1 vwCl (cW g ad u) H) (hD : va_D A (cW g ad u)) (hS : va_S A s.heap H locs) (hv : wcI u a 3 v = some u1) (hl : Cond.fieldLink own idx "Edits13$Caller" "a" "I" ∈ lw_g) (hdg : decode cc pc = .ok (.putfield idx, 3)) (kk : ∀ (H1 : Heap) (locs1 : List Loc), va_P g.1 vwCl (cW g ad u1) H1 → va_D A (cW g ad u1) → va_S A s.heap H1 locs1 → W p l e R s m args below meth c H1 locs1 cells slots Q (F0 m (pc + 3) ls rest)) : W p l e R s m args below meth c H locs cells slots Q (F0 m pc ls (.int v :: .ref a :: rest)) := by
  obtain ⟨h1, h2⟩ := ck_some hv
  cases h2
  obtain ⟨k, hk, he⟩ := atC (g := g) (ad := ad) h1
  refine va_put (D := g.1) (ci := 0) (v := .int v) (ty := .int) (C := RX0) (T := TX0) (N := 13) C.1 C.2.1 C.2.2.2.2.1 inX0 tyX0 tyX0_ok nmX0 C.2.2.2.1 C.2.2.2.2.2.2.2 hP hD hS k he rfl 3 (by decide) (C.2.2.2.2.1 _ hl) (fun _ h9 => h9) rfl (by decide +kernel) rfl rfl (Nat.le_of_ble_eq_true rfl) hdg (fun H1 locs1 a1 a2 a3 => ?_)
  rw [setC_3 hD h1 hk] at a1 a2
  exact kk H1 locs1 a1 a2 a3
theorem gC_b {a : Nat} {v : Int32} (C : Cx p s m args meth c cc nL own ret g) (hP : va_P g.1 vwCl (cW g ad u) H) (hv : pcI u a 4 = some v) (hl : Cond.fieldLink own idx "Edits13$Caller" "b" "I" ∈ lw_g) (hdg : decode cc pc = .ok (.getfield idx, 3)) (kk : W p l e R s m args below meth c H locs cells slots Q (F0 m (pc + 3) ls (.int v :: rest))) : W p l e R s m args below meth c H locs cells slots Q (F0 m pc ls (.ref a :: rest)) := by
  obtain ⟨h1, h2⟩ := ck_some hv
  cases h2
  obtain ⟨k, -, he⟩ := atC (g := g) (ad := ad) h1
  exact va_get (D := g.1) (ci := 0) (v := .int (pI u a 4)) (C := RX0) (T := TX0) (N := 13) C.1 C.2.1 C.2.2.2.2.1 inX0 C.2.2.2.1 C.2.2.2.2.2.2.2 hP k he rfl 4 (by decide) (C.2.2.2.2.1 _ hl) (fun _ h9 => h9) rfl hdg kk
theorem pC_b {a : Nat} {v : Int32} (C : Cx p s m args meth c cc nL own ret g) (hP : va_P g.1 vwCl (cW g ad u) H) (hD : va_D A (cW g ad u)) (hS : va_S A s.heap H locs) (hv : wcI u a 4 v = some u1) (hl : Cond.fieldLink own idx "Edits13$Caller" "b" "I" ∈ lw_g) (hdg : decode cc pc = .ok (.putfield idx, 3)) (kk : ∀ (H1 : Heap) (locs1 : List Loc), va_P g.1 vwCl (cW g ad u1) H1 → va_D A (cW g ad u1) → va_S A s.heap H1 locs1 → W p l e R s m args below meth c H1 locs1 cells slots Q (F0 m (pc + 3) ls rest)) : W p l e R s m args below meth c H locs cells slots Q (F0 m pc ls (.int v :: .ref a :: rest)) := by
  obtain ⟨h1, h2⟩ := ck_some hv
  cases h2
  obtain ⟨k, hk, he⟩ := atC (g := g) (ad := ad) h1
  refine va_put (D := g.1) (ci := 0) (v := .int v) (ty := .int) (C := RX0) (T := TX0) (N := 13) C.1 C.2.1 C.2.2.2.2.1 inX0 tyX0 tyX0_ok nmX0 C.2.2.2.1 C.2.2.2.2.2.2.2 hP hD hS k he rfl 4 (by decide) (C.2.2.2.2.1 _ hl) (fun _ h9 => h9) rfl (by decide +kernel) rfl rfl (Nat.le_of_ble_eq_true rfl) hdg (fun H1 locs1 a1 a2 a3 => ?_)
  rw [setC_4 hD h1 hk] at a1 a2
  exact kk H1 locs1 a1 a2 a3
theorem gC_first {a : Nat} {v : Int32} (C : Cx p s m args meth c cc nL own ret g) (hP : va_P g.1 vwCl (cW g ad u) H) (hv : pcI u a 5 = some v) (hl : Cond.fieldLink own idx "Edits13$Caller" "first" "I" ∈ lw_g) (hdg : decode cc pc = .ok (.getfield idx, 3)) (kk : W p l e R s m args below meth c H locs cells slots Q (F0 m (pc + 3) ls (.int v :: rest))) : W p l e R s m args below meth c H locs cells slots Q (F0 m pc ls (.ref a :: rest)) := by
  obtain ⟨h1, h2⟩ := ck_some hv
  cases h2
  obtain ⟨k, -, he⟩ := atC (g := g) (ad := ad) h1
  exact va_get (D := g.1) (ci := 0) (v := .int (pI u a 5)) (C := RX0) (T := TX0) (N := 13) C.1 C.2.1 C.2.2.2.2.1 inX0 C.2.2.2.1 C.2.2.2.2.2.2.2 hP k he rfl 5 (by decide) (C.2.2.2.2.1 _ hl) (fun _ h9 => h9) rfl hdg kk
theorem pC_first {a : Nat} {v : Int32} (C : Cx p s m args meth c cc nL own ret g) (hP : va_P g.1 vwCl (cW g ad u) H) (hD : va_D A (cW g ad u)) (hS : va_S A s.heap H locs) (hv : wcI u a 5 v = some u1) (hl : Cond.fieldLink own idx "Edits13$Caller" "first" "I" ∈ lw_g) (hdg : decode cc pc = .ok (.putfield idx, 3)) (kk : ∀ (H1 : Heap) (locs1 : List Loc), va_P g.1 vwCl (cW g ad u1) H1 → va_D A (cW g ad u1) → va_S A s.heap H1 locs1 → W p l e R s m args below meth c H1 locs1 cells slots Q (F0 m (pc + 3) ls rest)) : W p l e R s m args below meth c H locs cells slots Q (F0 m pc ls (.int v :: .ref a :: rest)) := by
  obtain ⟨h1, h2⟩ := ck_some hv
  cases h2
  obtain ⟨k, hk, he⟩ := atC (g := g) (ad := ad) h1
  refine va_put (D := g.1) (ci := 0) (v := .int v) (ty := .int) (C := RX0) (T := TX0) (N := 13) C.1 C.2.1 C.2.2.2.2.1 inX0 tyX0 tyX0_ok nmX0 C.2.2.2.1 C.2.2.2.2.2.2.2 hP hD hS k he rfl 5 (by decide) (C.2.2.2.2.1 _ hl) (fun _ h9 => h9) rfl (by decide +kernel) rfl rfl (Nat.le_of_ble_eq_true rfl) hdg (fun H1 locs1 a1 a2 a3 => ?_)
  rw [setC_5 hD h1 hk] at a1 a2
  exact kk H1 locs1 a1 a2 a3
theorem gC_second {a : Nat} {v : Int32} (C : Cx p s m args meth c cc nL own ret g) (hP : va_P g.1 vwCl (cW g ad u) H) (hv : pcI u a 6 = some v) (hl : Cond.fieldLink own idx "Edits13$Caller" "second" "I" ∈ lw_g) (hdg : decode cc pc = .ok (.getfield idx, 3)) (kk : W p l e R s m args below meth c H locs cells slots Q (F0 m (pc + 3) ls (.int v :: rest))) : W p l e R s m args below meth c H locs cells slots Q (F0 m pc ls (.ref a :: rest)) := by
  obtain ⟨h1, h2⟩ := ck_some hv
  cases h2
  obtain ⟨k, -, he⟩ := atC (g := g) (ad := ad) h1
  exact va_get (D := g.1) (ci := 0) (v := .int (pI u a 6)) (C := RX0) (T := TX0) (N := 13) C.1 C.2.1 C.2.2.2.2.1 inX0 C.2.2.2.1 C.2.2.2.2.2.2.2 hP k he rfl 6 (by decide) (C.2.2.2.2.1 _ hl) (fun _ h9 => h9) rfl hdg kk
theorem pC_second {a : Nat} {v : Int32} (C : Cx p s m args meth c cc nL own ret g) (hP : va_P g.1 vwCl (cW g ad u) H) (hD : va_D A (cW g ad u)) (hS : va_S A s.heap H locs) (hv : wcI u a 6 v = some u1) (hl : Cond.fieldLink own idx "Edits13$Caller" "second" "I" ∈ lw_g) (hdg : decode cc pc = .ok (.putfield idx, 3)) (kk : ∀ (H1 : Heap) (locs1 : List Loc), va_P g.1 vwCl (cW g ad u1) H1 → va_D A (cW g ad u1) → va_S A s.heap H1 locs1 → W p l e R s m args below meth c H1 locs1 cells slots Q (F0 m (pc + 3) ls rest)) : W p l e R s m args below meth c H locs cells slots Q (F0 m pc ls (.int v :: .ref a :: rest)) := by
  obtain ⟨h1, h2⟩ := ck_some hv
  cases h2
  obtain ⟨k, hk, he⟩ := atC (g := g) (ad := ad) h1
  refine va_put (D := g.1) (ci := 0) (v := .int v) (ty := .int) (C := RX0) (T := TX0) (N := 13) C.1 C.2.1 C.2.2.2.2.1 inX0 tyX0 tyX0_ok nmX0 C.2.2.2.1 C.2.2.2.2.2.2.2 hP hD hS k he rfl 6 (by decide) (C.2.2.2.2.1 _ hl) (fun _ h9 => h9) rfl (by decide +kernel) rfl rfl (Nat.le_of_ble_eq_true rfl) hdg (fun H1 locs1 a1 a2 a3 => ?_)
  rw [setC_6 hD h1 hk] at a1 a2
  exact kk H1 locs1 a1 a2 a3
theorem gC_kind {a : Nat} {v : Int32} (C : Cx p s m args meth c cc nL own ret g) (hP : va_P g.1 vwCl (cW g ad u) H) (hv : pcI u a 7 = some v) (hl : Cond.fieldLink own idx "Edits13$Caller" "kind" "I" ∈ lw_g) (hdg : decode cc pc = .ok (.getfield idx, 3)) (kk : W p l e R s m args below meth c H locs cells slots Q (F0 m (pc + 3) ls (.int v :: rest))) : W p l e R s m args below meth c H locs cells slots Q (F0 m pc ls (.ref a :: rest)) := by
  obtain ⟨h1, h2⟩ := ck_some hv
  cases h2
  obtain ⟨k, -, he⟩ := atC (g := g) (ad := ad) h1
  exact va_get (D := g.1) (ci := 0) (v := .int (pI u a 7)) (C := RX0) (T := TX0) (N := 13) C.1 C.2.1 C.2.2.2.2.1 inX0 C.2.2.2.1 C.2.2.2.2.2.2.2 hP k he rfl 7 (by decide) (C.2.2.2.2.1 _ hl) (fun _ h9 => h9) rfl hdg kk
theorem pC_kind {a : Nat} {v : Int32} (C : Cx p s m args meth c cc nL own ret g) (hP : va_P g.1 vwCl (cW g ad u) H) (hD : va_D A (cW g ad u)) (hS : va_S A s.heap H locs) (hv : wcI u a 7 v = some u1) (hl : Cond.fieldLink own idx "Edits13$Caller" "kind" "I" ∈ lw_g) (hdg : decode cc pc = .ok (.putfield idx, 3)) (kk : ∀ (H1 : Heap) (locs1 : List Loc), va_P g.1 vwCl (cW g ad u1) H1 → va_D A (cW g ad u1) → va_S A s.heap H1 locs1 → W p l e R s m args below meth c H1 locs1 cells slots Q (F0 m (pc + 3) ls rest)) : W p l e R s m args below meth c H locs cells slots Q (F0 m pc ls (.int v :: .ref a :: rest)) := by
  obtain ⟨h1, h2⟩ := ck_some hv
  cases h2
  obtain ⟨k, hk, he⟩ := atC (g := g) (ad := ad) h1
  refine va_put (D := g.1) (ci := 0) (v := .int v) (ty := .int) (C := RX0) (T := TX0) (N := 13) C.1 C.2.1 C.2.2.2.2.1 inX0 tyX0 tyX0_ok nmX0 C.2.2.2.1 C.2.2.2.2.2.2.2 hP hD hS k he rfl 7 (by decide) (C.2.2.2.2.1 _ hl) (fun _ h9 => h9) rfl (by decide +kernel) rfl rfl (Nat.le_of_ble_eq_true rfl) hdg (fun H1 locs1 a1 a2 a3 => ?_)
  rw [setC_7 hD h1 hk] at a1 a2
  exact kk H1 locs1 a1 a2 a3
theorem gC_isStatic {a : Nat} {v : Int32} (C : Cx p s m args meth c cc nL own ret g) (hP : va_P g.1 vwCl (cW g ad u) H) (hv : pcI u a 8 = some v) (hl : Cond.fieldLink own idx "Edits13$Caller" "isStatic" "Z" ∈ lw_g) (hdg : decode cc pc = .ok (.getfield idx, 3)) (kk : W p l e R s m args below meth c H locs cells slots Q (F0 m (pc + 3) ls (.int v :: rest))) : W p l e R s m args below meth c H locs cells slots Q (F0 m pc ls (.ref a :: rest)) := by
  obtain ⟨h1, h2⟩ := ck_some hv
  cases h2
  obtain ⟨k, -, he⟩ := atC (g := g) (ad := ad) h1
  exact va_get (D := g.1) (ci := 0) (v := .int (pI u a 8)) (C := RX0) (T := TX0) (N := 13) C.1 C.2.1 C.2.2.2.2.1 inX0 C.2.2.2.1 C.2.2.2.2.2.2.2 hP k he rfl 8 (by decide) (C.2.2.2.2.1 _ hl) (fun _ h9 => h9) rfl hdg kk
theorem pC_isStatic {a : Nat} {v : Int32} (C : Cx p s m args meth c cc nL own ret g) (hP : va_P g.1 vwCl (cW g ad u) H) (hD : va_D A (cW g ad u)) (hS : va_S A s.heap H locs) (hv : wcZ u a 8 v = some u1) (hl : Cond.fieldLink own idx "Edits13$Caller" "isStatic" "Z" ∈ lw_g) (hdg : decode cc pc = .ok (.putfield idx, 3)) (kk : ∀ (H1 : Heap) (locs1 : List Loc), va_P g.1 vwCl (cW g ad u1) H1 → va_D A (cW g ad u1) → va_S A s.heap H1 locs1 → W p l e R s m args below meth c H1 locs1 cells slots Q (F0 m (pc + 3) ls rest)) : W p l e R s m args below meth c H locs cells slots Q (F0 m pc ls (.int v :: .ref a :: rest)) := by
  obtain ⟨h1, h2⟩ := ck_some hv
  obtain ⟨h3, h2⟩ := ck_some h2
  cases h2
  obtain ⟨k, hk, he⟩ := atC (g := g) (ad := ad) h1
  refine va_put (D := g.1) (ci := 0) (v := .int v) (ty := .boolean) (C := RX0) (T := TX0) (N := 13) C.1 C.2.1 C.2.2.2.2.1 inX0 tyX0 tyX0_ok nmX0 C.2.2.2.1 C.2.2.2.2.2.2.2 hP hD hS k he rfl 8 (by decide) (C.2.2.2.2.1 _ hl) (fun _ h9 => h9) rfl (by decide +kernel) (isB_nar h3) (isB_fit h3) (Nat.le_of_ble_eq_true rfl) hdg (fun H1 locs1 a1 a2 a3 => ?_)
  rw [setC_8 hD h1 hk] at a1 a2
  exact kk H1 locs1 a1 a2 a3
theorem gC_onFace {a : Nat} {v : Int32} (C : Cx p s m args meth c cc nL own ret g) (hP : va_P g.1 vwCl (cW g ad u) H) (hv : pcI u a 9 = some v) (hl : Cond.fieldLink own idx "Edits13$Caller" "onFace" "Z" ∈ lw_g) (hdg : decode cc pc = .ok (.getfield idx, 3)) (kk : W p l e R s m args below meth c H locs cells slots Q (F0 m (pc + 3) ls (.int v :: rest))) : W p l e R s m args below meth c H locs cells slots Q (F0 m pc ls (.ref a :: rest)) := by
  obtain ⟨h1, h2⟩ := ck_some hv
  cases h2
  obtain ⟨k, -, he⟩ := atC (g := g) (ad := ad) h1
  exact va_get (D := g.1) (ci := 0) (v := .int (pI u a 9)) (C := RX0) (T := TX0) (N := 13) C.1 C.2.1 C.2.2.2.2.1 inX0 C.2.2.2.1 C.2.2.2.2.2.2.2 hP k he rfl 9 (by decide) (C.2.2.2.2.1 _ hl) (fun _ h9 => h9) rfl hdg kk
theorem pC_onFace {a : Nat} {v : Int32} (C : Cx p s m args meth c cc nL own ret g) (hP : va_P g.1 vwCl (cW g ad u) H) (hD : va_D A (cW g ad u)) (hS : va_S A s.heap H locs) (hv : wcZ u a 9 v = some u1) (hl : Cond.fieldLink own idx "Edits13$Caller" "onFace" "Z" ∈ lw_g) (hdg : decode cc pc = .ok (.putfield idx, 3)) (kk : ∀ (H1 : Heap) (locs1 : List Loc), va_P g.1 vwCl (cW g ad u1) H1 → va_D A (cW g ad u1) → va_S A s.heap H1 locs1 → W p l e R s m args below meth c H1 locs1 cells slots Q (F0 m (pc + 3) ls rest)) : W p l e R s m args below meth c H locs cells slots Q (F0 m pc ls (.int v :: .ref a :: rest)) := by
  obtain ⟨h1, h2⟩ := ck_some hv
  obtain ⟨h3, h2⟩ := ck_some h2
  cases h2
  obtain ⟨k, hk, he⟩ := atC (g := g) (ad := ad) h1
  refine va_put (D := g.1) (ci := 0) (v := .int v) (ty := .boolean) (C := RX0) (T := TX0) (N := 13) C.1 C.2.1 C.2.2.2.2.1 inX0 tyX0 tyX0_ok nmX0 C.2.2.2.1 C.2.2.2.2.2.2.2 hP hD hS k he rfl 9 (by decide) (C.2.2.2.2.1 _ hl) (fun _ h9 => h9) rfl (by decide +kernel) (isB_nar h3) (isB_fit h3) (Nat.le_of_ble_eq_true rfl) hdg (fun H1 locs1 a1 a2 a3 => ?_)
  rw [setC_9 hD h1 hk] at a1 a2
  exact kk H1 locs1 a1 a2 a3
theorem gC_keeps {a : Nat} {v : Int32} (C : Cx p s m args meth c cc nL own ret g) (hP : va_P g.1 vwCl (cW g ad u) H) (hv : pcI u a 10 = some v) (hl : Cond.fieldLink own idx "Edits13$Caller" "keeps" "Z" ∈ lw_g) (hdg : decode cc pc = .ok (.getfield idx, 3)) (kk : W p l e R s m args below meth c H locs cells slots Q (F0 m (pc + 3) ls (.int v :: rest))) : W p l e R s m args below meth c H locs cells slots Q (F0 m pc ls (.ref a :: rest)) := by
  obtain ⟨h1, h2⟩ := ck_some hv
  cases h2
  obtain ⟨k, -, he⟩ := atC (g := g) (ad := ad) h1
  exact va_get (D := g.1) (ci := 0) (v := .int (pI u a 10)) (C := RX0) (T := TX0) (N := 13) C.1 C.2.1 C.2.2.2.2.1 inX0 C.2.2.2.1 C.2.2.2.2.2.2.2 hP k he rfl 10 (by decide) (C.2.2.2.2.1 _ hl) (fun _ h9 => h9) rfl hdg kk
theorem pC_keeps {a : Nat} {v : Int32} (C : Cx p s m args meth c cc nL own ret g) (hP : va_P g.1 vwCl (cW g ad u) H) (hD : va_D A (cW g ad u)) (hS : va_S A s.heap H locs) (hv : wcZ u a 10 v = some u1) (hl : Cond.fieldLink own idx "Edits13$Caller" "keeps" "Z" ∈ lw_g) (hdg : decode cc pc = .ok (.putfield idx, 3)) (kk : ∀ (H1 : Heap) (locs1 : List Loc), va_P g.1 vwCl (cW g ad u1) H1 → va_D A (cW g ad u1) → va_S A s.heap H1 locs1 → W p l e R s m args below meth c H1 locs1 cells slots Q (F0 m (pc + 3) ls rest)) : W p l e R s m args below meth c H locs cells slots Q (F0 m pc ls (.int v :: .ref a :: rest)) := by
  obtain ⟨h1, h2⟩ := ck_some hv
  obtain ⟨h3, h2⟩ := ck_some h2
  cases h2
  obtain ⟨k, hk, he⟩ := atC (g := g) (ad := ad) h1
  refine va_put (D := g.1) (ci := 0) (v := .int v) (ty := .boolean) (C := RX0) (T := TX0) (N := 13) C.1 C.2.1 C.2.2.2.2.1 inX0 tyX0 tyX0_ok nmX0 C.2.2.2.1 C.2.2.2.2.2.2.2 hP hD hS k he rfl 10 (by decide) (C.2.2.2.2.1 _ hl) (fun _ h9 => h9) rfl (by decide +kernel) (isB_nar h3) (isB_fit h3) (Nat.le_of_ble_eq_true rfl) hdg (fun H1 locs1 a1 a2 a3 => ?_)
  rw [setC_10 hD h1 hk] at a1 a2
  exact kk H1 locs1 a1 a2 a3
theorem gC_kept {a : Nat} {v : Int64} (C : Cx p s m args meth c cc nL own ret g) (hP : va_P g.1 vwCl (cW g ad u) H) (hv : pcV u a = some v) (hl : Cond.fieldLink own idx "Edits13$Caller" "kept" "J" ∈ lw_g) (hdg : decode cc pc = .ok (.getfield idx, 3)) (kk : W p l e R s m args below meth c H locs cells slots Q (F0 m (pc + 3) ls (.long v :: rest))) : W p l e R s m args below meth c H locs cells slots Q (F0 m pc ls (.ref a :: rest)) := by
  obtain ⟨h1, h2⟩ := ck_some hv
  cases h2
  obtain ⟨k, -, he⟩ := atC (g := g) (ad := ad) h1
  exact va_get (D := g.1) (ci := 0) (v := .long (pV u a)) (C := RX0) (T := TX0) (N := 13) C.1 C.2.1 C.2.2.2.2.1 inX0 C.2.2.2.1 C.2.2.2.2.2.2.2 hP k he rfl 11 (by decide) (C.2.2.2.2.1 _ hl) (fun _ h9 => h9) rfl hdg kk
theorem pC_kept {a : Nat} {v : Int64} (C : Cx p s m args meth c cc nL own ret g) (hP : va_P g.1 vwCl (cW g ad u) H) (hD : va_D A (cW g ad u)) (hS : va_S A s.heap H locs) (hv : wcV u a v = some u1) (hl : Cond.fieldLink own idx "Edits13$Caller" "kept" "J" ∈ lw_g) (hdg : decode cc pc = .ok (.putfield idx, 3)) (kk : ∀ (H1 : Heap) (locs1 : List Loc), va_P g.1 vwCl (cW g ad u1) H1 → va_D A (cW g ad u1) → va_S A s.heap H1 locs1 → W p l e R s m args below meth c H1 locs1 cells slots Q (F0 m (pc + 3) ls rest)) : W p l e R s m args below meth c H locs cells slots Q (F0 m pc ls (.long v :: .ref a :: rest)) := by
  obtain ⟨h1, h2⟩ := ck_some hv
  cases h2
  obtain ⟨k, hk, he⟩ := atC (g := g) (ad := ad) h1
  refine va_put (D := g.1) (ci := 0) (v := .long v) (ty := .long) (C := RX0) (T := TX0) (N := 13) C.1 C.2.1 C.2.2.2.2.1 inX0 tyX0 tyX0_ok nmX0 C.2.2.2.1 C.2.2.2.2.2.2.2 hP hD hS k he rfl 11 (by decide) (C.2.2.2.2.1 _ hl) (fun _ h9 => h9) rfl (by decide +kernel) rfl rfl (Nat.le_of_ble_eq_true rfl) hdg (fun H1 locs1 a1 a2 a3 => ?_)
  rw [setC_11 hD h1 hk] at a1 a2
  exact kk H1 locs1 a1 a2 a3
theorem gC_made {a : Nat} {v : Int32} (C : Cx p s m args meth c cc nL own ret g) (hP : va_P g.1 vwCl (cW g ad u) H) (hv : pcI u a 12 = some v) (hl : Cond.fieldLink own idx "Edits13$Caller" "made" "I" ∈ lw_g) (hdg : decode cc pc = .ok (.getfield idx, 3)) (kk : W p l e R s m args below meth c H locs cells slots Q (F0 m (pc + 3) ls (.int v :: rest))) : W p l e R s m args below meth c H locs cells slots Q (F0 m pc ls (.ref a :: rest)) := by
  obtain ⟨h1, h2⟩ := ck_some hv
  cases h2
  obtain ⟨k, -, he⟩ := atC (g := g) (ad := ad) h1
  exact va_get (D := g.1) (ci := 0) (v := .int (pI u a 12)) (C := RX0) (T := TX0) (N := 13) C.1 C.2.1 C.2.2.2.2.1 inX0 C.2.2.2.1 C.2.2.2.2.2.2.2 hP k he rfl 12 (by decide) (C.2.2.2.2.1 _ hl) (fun _ h9 => h9) rfl hdg kk
theorem pC_made {a : Nat} {v : Int32} (C : Cx p s m args meth c cc nL own ret g) (hP : va_P g.1 vwCl (cW g ad u) H) (hD : va_D A (cW g ad u)) (hS : va_S A s.heap H locs) (hv : wcI u a 12 v = some u1) (hl : Cond.fieldLink own idx "Edits13$Caller" "made" "I" ∈ lw_g) (hdg : decode cc pc = .ok (.putfield idx, 3)) (kk : ∀ (H1 : Heap) (locs1 : List Loc), va_P g.1 vwCl (cW g ad u1) H1 → va_D A (cW g ad u1) → va_S A s.heap H1 locs1 → W p l e R s m args below meth c H1 locs1 cells slots Q (F0 m (pc + 3) ls rest)) : W p l e R s m args below meth c H locs cells slots Q (F0 m pc ls (.int v :: .ref a :: rest)) := by
  obtain ⟨h1, h2⟩ := ck_some hv
  cases h2
  obtain ⟨k, hk, he⟩ := atC (g := g) (ad := ad) h1
  refine va_put (D := g.1) (ci := 0) (v := .int v) (ty := .int) (C := RX0) (T := TX0) (N := 13) C.1 C.2.1 C.2.2.2.2.1 inX0 tyX0 tyX0_ok nmX0 C.2.2.2.1 C.2.2.2.2.2.2.2 hP hD hS k he rfl 12 (by decide) (C.2.2.2.2.1 _ hl) (fun _ h9 => h9) rfl (by decide +kernel) rfl rfl (Nat.le_of_ble_eq_true rfl) hdg (fun H1 locs1 a1 a2 a3 => ?_)
  rw [setC_12 hD h1 hk] at a1 a2
  exact kk H1 locs1 a1 a2 a3
theorem stcR_6 {i : Int32} {a : Nat} (C : Cx p s m args meth c cc nL own ret g) (hP : va_P g.1 vwCl (cW g ad u) H) (hD : va_D A (cW g ad u)) (hS : va_S A s.heap H locs) (hv : stE u 6 120 i a = some u1) (hdg : decode cc pc = .ok (.aastore, 1)) (kk : ∀ (H1 : Heap) (locs1 : List Loc), va_P g.1 vwCl (cW g ad u1) H1 → va_D A (cW g ad u1) → va_S A s.heap H1 locs1 → W p l e R s m args below meth c H1 locs1 cells slots Q (F0 m (pc + 1) ls rest)) : W p l e R s m args below meth c H locs cells slots Q (F0 m pc ls (.ref a :: .int i :: .ref (ad 6) :: rest)) := by
  obtain ⟨h0, hv⟩ := ck_some hv
  obtain ⟨h1, h2⟩ := ck_some hv
  cases h2
  obtain ⟨k, -, he⟩ := atE (g := g) (ad := ad) h0
  exact va_astq (r := (RX1, TX1, 7)) C.1 C.2.1 C.2.2.2.2.2.2.2 hP hD hS 6 3 k 1 cW_at6 rfl he rfl (vin_in h1) hdg kk
theorem stcN_6 {i : Int32} (C : Cx p s m args meth c cc nL own ret g) (hP : va_P g.1 vwCl (cW g ad u) H) (hD : va_D A (cW g ad u)) (hS : va_S A s.heap H locs) (hv : stR u 6 120 i none = some u1) (hdg : decode cc pc = .ok (.aastore, 1)) (kk : ∀ (H1 : Heap) (locs1 : List Loc), va_P g.1 vwCl (cW g ad u1) H1 → va_D A (cW g ad u1) → va_S A s.heap H1 locs1 → W p l e R s m args below meth c H1 locs1 cells slots Q (F0 m (pc + 1) ls rest)) : W p l e R s m args below meth c H locs cells slots Q (F0 m pc ls (.null :: .int i :: .ref (ad 6) :: rest)) := by
  obtain ⟨h1, h2⟩ := ck_some hv
  cases h2
  exact va_astqN (C := RX1) C.1 C.2.1 C.2.2.2.2.2.2.2 hP hD hS 6 3 cW_at6 rfl (vin_in h1) hdg kk
theorem stcR_7 {i : Int32} {a : Nat} (C : Cx p s m args meth c cc nL own ret g) (hP : va_P g.1 vwCl (cW g ad u) H) (hD : va_D A (cW g ad u)) (hS : va_S A s.heap H locs) (hv : stC u 7 24 i a = some u1) (hdg : decode cc pc = .ok (.aastore, 1)) (kk : ∀ (H1 : Heap) (locs1 : List Loc), va_P g.1 vwCl (cW g ad u1) H1 → va_D A (cW g ad u1) → va_S A s.heap H1 locs1 → W p l e R s m args below meth c H1 locs1 cells slots Q (F0 m (pc + 1) ls rest)) : W p l e R s m args below meth c H locs cells slots Q (F0 m pc ls (.ref a :: .int i :: .ref (ad 7) :: rest)) := by
  obtain ⟨h0, hv⟩ := ck_some hv
  obtain ⟨h1, h2⟩ := ck_some hv
  cases h2
  obtain ⟨k, -, he⟩ := atC (g := g) (ad := ad) h0
  exact va_astq (r := (RX0, TX0, 13)) C.1 C.2.1 C.2.2.2.2.2.2.2 hP hD hS 7 4 k 0 cW_at7 rfl he rfl (vin_in h1) hdg kk
theorem stcN_7 {i : Int32} (C : Cx p s m args meth c cc nL own ret g) (hP : va_P g.1 vwCl (cW g ad u) H) (hD : va_D A (cW g ad u)) (hS : va_S A s.heap H locs) (hv : stR u 7 24 i none = some u1) (hdg : decode cc pc = .ok (.aastore, 1)) (kk : ∀ (H1 : Heap) (locs1 : List Loc), va_P g.1 vwCl (cW g ad u1) H1 → va_D A (cW g ad u1) → va_S A s.heap H1 locs1 → W p l e R s m args below meth c H1 locs1 cells slots Q (F0 m (pc + 1) ls rest)) : W p l e R s m args below meth c H locs cells slots Q (F0 m pc ls (.null :: .int i :: .ref (ad 7) :: rest)) := by
  obtain ⟨h1, h2⟩ := ck_some hv
  cases h2
  exact va_astqN (C := RX0) C.1 C.2.1 C.2.2.2.2.2.2.2 hP hD hS 7 4 cW_at7 rfl (vin_in h1) hdg kk
theorem nwE (C : Cx p s m args meth c cc nL own ret g) (hP : va_P g.1 vwCl (cW g ad u) H) (hD : va_D A (cW g ad u)) (hS : va_S A s.heap H locs) (hA : ∀ q, s.heap.size ≤ q → A q) (hl : Cond.classLink own idx RX1 ∈ lw_g) (hc : cells + 1 ≤ R.cells) (hs : slots + 7 ≤ R.slots) (hdg : decode cc pc = .ok (.new idx, 3)) (kk : ∀ (q : Nat) (H1 : Heap), q ∉ pA u → va_P g.1 vwCl (cW g ad (qN u q true)) H1 → va_D A (cW g ad (qN u q true)) → va_S A s.heap H1 locs → W p l e R s m args below meth c H1 locs (cells + 1) (slots + 7) Q (F0 m (pc + 3) ls (.ref q :: rest))) : W p l e R s m args below meth c H locs cells slots Q (F0 m pc ls rest) := by
  refine va_new (D := g.1) (ci := 1) (fs := [.int 0, .int 0, .int 0, .int 0, .int 0, .int 0, .long 0]) (C := RX1) (T := TX1) (N := 7) C.1 C.2.1 C.2.2.2.2.1 inX1 tyX1 tyX1_ok C.2.2.2.1 (C.2.2.2.2.1 _ hl) (C.2.2.2.2.1 _ wT_X1) (C.2.2.2.2.1 _ wZ_X1) C.2.2.2.2.2.2.2 hP hD hS hA rfl (fun j hj => ?_) hc hs hdg (fun q H1 a1 a2 a3 => ?_)
  · match j, hj with
    | 0, _ => rfl
    | 1, _ => rfl
    | 2, _ => rfl
    | 3, _ => rfl
    | 4, _ => rfl
    | 5, _ => rfl
    | 6, _ => rfl
    | k + 7, h => exact absurd h (by omega)
  · have hq : q ∉ pA u := by
      intro hm
      obtain ⟨k, hk⟩ := va_pl_get (X := cX g ad u) (f := pF u) hm
      have hlt : k < (cW g ad u).length := (List.getElem?_eq_some_iff.mp hk).1
      have h1 : (cW g ad u ++ [(q, (.inr (1, [.int 0, .int 0, .int 0, .int 0, .int 0, .int 0, .long 0]) : va_E))])[k]? = some (q, pF u q) := by rw [List.getElem?_append_left hlt]; exact hk
      have h2 : (cW g ad u ++ [(q, (.inr (1, [.int 0, .int 0, .int 0, .int 0, .int 0, .int 0, .long 0]) : va_E))])[(cW g ad u).length]? = some (q, .inr (1, [.int 0, .int 0, .int 0, .int 0, .int 0, .int 0, .long 0])) := by rw [List.getElem?_append_right (Nat.le_refl _)]; simp
      have := a2.1 k _ _ _ h1 h2 rfl
      omega
    have e1 : cW g ad u ++ [(q, (.inr (1, [.int 0, .int 0, .int 0, .int 0, .int 0, .int 0, .long 0]) : va_E))] = cW g ad (qN u q true) := by
      unfold cW
      rw [List.append_assoc, va_pl_push hq]
      refine congrArg (fun z => cX g ad u ++ z) (va_pl_congr (fun b => ?_))
      by_cases hb : b = q
      · subst hb
        rw [va_up_self]
        simp [pF, eF, qN, mkS, pI, pV, pK, va_up]
      · rw [va_up_ne _ _ hb]
        exact pF_cg (va_up_ne _ _ hb) (va_up_ne _ _ hb) (va_up_ne _ _ hb)
    rw [e1] at a1 a2
    exact kk q H1 hq a1 a2 a3
theorem nwC (C : Cx p s m args meth c cc nL own ret g) (hP : va_P g.1 vwCl (cW g ad u) H) (hD : va_D A (cW g ad u)) (hS : va_S A s.heap H locs) (hA : ∀ q, s.heap.size ≤ q → A q) (hl : Cond.classLink own idx RX0 ∈ lw_g) (hc : cells + 1 ≤ R.cells) (hs : slots + 13 ≤ R.slots) (hdg : decode cc pc = .ok (.new idx, 3)) (kk : ∀ (q : Nat) (H1 : Heap), q ∉ pA u → va_P g.1 vwCl (cW g ad (qN u q false)) H1 → va_D A (cW g ad (qN u q false)) → va_S A s.heap H1 locs → W p l e R s m args below meth c H1 locs (cells + 1) (slots + 13) Q (F0 m (pc + 3) ls (.ref q :: rest))) : W p l e R s m args below meth c H locs cells slots Q (F0 m pc ls rest) := by
  refine va_new (D := g.1) (ci := 0) (fs := [.int 0, .int 0, .int 0, .int 0, .int 0, .int 0, .int 0, .int 0, .int 0, .int 0, .int 0, .long 0, .int 0]) (C := RX0) (T := TX0) (N := 13) C.1 C.2.1 C.2.2.2.2.1 inX0 tyX0 tyX0_ok C.2.2.2.1 (C.2.2.2.2.1 _ hl) (C.2.2.2.2.1 _ wT_X0) (C.2.2.2.2.1 _ wZ_X0) C.2.2.2.2.2.2.2 hP hD hS hA rfl (fun j hj => ?_) hc hs hdg (fun q H1 a1 a2 a3 => ?_)
  · match j, hj with
    | 0, _ => rfl
    | 1, _ => rfl
    | 2, _ => rfl
    | 3, _ => rfl
    | 4, _ => rfl
    | 5, _ => rfl
    | 6, _ => rfl
    | 7, _ => rfl
    | 8, _ => rfl
    | 9, _ => rfl
    | 10, _ => rfl
    | 11, _ => rfl
    | 12, _ => rfl
    | k + 13, h => exact absurd h (by omega)
  · have hq : q ∉ pA u := by
      intro hm
      obtain ⟨k, hk⟩ := va_pl_get (X := cX g ad u) (f := pF u) hm
      have hlt : k < (cW g ad u).length := (List.getElem?_eq_some_iff.mp hk).1
      have h1 : (cW g ad u ++ [(q, (.inr (0, [.int 0, .int 0, .int 0, .int 0, .int 0, .int 0, .int 0, .int 0, .int 0, .int 0, .int 0, .long 0, .int 0]) : va_E))])[k]? = some (q, pF u q) := by rw [List.getElem?_append_left hlt]; exact hk
      have h2 : (cW g ad u ++ [(q, (.inr (0, [.int 0, .int 0, .int 0, .int 0, .int 0, .int 0, .int 0, .int 0, .int 0, .int 0, .int 0, .long 0, .int 0]) : va_E))])[(cW g ad u).length]? = some (q, .inr (0, [.int 0, .int 0, .int 0, .int 0, .int 0, .int 0, .int 0, .int 0, .int 0, .int 0, .int 0, .long 0, .int 0])) := by rw [List.getElem?_append_right (Nat.le_refl _)]; simp
      have := a2.1 k _ _ _ h1 h2 rfl
      omega
    have e1 : cW g ad u ++ [(q, (.inr (0, [.int 0, .int 0, .int 0, .int 0, .int 0, .int 0, .int 0, .int 0, .int 0, .int 0, .int 0, .long 0, .int 0]) : va_E))] = cW g ad (qN u q false) := by
      unfold cW
      rw [List.append_assoc, va_pl_push hq]
      refine congrArg (fun z => cX g ad u ++ z) (va_pl_congr (fun b => ?_))
      by_cases hb : b = q
      · subst hb
        rw [va_up_self]
        simp [pF, cF, qN, mkS, pI, pV, pK, va_up]
      · rw [va_up_ne _ _ hb]
        exact pF_cg (va_up_ne _ _ hb) (va_up_ne _ _ hb) (va_up_ne _ _ hb)
    rw [e1] at a1 a2
    exact kk q H1 hq a1 a2 a3
end Pool
