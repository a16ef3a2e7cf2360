/-! ===== lookups along an order ===== -/
theorem WF_own {h : HA} (hw : WF h) : ∀ m r, hB h m = some r → rT r < hN h := fun m r e => (hw.2.2.2.2.2.2.1 m r e).1
theorem getD_mem {l : List Nat} {j : Nat} (hj : j < l.length) : l.getD j 0 ∈ l := by
  rw [List.getD_eq_getElem?_getD, List.getElem?_eq_getElem hj]; exact List.getElem_mem hj
theorem drop_getD {l : List Nat} {j : Nat} (hj : j < l.length) : l.drop j = l.getD j 0 :: l.drop (j + 1) := by
  rw [List.drop_eq_getElem_cons hj, List.getD_eq_getElem?_getD, List.getElem?_eq_getElem hj]; rfl
theorem oI_none : oI none = -2 := rfl
theorem oI_some (m : Nat) : oI (some m) = nI m := rfl
theorem oI_ne {m : Nat} (h : m < 2 ^ 31) : ¬ oI (some m) = -2 := nI_ne_m2 h
theorem oI_neg {m : Nat} (h : m < 2 ^ 31) : ¬ oI (some m) < 0 := nI_pos h
theorem oI_lt : oI none < 0 := by decide
def qF (h : HA) (nm : Int32) (b : Bool) (t : Nat) : Option Nat := match own h t false nm (-2) (-2) with
  | none => none
  | some m => if (b && haB h (nI m) 4) = true then none else some m
def qM (h : HA) (nm a b : Int32) (t : Nat) : Option Nat := own h t true nm a b
def lkF (h : HA) (t : Nat) (nm : Int32) (b : Bool) : Option Nat := (odr h true t).findSome? (qF h nm b)
def lkM (h : HA) (t : Nat) (nm a b : Int32) : Option Nat := (odr h false t).findSome? (qM h nm a b)
theorem e7_orderedAt {u : ST} {l : List Nat} {n j : Nat} (ho : OR u l n) (hn : n ≤ 12) (hj : j < l.length) : fX7_orderedAt u (nI j) = some (nI (l.getD j 0)) := by
  have hlen := nodup_le ho.2.2.2.1 ho.2.2.2.2
  have c : ¬ sI u 209 ≤ nI j := by rw [ho.1]; exact nI_ge hj (by omega)
  rw [fX7_orderedAt, if_neg (nI_pos (by omega)), if_neg c, rdI_nI (by omega) (by decide), Option.bind_some, ho.2.1 j hj]
theorem e2_firstMethod_L {u : ST} {h : HA} {l : List Nat} (hr : RCm u h) (hw : WF h) (ho : OR u l (hN h)) (nm a b : Int32) : ∀ (n k f : Nat), k + n = l.length → n < f → fX2_firstMethod_L3 u f nm a b (nI k) = some (oI ((l.drop k).findSome? (qM h nm a b)))
  | 0, k, f, hk, hf => by
    have hn := hw.1
    have hlen := nodup_le ho.2.2.2.1 ho.2.2.2.2
    obtain ⟨f, rfl⟩ : ∃ j, f = j + 1 := ⟨f - 1, by omega⟩
    rw [fX2_firstMethod_L3, ho.1, if_pos (nI_le (by omega) (by omega)), List.drop_eq_nil_of_le (by omega)]; rfl
  | n + 1, k, f, hk, hf => by
    have hn := hw.1
    have hlen := nodup_le ho.2.2.2.1 ho.2.2.2.2
    obtain ⟨f, rfl⟩ : ∃ j, f = j + 1 := ⟨f - 1, by omega⟩
    have hk2 : k < l.length := by omega
    have hm := ho.2.2.2.2 _ (getD_mem hk2)
    rw [fX2_firstMethod_L3, ho.1, if_neg (nI_ge hk2 (by omega)), e7_orderedAt ho hn hk2, Option.bind_some, e6_methodOf hr hn (WF_own hw) (by omega), Option.bind_some, drop_getD hk2, List.findSome?_cons]
    cases e : own h (l.getD k 0) true nm a b with
    | none =>
      have e2 : qM h nm a b (l.getD k 0) = none := e
      rw [if_pos oI_none, nI_1, e2_firstMethod_L hr hw ho nm a b n (k + 1) f (by omega) (by omega), e2]
    | some m =>
      have e2 : qM h nm a b (l.getD k 0) = some m := e
      have := (own_some e).1
      rw [if_neg (oI_ne (by omega)), e2]
theorem e2_firstMethod {u : ST} {h : HA} {l : List Nat} (hr : RCm u h) (hw : WF h) (ho : OR u l (hN h)) (nm a b : Int32) : fX2_firstMethod u nm a b = some (oI (l.findSome? (qM h nm a b))) := by
  have hn := hw.1
  have hlen := nodup_le ho.2.2.2.1 ho.2.2.2.2
  exact e2_firstMethod_L hr hw ho nm a b l.length 0 5000 (by omega) (by omega)
theorem e2_lookForMethod {u : ST} {h : HA} (hr : RCt u h) (hm : RCm u h) (hw : WF h) {t : Nat} (ht : t < hN h) (nm a b : Int32) : ∃ u', fX2_lookForMethod u (nI t) nm a b = some (oI (lkM h t nm a b), u') ∧ Eo u u' ∧ OR u' ((odr h false t).foldl addQ []) (hN h) := by
  obtain ⟨u', e, x1, x2⟩ := e7_orderFrom hr hw false ht
  refine ⟨u', ?_, x1, x2⟩
  have e' : fX7_orderFrom u (nI t) 0 = some u' := e
  rw [fX2_lookForMethod, e', Option.bind_some, e2_firstMethod (RCm_eo x1 hm) hw x2, Option.bind_some, fs_dedup]; rfl
theorem e2_lookForField_L {u : ST} {h : HA} {l : List Nat} (hr : RCm u h) (hw : WF h) (ho : OR u l (hN h)) (nm : Int32) (b : Bool) : ∀ (n k f : Nat), k + n = l.length → n < f → fX2_lookForField_L12 f u nm (bI b) (nI k) = some (oI ((l.drop k).findSome? (qF h nm b)), u)
  | 0, k, f, hk, hf => by
    have hn := hw.1
    have hlen := nodup_le ho.2.2.2.1 ho.2.2.2.2
    obtain ⟨f, rfl⟩ : ∃ j, f = j + 1 := ⟨f - 1, by omega⟩
    rw [fX2_lookForField_L12, ho.1, if_pos (nI_le (by omega) (by omega)), List.drop_eq_nil_of_le (by omega)]; rfl
  | n + 1, k, f, hk, hf => by
    have hn := hw.1
    have hlen := nodup_le ho.2.2.2.1 ho.2.2.2.2
    obtain ⟨f, rfl⟩ : ∃ j, f = j + 1 := ⟨f - 1, by omega⟩
    have hk2 : k < l.length := by omega
    have hm := ho.2.2.2.2 _ (getD_mem hk2)
    have ih := e2_lookForField_L hr hw ho nm b n (k + 1) f (by omega) (by omega)
    rw [fX2_lookForField_L12, ho.1, if_neg (nI_ge hk2 (by omega)), e7_orderedAt ho hn hk2, Option.bind_some, e6_fieldOf hr hn (WF_own hw) (by omega) nm (-2) (-2), Option.bind_some, drop_getD hk2, List.findSome?_cons]
    cases e : own h (l.getD k 0) false nm (-2) (-2) with
    | none =>
      have e2 : qF h nm b (l.getD k 0) = none := by unfold qF; rw [e]
      rw [if_pos oI_none, fX2_lookForField_L70, nI_1, ih, e2]
    | some m =>
      have := (own_some e).1
      rw [if_neg (oI_ne (by omega))]
      cases b with
      | false =>
        have e2 : qF h nm false (l.getD k 0) = some m := by unfold qF; rw [e]; rfl
        rw [if_pos bI_f, e2]
      | true =>
        rw [if_neg (by decide : ¬ bI true = 0)]
        have e3 := e6_has hr hn (WF_own hw) (oI (some m)) 4
        rw [e3, Option.bind_some]
        cases e4 : haB h (oI (some m)) 4 with
        | true =>
          have e2 : qF h nm true (l.getD k 0) = none := by
            unfold qF; rw [e]
            have : haB h (nI m) 4 = true := e4
            dsimp only
            rw [this]; rfl
          rw [if_neg (by decide), fX2_lookForField_L70, nI_1, ih, e2]
        | false =>
          have e2 : qF h nm true (l.getD k 0) = some m := by
            unfold qF; rw [e]
            have : haB h (nI m) 4 = false := e4
            dsimp only
            rw [this]; rfl
          rw [if_pos bI_f, e2]
theorem e2_lookForField {u : ST} {h : HA} (hr : RCt u h) (hm : RCm u h) (hw : WF h) {t : Nat} (ht : t < hN h) (nm : Int32) (b : Bool) : ∃ u', fX2_lookForField u (nI t) nm (bI b) = some (oI (lkF h t nm b), u') ∧ Eo u u' := by
  obtain ⟨u', e, x1, x2⟩ := e7_orderFrom hr hw true ht
  refine ⟨u', ?_, x1⟩
  have hn := hw.1
  have hlen := nodup_le x2.2.2.2.1 x2.2.2.2.2
  have e' : fX7_orderFrom u (nI t) 1 = some u' := e
  have e3 := e2_lookForField_L (RCm_eo x1 hm) hw x2 nm b _ 0 5000 (Nat.zero_add _) (by omega)
  rw [fX2_lookForField, e', Option.bind_some]
  refine e3.trans ?_
  rw [List.drop_zero, fs_dedup]; rfl
