/-! ===== the reference's walk over FACES ===== -/
theorem sub1 (x : Int32) : x - 1 = x + (-1) := by
  rw [Int32.sub_eq_add_neg]
abbrev Er (u v : ST) : Prop := E3 u v [25] [] [24, 26]
theorem Er_em {u v : ST} (h : Er u v) : Em u v := h.mono (by decide) (by decide) (by decide)
theorem Er_el {u v : ST} (h : Er u v) : El u v := h.mono (by decide) (by decide) (by decide)
abbrev Ep (u v : ST) : Prop := E3 u v [] [] [26]
theorem Ep_er {u v : ST} (h : Ep u v) : Er u v := h.mono (by decide) (by decide) (by decide)
def RW (z : ST) (l : List Nat) : Prop := sI z 25 = nI l.length ∧ LR (aI z 24) l
theorem RW_ep {u v : ST} {l : List Nat} (he : Ep u v) (hr : RW u l) : RW v l := by
  unfold RW at hr ⊢
  rw [he.1 25 (by decide), he.2.2.1 24 (by decide)]; exact hr
theorem take_getD {l : List Nat} {i : Nat} (hi : i < l.length) : l.take (i + 1) = l.take i ++ [l.getD i 0] := by
  rw [List.take_succ, List.getD_eq_getElem?_getD, List.getElem?_eq_getElem hi]; rfl
theorem faceRow_L53 {h : HA} (hw : WF h) {t : Nat} (ht : t < hN h) (K : ST → Int32 → Option ST) : ∀ (i f : Nat) (z : ST) (P : List Nat), i ≤ (hL h t).length → i < f → RMt z h → LR (aI z 26) P → P.length + i ≤ 4096 → ∃ z', fX9_faceRow_L53 K f z (nI P.length) (nI t) (nI i + (-1)) = K z' (nI (P ++ ((hL h t).take i).reverse).length) ∧ Ep z z' ∧ LR (aI z' 26) (P ++ ((hL h t).take i).reverse)
  | 0, f, z, P, hi, hf, hr, hp, hb => by
    obtain ⟨f, rfl⟩ : ∃ j, f = j + 1 := ⟨f - 1, by omega⟩
    refine ⟨z, ?_, E3.refl, by simpa using hp⟩
    rw [fX9_faceRow_L53, if_pos (by decide)]; simp
  | i + 1, f, z, P, hi, hf, hr, hp, hb => by
    have hn := hw.1
    have h3 := (hw.2.2.1 t ht).1
    obtain ⟨f, rfl⟩ : ∃ j, f = j + 1 := ⟨f - 1, by omega⟩
    have hi2 : i < (hL h t).length := by omega
    have e3 : 3 * nI t + nI i = nI (3 * t + i) := by
      have : (3 : Int32) = nI 3 := rfl
      rw [this, pk_mul, nI_add]
    have he : Ep z (vI z 26 (upd (aI z 26) P.length (nI ((hL h t).getD i 0)))) := E3.vI (by decide)
    obtain ⟨z', e, x1, x2⟩ := faceRow_L53 hw ht K i f (vI z 26 (upd (aI z 26) P.length (nI ((hL h t).getD i 0)))) (P ++ [(hL h t).getD i 0]) (by omega) (by omega) (RMt_em (Er_em (Ep_er he)) hr) (by rw [aI_vI]; exact LR_push hp) (by rw [List.length_append, List.length_singleton]; omega)
    have e4 : P ++ ((hL h t).take (i + 1)).reverse = P ++ [(hL h t).getD i 0] ++ ((hL h t).take i).reverse := by
      rw [take_getD hi2, List.reverse_append, List.append_assoc]; rfl
    rw [e4]
    refine ⟨z', ?_, he.trans x1, x2⟩
    rw [pk_m1, fX9_faceRow_L53, if_neg (nI_pos (by omega)), e3, rdI_nI (by omega) (by decide), Option.bind_some, (hr.2 t ht).2.2.2.2 i hi2, stI_nI (by omega) (by decide), Option.bind_some, nI_1]
    rw [List.length_append, List.length_singleton] at e
    exact e
theorem len_pf {h : HA} (hw : WF h) : ∀ {l : List Nat}, (∀ x, x ∈ l → x < hN h) → l.length ≤ (l.flatMap (pf h)).length
  | [], _ => Nat.zero_le _
  | a :: l, hl => by
    have := len_pf hw (fun x hx => hl x (List.mem_cons_of_mem a hx))
    rw [List.flatMap_cons, List.length_append, pf_fix hw (hl a List.mem_cons_self), List.length_cons, List.length_cons]
    omega
theorem faceRow_L9 {h : HA} (hw : WF h) : ∀ (N : Nat) (P : List Nat) (z : ST) (l : List Nat) (f : Nat), (P.reverse.flatMap (pf h)).length = N → (∀ x, x ∈ P → x < hN h) → RMt z h → LR (aI z 26) P → RW z l → l.length + N ≤ 4096 → N < f → ∃ z', fX9_faceRow_L9 f z (nI P.length) = some z' ∧ Er z z' ∧ RW z' (l ++ P.reverse.flatMap (pf h)) := by
  have hn := hw.1
  intro N
  induction N using Nat.strongRecOn with
  | ind N ih =>
    intro P z l f hN' hP hr hp hl hb hf
    obtain ⟨f, rfl⟩ : ∃ j, f = j + 1 := ⟨f - 1, by omega⟩
    rcases List.eq_nil_or_concat P with rfl | ⟨P', t, rfl⟩
    · refine ⟨z, ?_, E3.refl, by simpa using hl⟩
      rw [fX9_faceRow_L9, if_pos (by decide)]
    · rw [List.concat_eq_append] at hN' hP hp ⊢
      have ht : t < hN h := hP t (by simp)
      have hP' : ∀ x, x ∈ P' → x < hN h := fun x hx => hP x (by simp [hx])
      have h3 := (hw.2.2.1 t ht)
      have er : (P' ++ [t]).reverse.flatMap (pf h) = t :: ((hL h t).flatMap (pf h) ++ P'.reverse.flatMap (pf h)) := by
        rw [List.reverse_append]
        show (t :: P'.reverse).flatMap (pf h) = _
        rw [List.flatMap_cons, pf_fix hw ht]; rfl
      rw [er] at hN' ⊢
      rw [List.length_cons, List.length_append] at hN'
      have l1 := len_pf hw (l := P'.reverse) (fun x hx => hP' x (List.mem_reverse.mp hx))
      rw [List.length_reverse] at l1
      have l2 := len_pf hw (l := hL h t) (fun x hx => (h3.2.2 x hx).1)
      have e1 : nI (P' ++ [t]).length + (-1) = nI P'.length := by rw [List.length_append, List.length_singleton, pk_m1]
      have c0 : ¬ nI (P' ++ [t]).length ≤ 0 := by
        rw [List.length_append, List.length_singleton]
        exact nI_ge (a := 0) (by omega) (by omega)
      have he1 : Er z (vI z 24 (upd (aI z 24) l.length (nI t))) := E3.vI (by decide)
      have he2 : Er z (uI (vI z 24 (upd (aI z 24) l.length (nI t))) 25 (sI (vI z 24 (upd (aI z 24) l.length (nI t))) 25 + 1)) := he1.trans (E3.uI (by decide))
      have hr2 := RMt_em (Er_em he2) hr
      have hp2 : LR (aI (uI (vI z 24 (upd (aI z 24) l.length (nI t))) 25 (sI (vI z 24 (upd (aI z 24) l.length (nI t))) 25 + 1)) 26) P' := LR_pre hp
      have hl2 : RW (uI (vI z 24 (upd (aI z 24) l.length (nI t))) 25 (sI (vI z 24 (upd (aI z 24) l.length (nI t))) 25 + 1)) (l ++ [t]) := by
        constructor
        · rw [sI_uI]
          show sI z 25 + 1 = _
          rw [hl.1, nI_1, List.length_append, List.length_singleton]
        · show LR (aI (vI z 24 (upd (aI z 24) l.length (nI t))) 24) (l ++ [t])
          rw [aI_vI]; exact LR_push hl.2
      obtain ⟨z3, e3, x1, x2⟩ := faceRow_L53 hw ht (fX9_faceRow_L9 f) (hL h t).length 5000 _ P' (Nat.le_refl _) (by omega) hr2 hp2 (by omega)
      rw [List.take_length] at e3 x2
      obtain ⟨z4, e4, y1, y2⟩ := ih (N - 1) (by omega) (P' ++ (hL h t).reverse) z3 (l ++ [t]) f (by
          rw [List.reverse_append, List.reverse_reverse, List.flatMap_append, List.length_append]; omega) (by
          intro x hx
          rcases List.mem_append.mp hx with h1 | h1
          · exact hP' x h1
          · exact (h3.2.2 x (List.mem_reverse.mp h1)).1) (RMt_em (Er_em (Ep_er x1)) hr2) x2 (RW_ep x1 hl2) (by rw [List.length_append, List.length_singleton]; omega) (by omega)
      refine ⟨z4, ?_, (he2.trans (Ep_er x1)).trans y1, ?_⟩
      · rw [fX9_faceRow_L9, if_neg c0, e1, rdI_nI (by omega) (by decide), Option.bind_some, LR_top hp, hl.1, stI_nI (by omega) (by decide), Option.bind_some, Option.bind_some, rdI_nI (by omega) (by decide), Option.bind_some, (hr2.2 t ht).2.2.2.1, sub1, e3]
        exact e4
      · rw [List.reverse_append, List.reverse_reverse, List.flatMap_append, List.append_assoc] at y2
        exact y2
theorem e9_faceRow {z : ST} {h : HA} (hw : WF h) (hr : RMt z h) {t : Nat} (ht : t < hN h) {l : List Nat} (hl : RW z l) (hb : l.length + (pf h t).length ≤ 4096) : ∃ z', fX9_faceRow z (nI t) = some z' ∧ Er z z' ∧ RW z' (l ++ pf h t) := by
  have hn := hw.1
  have he : Ep z (vI z 26 (upd (aI z 26) 0 (nI t))) := E3.vI (by decide)
  have e0 : [t].reverse.flatMap (pf h) = pf h t := by simp
  obtain ⟨z', e, x1, x2⟩ := faceRow_L9 hw (pf h t).length [t] (vI z 26 (upd (aI z 26) 0 (nI t))) l 5000 (by rw [e0]) (by intro x hx; simp at hx; omega) (RMt_em (Er_em (Ep_er he)) hr) (by rw [aI_vI]; exact LR_push (l := []) LR_nil) (RW_ep he hl) hb (by omega)
  rw [e0] at x2
  refine ⟨z', ?_, (Ep_er he).trans x1, x2⟩
  have e1 : stI z 26 4096 0 (nI t) = some (vI z 26 (upd (aI z 26) 0 (nI t))) := stI_nI (j := 0) (by decide) (by decide)
  rw [fX9_faceRow, e1, Option.bind_some]
  exact e
theorem e9_facesOf_L {h : HA} (hw : WF h) {t : Nat} (ht : t < hN h) : ∀ (n i f : Nat) (z : ST) (l : List Nat), i + n = (hL h t).length → n < f → RMt z h → RW z l → l.length + (((hL h t).drop i).flatMap (pf h)).length ≤ 4096 → ∃ z', fX9_facesOf_L2 f z (nI t) (nI i) = some z' ∧ Er z z' ∧ RW z' (l ++ ((hL h t).drop i).flatMap (pf h))
  | 0, i, f, z, l, hi, hf, hr, hl, hb => by
    have hn := hw.1
    have h3 := (hw.2.2.1 t ht)
    obtain ⟨f, rfl⟩ : ∃ j, f = j + 1 := ⟨f - 1, by omega⟩
    refine ⟨z, ?_, E3.refl, by rw [List.drop_eq_nil_of_le (by omega)]; simpa using hl⟩
    rw [fX9_facesOf_L2, rdI_nI (by omega) (by decide), Option.bind_some, (hr.2 t ht).2.2.2.1, if_pos (nI_le (by omega) (by omega))]
  | n + 1, i, f, z, l, hi, hf, hr, hl, hb => by
    have hn := hw.1
    have h3 := (hw.2.2.1 t ht)
    obtain ⟨f, rfl⟩ : ∃ j, f = j + 1 := ⟨f - 1, by omega⟩
    have hi2 : i < (hL h t).length := by omega
    have e3 : 3 * nI t + nI i = nI (3 * t + i) := by
      have : (3 : Int32) = nI 3 := rfl
      rw [this, pk_mul, nI_add]
    rw [drop_getD hi2, List.flatMap_cons, List.length_append] at hb
    have hm := (h3.2.2 _ (getD_mem hi2)).1
    obtain ⟨z1, e1, x1, x2⟩ := e9_faceRow hw hr hm hl (by omega)
    obtain ⟨z2, e2, y1, y2⟩ := e9_facesOf_L hw ht n (i + 1) f z1 _ (by omega) (by omega) (RMt_em (Er_em x1) hr) x2 (by rw [List.length_append]; omega)
    refine ⟨z2, ?_, x1.trans y1, ?_⟩
    · rw [fX9_facesOf_L2, rdI_nI (by omega) (by decide), Option.bind_some, (hr.2 t ht).2.2.2.1, if_neg (nI_ge hi2 (by omega)), e3, rdI_nI (by omega) (by decide), Option.bind_some, (hr.2 t ht).2.2.2.2 i hi2, e1, Option.bind_some, nI_1]
      exact e2
    · rw [drop_getD hi2, List.flatMap_cons, ← List.append_assoc]; exact y2
def fcs (h : HA) (t : Nat) : List Nat := (hL h t).flatMap (pf h)
theorem e9_facesOf {z : ST} {h : HA} (hw : WF h) (hr : RMt z h) {t : Nat} (ht : t < hN h) {l : List Nat} (hl : RW z l) (hb : l.length ≤ 1) : ∃ z', fX9_facesOf z (nI t) = some z' ∧ Er z z' ∧ RW z' (l ++ fcs h t) ∧ (l ++ fcs h t).length ≤ 2048 := by
  have h1 := faces_2048 hw ht
  have h3 := (hw.2.2.1 t ht)
  obtain ⟨z', e, x1, x2⟩ := e9_facesOf_L hw ht (hL h t).length 0 5000 z l (by omega) (by omega) hr hl (by rw [List.drop_zero]; omega)
  exact ⟨z', e, x1, x2, by rw [List.length_append]; unfold fcs; omega⟩
theorem pf_lt {h : HA} (hw : WF h) : ∀ t, t < hN h → ∀ x, x ∈ pf h t → x < hN h := by
  refine bel_ind hw (fun t => ∀ x, x ∈ pf h t → x < hN h) (fun t ht ih x hx => ?_)
  rw [pf_fix hw ht] at hx
  rcases List.mem_cons.mp hx with rfl | hx
  · exact ht
  · obtain ⟨m, hm, hx⟩ := List.mem_flatMap.mp hx
    exact ih m (List.mem_append_right _ hm) x hx
theorem fcs_lt {h : HA} (hw : WF h) {t : Nat} (ht : t < hN h) : ∀ x, x ∈ fcs h t → x < hN h := by
  intro x hx
  obtain ⟨m, hm, hx⟩ := List.mem_flatMap.mp hx
  exact pf_lt hw m ((hw.2.2.1 t ht).2.2 m hm).1 x hx
