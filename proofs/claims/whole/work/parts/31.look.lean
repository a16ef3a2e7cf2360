/-! ===== the reference's lookups ===== -/
theorem RMm_marks {z : ST} {h : HA} (hm : RMm z h) {m : Nat} {r : MR} (hlt : m < 60) (e : hB h m = some r) : aI z 10 m = rK r := by
  have := hm m hlt; rw [e] at this; exact this.2.2.2.2.1
theorem haB_nI {h : HA} {m : Nat} {r : MR} (hlt : m < 60) (e : hB h m = some r) (k : Int32) : haB h (nI m) k = !decide (rK r &&& k = 0) := by
  unfold haB; rw [isN_nI (by omega), cl_nI (by omega), e]; simp [hlt]
theorem lookF_L49 {z : ST} {h : HA} {l : List Nat} (hw : WF h) (hm : RMm z h) (hl : RW z l) (hb : l.length ≤ 4096) (hlt : ∀ x, x ∈ l → x < hN h) (K : ST → Int32 → Int32 → Int32 → Int32 → Option (Int32 × ST)) (nm : Int32) (b : Bool) (x4 x5 : Int32) : ∀ (n k f : Nat), k + n = l.length → n < f → fX9_lookForField_L49 K f z nm (bI b) x4 x5 (nI k) = (match (l.drop k).findSome? (qF h nm b) with | some m => some (nI m, z) | none => K z nm (bI b) x4 (x5 + 1))
  | 0, k, f, hk, hf => by
    obtain ⟨f, rfl⟩ : ∃ j, f = j + 1 := ⟨f - 1, by omega⟩
    rw [fX9_lookForField_L49, hl.1, if_pos (nI_le (by omega) (by omega)), List.drop_eq_nil_of_le (by omega)]; rfl
  | n + 1, k, f, hk, hf => by
    have hn := hw.1
    obtain ⟨f, rfl⟩ : ∃ j, f = j + 1 := ⟨f - 1, by omega⟩
    have hk2 : k < l.length := by omega
    have ht := hlt _ (getD_mem hk2)
    have ih := lookF_L49 hw hm hl hb hlt K nm b x4 x5 n (k + 1) f (by omega) (by omega)
    have e1 : fX9_ownOf z (nI (l.getD k 0)) 0 nm (-2) (-2) = some (oI (own h (l.getD k 0) false nm (-2) (-2))) := e9_own hm hn (WF_own hw) (by omega) false nm (-2) (-2)
    rw [fX9_lookForField_L49, hl.1, if_neg (nI_ge hk2 (by omega)), rdI_nI (by omega) (by decide), Option.bind_some, hl.2 k hk2, e1, Option.bind_some, drop_getD hk2, List.findSome?_cons]
    cases e : own h (l.getD k 0) false nm (-2) (-2) with
    | none =>
      have e2 : qF h nm b (l.getD k 0) = none := by unfold qF; rw [e]
      rw [if_pos oI_lt, fX9_lookForField_L101, nI_1, ih, e2]
    | some m =>
      obtain ⟨hm60, r, er, -⟩ := own_some e
      rw [if_neg (oI_neg (by omega))]
      cases b with
      | false =>
        have e2 : qF h nm false (l.getD k 0) = some m := by unfold qF; rw [e]; rfl
        rw [if_pos bI_f, e2]; rfl
      | true =>
        rw [if_neg (by decide : ¬ bI true = 0), oI_some, rdI_nI hm60 (by decide), Option.bind_some, RMm_marks hm hm60 er]
        by_cases c : rK r &&& 4 = 0
        · have e2 : qF h nm true (l.getD k 0) = some m := by
            unfold qF; rw [e]; dsimp only; rw [haB_nI hm60 er]; simp [c]
          rw [if_pos c, e2]
        · have e2 : qF h nm true (l.getD k 0) = none := by
            unfold qF; rw [e]; dsimp only; rw [haB_nI hm60 er]; simp [c]
          rw [if_neg c, fX9_lookForField_L101, nI_1, ih, e2]
theorem lookF_L10 {h : HA} (hw : WF h) {C : List Nat} (hc : C.length ≤ 12) (hclt : ∀ x, x ∈ C → x < hN h) (nm : Int32) (b : Bool) : ∀ (n k f : Nat) (z : ST), k + n = C.length → n < f → RMt z h → RMm z h → LR (aI z 27) C → ∃ z', fX9_lookForField_L10 f z nm (bI b) (nI C.length) (nI k) = some (oI (((C.drop k).flatMap (fun c => c :: fcs h c)).findSome? (qF h nm b)), z') ∧ Er z z'
  | 0, k, f, z, hk, hf, hr, hm, hC => by
    obtain ⟨f, rfl⟩ : ∃ j, f = j + 1 := ⟨f - 1, by omega⟩
    refine ⟨z, ?_, E3.refl⟩
    rw [fX9_lookForField_L10, if_pos (nI_le (by omega) (by omega)), List.drop_eq_nil_of_le (by omega)]; rfl
  | n + 1, k, f, z, hk, hf, hr, hm, hC => by
    have hn := hw.1
    obtain ⟨f, rfl⟩ : ∃ j, f = j + 1 := ⟨f - 1, by omega⟩
    have hk2 : k < C.length := by omega
    have ht := hclt _ (getD_mem hk2)
    have he1 : Er z (uI z 25 1) := E3.uI (by decide)
    have he2 : Er z (vI (uI z 25 1) 24 (upd (aI (uI z 25 1) 24) 0 (nI (C.getD k 0)))) := he1.trans (E3.vI (by decide))
    have hl : RW (vI (uI z 25 1) 24 (upd (aI (uI z 25 1) 24) 0 (nI (C.getD k 0)))) [C.getD k 0] := by
      refine ⟨rfl, ?_⟩
      rw [aI_vI]; exact LR_push (l := []) LR_nil
    obtain ⟨z3, e3, x1, x2, x3⟩ := e9_facesOf hw (RMt_em (Er_em he2) hr) ht hl (by simp)
    have hz := he2.trans x1
    have hC3 : LR (aI z3 27) C := by rw [hz.2.2.1 27 (by decide)]; exact hC
    have hm3 := RMm_em (Er_em hz) hm
    have e49 := lookF_L49 hw hm3 x2 (by omega) (by
      intro x hx
      rcases List.mem_append.mp hx with h1 | h1
      · rw [List.mem_singleton] at h1; rw [h1]; exact ht
      · exact fcs_lt hw ht x h1) (fX9_lookForField_L10 f) nm b (nI C.length) (nI k) _ 0 5000 (Nat.zero_add _) (by omega)
    rw [List.drop_zero] at e49
    have a1 : rdI (uI z 25 1) 27 12 (nI k) = some (nI (C.getD k 0)) := by
      rw [rdI_nI (by omega) (by decide)]
      exact congrArg some (hC k hk2)
    have a2 : stI (uI z 25 1) 24 4096 0 (nI (C.getD k 0)) = some (vI (uI z 25 1) 24 (upd (aI (uI z 25 1) 24) 0 (nI (C.getD k 0)))) := stI_nI (j := 0) (by decide) (by decide)
    have a3 : rdI (vI (uI z 25 1) 24 (upd (aI (uI z 25 1) 24) 0 (nI (C.getD k 0)))) 27 12 (nI k) = some (nI (C.getD k 0)) := by
      rw [rdI_nI (by omega) (by decide)]
      exact congrArg some (hC k hk2)
    have a4 : fX9_lookForField_L49 (fX9_lookForField_L10 f) 5000 z3 nm (bI b) (nI C.length) (nI k) 0 = (match (C.getD k 0 :: fcs h (C.getD k 0)).findSome? (qF h nm b) with | some m => some (nI m, z3) | none => fX9_lookForField_L10 f z3 nm (bI b) (nI C.length) (nI k + 1)) := e49
    rw [fX9_lookForField_L10, if_neg (nI_ge hk2 (by omega)), Option.bind_some, a1, Option.bind_some, a2, Option.bind_some, a3, Option.bind_some, e3, Option.bind_some, a4, drop_getD hk2, List.flatMap_cons, List.findSome?_append]
    cases e5 : (C.getD k 0 :: fcs h (C.getD k 0)).findSome? (qF h nm b) with
    | some m => exact ⟨z3, rfl, hz⟩
    | none =>
      obtain ⟨z4, e4, y1⟩ := lookF_L10 hw hc hclt nm b n (k + 1) f z3 (by omega) (by omega) (RMt_em (Er_em hz) hr) hm3 hC3
      refine ⟨z4, ?_, hz.trans y1⟩
      dsimp only
      rw [nI_1, e4]; rfl
theorem e9_lookForField {z : ST} {h : HA} (hr : RMt z h) (hm : RMm z h) (hw : WF h) {t : Nat} (ht : t < hN h) (nm : Int32) (b : Bool) : ∃ z', fX9_lookForField z (nI t) nm (bI b) = some (oI (lkF h t nm b), z') ∧ El z z' := by
  obtain ⟨z1, e1, x1, x2⟩ := e9_chainOf hr hw ht
  have hc := chn_12 hw ht
  obtain ⟨z2, e2, y1⟩ := lookF_L10 hw hc (chn_lt hw t ht) nm b (chn h t).length 0 5000 z1 (by omega) (by omega) (RMt_em (El_em x1) hr) (RMm_em (El_em x1) hm) x2
  refine ⟨z2, ?_, x1.trans (Er_el y1)⟩
  rw [fX9_lookForField, e1, b2_eq]
  refine e2.trans ?_
  rw [List.drop_zero, lkF, odr_F hw t ht]; rfl
theorem lookM_L79 {z : ST} {h : HA} {l : List Nat} (hw : WF h) (hm : RMm z h) (hl : RW z l) (hb : l.length ≤ 4096) (hlt : ∀ x, x ∈ l → x < hN h) (K : ST → Int32 → Int32 → Int32 → Int32 → Option (Int32 × ST)) (nm a b x6 : Int32) : ∀ (n k f : Nat), k + n = l.length → n < f → fX9_lookForMethod_L79 K f z nm a b x6 (nI k) = (match (l.drop k).findSome? (qM h nm a b) with | some m => some (nI m, z) | none => K z nm a b (x6 + (-1)))
  | 0, k, f, hk, hf => by
    obtain ⟨f, rfl⟩ : ∃ j, f = j + 1 := ⟨f - 1, by omega⟩
    rw [fX9_lookForMethod_L79, hl.1, if_pos (nI_le (by omega) (by omega)), List.drop_eq_nil_of_le (by omega)]; rfl
  | n + 1, k, f, hk, hf => by
    have hn := hw.1
    obtain ⟨f, rfl⟩ : ∃ j, f = j + 1 := ⟨f - 1, by omega⟩
    have hk2 : k < l.length := by omega
    have ht := hlt _ (getD_mem hk2)
    have ih := lookM_L79 hw hm hl hb hlt K nm a b x6 n (k + 1) f (by omega) (by omega)
    have e1 : fX9_ownOf z (nI (l.getD k 0)) 1 nm a b = some (oI (qM h nm a b (l.getD k 0))) := e9_own hm hn (WF_own hw) (by omega) true nm a b
    rw [fX9_lookForMethod_L79, hl.1, if_neg (nI_ge hk2 (by omega)), rdI_nI (by omega) (by decide), Option.bind_some, hl.2 k hk2, e1, Option.bind_some, drop_getD hk2, List.findSome?_cons]
    cases e : qM h nm a b (l.getD k 0) with
    | none => rw [if_pos oI_lt, nI_1, ih]
    | some m =>
      have := (own_some e).1
      rw [if_neg (oI_neg (by omega))]; rfl
theorem lookM_L55 {h : HA} (hw : WF h) {C : List Nat} (hc : C.length ≤ 12) (hclt : ∀ x, x ∈ C → x < hN h) (nm a b : Int32) : ∀ (i f : Nat) (z : ST), i ≤ C.length → i < f → RMt z h → RMm z h → LR (aI z 27) C → ∃ z', fX9_lookForMethod_L55 f z nm a b (nI i + (-1)) = some (oI (((C.take i).reverse.flatMap (fcs h)).findSome? (qM h nm a b)), z') ∧ Er z z'
  | 0, f, z, hk, hf, hr, hm, hC => by
    obtain ⟨f, rfl⟩ : ∃ j, f = j + 1 := ⟨f - 1, by omega⟩
    refine ⟨z, ?_, E3.refl⟩
    rw [fX9_lookForMethod_L55, if_pos (by decide)]; rfl
  | i + 1, f, z, hk, hf, hr, hm, hC => by
    have hn := hw.1
    obtain ⟨f, rfl⟩ : ∃ j, f = j + 1 := ⟨f - 1, by omega⟩
    have hk2 : i < C.length := by omega
    have ht := hclt _ (getD_mem hk2)
    have he1 : Er z (uI z 25 0) := E3.uI (by decide)
    have hl : RW (uI z 25 0) [] := ⟨rfl, LR_nil⟩
    obtain ⟨z3, e3, x1, x2, x3⟩ := e9_facesOf hw (RMt_em (Er_em he1) hr) ht hl (by simp)
    rw [List.nil_append] at x2 x3
    have hz := he1.trans x1
    have hC3 : LR (aI z3 27) C := by rw [hz.2.2.1 27 (by decide)]; exact hC
    have hm3 := RMm_em (Er_em hz) hm
    have e79 := lookM_L79 hw hm3 x2 (by omega) (fcs_lt hw ht) (fX9_lookForMethod_L55 f) nm a b (nI i) _ 0 5000 (Nat.zero_add _) (by omega)
    rw [List.drop_zero] at e79
    have a1 : rdI (uI z 25 0) 27 12 (nI i) = some (nI (C.getD i 0)) := by
      rw [rdI_nI (by omega) (by decide)]
      exact congrArg some (hC i hk2)
    have a4 : fX9_lookForMethod_L79 (fX9_lookForMethod_L55 f) 5000 z3 nm a b (nI i) 0 = _ := e79
    rw [pk_m1, fX9_lookForMethod_L55, if_neg (nI_pos (by omega)), Option.bind_some, a1, Option.bind_some, e3, Option.bind_some, a4, take_getD hk2, List.reverse_append]
    show ∃ z', _ = some (oI (((C.getD i 0 :: (C.take i).reverse).flatMap (fcs h)).findSome? (qM h nm a b)), z') ∧ _
    rw [List.flatMap_cons, List.findSome?_append]
    cases e5 : (fcs h (C.getD i 0)).findSome? (qM h nm a b) with
    | some m => exact ⟨z3, rfl, hz⟩
    | none =>
      obtain ⟨z4, e4, y1⟩ := lookM_L55 hw hc hclt nm a b i f z3 (by omega) (by omega) (RMt_em (Er_em hz) hr) hm3 hC3
      refine ⟨z4, ?_, hz.trans y1⟩
      dsimp only
      rw [e4]; rfl
theorem lookM_L10 {h : HA} (hw : WF h) {C : List Nat} (hc : C.length ≤ 12) (hclt : ∀ x, x ∈ C → x < hN h) (nm a b : Int32) {z : ST} (hr : RMt z h) (hm : RMm z h) (hC : LR (aI z 27) C) : ∀ (n k f : Nat), k + n = C.length → n < f → ∃ z', fX9_lookForMethod_L10 f z nm a b (nI C.length) (nI k) = some (oI ((C.drop k ++ C.reverse.flatMap (fcs h)).findSome? (qM h nm a b)), z') ∧ Er z z'
  | 0, k, f, hk, hf => by
    obtain ⟨f, rfl⟩ : ∃ j, f = j + 1 := ⟨f - 1, by omega⟩
    obtain ⟨z', e, x1⟩ := lookM_L55 hw hc hclt nm a b C.length 5000 z (Nat.le_refl _) (by omega) hr hm hC
    refine ⟨z', ?_, x1⟩
    rw [List.take_length] at e
    rw [fX9_lookForMethod_L10, if_pos (nI_le (by omega) (by omega)), List.drop_eq_nil_of_le (by omega), sub1, e]; rfl
  | n + 1, k, f, hk, hf => by
    have hn := hw.1
    obtain ⟨f, rfl⟩ : ∃ j, f = j + 1 := ⟨f - 1, by omega⟩
    have hk2 : k < C.length := by omega
    have ht := hclt _ (getD_mem hk2)
    have e1 : fX9_ownOf z (nI (C.getD k 0)) 1 nm a b = some (oI (qM h nm a b (C.getD k 0))) := e9_own hm hn (WF_own hw) (by omega) true nm a b
    obtain ⟨z', ih, y1⟩ := lookM_L10 hw hc hclt nm a b hr hm hC n (k + 1) f (by omega) (by omega)
    rw [fX9_lookForMethod_L10, if_neg (nI_ge hk2 (by omega)), rdI_nI (by omega) (by decide), Option.bind_some, hC k hk2, e1, Option.bind_some, drop_getD hk2, List.cons_append, List.findSome?_cons]
    cases e : qM h nm a b (C.getD k 0) with
    | none => exact ⟨z', by rw [if_pos oI_lt, nI_1, ih], y1⟩
    | some m =>
      have := (own_some e).1
      exact ⟨z, by rw [if_neg (oI_neg (by omega))], E3.refl⟩
theorem e9_lookForMethod {z : ST} {h : HA} (hr : RMt z h) (hm : RMm z h) (hw : WF h) {t : Nat} (ht : t < hN h) (nm a b : Int32) : ∃ z', fX9_lookForMethod z (nI t) nm a b = some (oI (lkM h t nm a b), z') ∧ El z z' := by
  obtain ⟨z1, e1, x1, x2⟩ := e9_chainOf hr hw ht
  have hc := chn_12 hw ht
  obtain ⟨z2, e2, y1⟩ := lookM_L10 hw hc (chn_lt hw t ht) nm a b (RMt_em (El_em x1) hr) (RMm_em (El_em x1) hm) x2 (chn h t).length 0 5000 (by omega) (by omega)
  refine ⟨z2, ?_, x1.trans (Er_el y1)⟩
  rw [fX9_lookForMethod, e1, b2_eq]
  refine e2.trans ?_
  rw [List.drop_zero, lkM, odr_M hw t ht]; rfl
