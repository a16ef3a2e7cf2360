/-! ===== MEETING: the reference ===== -/
theorem RMc_em {u v : ST} {c : Nat} {so t n a b : Int32} {K : CK} (he : Em u v) (h : RMc u c so t n a b K) : RMc v c so t n a b K := by
  unfold RMc at h ⊢
  rw [he.2.2.1 29 (by decide), he.2.2.1 30 (by decide), he.2.2.1 31 (by decide), he.2.2.1 32 (by decide), he.2.2.1 33 (by decide), he.2.2.1 34 (by decide), he.2.2.1 35 (by decide), he.2.2.1 36 (by decide), he.2.2.1 38 (by decide), he.2.2.1 39 (by decide), he.2.2.1 40 (by decide), he.2.2.2.1]; exact h
theorem fl_cases (h : HA) (c a : Nat) : fl h c a = 0 ∨ fl h c a = 1 ∨ fl h c a = 2 := by
  unfold fl
  by_cases c1 : hM h a &&& 2 = 0
  · rw [if_pos c1]
    by_cases c2 : brB h c = true
    · rw [if_pos c2]; exact Or.inr (Or.inr rfl)
    · rw [if_neg c2]; exact Or.inl rfl
  · rw [if_neg c1]; exact Or.inr (Or.inl rfl)
theorem rdf_cases (h : HA) : ∀ l : List Nat, rdf h l = 0 ∨ rdf h l = 1 ∨ rdf h l = 2
  | [] => Or.inl rfl
  | [_] => Or.inl rfl
  | c :: a :: l => by
    rw [rdf]
    by_cases c1 : rdf h (a :: l) = 0
    · rw [if_pos c1]; exact fl_cases h c a
    · rw [if_neg c1]; exact rdf_cases h (a :: l)
theorem rdf_le {h : HA} {l : List Nat} : rdf h l ≤ 0 ↔ rdf h l = 0 := by
  rcases rdf_cases h l with e | e | e <;> rw [e] <;> decide
theorem scM_cases {h : HA} {L : Nat → Option Nat} (hL' : ∀ i m, L i = some m → m < 60 ∧ ∃ r, hB h m = some r ∧ rM r = true) : ∀ (n k : Nat) (x y : Int32), (x = -2 ∨ ∃ m r, m < 60 ∧ x = nI m ∧ hB h m = some r ∧ rM r = true) → (y = -2 ∨ ∃ m r, m < 60 ∧ y = nI m ∧ hB h m = some r ∧ rM r = true) → (scM h L n k x y = -2 ∨ scM h L n k x y = -4 ∨ ∃ m r, m < 60 ∧ scM h L n k x y = nI m ∧ hB h m = some r ∧ rM r = true)
  | 0, k, x, y, hx, hy => by
    rw [scM]
    by_cases c : x < 0
    · rw [if_pos c]
      rcases hy with hy | hy
      · exact Or.inl hy
      · exact Or.inr (Or.inr hy)
    · rw [if_neg c]
      rcases hx with hx | hx
      · exact Or.inl hx
      · exact Or.inr (Or.inr hx)
  | n + 1, k, x, y, hx, hy => by
    rw [scM]
    cases e : L k with
    | none => exact scM_cases hL' n (k + 1) x y hx hy
    | some m =>
      obtain ⟨m60, r, er, erm⟩ := hL' k m e
      dsimp only
      by_cases c : haB h (nI m) 8 = true
      · rw [if_pos c]; exact scM_cases hL' n (k + 1) x (nI m) hx (Or.inr ⟨m, r, m60, rfl, er, erm⟩)
      · rw [if_neg c]
        by_cases d : x = -2
        · rw [if_pos d]; exact scM_cases hL' n (k + 1) (nI m) y (Or.inr ⟨m, r, m60, rfl, er, erm⟩) hy
        · rw [if_neg d]; exact Or.inr (Or.inl rfl)
theorem slM_cases (h : HA) (t : Nat) (n a b : Int32) : slM h t n a b = -2 ∨ slM h t n a b = -4 ∨ ∃ m r, m < 60 ∧ slM h t n a b = nI m ∧ hB h m = some r ∧ rM r = true := by
  unfold slM
  cases e : (chn h t).findSome? (opn h n a b) with
  | none => exact scM_cases (fun i m q => lwm_some q) (hN h) 0 (-2) (-2) (Or.inl rfl) (Or.inl rfl)
  | some m =>
    obtain ⟨c, -, e2⟩ := List.exists_of_findSome?_eq_some e
    obtain ⟨m60, r, er, -, erm, -⟩ := own_some (opn_some e2).1
    exact Or.inr (Or.inr ⟨m, r, m60, rfl, er, erm⟩)
theorem pst_m2 (h : HA) : pst h (-2) = -2 := by unfold pst; rw [if_pos (by decide)]
theorem pst_m4 (h : HA) : pst h (-4) = -4 := by unfold pst; rw [if_pos (by decide)]
theorem mtV_m2 (h : HA) : mtV h (-2) = (8, 0) := by unfold mtV; rw [isN_m2, if_neg Bool.false_ne_true, if_neg (by decide)]
theorem mtV_m4 (h : HA) : mtV h (-4) = (5, 0) := by unfold mtV; rw [isN_lt0 (by decide), if_neg Bool.false_ne_true, if_pos rfl]
theorem m_L32 {z : ST} {h : HA} (hm : RMm z h) {y : Int32} (hy : y = -2 ∨ y = -4 ∨ ∃ m r, m < 60 ∧ y = nI m ∧ hB h m = some r ∧ rM r = true) : ∃ z', fX9_meetsMethod_L32 z y = some ((mtV h (pst h y)).1, z') ∧ Em z z' ∧ ((mtV h (pst h y)).1 = 0 → sL z' 43 = (mtV h (pst h y)).2) := by
  rcases hy with rfl | rfl | ⟨m, r, m60, rfl, er, erm⟩
  · rw [pst_m2, mtV_m2]; exact ⟨z, rfl, E3.refl, fun q => absurd q (by decide)⟩
  · rw [pst_m4, mtV_m4]; exact ⟨z, rfl, E3.refl, fun q => absurd q (by decide)⟩
  · have b10 := (RMm_at hm m60 er).2.2.2.2.1
    have b14 := (RMm_at hm m60 er).2.2.2.2.2.2.2.2
    rw [if_pos erm] at b14
    have n4 : ¬ nI m = -4 := by
      intro e
      have := nI_pos (n := m) (by omega)
      rw [e] at this; exact this (by decide)
    rw [fX9_meetsMethod_L32, if_neg n4, if_neg (nI_pos (by omega)), rdI_nI m60 (by decide), Option.bind_some, b10]
    unfold pst
    rw [if_neg (nI_pos (by omega)), haB_nI m60 er]
    by_cases c : rK r &&& 8 = 0
    · have e1 : ¬ (!decide (rK r &&& 8 = 0)) = true := by simp [c]
      rw [if_pos c, if_neg e1, mtV_nI m60 er, rdL_nI m60 (by decide), Option.bind_some, b14, Option.bind_some]
      exact ⟨_, rfl, E3.uL (by decide), fun _ => sL_uL _ _ _⟩
    · have e1 : (!decide (rK r &&& 8 = 0)) = true := by simp [c]
      rw [if_neg c, if_pos e1, mtV_m2]
      exact ⟨z, rfl, E3.refl, fun q => absurd q (by decide)⟩
theorem m_field (hfp : FPx) {z : ST} {h : HA} (hm : RMm z h) (hw : WF h) {c : Nat} (hc : c < 25) {t n a b : Int32} {K : CK} (hK : RMc z c 0 t n a b K) (hk : isN (kKd K) 8 = true) {m : Nat} {q : MR} (m60 : m < 60) (er : hB h m = some q) (erm : rM q = false) : ∃ z', fX9_meetsField z (nI c) (nI m) = some ((if wdB (rA q) (kKd K) = true then ((0, co (kKd K) (co (rA q) (rV q))) : Int32 × Int64) else (7, 0)).1, z') ∧ Em z z' ∧ ((if wdB (rA q) (kKd K) = true then ((0, co (kKd K) (co (rA q) (rV q))) : Int32 × Int64) else (7, 0)).1 = 0 → sL z' 43 = (if wdB (rA q) (kKd K) = true then ((0, co (kKd K) (co (rA q) (rV q))) : Int32 × Int64) else (7, 0)).2) := by
  obtain ⟨ok1, ok2⟩ := okR_f hw er erm
  have b11 := (RMm_at hm m60 er).2.2.2.2.2.2.1 erm
  have b14 := (RMm_at hm m60 er).2.2.2.2.2.2.2.2
  rw [if_neg (by rw [erm]; decide)] at b14
  have b40 := (hK.2.2.2.2.1 rfl).1
  rw [fX9_meetsField, rdI_nI m60 (by decide), Option.bind_some, b11, rdI_nI hc (by decide), Option.bind_some, b40, e9_widens ok2 hk, Option.bind_some]
  cases d : wdB (rA q) (kKd K) with
  | false => exact ⟨z, rfl, E3.refl, fun x => by rw [if_neg Bool.false_ne_true] at x; exact absurd x (by decide)⟩
  | true =>
    rw [if_neg (by decide), Option.bind_some, rdL_nI m60 (by decide), Option.bind_some, b14, Option.bind_some, e9_comes hfp ok2 hk d, Option.bind_some, Option.bind_some]
    exact ⟨_, rfl, E3.uL (by decide), fun _ => sL_uL _ _ _⟩
theorem k9s : ∀ i, i < 9 → (nI i &&& 1 = 0 ∨ nI i &&& 8 = 0) := by decide +kernel
theorem m_method {z : ST} {h : HA} (hr : RMt z h) (hm : RMm z h) (hw : WF h) {c r : Nat} (hc : c < 25) (hrr : r < hN h) {t n a b : Int32} {K : CK} (hK : RMc z c 1 t n a b K) {m : Nat} {q : MR} (m60 : m < 60) (er : hB h m = some q) (erm : rM q = true) (hst : haB h (nI m) 1 = kSt K) : ∃ z', fX9_meetsMethod z (nI c) (nI m) (nI r) (bI (kSt K)) = some ((mtV h (if kSt K = true then nI m else slC h r n (kFi K) (kSe K))).1, z') ∧ Em z z' ∧ ((mtV h (if kSt K = true then nI m else slC h r n (kFi K) (kSe K))).1 = 0 → sL z' 43 = (mtV h (if kSt K = true then nI m else slC h r n (kFi K) (kSe K))).2) := by
  rw [fX9_meetsMethod]
  cases c3 : kSt K with
  | false =>
    obtain ⟨z1, e1, y1⟩ := e9_select hr hm hw hrr n (kFi K) (kSe K)
    obtain ⟨z2, e2, y2, v2⟩ := m_L32 (RMm_em y1 hm) (slM_cases h r n (kFi K) (kSe K))
    rw [sl_pst] at e2 v2
    refine ⟨z2, ?_, y1.trans y2, by rw [if_neg Bool.false_ne_true]; exact v2⟩
    rw [if_pos bI_f, rdI_nI hc (by decide), Option.bind_some, hK.1.2.2.1, rdI_nI hc (by decide), Option.bind_some, hK.2.1, rdI_nI hc (by decide), Option.bind_some, hK.2.2.1, e1, b2_eq, e2, if_neg Bool.false_ne_true]
  | true =>
    obtain ⟨z2, e2, y2, v2⟩ := m_L32 hm (y := nI m) (Or.inr (Or.inr ⟨m, q, m60, rfl, er, erm⟩))
    have hp : pst h (nI m) = nI m := by
      unfold pst
      rw [if_neg (nI_pos (by omega)), haB_nI m60 er]
      obtain ⟨i, hi, ei⟩ := isN_true ((hw.2.2.2.2.2.2.1 m q er).2.2.1 erm).1 (by decide)
      rw [haB_nI m60 er, c3] at hst
      have k1 : ¬ rK q &&& 1 = 0 := by simpa using hst
      have k8 : rK q &&& 8 = 0 := by
        rcases k9s i hi with k | k
        · rw [← ei] at k; exact absurd k k1
        · rw [← ei] at k; exact k
      rw [if_neg (by simp [k8])]
    rw [hp] at e2 v2
    exact ⟨z2, by rw [if_neg (by decide), e2, if_pos rfl], y2, by rw [if_pos rfl]; exact v2⟩
