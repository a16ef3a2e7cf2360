theorem vI_self (z : ST) (k : Nat) : vI z k (aI z k) = z := by
  have : va_up (aI z) k (aI z k) = aI z := by
    funext j
    unfold va_up
    by_cases c : j = k
    · subst c; simp
    · simp [c]
  unfold vI
  rw [this]
  rfl
theorem RMt_15 {z : ST} {h : HA} (f : Nat → Int32) (hr : RMt z h) : RMt (vI z 15 f) h := hr
theorem RMm_15 {z : ST} {h : HA} (f : Nat → Int32) (hr : RMm z h) : RMm (vI z 15 f) h := hr
def addO (l : List Nat) (o : Option Nat) : List Nat := match o with
  | none => l
  | some x => addQ l x
def itm (h : HA) (t : Nat) : List (Option Nat) := hA h t :: (hL h t).map some
theorem fold_itm {h : HA} {t : Nat} {l : List Nat} : (itm h t).foldl addO l = (suc h t).foldl addQ l := by
  have : ∀ (xs l : List Nat), (xs.map some).foldl addO l = xs.foldl addQ l := by
    intro xs
    induction xs with
    | nil => intro l; rfl
    | cons x xs ih => intro l; simp only [List.map_cons, List.foldl_cons, addO, ih]
  unfold itm suc
  rw [List.foldl_cons, List.foldl_append]
  cases hA h t with
  | none => simp [addO, this]
  | some a => simp [addO, this]
theorem pred_nI (i : Nat) : nI (i + 1) - 1 = nI i := nI_pred i
theorem QR_len {z : ST} {B : Int32} {l : List Nat} {n : Nat} (hq : QR z B l n) : l.length ≤ n := nodup_le hq.2.2.1 hq.2.2.2
theorem ups_L73 {h : HA} (hw : WF h) (K : ST → Int32 → Int32 → Int32 → Int32 → Int32 → Option (Int32 × ST)) (k x5 x6 : Int32) {z : ST} {B : Int32} {l : List Nat} (hq : QR z B l (hN h)) (o : Option Nat) (ho : ∀ s, o = some s → s < hN h) : ∃ (a : Nat → Int32) (B' : Int32), QR (vI z 15 a) B' (addO l o) (hN h) ∧ fX9_ups_L73 K z B (nI l.length) k x5 x6 (oI o) = K (vI z 15 a) B' (nI (addO l o).length) k x5 (x6 + 1) := by
  have hn := hw.1
  unfold fX9_ups_L73 fX9_ups_L107
  cases o with
  | none =>
    refine ⟨aI z 15, B, ?_, ?_⟩
    · rw [vI_self]; exact hq
    · rw [vI_self, if_pos (by decide)]; rfl
  | some s =>
    have hs := ho s rfl
    show ∃ a B', QR (vI z 15 a) B' (addQ l s) (hN h) ∧ (if nI s < 0 then _ else _) = _
    rw [if_neg (nI_pos (by omega))]
    by_cases c : s ∈ l
    · have e1 : addQ l s = l := by unfold addQ; rw [if_pos c]
      have e2 : bt B s = true := by rw [hq.2.1 s (by omega)]; simp [c]
      refine ⟨aI z 15, B, ?_, ?_⟩
      · rw [vI_self, e1]; exact hq
      · have : ¬ ((B >>> (nI s &&& 31)) &&& 1 = 0) := by rw [tst0 B (by omega), e2]; decide
        show (if (B >>> (nI s &&& 31)) &&& 1 = 0 then _ else _) = K _ _ (nI (addQ l s).length) _ _ _
        rw [if_neg this, vI_self, e1]
    · have e1 : addQ l s = l ++ [s] := by unfold addQ; rw [if_neg c]
      have e2 : bt B s = false := by rw [hq.2.1 s (by omega)]; simp [c]
      have hlen := QR_len hq
      refine ⟨upd (aI z 15) l.length (nI s), B ||| ((1 : Int32) <<< (nI s &&& 31)), ?_, ?_⟩
      · rw [e1]; exact QR_add hq hs hn c
      · show (if (B >>> (nI s &&& 31)) &&& 1 = 0 then (stI z 15 64 (nI l.length) (nI s)).bind _ else _) = K _ _ (nI (addQ l s).length) _ _ _
        rw [if_pos ((tst0 B (by omega)).mpr e2), stI_nI (by omega) (by decide), Option.bind_some, e1, List.length_append, List.length_singleton, nI_1]
        rfl
theorem ups_L34 {h : HA} (hw : WF h) {t : Nat} (ht : t < hN h) (K : ST → Int32 → Int32 → Int32 → Option (Int32 × ST)) (k : Int32) : ∀ (rem i f : Nat) (z : ST) (B : Int32) (l : List Nat), RMt z h → QR z B l (hN h) → i + rem = (hL h t).length + 1 → rem < f → ∃ (a : Nat → Int32) (B' : Int32), QR (vI z 15 a) B' (((itm h t).drop i).foldl addO l) (hN h) ∧ fX9_ups_L34 K f z B (nI l.length) k (nI t) (nI i - 1) = K (vI z 15 a) B' (nI (((itm h t).drop i).foldl addO l).length) (k + 1)
  | rem, i, 0, _, _, _, _, _, _, hf => by omega
  | 0, i, f + 1, z, B, l, hr, hq, hi, _ => by
    have hn := hw.1
    have hlen := (hw.2.2.1 t ht).1
    have e0 : (itm h t).drop i = [] := List.drop_eq_nil_of_le (by simp [itm]; omega)
    have ei : i = (hL h t).length + 1 := by omega
    refine ⟨aI z 15, B, ?_, ?_⟩
    · rw [vI_self, e0]; exact hq
    · rw [fX9_ups_L34, rdI_nI (by omega) (by decide), Option.bind_some, (hr.2 t ht).2.2.2.1, ei, pred_nI, if_pos (nI_le (Nat.le_refl _) (by omega)), vI_self, ← ei, e0]
      rfl
  | rem + 1, i, f + 1, z, B, l, hr, hq, hi, hf => by
    have hn := hw.1
    have hlen := (hw.2.2.1 t ht).1
    have go : ∀ (o : Option Nat), (itm h t)[i]? = some o → (∀ s, o = some s → s < hN h) → ∃ (a : Nat → Int32) (B' : Int32), QR (vI z 15 a) B' (((itm h t).drop i).foldl addO l) (hN h) ∧ fX9_ups_L73 (fX9_ups_L34 K f) z B (nI l.length) k (nI t) (nI i - 1) (oI o) = K (vI z 15 a) B' (nI (((itm h t).drop i).foldl addO l).length) (k + 1) := by
      intro o ho hs
      obtain ⟨a, B1, q1, e1⟩ := ups_L73 hw (fX9_ups_L34 K f) k (nI t) (nI i - 1) hq o hs
      obtain ⟨a2, B2, q2, e2⟩ := ups_L34 hw ht K k rem (i + 1) f (vI z 15 a) B1 (addO l o) (RMt_15 a hr) q1 (by omega) (by omega)
      have hd : (itm h t).drop i = o :: (itm h t).drop (i + 1) := by
        have hlt := (List.getElem?_eq_some_iff.mp ho).1
        rw [List.drop_eq_getElem_cons hlt]
        congr 1
        exact (List.getElem?_eq_some_iff.mp ho).2
      rw [vI_vI] at q2 e2
      refine ⟨a2, B2, ?_, ?_⟩
      · rw [hd]; exact q2
      · rw [e1, hd]
        have : nI i - 1 + 1 = nI (i + 1) - 1 := by rw [pred_nI]; simp
        rw [this]
        exact e2
    rw [fX9_ups_L34, rdI_nI (by omega) (by decide), Option.bind_some, (hr.2 t ht).2.2.2.1]
    cases i with
    | zero =>
      have c1 : ¬ nI (hL h t).length ≤ nI 0 - 1 := by
        rw [Int32.le_iff_toInt_le, nI_toInt (by omega)]
        have : (nI 0 - 1).toInt = -1 := by decide
        omega
      rw [if_neg c1, if_neg (by decide), rdI_nI (by omega) (by decide), Option.bind_some, (hr.2 t ht).2.1]
      exact go (hA h t) rfl (fun s hs => (hw.2.1 t ht s hs).1)
    | succ i =>
      have hi2 : i < (hL h t).length := by omega
      have c1 : ¬ nI (hL h t).length ≤ nI (i + 1) - 1 := by rw [pred_nI]; exact nI_ge hi2 (by omega)
      have c2 : 0 ≤ nI (i + 1) - 1 := by rw [pred_nI]; exact nI_pos' (by omega)
      have e3 : 3 * nI t + (nI (i + 1) - 1) = nI (3 * t + i) := by
        have : (3 : Int32) = nI 3 := rfl
        rw [pred_nI, this, pk_mul, nI_add]
      rw [if_neg c1, if_pos c2, e3, rdI_nI (by omega) (by decide), Option.bind_some, (hr.2 t ht).2.2.2.2 i hi2]
      have hg : (hL h t)[i]? = some ((hL h t).getD i 0) := by
        rw [List.getD_eq_getElem?_getD, List.getElem?_eq_getElem hi2]; rfl
      refine go (some ((hL h t).getD i 0)) ?_ (fun s hs => ?_)
      · show ((hL h t).map some)[i]? = _
        rw [List.getElem?_map, hg]; rfl
      · cases hs
        exact ((hw.2.2.1 t ht).2.2 _ (List.mem_of_getElem? hg)).1
theorem ups_L16 {h : HA} (hw : WF h) {t0 : Nat} (h0 : t0 < hN h) : ∀ (d k f : Nat) (z : ST) (B : Int32) (l : List Nat), RMt z h → QR z B l (hN h) → k + d = 12 → d < f → k ≤ l.length → t0 ∈ l → (∀ x, x ∈ l → bel h t0 x = true) → (∀ j, j < k → ∀ s, s ∈ suc h (l.getD j 0) → s ∈ l) → ∃ (a : Nat → Int32) (B' : Int32), fX9_ups_L16 f z B (nI l.length) (nI k) = some (B', vI z 15 a) ∧ ∀ i, i < 32 → bt B' i = (decide (i < hN h) && bel h t0 i)
  | d, k, 0, _, _, _, _, _, _, hf, _, _, _, _ => by omega
  | d, k, f + 1, z, B, l, hr, hq, hk, hf, hkl, ht0, hsnd, hcl => by
    have hn := hw.1
    have hlen := QR_len hq
    rw [fX9_ups_L16]
    by_cases c : k = l.length
    · rw [if_pos (by rw [c]; exact nI_le (Nat.le_refl _) (by omega))]
      refine ⟨aI z 15, B, by rw [vI_self], fun i hi => ?_⟩
      rw [hq.2.1 i hi]
      by_cases hi2 : i ∈ l
      · simp [hi2, hq.2.2.2 i hi2, hsnd i hi2]
      · have : bel h t0 i = false := by
          cases hb : bel h t0 i with
          | false => rfl
          | true =>
            refine absurd (bel_closed hw (S := fun x => x ∈ l) (fun x hx hxl s hs => ?_) h0 ht0 hb) hi2
            obtain ⟨j, hj⟩ := List.getElem?_of_mem hxl
            have hjl := (List.getElem?_eq_some_iff.mp hj).1
            refine hcl j (by omega) s ?_
            rw [List.getD_eq_getElem?_getD, hj]
            exact hs
        simp [hi2, this]
    · have hkl2 : k < l.length := by omega
      have c1 : ¬ nI l.length ≤ nI k := nI_ge hkl2 (by omega)
      have hg : l[k]? = some (l.getD k 0) := by rw [List.getD_eq_getElem?_getD, List.getElem?_eq_getElem hkl2]; rfl
      have hm : l.getD k 0 ∈ l := List.mem_of_getElem? hg
      have ht := hq.2.2.2 _ hm
      rw [if_neg c1, rdI_nI (by omega) (by decide), Option.bind_some, hq.1 k hkl2]
      obtain ⟨a, B1, q1, e1⟩ := ups_L34 hw ht (fX9_ups_L16 f) (nI k) ((hL h (l.getD k 0)).length + 1) 0 5000 z B l hr hq (by omega) (by have := (hw.2.2.1 _ ht).1; omega)
      rw [show nI 0 - 1 = -1 from rfl] at e1
      rw [e1, nI_1]
      rw [List.drop_zero, fold_itm] at q1 ⊢
      have pre : ∀ (xs l : List Nat), ∃ r, xs.foldl addQ l = l ++ r := by
        intro xs
        induction xs with
        | nil => intro l; exact ⟨[], by simp⟩
        | cons x xs ih =>
          intro l
          obtain ⟨r, hr⟩ := ih (addQ l x)
          rw [List.foldl_cons, hr]
          unfold addQ
          by_cases c : x ∈ l
          · rw [if_pos c]; exact ⟨r, rfl⟩
          · rw [if_neg c]; exact ⟨x :: r, by simp⟩
      obtain ⟨r, hpre⟩ := pre (suc h (l.getD k 0)) l
      have hgd : ∀ j, j < l.length → ((suc h (l.getD k 0)).foldl addQ l).getD j 0 = l.getD j 0 := by
        intro j hj
        rw [hpre, List.getD_eq_getElem?_getD, List.getD_eq_getElem?_getD, List.getElem?_append_left hj]
      obtain ⟨a2, B2, e2, hb2⟩ := ups_L16 hw h0 (d - 1) (k + 1) f (vI z 15 a) B1 ((suc h (l.getD k 0)).foldl addQ l) (RMt_15 a hr) q1 (by omega) (by omega) (by rw [hpre, List.length_append]; omega) (foldQ_mem.mpr (Or.inl ht0)) (fun x hx => by
        rcases foldQ_mem.mp hx with h1 | h1
        · exact hsnd x h1
        · exact bel_trans hw h0 (hsnd _ hm) (bel_step hw ht h1 (bel_refl x))) (fun j hj s hs => by
        rw [hgd j (by omega)] at hs
        by_cases e : j = k
        · subst e; exact foldQ_mem.mpr (Or.inr hs)
        · exact foldQ_mem.mpr (Or.inl (hcl j (by omega) s hs)))
      refine ⟨a2, B2, ?_, hb2⟩
      rw [e2, vI_vI]
theorem e9_ups {h : HA} {z : ST} (hw : WF h) (hr : RMt z h) {t : Nat} (ht : t < hN h) : ∃ (a : Nat → Int32) (B : Int32), fX9_ups z (nI t) = some (B, vI z 15 a) ∧ ∀ i, i < 32 → bt B i = (decide (i < hN h) && bel h t i) := by
  have hn := hw.1
  unfold fX9_ups
  have e0 : stI z 15 64 0 (nI t) = some (vI z 15 (upd (aI z 15) 0 (nI t))) := stI_nI (j := 0) (by omega) (by decide)
  rw [e0, Option.bind_some]
  have hq : QR (vI z 15 (upd (aI z 15) 0 (nI t))) ((1 : Int32) <<< (nI t &&& 31)) [t] (hN h) := by
    refine ⟨fun j hj => ?_, fun i hi => ?_, by simp, fun x hx => by simp at hx; omega⟩
    · have : j = 0 := by simpa using hj
      subst this
      rw [aI_vI, upd_rd]; simp
    · rw [b_bit (by omega) hi]; simp
  obtain ⟨a, B, e1, hb⟩ := ups_L16 hw ht 12 0 5000 _ _ [t] (RMt_15 _ hr) hq rfl (by decide) (by simp) (by simp) (fun x hx => by simp at hx; subst hx; exact bel_refl _) (fun j hj => by omega)
  exact ⟨a, B, by rw [vI_vI] at e1; exact e1, hb⟩
theorem e9_isBelow {h : HA} {z : ST} (hw : WF h) (hr : RMt z h) {t s : Nat} (ht : t < hN h) (hs : s < hN h) : ∃ a, fX9_isBelow z (nI t) (nI s) = some (bI (bel h t s), vI z 15 a) := by
  have hn := hw.1
  obtain ⟨a, B, e, hb⟩ := e9_ups hw hr ht
  refine ⟨a, ?_⟩
  unfold fX9_isBelow
  rw [e, b2_eq]
  have := hb s (by omega)
  simp only [hs, decide_true, Bool.true_and] at this
  by_cases c : bel h t s = true
  · rw [if_pos ((tst1 B (by omega)).mpr (by rw [this]; exact c)), c]; rfl
  · rw [if_neg (fun e => c (by rw [← this]; exact (tst1 B (by omega)).mp e))]
    simp only [Bool.not_eq_true] at c
    rw [c]; rfl
