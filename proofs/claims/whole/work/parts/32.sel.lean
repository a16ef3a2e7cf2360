/-! ===== which METHOD is SELECTED ===== -/
def opn (h : HA) (nm a b : Int32) (c : Nat) : Option Nat := match own h c true nm a b with
  | none => none
  | some m => if opB h (nI m) = true then some m else none
def cf (h : HA) (t : Nat) (nm a b : Int32) (i : Nat) : Bool := bel h t i && (hF h i && (opn h nm a b i).isSome)
def Qf (h : HA) (t : Nat) (nm a b : Int32) (i j : Nat) : Bool := !decide (j = i) && (cf h t nm a b i && (cf h t nm a b j && bel h j i))
def low (h : HA) (t : Nat) (nm a b : Int32) (i : Nat) : Bool := cf h t nm a b i && (ff (Qf h t nm a b i) (hN h) 0).isNone
def lwm (h : HA) (t : Nat) (nm a b : Int32) (i : Nat) : Option Nat := if low h t nm a b i = true then own h i true nm a b else none
def scC (h : HA) (L : Nat → Option Nat) : Nat → Nat → Int32 → Int32
  | 0, _, x => x
  | n + 1, k, x => match L k with
    | none => scC h L n (k + 1) x
    | some m => if haB h (nI m) 8 = true then scC h L n (k + 1) x else if x = -2 then scC h L n (k + 1) (nI m) else -4
def scM (h : HA) (L : Nat → Option Nat) : Nat → Nat → Int32 → Int32 → Int32
  | 0, _, x, y => if x < 0 then y else x
  | n + 1, k, x, y => match L k with
    | none => scM h L n (k + 1) x y
    | some m => if haB h (nI m) 8 = true then scM h L n (k + 1) x (nI m) else if x = -2 then scM h L n (k + 1) (nI m) y else -4
def pst (h : HA) (v : Int32) : Int32 := if v < 0 then v else if haB h v 8 = true then -2 else v
def slC (h : HA) (t : Nat) (nm a b : Int32) : Int32 := match (chn h t).findSome? (opn h nm a b) with
  | some m => if haB h (nI m) 8 = true then -2 else nI m
  | none => scC h (lwm h t nm a b) (hN h) 0 (-2)
def slM (h : HA) (t : Nat) (nm a b : Int32) : Int32 := match (chn h t).findSome? (opn h nm a b) with
  | some m => nI m
  | none => scM h (lwm h t nm a b) (hN h) 0 (-2) (-2)
theorem opB_m2 (h : HA) : opB h (-2) = false := by unfold opB; rw [isN_m2]; rfl
theorem haB_m2 (h : HA) (k : Int32) : haB h (-2) k = false := by unfold haB; rw [isN_m2]; rfl
theorem opB_nI {h : HA} {m : Nat} {r : MR} (hlt : m < 60) (e : hB h m = some r) : opB h (nI m) = (rM r && decide (rK r &&& 5 = 0)) := by
  unfold opB; rw [isN_nI (by omega), cl_nI (by omega), e]; simp [hlt]
theorem opn_some {h : HA} {nm a b : Int32} {c m : Nat} (e : opn h nm a b c = some m) : own h c true nm a b = some m ∧ opB h (nI m) = true := by
  unfold opn at e
  cases e1 : own h c true nm a b with
  | none => rw [e1] at e; cases e
  | some m' =>
    rw [e1] at e
    dsimp only at e
    by_cases c : opB h (nI m') = true
    · rw [if_pos c] at e; cases e; exact ⟨rfl, c⟩
    · rw [if_neg c] at e; cases e
theorem opn_isSome {h : HA} {nm a b : Int32} {c : Nat} : (opn h nm a b c).isSome = opB h (oI (own h c true nm a b)) := by
  unfold opn
  cases own h c true nm a b with
  | none => rw [oI_none, opB_m2]; rfl
  | some m => dsimp only; rw [oI_some]; cases opB h (nI m) <;> rfl
theorem lwm_some {h : HA} {t : Nat} {nm a b : Int32} {i m : Nat} (e : lwm h t nm a b i = some m) : m < 60 ∧ ∃ r, hB h m = some r ∧ rM r = true := by
  unfold lwm at e
  by_cases c : low h t nm a b i = true
  · rw [if_pos c] at e
    obtain ⟨h1, r, h2, -, h3, -⟩ := own_some e
    exact ⟨h1, r, h2, h3⟩
  · rw [if_neg c] at e; cases e
theorem sc_pst {h : HA} {L : Nat → Option Nat} (hL' : ∀ i m, L i = some m → m < 60) : ∀ (n k : Nat) (x y : Int32), (x = -2 ∨ ∃ m, m < 60 ∧ x = nI m ∧ haB h x 8 = false) → (y = -2 ∨ ∃ m, m < 60 ∧ y = nI m ∧ haB h y 8 = true) → pst h (scM h L n k x y) = scC h L n k x
  | 0, k, x, y, hx, hy => by
    unfold scM scC pst
    rcases hx with rfl | ⟨m, hm, rfl, h1⟩
    · rw [if_pos (by decide : (-2 : Int32) < 0)]
      rcases hy with rfl | ⟨m, hm, rfl, h1⟩
      · rw [if_pos (by decide)]
      · rw [if_neg (nI_pos (by omega)), if_pos h1]
    · rw [if_neg (nI_pos (by omega)), if_neg (nI_pos (by omega)), h1, if_neg (by decide)]
  | n + 1, k, x, y, hx, hy => by
    unfold scM scC
    cases e : L k with
    | none => exact sc_pst hL' n (k + 1) x y hx hy
    | some m =>
      have hm := hL' k m e
      dsimp only
      cases c : haB h (nI m) 8 with
      | true => rw [if_pos rfl, if_pos rfl]; exact sc_pst hL' n (k + 1) x (nI m) hx (Or.inr ⟨m, hm, rfl, c⟩)
      | false =>
        rw [if_neg Bool.false_ne_true, if_neg Bool.false_ne_true]
        by_cases c2 : x = -2
        · rw [if_pos c2, if_pos c2]; exact sc_pst hL' n (k + 1) (nI m) y (Or.inr ⟨m, hm, rfl, c⟩) hy
        · rw [if_neg c2, if_neg c2]; unfold pst; rw [if_pos (by decide)]
theorem sl_pst (h : HA) (t : Nat) (nm a b : Int32) : pst h (slM h t nm a b) = slC h t nm a b := by
  unfold slM slC
  cases e : (chn h t).findSome? (opn h nm a b) with
  | none => exact sc_pst (fun i m e => (lwm_some e).1) (hN h) 0 (-2) (-2) (Or.inl rfl) (Or.inl rfl)
  | some m =>
    obtain ⟨c, -, e2⟩ := List.exists_of_findSome?_eq_some e
    have := (own_some (opn_some e2).1).1
    unfold pst
    dsimp only
    rw [if_neg (nI_pos (by omega))]
/-! ===== the class ===== -/
theorem blB_nI {h : HA} {i j : Nat} (hn : hN h ≤ 12) (hi : i < hN h) (hj : j < hN h) : blB h (nI i) (nI j) = bel h i j := by
  unfold blB; rw [isN_nI (by omega), isN_nI (by omega), cl_nI (by omega), cl_nI (by omega)]; simp [hi, hj]
theorem e2_isLowest_L {u : ST} {h : HA} (hr : RCt u h) (ho : RCo u h) (hw : WF h) {t : Nat} {nm a b X : Int32} (hX : ∀ i, i < 32 → bt X i = (decide (i < hN h) && cf h t nm a b i)) {i : Nat} (hi : i < hN h) (hc : cf h t nm a b i = true) : ∀ (n k f : Nat), k + n = hN h → n < f → fX2_isLowest_L2 u f (nI i) X (nI k) = some (bI (ff (Qf h t nm a b i) n k).isNone)
  | 0, k, f, hk, hf => by
    have hn := hw.1
    obtain ⟨f, rfl⟩ : ∃ j, f = j + 1 := ⟨f - 1, by omega⟩
    rw [fX2_isLowest_L2, hr.1, if_pos (nI_le (by omega) (by omega))]; rfl
  | n + 1, k, f, hk, hf => by
    have hn := hw.1
    obtain ⟨f, rfl⟩ : ∃ j, f = j + 1 := ⟨f - 1, by omega⟩
    have ih := e2_isLowest_L hr ho hw hX hi hc n (k + 1) f (by omega) (by omega)
    have hk2 : k < hN h := by omega
    have hx := hX k (by omega)
    rw [fX2_isLowest_L2, hr.1, if_neg (nI_ge hk2 (by omega)), ff]
    by_cases c1 : k = i
    · have eP : ¬ Qf h t nm a b i k = true := by simp [Qf, c1]
      rw [if_pos (by rw [c1]), fX2_isLowest_L40, nI_1, ih, if_neg eP]
    · rw [if_neg (fun e => c1 (nI_inj (by omega) (by omega) e))]
      cases c2 : cf h t nm a b k with
      | false =>
        have eP : ¬ Qf h t nm a b i k = true := by simp [Qf, c2]
        rw [if_pos ((tst0 X (by omega)).mpr (by rw [hx, c2]; simp)), fX2_isLowest_L40, nI_1, ih, if_neg eP]
      | true =>
        have c3 : ¬ (X >>> (nI k &&& 31)) &&& 1 = 0 := by rw [tst0 X (by omega), hx, c2]; simp [hk2]
        rw [if_neg c3, e7_isBelow hr ho hn, Option.bind_some, blB_nI hn hk2 hi]
        cases c4 : bel h k i with
        | false =>
          have eP : ¬ Qf h t nm a b i k = true := by simp [Qf, c4]
          rw [if_pos bI_f, fX2_isLowest_L40, nI_1, ih, if_neg eP]
        | true =>
          have eP : Qf h t nm a b i k = true := by simp [Qf, c4, c2, hc, c1]
          rw [if_neg (by decide : ¬ bI true = 0), if_pos eP]; rfl
theorem e2_isLowest {u : ST} {h : HA} (hr : RCt u h) (ho : RCo u h) (hw : WF h) {t : Nat} {nm a b X : Int32} (hX : ∀ i, i < 32 → bt X i = (decide (i < hN h) && cf h t nm a b i)) {i : Nat} (hi : i < hN h) (hc : cf h t nm a b i = true) : fX2_isLowest u (nI i) X = some (bI (low h t nm a b i)) := by
  have hn := hw.1
  have := e2_isLowest_L hr ho hw hX hi hc (hN h) 0 5000 (by omega) (by omega)
  unfold low
  rw [hc, Bool.true_and]
  exact this
theorem e2_sof_L83 {u : ST} {h : HA} (hr : RCt u h) (hm : RCm u h) (ho : RCo u h) (hw : WF h) {t : Nat} {nm a b X : Int32} (hX : ∀ i, i < 32 → bt X i = (decide (i < hN h) && cf h t nm a b i)) : ∀ (n k f : Nat) (x : Int32), k + n = hN h → n < f → fX2_selectOfFaces_L83 u f nm a b X x (nI k) = some (scC h (lwm h t nm a b) n k x)
  | 0, k, f, x, hk, hf => by
    have hn := hw.1
    obtain ⟨f, rfl⟩ : ∃ j, f = j + 1 := ⟨f - 1, by omega⟩
    rw [fX2_selectOfFaces_L83, hr.1, if_pos (nI_le (by omega) (by omega))]; rfl
  | n + 1, k, f, x, hk, hf => by
    have hn := hw.1
    obtain ⟨f, rfl⟩ : ∃ j, f = j + 1 := ⟨f - 1, by omega⟩
    have ih := fun x => e2_sof_L83 hr hm ho hw hX n (k + 1) f x (by omega) (by omega)
    have hk2 : k < hN h := by omega
    have hx := hX k (by omega)
    have skip : lwm h t nm a b k = none → fX2_selectOfFaces_L132 u (fX2_selectOfFaces_L83 u f) nm a b X x (nI k) = some (scC h (lwm h t nm a b) (n + 1) k x) := by
      intro e
      rw [fX2_selectOfFaces_L132, fX2_selectOfFaces_L134, if_pos rfl, fX2_selectOfFaces_L171, nI_1, ih, scC, e]
    rw [fX2_selectOfFaces_L83, hr.1, if_neg (nI_ge hk2 (by omega))]
    cases c2 : cf h t nm a b k with
    | false =>
      have e : lwm h t nm a b k = none := by unfold lwm low; rw [c2]; rfl
      rw [if_pos ((tst0 X (by omega)).mpr (by rw [hx, c2]; simp)), skip e]
    | true =>
      have c3 : ¬ (X >>> (nI k &&& 31)) &&& 1 = 0 := by rw [tst0 X (by omega), hx, c2]; simp [hk2]
      rw [if_neg c3, e2_isLowest hr ho hw hX hk2 c2, Option.bind_some]
      cases c4 : low h t nm a b k with
      | false =>
        have e : lwm h t nm a b k = none := by unfold lwm; rw [c4]; rfl
        rw [if_pos bI_f, skip e]
      | true =>
        have e : lwm h t nm a b k = own h k true nm a b := by unfold lwm; rw [c4]; rfl
        rw [if_neg (by decide : ¬ bI true = 0), e6_methodOf hm hn (WF_own hw) (by omega), Option.bind_some, scC, e]
        cases e1 : own h k true nm a b with
        | none => rw [fX2_selectOfFaces_L134, if_pos oI_none, fX2_selectOfFaces_L171, nI_1, ih]
        | some m =>
          have hm60 := (own_some e1).1
          rw [fX2_selectOfFaces_L134, if_neg (oI_ne (by omega)), e6_has hm hn (WF_own hw), Option.bind_some, oI_some]
          dsimp only
          cases c5 : haB h (nI m) 8 with
          | true => rw [if_neg (by decide : ¬ bI true = 0), if_pos rfl, fX2_selectOfFaces_L171, nI_1, ih]
          | false =>
            rw [if_pos bI_f, if_neg Bool.false_ne_true]
            by_cases c6 : x = -2
            · rw [if_pos c6, if_pos c6, fX2_selectOfFaces_L171, nI_1, ih]
            · rw [if_neg c6, if_neg c6]
theorem e2_sof_L16 {u : ST} {h : HA} (hr : RCt u h) (hm : RCm u h) (ho : RCo u h) (hw : WF h) {t : Nat} {nm a b V : Int32} (hV : ∀ i, i < 32 → bt V i = (decide (i < hN h) && (bel h t i && hF h i))) : ∀ (n k f : Nat) (X : Int32), k + n = hN h → n < f → (∀ i, i < 32 → bt X i = (decide (i < k) && cf h t nm a b i)) → fX2_selectOfFaces_L16 u f nm a b V X (nI k) = some (scC h (lwm h t nm a b) (hN h) 0 (-2))
  | 0, k, f, X, hk, hf, hX => by
    have hn := hw.1
    obtain ⟨f, rfl⟩ : ∃ j, f = j + 1 := ⟨f - 1, by omega⟩
    have hk2 : k = hN h := by omega
    rw [hk2] at hX
    rw [fX2_selectOfFaces_L16, hr.1, if_pos (nI_le (by omega) (by omega))]
    exact e2_sof_L83 hr hm ho hw hX (hN h) 0 5000 (-2) (by omega) (by omega)
  | n + 1, k, f, X, hk, hf, hX => by
    have hn := hw.1
    obtain ⟨f, rfl⟩ : ∃ j, f = j + 1 := ⟨f - 1, by omega⟩
    have hk2 : k < hN h := by omega
    have ih := e2_sof_L16 hr hm ho hw (nm := nm) (a := a) (b := b) hV n (k + 1) f
    have keep : cf h t nm a b k = false → ∀ i, i < 32 → bt X i = (decide (i < k + 1) && cf h t nm a b i) := by
      intro c i hi
      rw [hX i hi]
      by_cases e : i = k
      · subst e; rw [c]; simp
      · have : (i < k + 1) = (i < k) := by apply propext; omega
        simp only [this]
    rw [fX2_selectOfFaces_L16, hr.1, if_neg (nI_ge hk2 (by omega))]
    cases c1 : (bel h t k && hF h k) with
    | false =>
      have c : cf h t nm a b k = false := by unfold cf; rw [← Bool.and_assoc, c1]; rfl
      rw [if_pos ((tst0 V (by omega)).mpr (by rw [hV k (by omega), c1]; simp)), fX2_selectOfFaces_L70, nI_1, ih X (by omega) (by omega) (keep c)]
    | true =>
      have c3 : ¬ (V >>> (nI k &&& 31)) &&& 1 = 0 := by rw [tst0 V (by omega), hV k (by omega), c1]; simp [hk2]
      have cc : cf h t nm a b k = opB h (oI (own h k true nm a b)) := by unfold cf; rw [← Bool.and_assoc, c1, Bool.true_and, opn_isSome]
      rw [if_neg c3, e6_methodOf hm hn (WF_own hw) (by omega), Option.bind_some, e6_isOpen hm hn (WF_own hw), Option.bind_some, ← cc]
      cases c : cf h t nm a b k with
      | false => rw [if_pos bI_f, fX2_selectOfFaces_L70, nI_1, ih X (by omega) (by omega) (keep c)]
      | true =>
        rw [if_neg (by decide : ¬ bI true = 0), fX2_selectOfFaces_L70, nI_1, ih _ (by omega) (by omega)]
        intro i hi
        rw [b_or, b_bit (by omega) hi, hX i hi]
        by_cases e : i = k
        · subst e; simp [c]
        · have : (i < k + 1) = (i < k) := by apply propext; omega
          simp [this, e]
theorem e2_selectOfFaces {u : ST} {h : HA} (hr : RCt u h) (hm : RCm u h) (ho : RCo u h) (hw : WF h) {t : Nat} (ht : t < hN h) (nm a b : Int32) : fX2_selectOfFaces u (nI t) nm a b = some (scC h (lwm h t nm a b) (hN h) 0 (-2)) := by
  have hn := hw.1
  have e1 : fX7_facesOver u (nI t) = some (aI u 13 t &&& (sI u 207 ^^^ (-1))) := by
    rw [fX7_facesOver, hr.1, if_neg (nI_pos (by omega)), if_neg (nI_ge ht (by omega)), rdI_nI (by omega) (by decide), Option.bind_some]
  rw [fX2_selectOfFaces, e1, Option.bind_some]
  refine e2_sof_L16 hr hm ho hw (V := aI u 13 t &&& (sI u 207 ^^^ (-1))) ?_ (hN h) 0 5000 0 (by omega) (by omega) (fun i hi => by rw [b_0]; simp)
  intro i hi
  rw [b_and, b_xor, b_m1 i hi, ho.1 t ht i hi, ho.2 i hi]
  cases decide (i < hN h) <;> cases bel h t i <;> cases hF h i <;> rfl
theorem e2_select_L6 {u : ST} {h : HA} (hr : RCt u h) (hm : RCm u h) (hw : WF h) (x1 nm a b : Int32) : ∀ c, c < hN h → ∀ (k f : Nat), k + (chn h c).length ≤ 12 → (chn h c).length < f → fX2_select_L6 u f x1 nm a b (nI c) (nI k) = (match (chn h c).findSome? (opn h nm a b) with | some m => some (if haB h (nI m) 8 = true then -2 else nI m) | none => fX2_select_L91 u x1 nm a b) := by
  have hn := hw.1
  refine bel_ind hw (fun c => ∀ (k f : Nat), k + (chn h c).length ≤ 12 → (chn h c).length < f → fX2_select_L6 u f x1 nm a b (nI c) (nI k) = (match (chn h c).findSome? (opn h nm a b) with | some m => some (if haB h (nI m) 8 = true then -2 else nI m) | none => fX2_select_L91 u x1 nm a b)) (fun c hc ih k f hk hf => ?_)
  obtain ⟨f, rfl⟩ : ∃ j, f = j + 1 := ⟨f - 1, by omega⟩
  rw [chn_fix hw hc] at hk hf ⊢
  rw [List.length_cons] at hk hf
  have c12 : ¬ (12 : Int32) ≤ nI k := nI_ge (b := 12) (by omega) (by decide)
  have it : isN (nI c) (hN h) = true := by rw [isN_nI (by omega)]; simpa using hc
  rw [fX2_select_L6, if_neg c12, e7_isType hr hn, Option.bind_some, it, if_neg (by decide : ¬ bI true = 0), e6_methodOf hm hn (WF_own hw) (by omega), Option.bind_some, e6_isOpen hm hn (WF_own hw), Option.bind_some, List.findSome?_cons]
  have hs : (opn h nm a b c).isSome = opB h (oI (own h c true nm a b)) := opn_isSome
  rw [← hs]
  cases e : opn h nm a b c with
  | some m =>
    obtain ⟨e1, -⟩ := opn_some e
    rw [Option.isSome_some, if_neg (by decide : ¬ bI true = 0), e1, e6_has hm hn (WF_own hw), Option.bind_some, oI_some]
    dsimp only
    cases haB h (nI m) 8 <;> rfl
  | none =>
    rw [Option.isSome_none, if_pos bI_f, e7_above hr hn, Option.bind_some]
    have ea : abI h (nI c) = oI (hA h c) := by unfold abI; rw [it, if_pos rfl, cl_nI (by omega)]
    rw [ea, nI_1]
    cases ha : hA h c with
    | none =>
      obtain ⟨f, rfl⟩ : ∃ j, f = j + 1 := ⟨f - 1, by omega⟩
      rw [fX2_select_L6, e7_isType hr hn, Option.bind_some, oI_none, isN_m2, if_pos bI_f, ite_self]; rfl
    | some c' =>
      rw [ha] at hk hf
      dsimp only at hk hf
      exact ih c' (List.mem_append_left _ (by rw [ha]; simp)) (k + 1) f (by omega) (by omega)
theorem e2_select {u : ST} {h : HA} (hr : RCt u h) (hm : RCm u h) (ho : RCo u h) (hw : WF h) {t : Nat} (ht : t < hN h) (nm a b : Int32) : fX2_select u (nI t) nm a b = some (slC h t nm a b) := by
  have hc := chn_12 hw ht
  have e := e2_select_L6 hr hm hw (nI t) nm a b t ht 0 5000 (by omega) (by omega)
  have e' : fX2_select u (nI t) nm a b = _ := e
  rw [e', slC, fX2_select_L91, e2_selectOfFaces hr hm ho hw ht]
  cases (chn h t).findSome? (opn h nm a b) <;> rfl
