/-! ===== READING: the reference ===== -/
theorem face_up {h : HA} (hw : WF h) {m x : Nat} (hm : m < hN h) (hf : hF h m = true) (hb : bel h m x = true) : hF h x = true := by
  refine bel_closed hw (S := fun y => hF h y = true) (fun y hy hfy s hs => ?_) hm hf hb
  rcases List.mem_append.mp hs with h1 | h1
  · cases ha : hA h y with
    | none => rw [ha] at h1; simp at h1
    | some a => have := (hw.2.1 y hy a ha).2.2; rw [hfy] at this; cases this
  · exact ((hw.2.2.1 y hy).2.2 s h1).2
theorem bel_rank {h : HA} (hw : WF h) {q : Nat → Nat} (q2 : ∀ t, t < hN h → ∀ s, s ∈ suc h t → q s < q t) : ∀ t, t < hN h → ∀ x, bel h t x = true → q x ≤ q t := by
  refine bel_ind hw (fun t => ∀ x, bel h t x = true → q x ≤ q t) (fun t ht ih x hx => ?_)
  rcases bel_cases hw ht hx with rfl | ⟨m, hm, hb⟩
  · exact Nat.le_refl _
  · have h1 := ih m hm x hb
    have h2 := q2 t ht m hm
    omega
theorem chn_mem {h : HA} (hw : WF h) : ∀ c, c < hN h → hF h c = false → ∀ x, x ∈ chn h c ↔ bel h c x = true ∧ hF h x = false := by
  refine bel_ind hw (fun c => hF h c = false → ∀ x, x ∈ chn h c ↔ bel h c x = true ∧ hF h x = false) (fun c hc ih hf x => ?_)
  rw [chn_fix hw hc, List.mem_cons]
  constructor
  · rintro (rfl | hx)
    · exact ⟨bel_refl _, hf⟩
    · cases ha : hA h c with
      | none => rw [ha] at hx; simp at hx
      | some a =>
        rw [ha] at hx
        have hs : a ∈ suc h c := List.mem_append_left _ (by rw [ha]; simp)
        obtain ⟨h1, h2⟩ := (ih a hs (hw.2.1 c hc a ha).2.1 x).mp hx
        exact ⟨bel_step hw hc hs h1, h2⟩
  · rintro ⟨hb, hx⟩
    rcases bel_cases hw hc hb with rfl | ⟨m, hm, hb2⟩
    · exact Or.inl rfl
    · refine Or.inr ?_
      rcases List.mem_append.mp hm with h1 | h1
      · cases ha : hA h c with
        | none => rw [ha] at h1; simp at h1
        | some a =>
          rw [ha] at h1
          simp at h1
          subst h1
          exact (ih m hm (hw.2.1 c hc m ha).2.1 x).mpr ⟨hb2, hx⟩
      · have h2 := (hw.2.2.1 c hc).2.2 m h1
        have := face_up hw h2.1 h2.2 hb2
        rw [hx] at this; cases this
theorem chn_pab {h : HA} (hw : WF h) {c a : Nat} (hc : c < hN h) (ha : hA h c = some a) (x : Nat) : x ∈ chn h a ↔ pab h c x = true := by
  obtain ⟨q, -, q2, -⟩ := WF_rank hw
  have hs : a ∈ suc h c := List.mem_append_left _ (by rw [ha]; simp)
  have hal := suc_lt hw hc hs
  have h3 := hw.2.1 c hc a ha
  have e1 : x ∈ chn h c ↔ x = c ∨ x ∈ chn h a := by rw [chn_fix hw hc, ha, List.mem_cons]
  have e2 := chn_mem hw c hc h3.2.2 x
  have e3 := chn_mem hw a hal h3.2.1 x
  unfold pab
  simp only [Bool.and_eq_true, Bool.not_eq_true', decide_eq_false_iff_not]
  constructor
  · intro hx
    obtain ⟨h1, h2⟩ := e2.mp (e1.mpr (Or.inr hx))
    refine ⟨h1, h2, fun e => ?_⟩
    have h4 := bel_rank hw q2 a hal x (e3.mp hx).1
    have h5 := q2 c hc a hs
    subst e; omega
  · rintro ⟨h1, h2, h4⟩
    rcases e1.mp (e2.mpr ⟨h1, h2⟩) with h5 | h5
    · exact absurd h5 h4
    · exact h5
theorem chn_drop {h : HA} (hw : WF h) : ∀ t, t < hN h → ∀ i, i < (chn h t).length → (chn h t).drop i = chn h ((chn h t).getD i 0) := by
  refine bel_ind hw (fun t => ∀ i, i < (chn h t).length → (chn h t).drop i = chn h ((chn h t).getD i 0)) (fun t ht ih i hi => ?_)
  cases i with
  | zero =>
    have : (chn h t).getD 0 0 = t := by rw [chn_fix hw ht]; rfl
    rw [this]; rfl
  | succ i =>
    cases ha : hA h t with
    | none => rw [chn_fix hw ht, ha] at hi; simp at hi
    | some a =>
      have e : chn h t = t :: chn h a := by rw [chn_fix hw ht, ha]
      rw [e] at hi ⊢
      rw [List.length_cons] at hi
      have := ih a (List.mem_append_left _ (by rw [ha]; simp)) i (by omega)
      simpa using this
def fin1 (h : HA) (r : MR) (x : Nat) : Bool := match own h x (rM r) (rN r) (rA r) (rB r) with
  | none => false
  | some m' => !haB h (nI m') 5 && haB h (nI m') 2
def brM (h : HA) (R : List Nat) (c m : Nat) : Bool := match hB h m with
  | none => false
  | some r => rM r && (decide (rT r = c) && (decide (rK r &&& 5 = 0) && R.any (fin1 h r)))
theorem brM_iff {h : HA} (hw : WF h) {c : Nat} {R : List Nat} (hR : ∀ x, x ∈ R ↔ pab h c x = true) : (ff (brM h R c) 60 0).isSome = true ↔ brP h c := by
  rw [ff_isSome]
  constructor
  · rintro ⟨m, -, hp⟩
    unfold brM at hp
    cases e : hB h m with
    | none => rw [e] at hp; cases hp
    | some r =>
      rw [e] at hp
      dsimp only at hp
      rw [Bool.and_eq_true, Bool.and_eq_true, Bool.and_eq_true] at hp
      obtain ⟨p1, p2, p3, p4⟩ := hp
      obtain ⟨x, hx, p5⟩ := List.any_eq_true.mp p4
      unfold fin1 at p5
      cases eo : own h x (rM r) (rN r) (rA r) (rB r) with
      | none => rw [eo] at p5; cases p5
      | some m' =>
        obtain ⟨h60, r', er, t1, t2, t3, t4⟩ := own_some eo
        rw [eo] at p5
        dsimp only at p5
        rw [haB_nI h60 er, haB_nI h60 er] at p5
        simp only [Bool.and_eq_true, Bool.not_not, decide_eq_true_eq, Bool.not_eq_true', decide_eq_false_iff_not] at p5
        obtain ⟨y1, y2⟩ := t4 p1
        refine ⟨m, r, m', r', e, by simpa using p2, ?_, er, ?_, p5.2, ?_, t3.symm, y1.symm, y2.symm⟩
        · unfold opR; rw [p1, p3]; rfl
        · unfold opR; rw [t2, p1]; simp [p5.1]
        · rw [t1]; exact (hR x).mp hx
  · rintro ⟨m, r, m', r', e, ec, o1, e', o2, f2, p, x1, x2, x3⟩
    refine ⟨m, WF_60 hw e, ?_⟩
    have h1 := opR_some o1
    have h2 := opR_some o2
    unfold brM
    rw [e]
    dsimp only
    rw [h1.1, ec]
    simp only [decide_true, h1.2, Bool.true_and]
    refine List.any_eq_true.mpr ⟨rT r', (hR _).mpr p, ?_⟩
    have eo : own h (rT r') (rM r) (rN r) (rA r) (rB r) = some m' := by
      have := own_of hw e' (a := rA r) (b := rB r) (fun _ => ⟨x2.symm, x3.symm⟩)
      rw [h2.1, ← x1] at this
      rw [h1.1]; exact this
    unfold fin1
    rw [eo]
    dsimp only
    rw [haB_nI (WF_60 hw e') e', haB_nI (WF_60 hw e') e']
    simp [h2.2, f2]
theorem brM_eq {h : HA} (hw : WF h) {c : Nat} {R : List Nat} (hR : ∀ x, x ∈ R ↔ pab h c x = true) : (ff (brM h R c) 60 0).isSome = brB h c := by
  have h1 := brM_iff hw hR
  have h2 := brC_iff hw c
  unfold brB
  cases e1 : (ff (brM h R c) 60 0).isSome with
  | true => exact (h2.mpr (h1.mp e1)).symm
  | false =>
    cases e2 : (ff (brC h c) 60 0).isSome with
    | false => rfl
    | true => rw [h1.mpr (h2.mp e2)] at e1; cases e1
theorem e9_finalAbove_L {z : ST} {h : HA} (hm : RMm z h) (hw : WF h) {C : List Nat} (hc : C.length ≤ 12) (hclt : ∀ x, x ∈ C → x < hN h) (hC : LR (aI z 27) C) {m : Nat} {r : MR} (e : hB h m = some r) : ∀ (n k f : Nat), k + n = C.length → n < f → fX9_isFinalAbove_L5 z f (nI C.length) (nI m) (nI k) = some (bI ((C.drop k).any (fin1 h r)))
  | 0, k, f, hk, hf => by
    obtain ⟨f, rfl⟩ : ∃ j, f = j + 1 := ⟨f - 1, by omega⟩
    rw [fX9_isFinalAbove_L5, if_pos (nI_le (by omega) (by omega)), List.drop_eq_nil_of_le (by omega)]; rfl
  | n + 1, k, f, hk, hf => by
    obtain ⟨f, rfl⟩ : ∃ j, f = j + 1 := ⟨f - 1, by omega⟩
    have hk2 : k < C.length := by omega
    have ht := hclt _ (getD_mem hk2)
    have ih := e9_finalAbove_L hm hw hc hclt hC e n (k + 1) f (by omega) (by omega)
    rw [fX9_isFinalAbove_L5, if_neg (nI_ge hk2 (by omega)), rdI_nI (by omega) (by decide), Option.bind_some, hC k hk2, e9_likeIn hm hw ht e, Option.bind_some, drop_getD hk2, List.any_cons]
    have skip : fin1 h r (C.getD k 0) = false → fX9_isFinalAbove_L56 z (fX9_isFinalAbove_L5 z f) (nI C.length) (nI m) (nI k) = some (bI (fin1 h r (C.getD k 0) || (C.drop (k + 1)).any (fin1 h r))) := by
      intro e2
      rw [fX9_isFinalAbove_L56, nI_1, ih, e2, Bool.false_or]
    cases eo : own h (C.getD k 0) (rM r) (rN r) (rA r) (rB r) with
    | none =>
      rw [if_pos oI_lt]
      exact skip (by unfold fin1; rw [eo])
    | some m' =>
      obtain ⟨h60, r', er, -⟩ := own_some eo
      have ef : fin1 h r (C.getD k 0) = (decide (rK r' &&& 5 = 0) && !decide (rK r' &&& 2 = 0)) := by
        unfold fin1; rw [eo]; dsimp only; rw [haB_nI h60 er, haB_nI h60 er, Bool.not_not]
      rw [if_neg (oI_neg (by omega)), oI_some, rdI_nI h60 (by decide), Option.bind_some, RMm_marks hm h60 er]
      by_cases c1 : rK r' &&& 5 = 0
      · rw [if_pos c1, Option.bind_some]
        by_cases c2 : rK r' &&& 2 = 0
        · rw [if_pos c2]; exact skip (by rw [ef]; simp [c2])
        · rw [if_neg c2, ef]; simp [c1, c2, bI]
      · rw [if_neg c1]; exact skip (by rw [ef]; simp [c1])
theorem e9_finalAbove {z : ST} {h : HA} (hm : RMm z h) (hw : WF h) {C : List Nat} (hc : C.length ≤ 12) (hclt : ∀ x, x ∈ C → x < hN h) (hC : LR (aI z 27) C) {m : Nat} {r : MR} (e : hB h m = some r) {i : Nat} (hi : i < C.length) : fX9_isFinalAbove z (nI i) (nI C.length) (nI m) = some (bI ((C.drop (i + 1)).any (fin1 h r))) := by
  rw [fX9_isFinalAbove, nI_1]
  exact e9_finalAbove_L hm hw hc hclt hC e (C.length - (i + 1)) (i + 1) 5000 (by omega) (by omega)
theorem e9_read_L37 {z : ST} {h : HA} (hm : RMm z h) (hw : WF h) {C : List Nat} (hc : C.length ≤ 12) (hclt : ∀ x, x ∈ C → x < hN h) (hC : LR (aI z 27) C) {i : Nat} (hi : i < C.length) (K : ST → Int32 → Int32 → Option (Int32 × ST)) : ∀ (n k f : Nat), k + n = 60 → n < f → fX9_readFails_L37 K f z (nI C.length) (nI i) (nI k) = if (ff (brM h (C.drop (i + 1)) (C.getD i 0)) n k).isSome = true then some (2, z) else K z (nI C.length) (nI i + (-1))
  | 0, k, f, hk, hf => by
    obtain ⟨f, rfl⟩ : ∃ j, f = j + 1 := ⟨f - 1, by omega⟩
    have c60 : (60 : Int32) ≤ nI k := nI_le (a := 60) (by omega) (by omega)
    rw [fX9_readFails_L37, if_pos c60]; rfl
  | n + 1, k, f, hk, hf => by
    have hn := hw.1
    obtain ⟨f, rfl⟩ : ∃ j, f = j + 1 := ⟨f - 1, by omega⟩
    have c60 : ¬ (60 : Int32) ≤ nI k := nI_ge (b := 60) (by omega) (by decide)
    have k60 : k < 60 := by omega
    have ih := e9_read_L37 hm hw hc hclt hC hi K n (k + 1) f (by omega) (by omega)
    have ht := hclt _ (getD_mem hi)
    have skip : brM h (C.drop (i + 1)) (C.getD i 0) k = false → fX9_readFails_L105 (fX9_readFails_L37 K f) z (nI C.length) (nI i) (nI k) = if (ff (brM h (C.drop (i + 1)) (C.getD i 0)) (n + 1) k).isSome = true then some (2, z) else K z (nI C.length) (nI i + (-1)) := by
      intro e
      have e2 : ¬ brM h (C.drop (i + 1)) (C.getD i 0) k = true := by rw [e]; decide
      rw [fX9_readFails_L105, nI_1, ih, ff, if_neg e2]
    rw [fX9_readFails_L37, if_neg c60, rdI_nI k60 (by decide), Option.bind_some]
    cases e : hB h k with
    | none =>
      rw [RMm_no hm k60 e, if_pos rfl]
      exact skip (by unfold brM; rw [e])
    | some r =>
      obtain ⟨a1, a2, a3, a4, a5, -⟩ := RMm_at hm k60 e
      have hT := WF_own hw k r e
      rw [a1, if_neg (by decide), rdI_nI k60 (by decide), Option.bind_some, a2]
      cases c1 : rM r with
      | false =>
        rw [if_pos bI_f]
        exact skip (by unfold brM; rw [e]; dsimp only; rw [c1]; rfl)
      | true =>
        rw [if_neg (by decide), rdI_nI k60 (by decide), Option.bind_some, rdI_nI (by omega) (by decide), Option.bind_some, a3, hC i hi]
        by_cases c2 : rT r = C.getD i 0
        · rw [if_pos (by rw [c2]), rdI_nI k60 (by decide), Option.bind_some, a5]
          by_cases c3 : rK r &&& 5 = 0
          · rw [if_pos c3, e9_finalAbove hm hw hc hclt hC e hi, Option.bind_some]
            have eb : brM h (C.drop (i + 1)) (C.getD i 0) k = (C.drop (i + 1)).any (fin1 h r) := by unfold brM; rw [e]; dsimp only; rw [c1, c2]; simp [c3]
            cases c4 : (C.drop (i + 1)).any (fin1 h r) with
            | false => rw [if_pos bI_f]; exact skip (eb.trans c4)
            | true => rw [if_neg (by decide), ff, if_pos (eb.trans c4)]; rfl
          · rw [if_neg c3]
            exact skip (by unfold brM; rw [e]; dsimp only; simp [c3])
        · rw [if_neg (fun q => c2 (nI_inj (by omega) (by omega) q))]
          exact skip (by unfold brM; rw [e]; dsimp only; simp only [c2, decide_false, Bool.false_and, Bool.and_false])
/-- from the top down, below index i -/
def rdt (h : HA) (C : List Nat) : Nat → Int32
  | 0 => 0
  | i + 1 => if fl h (C.getD i 0) (C.getD (i + 1) 0) = 0 then rdt h C i else fl h (C.getD i 0) (C.getD (i + 1) 0)
theorem rdf_rdt {h : HA} {C : List Nat} : ∀ i, i < C.length → rdf h C = if rdf h (C.drop i) = 0 then rdt h C i else rdf h (C.drop i)
  | 0, _ => by
    rw [List.drop_zero, rdt]
    by_cases c : rdf h C = 0
    · rw [if_pos c, c]
    · rw [if_neg c]
  | i + 1, hi => by
    have hi2 : i < C.length := by omega
    have e : rdf h (C.drop i) = if rdf h (C.drop (i + 1)) = 0 then fl h (C.getD i 0) (C.getD (i + 1) 0) else rdf h (C.drop (i + 1)) := by
      rw [drop_getD hi2, drop_getD hi]; rfl
    rw [rdf_rdt i hi2, e]
    by_cases c : rdf h (C.drop (i + 1)) = 0
    · rw [if_pos c, if_pos c, rdt]
    · rw [if_neg c, if_neg c, if_neg c]
theorem e9_read_L10 {z : ST} {h : HA} (hr : RMt z h) (hm : RMm z h) (hw : WF h) {t : Nat} (ht : t < hN h) (hC : LR (aI z 27) (chn h t)) : ∀ (i f : Nat), i < (chn h t).length → i < f → fX9_readFails_L10 f z (nI (chn h t).length) (nI i + (-1)) = some (rdt h (chn h t) i, z)
  | 0, f, hi, hf => by
    obtain ⟨f, rfl⟩ : ∃ j, f = j + 1 := ⟨f - 1, by omega⟩
    rw [fX9_readFails_L10, if_pos (by decide)]; rfl
  | i + 1, f, hi, hf => by
    have hn := hw.1
    have hc := chn_12 hw ht
    obtain ⟨f, rfl⟩ : ∃ j, f = j + 1 := ⟨f - 1, by omega⟩
    have hi2 : i < (chn h t).length := by omega
    have ha := chn_lt hw t ht _ (getD_mem hi)
    have hcc := chn_lt hw t ht _ (getD_mem hi2)
    have ih := e9_read_L10 hr hm hw ht hC i f hi2 (by omega)
    rw [pk_m1, fX9_readFails_L10, if_neg (nI_pos (by omega)), nI_1, rdI_nI (by omega) (by decide), Option.bind_some, hC (i + 1) hi, rdI_nI (by omega) (by decide), Option.bind_some, (hr.2 _ ha).2.2.1, rdt]
    have hR : ∀ x, x ∈ (chn h t).drop (i + 1) ↔ pab h ((chn h t).getD i 0) x = true := by
      intro x
      have e1 := chn_drop hw t ht i hi2
      have e2 := chn_drop hw t ht (i + 1) hi
      have e3 := drop_getD hi2
      rw [e1, e2, chn_fix hw hcc] at e3
      injection e3 with _ e4
      cases hA' : hA h ((chn h t).getD i 0) with
      | none =>
        rw [hA'] at e4
        dsimp only at e4
        rw [chn_fix hw ha] at e4
        cases e4
      | some a =>
        rw [hA'] at e4
        dsimp only at e4
        rw [e2, ← e4]
        exact chn_pab hw hcc hA' x
    unfold fl
    by_cases c1 : hM h ((chn h t).getD (i + 1) 0) &&& 2 = 0
    · rw [if_pos c1, if_pos c1]
      have e5 : fX9_readFails_L37 (fX9_readFails_L10 f) 5000 z (nI (chn h t).length) (nI i) 0 = _ := e9_read_L37 hm hw hc (chn_lt hw t ht) hC hi2 (fX9_readFails_L10 f) 60 0 5000 (by omega) (by omega)
      rw [e5, brM_eq hw hR, ih]
      cases brB h ((chn h t).getD i 0) with
      | true => rfl
      | false => rfl
    · rw [if_neg c1, if_neg c1]; rfl
theorem e9_readFails {z : ST} {h : HA} (hr : RMt z h) (hm : RMm z h) (hw : WF h) {t : Nat} (ht : t < hN h) : ∃ z', fX9_readFails z (nI t) = some (rdf h (chn h t), z') ∧ Em z z' := by
  obtain ⟨z1, e1, x1, x2⟩ := e9_chainOf hr hw ht
  have hc := chn_12 hw ht
  refine ⟨z1, ?_, El_em x1⟩
  have hl : 0 < (chn h t).length := by rw [chn_fix hw ht]; simp
  have e2 : nI (chn h t).length - 2 = nI ((chn h t).length - 1) + (-1) := by
    have : nI (chn h t).length - 2 = nI (chn h t).length + (-1) + (-1) := by
      rw [Int32.sub_eq_add_neg, Int32.add_assoc]; rfl
    have e0 := pk_m1 ((chn h t).length - 1)
    rw [Nat.sub_add_cancel hl] at e0
    rw [this, e0]
  have e3 := rdf_rdt (h := h) (C := chn h t) ((chn h t).length - 1) (by omega)
  have e4 : rdf h ((chn h t).drop ((chn h t).length - 1)) = 0 := by
    rw [drop_getD (by omega), List.drop_eq_nil_of_le (by omega)]; rfl
  rw [if_pos e4] at e3
  rw [fX9_readFails, e1, b2_eq, e2, e9_read_L10 (RMt_em (El_em x1) hr) (RMm_em (El_em x1) hm) hw ht x2 _ 5000 (by omega) (by omega), e3]
