/-! ===== the class's over ===== -/
theorem RCt_13 {u : ST} {h : HA} (f : Nat → Int32) (hr : RCt u h) : RCt (vI u 13 f) h := hr
theorem faI_nI {h : HA} {t k : Nat} (hn : hN h ≤ 12) (ht : t < hN h) (hk : k < 2 ^ 31) : faI h (nI t) (nI k) = if k < (hL h t).length then nI ((hL h t).getD k 0) else -2 := by
  unfold faI
  rw [isN_nI (by omega), cl_nI (show t < 2 ^ 31 by omega), isN_nI hk, cl_nI hk]
  simp [ht]
theorem e7_od_L {u : ST} {h : HA} (hr : RCt u h) (hw : WF h) {t : Nat} (ht : t < hN h) : ∀ (rem k f : Nat) (B : Int32), k + rem = 3 → rem < f → ∃ B', fX7_overDirectly_L28 u f (nI t) B (nI k) = some B' ∧ ∀ i, i < 32 → bt B' i = (bt B i || ((hL h t).drop k).any (fun m => bt (aI u 13 m) i))
  | rem, k, 0, _, _, hf => by omega
  | 0, k, f + 1, B, hk, _ => by
    have : k = 3 := by omega
    subst this
    have hlen := (hw.2.2.1 t ht).1
    refine ⟨B, by rw [fX7_overDirectly_L28, if_pos (by decide)], fun i hi => ?_⟩
    rw [List.drop_eq_nil_of_le hlen]; simp
  | rem + 1, k, f + 1, B, hk, hf => by
    have hn := hw.1
    have hlen := (hw.2.2.1 t ht).1
    have h3 : ¬ (3 : Int32) ≤ nI k := nI_ge (b := 3) (by omega) (by decide)
    rw [fX7_overDirectly_L28, if_neg h3, e7_faceAt hr hw, Option.bind_some, e7_isType hr hn, Option.bind_some, faI_nI hn ht (by omega)]
    by_cases c : k < (hL h t).length
    · have hg : (hL h t)[k]? = some ((hL h t).getD k 0) := by rw [List.getD_eq_getElem?_getD, List.getElem?_eq_getElem c]; rfl
      have hlt := ((hw.2.2.1 t ht).2.2 _ (List.mem_of_getElem? hg)).1
      rw [if_pos c, isN_nI (by omega)]
      simp only [hlt, decide_true]
      rw [bI_t, if_neg (by decide), rdI_nI (by omega) (by decide), Option.bind_some]
      unfold fX7_overDirectly_L64
      rw [nI_1]
      obtain ⟨B', e, hb⟩ := e7_od_L hr hw ht rem (k + 1) f (B ||| aI u 13 ((hL h t).getD k 0)) (by omega) (by omega)
      refine ⟨B', e, fun i hi => ?_⟩
      have hd : (hL h t).drop k = (hL h t).getD k 0 :: (hL h t).drop (k + 1) := by
        rw [List.drop_eq_getElem_cons c]
        congr 1
        exact (List.getElem?_eq_some_iff.mp hg).2
      rw [hb i hi, b_or, hd, List.any_cons, Bool.or_assoc]
    · rw [if_neg c, isN_m2, bI_f, if_pos rfl]
      unfold fX7_overDirectly_L64
      rw [nI_1]
      obtain ⟨B', e, hb⟩ := e7_od_L hr hw ht rem (k + 1) f (B ||| 0) (by omega) (by omega)
      refine ⟨B', e, fun i hi => ?_⟩
      rw [hb i hi, b_or, b_0, List.drop_eq_nil_of_le (by omega), List.drop_eq_nil_of_le (by omega)]; simp
theorem e7_od {u : ST} {h : HA} (hr : RCt u h) (hw : WF h) {t : Nat} (ht : t < hN h) : ∃ B, fX7_overDirectly u (nI t) = some B ∧ ∀ i, i < 32 → bt B i = (suc h t).any (fun m => bt (aI u 13 m) i) := by
  have hn := hw.1
  unfold fX7_overDirectly fX7_overDirectly_L24
  have e0 : abI h (nI t) = oI (hA h t) := by
    unfold abI
    rw [isN_nI (by omega), cl_nI (by omega)]; simp [ht]
  rw [e7_above hr hn, Option.bind_some, e7_isType hr hn, Option.bind_some, e0]
  cases ha : hA h t with
  | none =>
    rw [show oI none = -2 from rfl, isN_m2, bI_f, if_pos rfl]
    obtain ⟨B, e, hb⟩ := e7_od_L hr hw ht 3 0 5000 0 rfl (by decide)
    refine ⟨B, e, fun i hi => ?_⟩
    rw [hb i hi, b_0, suc, ha]; simp
  | some a =>
    have hlt := (hw.2.1 t ht a ha).1
    rw [show oI (some a) = nI a from rfl, isN_nI (by omega)]
    simp only [hlt, decide_true]
    rw [bI_t, if_neg (by decide), rdI_nI (by omega) (by decide), Option.bind_some]
    obtain ⟨B, e, hb⟩ := e7_od_L hr hw ht 3 0 5000 (aI u 13 a) rfl (by decide)
    refine ⟨B, e, fun i hi => ?_⟩
    rw [hb i hi, suc, ha]; simp
def Snd (h : HA) (O : Nat → Int32) : Prop := ∀ t, t < hN h → ∀ i, i < 32 → bt (O t) i = true → i < hN h ∧ bel h t i = true
def Rfx (h : HA) (O : Nat → Int32) : Prop := ∀ t, t < hN h → bt (O t) t = true
def Cmp (h : HA) (O : Nat → Int32) (t : Nat) : Prop := ∀ i, i < 32 → bel h t i = true → bt (O t) i = true
theorem any_true {α : Type} {l : List α} {f : α → Bool} : l.any f = true ↔ ∃ x, x ∈ l ∧ f x = true := by simp [List.any_eq_true]
/-- one TYPE of a round -/
theorem one_step {h : HA} (hw : WF h) {q : Nat → Nat} (q2 : ∀ t, t < hN h → ∀ s, s ∈ suc h t → q s < q t) {O : Nat → Int32} {t : Nat} (ht : t < hN h) {B : Int32} (hB : ∀ i, i < 32 → bt B i = (suc h t).any (fun m => bt (O m) i)) (h1 : Snd h O) (h2 : Rfx h O) :
    Snd h (upd O t (O t ||| B)) ∧ Rfx h (upd O t (O t ||| B)) ∧ (∀ s, s < hN h → ∀ i, i < 32 → bt (O s) i = true → bt (upd O t (O t ||| B) s) i = true) ∧ (∀ r, (∀ s, s < hN h → q s < r → Cmp h O s) → q t < r + 1 → Cmp h (upd O t (O t ||| B)) t) := by
  have hn := hw.1
  refine ⟨fun s hs i hi hb => ?_, fun s hs => ?_, fun s hs i hi hb => ?_, fun r hr hq i hi hb => ?_⟩
  · rw [upd_rd] at hb
    by_cases c : s = t
    · subst c
      rw [if_pos rfl, b_or, Bool.or_eq_true] at hb
      rcases hb with hb | hb
      · exact h1 s hs i hi hb
      · rw [hB i hi, any_true] at hb
        obtain ⟨m, hm, hb⟩ := hb
        obtain ⟨a, b⟩ := h1 m (suc_lt hw hs hm) i hi hb
        exact ⟨a, bel_step hw hs hm b⟩
    · rw [if_neg c] at hb; exact h1 s hs i hi hb
  · rw [upd_rd]
    by_cases c : s = t
    · subst c; rw [if_pos rfl, b_or, h2 s hs]; rfl
    · rw [if_neg c]; exact h2 s hs
  · rw [upd_rd]
    by_cases c : s = t
    · subst c; rw [if_pos rfl, b_or, hb]; rfl
    · rw [if_neg c]; exact hb
  · rw [upd_rd, if_pos rfl, b_or, Bool.or_eq_true]
    rcases bel_cases hw ht hb with rfl | ⟨m, hm, hb2⟩
    · exact Or.inl (h2 t ht)
    · right
      rw [hB i hi, any_true]
      exact ⟨m, hm, hr m (suc_lt hw ht hm) (by have := q2 t ht m hm; omega) i hi hb2⟩
theorem pass_L {h : HA} (hw : WF h) {q : Nat → Nat} (q2 : ∀ t, t < hN h → ∀ s, s ∈ suc h t → q s < q t) (K : ST → Int32 → Int32 → Option ST) (x2 : Int32) : ∀ (rem k f : Nat) (u : ST) (g : Bool), RCt u h → k + rem = hN h → rem < f → Snd h (aI u 13) → Rfx h (aI u 13) → ∃ (O : Nat → Int32) (g' : Bool), fX7_findOver_L43 K f u (bI g) x2 (nI k) = K (vI u 13 O) (bI g') (x2 + 1) ∧ Snd h O ∧ Rfx h O ∧ (∀ s, s < hN h → ∀ i, i < 32 → bt (aI u 13 s) i = true → bt (O s) i = true) ∧ (∀ r, (∀ s, s < hN h → q s < r → Cmp h (aI u 13) s) → ∀ t, k ≤ t → t < hN h → q t < r + 1 → Cmp h O t) ∧ (g' = false → g = false ∧ O = aI u 13 ∧ ∀ t, k ≤ t → t < hN h → ∀ m, m ∈ suc h t → ∀ i, i < 32 → bt (O m) i = true → bt (O t) i = true)
  | rem, k, 0, _, _, _, _, hf, _, _ => by omega
  | 0, k, f + 1, u, g, hr, hk, _, h1, h2 => by
    have hn := hw.1
    refine ⟨aI u 13, g, ?_, h1, h2, fun _ _ _ _ hb => hb, fun r hr t a b => by omega, fun e => ⟨e, rfl, fun t a b => by omega⟩⟩
    rw [fX7_findOver_L43, hr.1, if_pos (nI_le (by omega) (by omega)), vI_self]
  | rem + 1, k, f + 1, u, g, hr, hk, hf, h1, h2 => by
    have hn := hw.1
    have hkn : k < hN h := by omega
    have c1 : ¬ nI (hN h) ≤ nI k := nI_ge hkn (by omega)
    obtain ⟨B, eB, hB⟩ := e7_od hr hw hkn
    obtain ⟨s1, s2, s3, s4⟩ := one_step hw q2 hkn hB h1 h2
    have cont : ∀ g1 : Bool, ∃ (O : Nat → Int32) (g' : Bool), fX7_findOver_L43 K f (vI u 13 (upd (aI u 13) k (aI u 13 k ||| B))) (bI g1) x2 (nI (k + 1)) = K (vI u 13 O) (bI g') (x2 + 1) ∧ Snd h O ∧ Rfx h O ∧ (∀ s, s < hN h → ∀ i, i < 32 → bt (aI u 13 s) i = true → bt (O s) i = true) ∧ (∀ r, (∀ s, s < hN h → q s < r → Cmp h (aI u 13) s) → ∀ t, k ≤ t → t < hN h → q t < r + 1 → Cmp h O t) ∧ (g' = false → g1 = false ∧ O = upd (aI u 13) k (aI u 13 k ||| B) ∧ ∀ t, k + 1 ≤ t → t < hN h → ∀ m, m ∈ suc h t → ∀ i, i < 32 → bt (O m) i = true → bt (O t) i = true) := by
      intro g1
      have ih := pass_L hw q2 K x2 rem (k + 1) f (vI u 13 (upd (aI u 13) k (aI u 13 k ||| B))) g1 (RCt_13 _ hr) (by omega) (by omega)
      rw [aI_vI] at ih
      obtain ⟨O, g', e, t1, t2, t3, t4, t5⟩ := ih s1 s2
      rw [vI_vI] at e
      refine ⟨O, g', e, t1, t2, fun s hs i hi hb => t3 s hs i hi (s3 s hs i hi hb), fun r hr t a b c => ?_, t5⟩
      by_cases e1 : t = k
      · subst e1
        exact fun i hi hb => t3 t b i hi (s4 r hr c i hi hb)
      · refine t4 r (fun s hs hq i hi hb => s3 s hs i hi (hr s hs hq i hi hb)) t (by omega) b c
    rw [fX7_findOver_L43, hr.1, if_neg c1, rdI_nI (by omega) (by decide), Option.bind_some, eB, Option.bind_some]
    have e80 : fX7_findOver_L80 (fX7_findOver_L43 K f) u x2 (nI k) (aI u 13 k ||| B) = fX7_findOver_L43 K f (vI u 13 (upd (aI u 13) k (aI u 13 k ||| B))) (bI true) x2 (nI (k + 1)) := by
      unfold fX7_findOver_L80 fX7_findOver_L85
      rw [stI_nI (by omega) (by decide), Option.bind_some, nI_1]; rfl
    have e85 : fX7_findOver_L85 (fX7_findOver_L43 K f) u x2 (nI k) (aI u 13 k ||| B) 0 = fX7_findOver_L43 K f (vI u 13 (upd (aI u 13) k (aI u 13 k ||| B))) (bI false) x2 (nI (k + 1)) := by
      unfold fX7_findOver_L85
      rw [stI_nI (by omega) (by decide), Option.bind_some, nI_1]; rfl
    cases g with
    | true =>
      rw [bI_t, if_neg (by decide), e80]
      obtain ⟨O, g', e, t1, t2, t3, t4, t5⟩ := cont true
      exact ⟨O, g', e, t1, t2, t3, t4, fun e9 => absurd (t5 e9).1 (by decide)⟩
    | false =>
      rw [bI_f, if_pos rfl, Option.bind_some]
      by_cases c2 : aI u 13 k ||| B = aI u 13 k
      · rw [if_pos c2, e85]
        obtain ⟨O, g', e, t1, t2, t3, t4, t5⟩ := cont false
        refine ⟨O, g', e, t1, t2, t3, t4, fun e9 => ?_⟩
        obtain ⟨-, eO, hcl⟩ := t5 e9
        have eO2 : O = aI u 13 := by
          rw [eO, c2]
          funext j
          rw [upd_rd]
          by_cases c : j = k
          · subst c; simp
          · simp [c]
        refine ⟨rfl, eO2, fun t a b m hm i hi hb => ?_⟩
        by_cases e1 : t = k
        · subst e1
          rw [eO2] at hb ⊢
          have : bt (aI u 13 t ||| B) i = bt (aI u 13 t) i := by rw [c2]
          rw [← this, b_or, Bool.or_eq_true]
          right
          rw [hB i hi, any_true]
          exact ⟨m, hm, hb⟩
        · exact hcl t (by omega) b m hm i hi hb
      · rw [if_neg c2, e80]
        obtain ⟨O, g', e, t1, t2, t3, t4, t5⟩ := cont true
        exact ⟨O, g', e, t1, t2, t3, t4, fun e9 => absurd (t5 e9).1 (by decide)⟩
def OvB (h : HA) (O : Nat → Int32) : Prop := ∀ t, t < hN h → ∀ i, i < 32 → bt (O t) i = (decide (i < hN h) && bel h t i)
theorem OvB_of {h : HA} {O : Nat → Int32} (hw : WF h) (h1 : Snd h O) (hc : ∀ t, t < hN h → Cmp h O t) : OvB h O := by
  have hn := hw.1
  intro t ht i hi
  cases c : bt (O t) i with
  | true =>
    obtain ⟨a, b⟩ := h1 t ht i hi c
    simp [a, b]
  | false =>
    by_cases a : i < hN h
    · cases b : bel h t i with
      | false => simp
      | true => exact absurd (hc t ht i hi b) (by rw [c]; decide)
    · simp [a]
theorem rounds_L {h : HA} (hw : WF h) {q : Nat → Nat} (q1 : ∀ t, t < hN h → q t < hN h) (q2 : ∀ t, t < hN h → ∀ s, s ∈ suc h t → q s < q t) : ∀ (d r f : Nat) (u : ST) (g : Bool), RCt u h → r + d = 12 → d < f → Snd h (aI u 13) → Rfx h (aI u 13) → (∀ s, s < hN h → q s < r → Cmp h (aI u 13) s) → (g = false → ∀ t, t < hN h → ∀ m, m ∈ suc h t → ∀ i, i < 32 → bt (aI u 13 m) i = true → bt (aI u 13 t) i = true) → ∃ O, fX7_findOver_L29 f u (bI g) (nI r) = some (vI u 13 O) ∧ OvB h O
  | d, r, 0, _, _, _, _, hf, _, _, _, _ => by omega
  | d, r, f + 1, u, g, hr, hd, hf, h1, h2, h3, h4 => by
    have hn := hw.1
    rw [fX7_findOver_L29]
    cases g with
    | false =>
      refine ⟨aI u 13, by rw [bI_f, if_pos rfl, vI_self], OvB_of hw h1 (fun t ht i hi hb => ?_)⟩
      have : ∀ t, t < hN h → bel h t i = true → bt (aI u 13 t) i = true := by
        refine bel_ind hw (fun t => bel h t i = true → bt (aI u 13 t) i = true) (fun t ht ih hb => ?_)
        rcases bel_cases hw ht hb with rfl | ⟨m, hm, hb2⟩
        · exact h2 t ht
        · exact h4 rfl t ht m hm i hi (ih m hm hb2)
      exact this t ht hb
    | true =>
      rw [bI_t, if_neg (by decide)]
      by_cases c : r = 12
      · subst c
        rw [if_pos (by decide)]
        exact ⟨aI u 13, by rw [vI_self], OvB_of hw h1 (fun t ht => h3 t ht (by have := q1 t ht; omega))⟩
      · have c1 : ¬ (12 : Int32) ≤ nI r := nI_ge (b := 12) (by omega) (by decide)
        rw [if_neg c1]
        obtain ⟨O, g', e, t1, t2, t3, t4, t5⟩ := pass_L hw q2 (fX7_findOver_L29 f) (nI r) (hN h) 0 5000 u false hr (by omega) (by omega) h1 h2
        have e' : fX7_findOver_L43 (fX7_findOver_L29 f) 5000 u 0 (nI r) 0 = fX7_findOver_L29 f (vI u 13 O) (bI g') (nI r + 1) := e
        rw [e', nI_1]
        have ih := rounds_L hw q1 q2 (d - 1) (r + 1) f (vI u 13 O) g' (RCt_13 O hr) (by omega) (by omega)
        rw [aI_vI] at ih
        obtain ⟨O2, e2, hO⟩ := ih t1 t2 (fun s hs hq => t4 r h3 s (Nat.zero_le _) hs hq) (fun e9 t ht m hm i hi hb => (t5 e9).2.2 t (Nat.zero_le _) ht m hm i hi hb)
        exact ⟨O2, by rw [e2, vI_vI], hO⟩
theorem init_L {h : HA} (hn : hN h ≤ 12) : ∀ (rem k f : Nat) (u : ST), RCt u h → k + rem = hN h → rem < f → (∀ j, j < k → aI u 13 j = (1 : Int32) <<< (nI j &&& 31)) → ∃ O : Nat → Int32, fX7_findOver_L2 f u (nI k) = fX7_findOver_L29 5000 (vI u 13 O) 1 0 ∧ ∀ j, j < hN h → O j = (1 : Int32) <<< (nI j &&& 31)
  | rem, k, 0, _, _, _, hf, _ => by omega
  | 0, k, f + 1, u, hr, hk, _, hj => by
    refine ⟨aI u 13, ?_, fun j h1 => hj j (by omega)⟩
    rw [fX7_findOver_L2, hr.1, if_pos (nI_le (by omega) (by omega)), vI_self]
  | rem + 1, k, f + 1, u, hr, hk, hf, hj => by
    have c1 : ¬ nI (hN h) ≤ nI k := nI_ge (by omega) (by omega)
    rw [fX7_findOver_L2, hr.1, if_neg c1, stI_nI (by omega) (by decide), Option.bind_some, nI_1]
    obtain ⟨O, e, hO⟩ := init_L hn rem (k + 1) f (vI u 13 (upd (aI u 13) k ((1 : Int32) <<< (nI k &&& 31)))) (RCt_13 _ hr) (by omega) (by omega) (fun j h1 => by
      rw [aI_vI, upd_rd]
      by_cases c : j = k
      · subst c; simp
      · rw [if_neg c]; exact hj j (by omega))
    exact ⟨O, by rw [e, vI_vI], hO⟩
theorem e7_findOver {u : ST} {h : HA} (hr : RCt u h) (hw : WF h) : ∃ O, fX7_findOver u = some (vI u 13 O) ∧ OvB h O := by
  have hn := hw.1
  obtain ⟨q, q1, q2, -⟩ := WF_rank hw
  unfold fX7_findOver
  obtain ⟨O, e, hO⟩ := init_L hn (hN h) 0 5000 u hr (by omega) (by omega) (fun j hj => by omega)
  have e' : fX7_findOver_L2 5000 u 0 = fX7_findOver_L29 5000 (vI u 13 O) 1 0 := e
  rw [e']
  have key := rounds_L hw q1 q2 12 0 5000 (vI u 13 O) true (RCt_13 O hr) rfl (by decide)
  rw [aI_vI] at key
  obtain ⟨O2, e2, h2⟩ := key (fun t ht i hi hb => by
      rw [hO t ht, b_bit (by omega) hi] at hb
      have : i = t := by simpa using hb
      subst this
      exact ⟨ht, bel_refl _⟩) (fun t ht => by rw [hO t ht, b_bit (by omega) (by omega)]; simp) (fun s hs hq => by omega) (fun e => by cases e)
  refine ⟨O2, ?_, h2⟩
  rw [vI_vI] at e2
  exact e2
/-- the class's derived rows: over and classes -/
def RCo (u : ST) (h : HA) : Prop := OvB h (aI u 13) ∧ ∀ i, i < 32 → bt (sI u 207) i = (decide (i < hN h) && !hF h i)
def blB (h : HA) (x y : Int32) : Bool := isN x (hN h) && (isN y (hN h) && bel h (cl x) (cl y))
theorem e7_isBelow {u : ST} {h : HA} (hr : RCt u h) (ho : RCo u h) (hn : hN h ≤ 12) (x y : Int32) : fX7_isBelow u x y = some (bI (blB h x y)) := by
  unfold fX7_isBelow blB
  rw [hr.1]
  rcases tri x (n := hN h) (by omega) with ⟨a, e⟩ | ⟨a, b, e⟩ | ⟨j, hj, rfl, a, b, e, e2⟩
  · rw [if_pos a, e]; rfl
  · rw [if_neg a, if_pos b, e]; rfl
  · rw [if_neg a, if_neg b, e, e2]
    rcases tri y (n := hN h) (by omega) with ⟨a1, f⟩ | ⟨a1, b1, f⟩ | ⟨k, hk, rfl, a1, b1, f, f2⟩
    · rw [if_pos a1, f]; rfl
    · rw [if_neg a1, if_pos b1, f]; rfl
    · rw [if_neg a1, if_neg b1, f, f2, rdI_nI (by omega) (by decide), Option.bind_some]
      have := ho.1 j hj k (by omega)
      simp only [hk, decide_true, Bool.true_and] at this
      cases c : bel h j k with
      | true => rw [if_neg (by rw [tst0 _ (by omega), this, c]; decide)]; rfl
      | false => rw [if_pos (by rw [tst0 _ (by omega), this, c])]; rfl
