/-! ===== the reference's rows of TYPES ===== -/
abbrev Em (u v : ST) : Prop := E3 u v [25] [43] [15, 24, 26, 27, 42]
theorem E3.mono {u v : ST} {a b c a' b' c' : List Nat} (h : E3 u v a b c) (h1 : ∀ k, k ∈ a → k ∈ a') (h2 : ∀ k, k ∈ b → k ∈ b') (h3 : ∀ k, k ∈ c → k ∈ c') : E3 u v a' b' c' :=
  ⟨fun k hk => h.1 k (fun q => hk (h1 k q)), fun k hk => h.2.1 k (fun q => hk (h2 k q)), fun k hk => h.2.2.1 k (fun q => hk (h3 k q)), h.2.2.2⟩
abbrev El (u v : ST) : Prop := E3 u v [25] [] [24, 26, 27]
theorem El_em {u v : ST} (h : El u v) : Em u v := h.mono (by decide) (by decide) (by decide)
theorem RMt_em {u v : ST} {h : HA} (he : Em u v) (hr : RMt u h) : RMt v h := by
  unfold RMt at hr ⊢
  rw [he.1 0 (by decide), he.2.2.1 1 (by decide), he.2.2.1 2 (by decide), he.2.2.1 3 (by decide), he.2.2.1 4 (by decide), he.2.2.1 5 (by decide)]
  exact hr
theorem RMm_em {u v : ST} {h : HA} (he : Em u v) (hr : RMm u h) : RMm v h := by
  unfold RMm at hr ⊢
  rw [he.2.2.1 6 (by decide), he.2.2.1 7 (by decide), he.2.2.1 8 (by decide), he.2.2.1 9 (by decide), he.2.2.1 10 (by decide), he.2.2.1 11 (by decide), he.2.2.1 12 (by decide), he.2.2.1 13 (by decide), he.2.2.2.1]
  exact hr
/-- a row of numbers -/
def LR (f : Nat → Int32) (l : List Nat) : Prop := ∀ j, j < l.length → f j = nI (l.getD j 0)
theorem LR_nil {f : Nat → Int32} : LR f [] := fun j hj => absurd hj (Nat.not_lt_zero j)
theorem LR_push {f : Nat → Int32} {l : List Nat} {x : Nat} (hl : LR f l) : LR (upd f l.length (nI x)) (l ++ [x]) := by
  intro j hj
  rw [List.length_append, List.length_singleton] at hj
  rw [upd_rd]
  by_cases c : j = l.length
  · subst c; simp
  · rw [if_neg c, hl j (by omega)]
    simp only [List.getD_eq_getElem?_getD]
    rw [List.getElem?_append_left (by omega)]
theorem LR_pre {f : Nat → Int32} {l m : List Nat} (hl : LR f (l ++ m)) : LR f l := by
  intro j hj
  rw [hl j (by rw [List.length_append]; omega)]
  simp only [List.getD_eq_getElem?_getD]
  rw [List.getElem?_append_left hj]
theorem LR_top {f : Nat → Int32} {l : List Nat} {x : Nat} (hl : LR f (l ++ [x])) : f l.length = nI x := by
  rw [hl l.length (by simp)]; simp
/-- the chain -/
theorem chn_len {h : HA} (hw : WF h) {q : Nat → Nat} (q2 : ∀ t, t < hN h → ∀ s, s ∈ suc h t → q s < q t) : ∀ t, t < hN h → (chn h t).length ≤ q t + 1 := by
  refine bel_ind hw (fun t => (chn h t).length ≤ q t + 1) (fun t ht ih => ?_)
  rw [chn_fix hw ht]
  cases ha : hA h t with
  | none => simp
  | some a =>
    have hs : a ∈ suc h t := List.mem_append_left _ (by rw [ha]; simp)
    have h1 := ih a hs
    have h2 := q2 t ht a hs
    simp only [List.length_cons]
    omega
theorem chn_12 {h : HA} (hw : WF h) {t : Nat} (ht : t < hN h) : (chn h t).length ≤ 12 := by
  obtain ⟨q, q1, q2, -⟩ := WF_rank hw
  have h1 := chn_len hw q2 t ht
  have h2 := q1 t ht
  have := hw.1
  omega
theorem chn_lt {h : HA} (hw : WF h) : ∀ t, t < hN h → ∀ x, x ∈ chn h t → x < hN h := by
  refine bel_ind hw (fun t => ∀ x, x ∈ chn h t → x < hN h) (fun t ht ih x hx => ?_)
  rw [chn_fix hw ht] at hx
  rcases List.mem_cons.mp hx with rfl | hx
  · exact ht
  · cases ha : hA h t with
    | none => rw [ha] at hx; simp at hx
    | some a => rw [ha] at hx; exact ih a (List.mem_append_left _ (by rw [ha]; simp)) x hx
theorem e9_chainOf_L {h : HA} (hw : WF h) : ∀ t, t < hN h → ∀ (z : ST) (l : List Nat) (f : Nat), RMt z h → LR (aI z 27) l → l.length + (chn h t).length ≤ 12 → (chn h t).length < f → ∃ z', fX9_chainOf_L4 f z (nI l.length) (nI t) = some (nI (l ++ chn h t).length, z') ∧ El z z' ∧ LR (aI z' 27) (l ++ chn h t) := by
  have hn := hw.1
  refine bel_ind hw (fun t => ∀ (z : ST) (l : List Nat) (f : Nat), RMt z h → LR (aI z 27) l → l.length + (chn h t).length ≤ 12 → (chn h t).length < f → ∃ z', fX9_chainOf_L4 f z (nI l.length) (nI t) = some (nI (l ++ chn h t).length, z') ∧ El z z' ∧ LR (aI z' 27) (l ++ chn h t)) (fun t ht ih z l f hr hl h12 hf => ?_)
  obtain ⟨f, rfl⟩ : ∃ j, f = j + 1 := ⟨f - 1, by omega⟩
  rw [chn_fix hw ht] at h12 hf ⊢
  simp only [List.length_cons] at h12 hf
  have he : El z (vI z 27 (upd (aI z 27) l.length (nI t))) := E3.vI (by decide)
  have hr2 := RMt_em (El_em he) hr
  have hl2 : LR (aI (vI z 27 (upd (aI z 27) l.length (nI t))) 27) (l ++ [t]) := by rw [aI_vI]; exact LR_push hl
  rw [fX9_chainOf_L4, if_neg (nI_pos (by omega)), stI_nI (by omega) (by decide), Option.bind_some, rdI_nI (by omega) (by decide), Option.bind_some, (hr2.2 t ht).2.1, nI_1]
  cases ha : hA h t with
  | none =>
    obtain ⟨f, rfl⟩ : ∃ j, f = j + 1 := ⟨f - 1, by omega⟩
    refine ⟨_, ?_, he, hl2⟩
    rw [fX9_chainOf_L4, if_pos oI_lt, List.length_append, List.length_singleton]
  | some a =>
    rw [ha] at h12 hf
    dsimp only at h12 hf
    obtain ⟨z', e, x1, x2⟩ := ih a (List.mem_append_left _ (by rw [ha]; simp)) _ (l ++ [t]) f hr2 hl2 (by rw [List.length_append, List.length_singleton]; omega) (by omega)
    rw [List.length_append, List.length_singleton, List.append_assoc] at e
    rw [List.append_assoc] at x2
    exact ⟨z', e, he.trans x1, x2⟩
theorem e9_chainOf {z : ST} {h : HA} (hr : RMt z h) (hw : WF h) {t : Nat} (ht : t < hN h) : ∃ z', fX9_chainOf z (nI t) = some (nI (chn h t).length, z') ∧ El z z' ∧ LR (aI z' 27) (chn h t) := by
  have := chn_12 hw ht
  exact e9_chainOf_L hw t ht z [] 5000 hr LR_nil (by simpa using this) (by omega)
/-! ===== how long the rows of FACES are ===== -/
theorem p2_filter {n : Nat} : ∀ {l : List Nat}, l.Nodup → (l.map (2 ^ ·)).sum ≤ ((l.filter (fun x => decide (x ≠ n))).map (2 ^ ·)).sum + (if n ∈ l then 2 ^ n else 0)
  | [], _ => by simp
  | a :: l, hd => by
    have hd2 := List.nodup_cons.mp hd
    have ih := p2_filter (n := n) hd2.2
    by_cases c : a = n
    · subst c
      rw [if_neg hd2.1] at ih
      simp only [List.map_cons, List.sum_cons, List.mem_cons, true_or, if_true]
      rw [List.filter_cons_of_neg (by simp)]
      omega
    · rw [List.filter_cons_of_pos (by simpa using c)]
      simp only [List.map_cons, List.sum_cons]
      by_cases d : n ∈ l
      · rw [if_pos (List.mem_cons_of_mem _ d)]
        rw [if_pos d] at ih
        omega
      · rw [if_neg (by simp [d]; exact fun e => c e.symm)]
        rw [if_neg d] at ih
        omega
theorem p2_sum : ∀ (n : Nat) (l : List Nat), l.Nodup → (∀ x, x ∈ l → x < n) → (l.map (2 ^ ·)).sum + 1 ≤ 2 ^ n
  | 0, l, _, hl => by
    cases l with
    | nil => simp
    | cons a l => exact absurd (hl a List.mem_cons_self) (Nat.not_lt_zero a)
  | n + 1, l, hd, hl => by
    have h1 := p2_filter (n := n) hd
    have h2 := p2_sum n (l.filter (fun x => decide (x ≠ n))) (hd.filter _) (by
      intro x hx
      have := List.mem_filter.mp hx
      have h3 := hl x this.1
      have h4 : x ≠ n := by simpa using this.2
      omega)
    have h3 : (if n ∈ l then 2 ^ n else 0) ≤ 2 ^ n := by
      by_cases c : n ∈ l
      · rw [if_pos c]; exact Nat.le_refl _
      · rw [if_neg c]; exact Nat.zero_le _
    rw [Nat.pow_succ]
    omega
theorem sum_map_le {l : List Nat} {f g : Nat → Nat} (h : ∀ x, x ∈ l → f x ≤ g x) : (l.map f).sum ≤ (l.map g).sum := by
  induction l with
  | nil => exact Nat.le_refl _
  | cons a l ih =>
    have h1 := h a List.mem_cons_self
    have h2 := ih (fun x hx => h x (List.mem_cons_of_mem _ hx))
    simp only [List.map_cons, List.sum_cons]
    omega
theorem len_flatMap {l : List Nat} {f : Nat → List Nat} : (l.flatMap f).length = (l.map (fun x => (f x).length)).sum := by
  induction l with
  | nil => rfl
  | cons a l ih => rw [List.flatMap_cons, List.length_append, ih, List.map_cons, List.sum_cons]
theorem map_nodup {q : Nat → Nat} : ∀ {l : List Nat}, l.Nodup → (∀ a, a ∈ l → ∀ b, b ∈ l → q a = q b → a = b) → (l.map q).Nodup
  | [], _, _ => by simp
  | a :: l, hd, hq => by
    have hd2 := List.nodup_cons.mp hd
    rw [List.map_cons, List.nodup_cons]
    refine ⟨fun hm => ?_, map_nodup hd2.2 (fun x hx y hy => hq x (List.mem_cons_of_mem _ hx) y (List.mem_cons_of_mem _ hy))⟩
    obtain ⟨b, hb, e⟩ := List.mem_map.mp hm
    have := hq b (List.mem_cons_of_mem _ hb) a List.mem_cons_self e
    exact hd2.1 (this ▸ hb)
theorem faces_len {h : HA} (hw : WF h) {q : Nat → Nat} (q2 : ∀ t, t < hN h → ∀ s, s ∈ suc h t → q s < q t) (q3 : ∀ a, a < hN h → ∀ b, b < hN h → q a = q b → a = b) {t : Nat} (ht : t < hN h) (hp : ∀ f, f ∈ hL h t → (pf h f).length ≤ 2 ^ (q f)) : ((hL h t).flatMap (pf h)).length + 1 ≤ 2 ^ (q t) := by
  have hl := (hw.2.2.1 t ht)
  have h1 : ((hL h t).flatMap (pf h)).length ≤ ((hL h t).map (fun f => 2 ^ (q f))).sum := by
    rw [len_flatMap]; exact sum_map_le hp
  have h2 : ((hL h t).map (fun f => 2 ^ (q f))) = ((hL h t).map q).map (2 ^ ·) := by rw [List.map_map]; rfl
  have nd : ((hL h t).map q).Nodup := map_nodup hl.2.1 (fun a ha b hb e => q3 a (hl.2.2 a ha).1 b (hl.2.2 b hb).1 e)
  have h3 := p2_sum (q t) ((hL h t).map q) nd (by
    intro x hx
    obtain ⟨f, hf, rfl⟩ := List.mem_map.mp hx
    exact q2 t ht f (List.mem_append_right _ hf))
  rw [← h2] at h3
  omega
theorem pf_len {h : HA} (hw : WF h) {q : Nat → Nat} (q2 : ∀ t, t < hN h → ∀ s, s ∈ suc h t → q s < q t) (q3 : ∀ a, a < hN h → ∀ b, b < hN h → q a = q b → a = b) : ∀ t, t < hN h → (pf h t).length ≤ 2 ^ (q t) := by
  refine bel_ind hw (fun t => (pf h t).length ≤ 2 ^ (q t)) (fun t ht ih => ?_)
  rw [pf_fix hw ht, List.length_cons]
  exact faces_len hw q2 q3 ht (fun f hf => ih f (List.mem_append_right _ hf))
theorem faces_2048 {h : HA} (hw : WF h) {t : Nat} (ht : t < hN h) : ((hL h t).flatMap (pf h)).length + 1 ≤ 2048 := by
  obtain ⟨q, q1, q2, q3⟩ := WF_rank hw
  have h1 := faces_len hw q2 q3 ht (fun f hf => pf_len hw q2 q3 f ((hw.2.2.1 t ht).2.2 f hf).1)
  have h2 : q t ≤ 11 := by have := q1 t ht; have := hw.1; omega
  have h3 : 2 ^ (q t) ≤ 2 ^ 11 := Nat.pow_le_pow_right (by decide) h2
  omega
