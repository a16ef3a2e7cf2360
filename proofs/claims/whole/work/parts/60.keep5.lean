/-! ===== the rules of a house are kept: TYPES ===== -/
theorem WF_T {h : HA} (hw : WF h) {A : Nat → Option Nat} {L : Nat → List Nat} (h2 : ∀ t, t < hN h → ∀ a, A t = some a → a < hN h ∧ hF h a = false ∧ hF h t = false) (h3 : ∀ t, t < hN h → (L t).length ≤ 3 ∧ (L t).Nodup ∧ ∀ f, f ∈ L t → f < hN h ∧ hF h f = true) (h4 : ∃ p : Nat → Nat, ∀ t, t < hN h → ∀ s, s ∈ (A t).toList ++ L t → p s < p t) : WF (hN h, hF h, A, hM h, L, hB h) := by
  obtain ⟨h1, -, -, -, h5, h6, h7, h8⟩ := hw
  exact ⟨h1, h2, h3, h4, h5, h6, h7, h8⟩
/-- an edge that closes no ring -/
theorem rank_edge {h : HA} (hw : WF h) {t j : Nat} (ht : t < hN h) (hb : bel h j t = false) : ∃ p : Nat → Nat, (∀ x, x < hN h → ∀ s, s ∈ suc h x → p s < p x) ∧ p j < p t := by
  obtain ⟨p, hp⟩ := hw.2.2.2.1
  refine ⟨fun x => if bel h x t = true then p x + (p j + 1) else p x, fun x hx s hs => ?_, ?_⟩
  · have h1 := hp x hx s hs
    dsimp only
    by_cases c : bel h s t = true
    · have d := bel_step hw hx hs c
      rw [if_pos c, if_pos d]; omega
    · rw [if_neg c]
      by_cases d : bel h x t = true
      · rw [if_pos d]; omega
      · rw [if_neg d]; exact h1
  · dsimp only
    rw [if_neg (by rw [hb]; exact Bool.false_ne_true), if_pos (bel_refl t)]; omega
theorem keep_1 {h : HA} (hw : WF h) {a b c d e : Int32} {v : Int64} (hf : rfs h 1 a b c d e = 0) : WF (app h 1 a b c d e v) := by
  have hn := hw.1
  rw [rfs_1] at hf
  obtain ⟨g1, g2⟩ := bY_0 hf
  rw [Bool.and_eq_true] at g1
  obtain ⟨i, hi, rfl, fi⟩ := clB_nI hn g1.1
  show WF (hN h, hF h, va_up (hA h) (cl (nI i)) (oN b), hM h, hL h, hB h)
  rw [cl_nI (by omega)] at g2 ⊢
  by_cases cb : b = -2
  · have eo : oN b = none := if_pos cb
    rw [eo]
    refine WF_T hw (fun t ht x hx => ?_) hw.2.2.1 ?_
    · by_cases k : t = i
      · rw [k, va_up_self] at hx; cases hx
      · rw [va_up_ne _ _ k] at hx; exact hw.2.1 t ht x hx
    · obtain ⟨p, hp⟩ := hw.2.2.2.1
      refine ⟨p, fun t ht s hs => hp t ht s ?_⟩
      by_cases k : t = i
      · rw [k, va_up_self] at hs
        rw [k]
        exact List.mem_append_right _ (by simpa using hs)
      · rw [va_up_ne _ _ k] at hs; exact hs
  · rw [if_neg cb] at g2
    have g3 : clB h b = true := by
      have := g1.2
      simpa [cb] using this
    obtain ⟨j, hj, rfl, fj⟩ := clB_nI hn g3
    rw [cl_nI (by omega)] at g2
    have eb : bel h j i = false := by
      cases k : bel h j i with
      | false => rfl
      | true => rw [k] at g2; exact absurd g2 (by decide)
    have eo : oN (nI j) = some j := by
      show (if nI j = -2 then none else some (cl (nI j))) = some j
      rw [if_neg cb, cl_nI (by omega)]
    rw [eo]
    refine WF_T hw (fun t ht x hx => ?_) hw.2.2.1 ?_
    · by_cases k : t = i
      · rw [k, va_up_self] at hx
        cases hx
        rw [k]
        exact ⟨hj, fj, fi⟩
      · rw [va_up_ne _ _ k] at hx; exact hw.2.1 t ht x hx
    · obtain ⟨p, hp, hp2⟩ := rank_edge hw hi eb
      refine ⟨p, fun t ht s hs => ?_⟩
      by_cases k : t = i
      · rw [k, va_up_self] at hs
        rcases List.mem_append.mp hs with q | q
        · have : s = j := by simpa using q
          rw [this, k]; exact hp2
        · rw [k]; exact hp i hi s (List.mem_append_right _ q)
      · rw [va_up_ne _ _ k] at hs; exact hp t ht s hs
theorem keep_2 {h : HA} (hw : WF h) {a b c d e : Int32} {v : Int64} (hf : rfs h 2 a b c d e = 0) : WF (app h 2 a b c d e v) := by
  have hn := hw.1
  rw [rfs_2] at hf
  obtain ⟨g1, g2⟩ := bY_0 hf
  simp only [Bool.and_eq_true] at g1
  obtain ⟨p1, p2, p3, p4⟩ := g1
  obtain ⟨i, hi, rfl⟩ := isN_true p1 (by omega)
  unfold faB at p2
  rw [Bool.and_eq_true] at p2
  obtain ⟨j, hj, rfl⟩ := isN_true p2.1 (by omega)
  show WF (hN h, hF h, hA h, hM h, va_up (hL h) (cl (nI i)) (hL h (cl (nI i)) ++ [cl (nI j)]), hB h)
  rw [cl_nI (by omega), cl_nI (by omega)] at *
  have n3 : ¬ (hL h i).length = 3 := by simpa using p3
  have nm : ¬ j ∈ hL h i := by simpa using p4
  have fj : hF h j = true := p2.2
  have eb : bel h j i = false := by
    cases k : bel h j i with
    | false => rfl
    | true => rw [k] at g2; exact absurd g2 (by decide)
  have o3 := hw.2.2.1 i hi
  refine WF_T hw hw.2.1 (fun t ht => ?_) ?_
  · by_cases k : t = i
    · rw [k, va_up_self]
      refine ⟨by rw [List.length_append, List.length_singleton]; omega, ?_, fun f hf => ?_⟩
      · rw [List.nodup_append]
        refine ⟨o3.2.1, by simp, fun x hx y hy e => ?_⟩
        have : y = j := by simpa using hy
        exact nm (by rw [← this, ← e]; exact hx)
      · rcases List.mem_append.mp hf with q | q
        · exact o3.2.2 f q
        · have : f = j := by simpa using q
          rw [this]; exact ⟨hj, fj⟩
    · rw [va_up_ne _ _ k]; exact hw.2.2.1 t ht
  · obtain ⟨p, hp, hp2⟩ := rank_edge hw hi eb
    refine ⟨p, fun t ht s hs => ?_⟩
    by_cases k : t = i
    · rw [k, va_up_self] at hs
      rw [k]
      rcases List.mem_append.mp hs with q | q
      · exact hp i hi s (List.mem_append_left _ q)
      · rcases List.mem_append.mp q with q | q
        · exact hp i hi s (List.mem_append_right _ q)
        · have : s = j := by simpa using q
          rw [this]; exact hp2
    · rw [va_up_ne _ _ k] at hs; exact hp t ht s hs
theorem keep_3 {h : HA} (hw : WF h) {a b c d e : Int32} {v : Int64} : WF (app h 3 a b c d e v) := by
  show WF (hN h, hF h, hA h, hM h, va_up (hL h) (cl a) ((hL h (cl a)).eraseIdx (cl b)), hB h)
  have sub : ∀ t x, x ∈ va_up (hL h) (cl a) ((hL h (cl a)).eraseIdx (cl b)) t → x ∈ hL h t := by
    intro t x hx
    by_cases k : t = cl a
    · rw [k, va_up_self] at hx
      rw [k]; exact (List.eraseIdx_sublist _ _).subset hx
    · rw [va_up_ne _ _ k] at hx; exact hx
  refine WF_T hw hw.2.1 (fun t ht => ?_) ?_
  · have o3 := hw.2.2.1 t ht
    refine ⟨?_, ?_, fun f hf => o3.2.2 f (sub t f hf)⟩
    · by_cases k : t = cl a
      · rw [k, va_up_self]
        have := (List.eraseIdx_sublist (hL h (cl a)) (cl b)).length_le
        rw [k] at o3; omega
      · rw [va_up_ne _ _ k]; exact o3.1
    · by_cases k : t = cl a
      · rw [k, va_up_self]
        rw [k] at o3; exact o3.2.1.sublist (List.eraseIdx_sublist _ _)
      · rw [va_up_ne _ _ k]; exact o3.2.1
  · obtain ⟨p, hp⟩ := hw.2.2.2.1
    refine ⟨p, fun t ht s hs => hp t ht s ?_⟩
    rcases List.mem_append.mp hs with q | q
    · exact List.mem_append_left _ q
    · exact List.mem_append_right _ (sub t s q)
theorem rfs_0 (h : HA) (a b c d e : Int32) : rfs h 0 a b c d e = bY ((decide (b = -2) || (decide (a = 0) && clB h b)) && isN c 4) (if hN h = 12 then -3 else 0) := rfl
theorem rfs0_in {h : HA} (hw : WF h) {a b c d e : Int32} (hf : rfs h 0 a b c d e = 0) : hN h < 12 ∧ isN c 4 = true ∧ ((b = -2 ∧ oN b = none) ∨ (a = 0 ∧ ∃ j, j < hN h ∧ b = nI j ∧ oN b = some j ∧ hF h j = false)) := by
  have hn := hw.1
  rw [rfs_0] at hf
  obtain ⟨g1, g2⟩ := bY_0 hf
  rw [Bool.and_eq_true] at g1
  have n12 : ¬ hN h = 12 := fun x => by rw [if_pos x] at g2; exact absurd g2 (by decide)
  refine ⟨by omega, g1.2, ?_⟩
  by_cases cb : b = -2
  · exact Or.inl ⟨cb, if_pos cb⟩
  · have g3 : (decide (a = 0) && clB h b) = true := by
      have := g1.1
      simpa [cb] using this
    rw [Bool.and_eq_true] at g3
    obtain ⟨j, hj, rfl, fj⟩ := clB_nI hn g3.2
    refine Or.inr ⟨by simpa using g3.1, j, hj, rfl, ?_, fj⟩
    show (if nI j = -2 then none else some (cl (nI j))) = some j
    rw [if_neg cb, cl_nI (by omega)]
theorem keep_0 {h : HA} (hw : WF h) {a b c d e : Int32} {v : Int64} (hf : rfs h 0 a b c d e = 0) : WF (app h 0 a b c d e v) := by
  obtain ⟨n12, c4, hb⟩ := rfs0_in hw hf
  show WF (hN h + 1, va_up (hF h) (hN h) (!decide (a = 0)), va_up (hA h) (hN h) (oN b), va_up (hM h) (hN h) c, va_up (hL h) (hN h) [], hB h)
  have hob : ∀ x, oN b = some x → x < hN h ∧ hF h x = false ∧ (!decide (a = 0)) = false := by
    intro x hx
    rcases hb with ⟨-, q⟩ | ⟨a0, j, hj, -, q, fj⟩
    · rw [q] at hx; cases hx
    · rw [q] at hx; cases hx
      exact ⟨hj, fj, by simp [a0]⟩
  obtain ⟨h1, h2, h3, ⟨p, hp⟩, h5, h6, h7, h8⟩ := id hw
  refine ⟨by show hN h + 1 ≤ 12; omega, fun t ht x hx => ?_, fun t ht => ?_, ⟨fun x => if x = hN h then (match oN b with | none => 0 | some j => p j + 1) else p x, fun t ht s hs => ?_⟩, fun t ht => ?_, h6, fun m r hr => ?_, h8⟩
  · have ht' : t < hN h + 1 := ht
    have hx' : va_up (hA h) (hN h) (oN b) t = some x := hx
    show x < hN h + 1 ∧ va_up (hF h) (hN h) (!decide (a = 0)) x = false ∧ va_up (hF h) (hN h) (!decide (a = 0)) t = false
    by_cases k : t = hN h
    · rw [k, va_up_self] at hx'
      obtain ⟨q1, q2, q3⟩ := hob x hx'
      rw [k, va_up_self, va_up_ne _ _ (by omega)]
      exact ⟨by omega, q2, q3⟩
    · rw [va_up_ne _ _ k] at hx' ⊢
      obtain ⟨q1, q2, q3⟩ := h2 t (by omega) x hx'
      rw [va_up_ne _ _ (by omega)]
      exact ⟨by omega, q2, q3⟩
  · have ht' : t < hN h + 1 := ht
    show (va_up (hL h) (hN h) [] t).length ≤ 3 ∧ (va_up (hL h) (hN h) [] t).Nodup ∧ ∀ f, f ∈ va_up (hL h) (hN h) [] t → f < hN h + 1 ∧ va_up (hF h) (hN h) (!decide (a = 0)) f = true
    by_cases k : t = hN h
    · rw [k, va_up_self]
      exact ⟨by simp, by simp, fun f hf => by simp at hf⟩
    · rw [va_up_ne _ _ k]
      obtain ⟨q1, q2, q3⟩ := h3 t (by omega)
      refine ⟨q1, q2, fun f hf => ?_⟩
      obtain ⟨r1, r2⟩ := q3 f hf
      rw [va_up_ne _ _ (by omega)]
      exact ⟨by omega, r2⟩
  · have ht' : t < hN h + 1 := ht
    have hs' : s ∈ (va_up (hA h) (hN h) (oN b) t).toList ++ va_up (hL h) (hN h) [] t := hs
    dsimp only
    by_cases k : t = hN h
    · rw [k, va_up_self, va_up_self, List.append_nil] at hs'
      cases eo : oN b with
      | none => rw [eo] at hs'; simp at hs'
      | some j =>
        rw [eo] at hs'
        have : s = j := by simpa using hs'
        have := (hob j eo).1
        rw [if_neg (by omega), if_pos k]
        show p s < p j + 1
        have : s = j := by simpa using hs'
        rw [this]; omega
    · rw [va_up_ne _ _ k, va_up_ne _ _ k] at hs'
      have := suc_lt hw (show t < hN h by omega) hs'
      rw [if_neg (by omega), if_neg k]
      exact hp t (by omega) s hs'
  · have ht' : t < hN h + 1 := ht
    show isN (va_up (hM h) (hN h) c t) 4 = true
    by_cases k : t = hN h
    · rw [k, va_up_self]; exact c4
    · rw [va_up_ne _ _ k]; exact h5 t (by omega)
  · obtain ⟨o1, o2, o3, o4⟩ := h7 m r hr
    have up : ∀ x, okP (hN h) x → okP (hN h + 1) x := fun x q => q.elim Or.inl (fun ⟨j, hj, e⟩ => Or.inr ⟨j, by omega, e⟩)
    refine ⟨by show rT r < hN h + 1; omega, o2, fun k => ⟨(o3 k).1, up _ (o3 k).2.1, up _ (o3 k).2.2.1, (o3 k).2.2.2⟩, fun k => ⟨(o4 k).1, (o4 k).2.1, (o4 k).2.2.1, fun x => (o4 k).2.2.2 ?_⟩⟩
    have x' : va_up (hF h) (hN h) (!decide (a = 0)) (rT r) = true := x
    rwa [va_up_ne _ _ (by omega)] at x'
theorem w12 {w : Int32} (h : isN w 12 = true) : w = 0 ∨ w = 1 ∨ w = 2 ∨ w = 3 ∨ w = 4 ∨ w = 5 ∨ w = 6 ∨ w = 7 ∨ w = 8 ∨ w = 9 ∨ w = 10 ∨ w = 11 := by
  obtain ⟨j, hj, rfl⟩ := isN_true h (by decide)
  have : j = 0 ∨ j = 1 ∨ j = 2 ∨ j = 3 ∨ j = 4 ∨ j = 5 ∨ j = 6 ∨ j = 7 ∨ j = 8 ∨ j = 9 ∨ j = 10 ∨ j = 11 := by omega
  rcases this with rfl | rfl | rfl | rfl | rfl | rfl | rfl | rfl | rfl | rfl | rfl | rfl <;> decide
theorem keep {h : HA} (hw : WF h) {w a b c d e : Int32} {v : Int64} (hw12 : isN w 12 = true) (hf : rfs h w a b c d e = 0) : WF (app h w a b c d e v) := by
  rcases w12 hw12 with rfl | rfl | rfl | rfl | rfl | rfl | rfl | rfl | rfl | rfl | rfl | rfl
  · exact keep_0 hw hf
  · exact keep_1 hw hf
  · exact keep_2 hw hf
  · exact keep_3 hw
  · exact keep_4 hw hf
  · exact keep_5 hw hf
  · exact keep_6 hw hf
  · exact keep_7 hw hf
  · exact keep_8 hw hf
  · exact keep_9 hw hf
  · exact keep_10 hw hf
  · exact keep_11 hw hf
