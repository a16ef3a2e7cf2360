/-! ===== which METHODS FIT ===== -/
abbrev Ec (u v : ST) : Prop := E3 u v [209, 210, 402] [501] [14, 22]
theorem Eo_ec {u v : ST} (h : Eo u v) : Ec u v := h.mono (by decide) (by decide) (by decide)
theorem RCt_ec {u v : ST} {h : HA} (he : Ec u v) (hr : RCt u h) : RCt v h := by
  unfold RCt at hr ⊢
  rw [he.1 200 (by decide), he.2.2.1 8 (by decide), he.2.2.1 9 (by decide), he.2.2.1 10 (by decide), he.2.2.1 11 (by decide), he.2.2.1 12 (by decide)]
  exact hr
theorem RCm_ec {u v : ST} {h : HA} (he : Ec u v) (hr : RCm u h) : RCm v h := by
  unfold RCm at hr ⊢
  rw [he.1 300 (by decide), he.2.2.1 15 (by decide), he.2.2.1 16 (by decide), he.2.2.1 17 (by decide), he.2.2.1 18 (by decide), he.2.2.1 19 (by decide), he.2.2.1 20 (by decide), he.2.2.2.1]
  exact hr
theorem RCo_ec {u v : ST} {h : HA} (he : Ec u v) (hr : RCo u h) : RCo v h := by
  unfold RCo at hr ⊢
  rw [he.1 207 (by decide), he.2.2.1 13 (by decide)]
  exact hr
theorem E3_isC {u v : ST} {a b c : List Nat} (h : E3 u v a b c) (x : Nat) : isC v x = isC u x := by unfold isC; rw [h.2.2.2.2.2.1, h.2.2.2.2.2.2.1]
theorem E3_pI {u v : ST} {a b c : List Nat} (h : E3 u v a b c) : pI v = pI u := h.2.2.2.2.2.2.2.1
theorem pcI_ok {u : ST} {x : Nat} (h : isC u x = true) (k : Nat) : pcI u x k = some (pI u x k) := by rw [pcI, ck_pos h]
def und (h : HA) (x y : Int32) : Bool := if x = -2 then decide (y = -2) else if y = -2 then false else bel h (cl x) (cl y)
theorem e7_goesInto {u : ST} {h : HA} (hr : RCt u h) (ho : RCo u h) (hn : hN h ≤ 12) {x y : Int32} (hx : okP (hN h) x) (hy : okP (hN h) y) : fX7_goesInto u x y = some (bI (und h x y)) := by
  unfold fX7_goesInto und
  by_cases c : x = -2
  · rw [if_pos c, if_pos c]
    by_cases d : y = -2
    · rw [if_pos d]; simp [d, bI]
    · rw [if_neg d]; simp [d, bI]
  · rw [if_neg c, if_neg c, e7_isBelow hr ho hn, Option.bind_some, ck_pos (bI_isB _)]
    rcases hx with hx | ⟨i, hi, rfl⟩
    · exact absurd hx c
    · rcases hy with rfl | ⟨j, hj, rfl⟩
      · rw [if_pos rfl]; unfold blB; rw [isN_m2]; simp
      · rw [if_neg (nI_ne_m2 (by omega)), blB_nI hn hi hj, cl_nI (by omega), cl_nI (by omega)]
theorem e9_isUnder {z : ST} {h : HA} (hw : WF h) (hr : RMt z h) {x y : Int32} (hx : okP (hN h) x) (hy : okP (hN h) y) : ∃ z', fX9_isUnder z x y = some (bI (und h x y), z') ∧ Eu z z' := by
  have hn := hw.1
  unfold fX9_isUnder und
  by_cases c : x = -2
  · refine ⟨z, ?_, E3.refl⟩
    rw [if_pos c, if_pos c, fX9_isUnder_L12, c]
    by_cases d : y = -2
    · rw [if_pos d.symm]; simp [d, bI]
    · rw [if_neg (fun e => d e.symm)]; simp [d, bI]
  · rw [if_neg c, if_neg c]
    by_cases d : y = -2
    · refine ⟨z, ?_, E3.refl⟩
      rw [if_pos d, if_pos d, fX9_isUnder_L12, d, if_neg c]; rfl
    · rcases hx with hx | ⟨i, hi, rfl⟩
      · exact absurd hx c
      · rcases hy with hy | ⟨j, hj, rfl⟩
        · exact absurd hy d
        · obtain ⟨q, e⟩ := e9_isBelow hw hr hi hj
          refine ⟨vI z 15 q, ?_, E3.vI (by decide)⟩
          rw [if_neg d, if_neg d, e, b2_eq, ck_pos (bI_isB _), cl_nI (by omega), cl_nI (by omega)]
def fitB (h : HA) (t : Nat) (nm a b : Int32) (m : Nat) : Bool := match hB h m with
  | none => false
  | some r => rM r && (decide (rN r = nm) && (decide (rK r &&& 4 = 0) && (und h a (rA r) && (und h b (rB r) && decide (lkM h t nm (rA r) (rB r) = some m)))))
theorem meB_nI {h : HA} {m : Nat} {r : MR} (hlt : m < 60) (e : hB h m = some r) : meB h (nI m) = rM r := by
  unfold meB; rw [isN_nI (by omega), cl_nI (by omega), e]; simp [hlt]
theorem meB_no {h : HA} {m : Nat} (hlt : m < 60) (e : hB h m = none) : meB h (nI m) = false := by
  unfold meB; rw [cl_nI (by omega), e]; simp
theorem okP_r {h : HA} (hw : WF h) {m : Nat} {r : MR} (e : hB h m = some r) (hm : rM r = true) : okP (hN h) (rA r) ∧ okP (hN h) (rB r) := by
  have := (hw.2.2.2.2.2.2.1 m r e).2.2.1 hm
  exact ⟨this.2.1, this.2.2.1⟩
theorem lkM_60 {h : HA} {t : Nat} {nm a b : Int32} {m : Nat} (e : lkM h t nm a b = some m) : m < 60 := by
  obtain ⟨c, -, e2⟩ := List.exists_of_findSome?_eq_some e
  exact (own_some e2).1
theorem oI_eq {o : Option Nat} {m : Nat} (ho : ∀ j, o = some j → j < 60) (hm : m < 60) : oI o = nI m ↔ o = some m := by
  cases o with
  | none => rw [oI_none]; exact ⟨fun e => absurd e.symm (nI_ne_m2 (by omega)), fun e => by cases e⟩
  | some j =>
    have := ho j rfl
    rw [oI_some, nI_eq (by omega) (by omega)]
    exact ⟨fun e => by rw [e], fun e => by injection e⟩
theorem e4_fits {u : ST} {h : HA} (hr : RCt u h) (hm : RCm u h) (ho : RCo u h) (hw : WF h) {t : Nat} (hl : OR u ((odr h false t).foldl addQ []) (hN h)) {p : Nat} (hp : isC u p = true) (ha : okP (hN h) (pI u p 3)) (hb : okP (hN h) (pI u p 4)) {m : Nat} (h60 : m < 60) : fX4_fits u (nI m) p = some (bI (fitB h t (pI u p 2) (pI u p 3) (pI u p 4) m)) := by
  have hn := hw.1
  rw [fX4_fits, e6_isMethod hm hn (WF_own hw), Option.bind_some]
  unfold fitB
  cases e : hB h m with
  | none => rw [meB_no h60 e, if_pos bI_f]; rfl
  | some r =>
    obtain ⟨a1, a2, a3, a4, a5, a6, -⟩ := RCm_at hm h60 e
    rw [meB_nI h60 e]
    dsimp only
    cases c1 : rM r with
    | false => rw [if_pos bI_f]; rfl
    | true =>
      obtain ⟨o1, o2⟩ := okP_r hw e c1
      rw [if_neg (by decide), rdI_nI h60 (by decide), Option.bind_some, pcI_ok hp, Option.bind_some, a3, Bool.true_and]
      by_cases c2 : rN r = pI u p 2
      · rw [if_pos c2, e6_has hm hn (WF_own hw), Option.bind_some, haB_nI h60 e]
        by_cases c3 : rK r &&& 4 = 0
        · rw [if_pos (by simp [c3, bI]), rdI_nI h60 (by decide), Option.bind_some, rdI_nI h60 (by decide), Option.bind_some, pcI_ok hp, Option.bind_some, a5, a6, e7_goesInto hr ho hn ha o1, Option.bind_some]
          cases c4 : und h (pI u p 3) (rA r) with
          | false => rw [if_pos bI_f]; simp [bI]
          | true =>
            rw [if_neg (by decide), pcI_ok hp, Option.bind_some, e7_goesInto hr ho hn hb o2, Option.bind_some]
            cases c5 : und h (pI u p 4) (rB r) with
            | false => rw [if_pos bI_f]; simp [bI]
            | true =>
              rw [if_neg (by decide), Option.bind_some, e2_firstMethod hm hw hl, Option.bind_some, fs_dedup]
              have ek : (odr h false t).findSome? (qM h (pI u p 2) (rA r) (rB r)) = lkM h t (pI u p 2) (rA r) (rB r) := rfl
              rw [ek]
              by_cases c6 : lkM h t (pI u p 2) (rA r) (rB r) = some m
              · rw [if_pos ((oI_eq (fun j ej => lkM_60 ej) h60).mpr c6)]; simp [c2, c3, c6, bI]
              · rw [if_neg (fun q => c6 ((oI_eq (fun j ej => lkM_60 ej) h60).mp q))]; simp [c6, bI]
        · rw [if_neg (by simp [c3, bI])]; simp [c3, bI]
      · rw [if_neg c2]; simp [c2, bI]
def un2 (h : HA) (m m' : Nat) : Bool := match hB h m with
  | none => false
  | some r => match hB h m' with
    | none => false
    | some r' => und h (rA r) (rA r') && und h (rB r) (rB r')
/-- the narrowest of those that fit -/
def nar (h : HA) (F : Nat → Bool) : Option Nat := ff (fun m => F m && (ff (fun m' => F m' && !un2 h m m') 60 0).isNone) 60 0
def FL (F : Nat → Bool) (k : Nat) : List Nat := (List.range k).filter F
theorem FL_succ (F : Nat → Bool) (k : Nat) : FL F (k + 1) = if F k = true then FL F k ++ [k] else FL F k := by
  unfold FL
  rw [List.range_succ, List.filter_append]
  by_cases c : F k = true
  · rw [if_pos c]; simp [c]
  · rw [if_neg c]; simp [c]
theorem FL_len (F : Nat → Bool) : ∀ k, (FL F k).length ≤ k := by
  intro k
  have := List.length_filter_le F (List.range k)
  rw [List.length_range] at this
  exact this
theorem FL_mem {F : Nat → Bool} {k m : Nat} : m ∈ FL F k ↔ m < k ∧ F m = true := by
  unfold FL; rw [List.mem_filter, List.mem_range]
theorem ff_range {F : Nat → Bool} {q : Nat → Bool} : ∀ (n k : Nat), ((List.range' k n).filter F).find? q = ff (fun m => F m && q m) n k
  | 0, k => rfl
  | n + 1, k => by
    have ih := ff_range (F := F) (q := q) n (k + 1)
    rw [List.range'_succ, ff]
    by_cases c : F k = true
    · rw [List.filter_cons_of_pos c, List.find?_cons]
      cases d : q k with
      | true => rw [c]; rfl
      | false => rw [c]; exact ih
    · rw [List.filter_cons_of_neg c, ih]
      rw [if_neg (by simp [c])]
theorem FL_all {F : Nat → Bool} {q : Nat → Bool} : (FL F 60).all q = (ff (fun m => F m && !q m) 60 0).isNone := by
  cases e : ff (fun m => F m && !q m) 60 0 with
  | none =>
    refine List.all_eq_true.mpr (fun x hx => ?_)
    obtain ⟨h1, h2⟩ := FL_mem.mp hx
    have := ff_none e x (Nat.zero_le _) (by omega)
    rw [h2] at this
    simpa using this
  | some m =>
    obtain ⟨-, h2, h3, -⟩ := ff_some e
    rw [Bool.and_eq_true] at h3
    cases d : (FL F 60).all q with
    | false => rfl
    | true =>
      have := List.all_eq_true.mp d m (FL_mem.mpr ⟨by omega, h3.1⟩)
      rw [this] at h3; simp at h3
theorem nar_FL (h : HA) (F : Nat → Bool) : (FL F 60).find? (fun m => (FL F 60).all (un2 h m)) = nar h F := by
  unfold nar
  have e : FL F 60 = (List.range' 0 60).filter F := by unfold FL; rw [List.range_eq_range']
  have e2 : (fun m => (FL F 60).all (un2 h m)) = fun m => (ff (fun m' => F m' && !un2 h m m') 60 0).isNone := by
    funext m; exact FL_all
  rw [e2, e, ff_range]
abbrev Ef (u v : ST) : Prop := E3 u v [402] [] [22]
theorem Ef_ec {u v : ST} (h : Ef u v) : Ec u v := h.mono (by decide) (by decide) (by decide)
theorem OR_ef {u v : ST} {l : List Nat} {n : Nat} (he : Ef u v) (ho : OR u l n) : OR v l n := by
  unfold OR at ho ⊢
  rw [he.1 209 (by decide), he.1 210 (by decide), he.2.2.1 14 (by decide)]; exact ho
theorem e4_find_L {h : HA} (hw : WF h) {t p : Nat} {nm a b : Int32} (ha : okP (hN h) a) (hb : okP (hN h) b) : ∀ (n k f : Nat) (u : ST), k + n = 60 → n < f → RCt u h → RCm u h → RCo u h → OR u ((odr h false t).foldl addQ []) (hN h) → isC u p = true → pI u p 2 = nm → pI u p 3 = a → pI u p 4 = b → sI u 402 = nI (FL (fitB h t nm a b) k).length → LR (aI u 22) (FL (fitB h t nm a b) k) → ∃ u', fX4_findFitting_L22 f u p (nI k) = some u' ∧ Ef u u' ∧ sI u' 402 = nI (FL (fitB h t nm a b) 60).length ∧ LR (aI u' 22) (FL (fitB h t nm a b) 60)
  | 0, k, f, u, hk, hf, hr, hm, ho, hl, hp, i2, i3, i4, hs, hx => by
    obtain ⟨f, rfl⟩ : ∃ j, f = j + 1 := ⟨f - 1, by omega⟩
    have c60 : (60 : Int32) ≤ nI k := nI_le (a := 60) (by omega) (by omega)
    have : k = 60 := by omega
    subst this
    exact ⟨u, by rw [fX4_findFitting_L22, if_pos c60], E3.refl, hs, hx⟩
  | n + 1, k, f, u, hk, hf, hr, hm, ho, hl, hp, i2, i3, i4, hs, hx => by
    obtain ⟨f, rfl⟩ : ∃ j, f = j + 1 := ⟨f - 1, by omega⟩
    have c60 : ¬ (60 : Int32) ≤ nI k := nI_ge (b := 60) (by omega) (by decide)
    have k60 : k < 60 := by omega
    have hlen := FL_len (fitB h t nm a b) k
    have c61 : ¬ (60 : Int32) ≤ sI u 402 := by rw [hs]; exact nI_ge (b := 60) (by omega) (by decide)
    have ef := e4_fits hr hm ho hw hl hp (by rw [i3]; exact ha) (by rw [i4]; exact hb) k60
    rw [i2, i3, i4] at ef
    rw [fX4_findFitting_L22, if_neg c60, if_neg c61, ef, Option.bind_some]
    have es := FL_succ (fitB h t nm a b) k
    cases c : fitB h t nm a b k with
    | false =>
      rw [c, if_neg (by decide)] at es
      rw [if_pos bI_f, fX4_findFitting_L69, nI_1]
      exact e4_find_L hw ha hb n (k + 1) f u (by omega) (by omega) hr hm ho hl hp i2 i3 i4 (by rw [es]; exact hs) (by rw [es]; exact hx)
    | true =>
      rw [c, if_pos rfl] at es
      have he1 : Ef u (vI u 22 (upd (aI u 22) (FL (fitB h t nm a b) k).length (nI k))) := E3.vI (by decide)
      have he2 : Ef u (uI (vI u 22 (upd (aI u 22) (FL (fitB h t nm a b) k).length (nI k))) 402 (sI (vI u 22 (upd (aI u 22) (FL (fitB h t nm a b) k).length (nI k))) 402 + 1)) := he1.trans (E3.uI (by decide))
      obtain ⟨u', e, x1, x2, x3⟩ := e4_find_L hw (nm := nm) ha hb n (k + 1) f _ (by omega) (by omega) (RCt_ec (Ef_ec he2) hr) (RCm_ec (Ef_ec he2) hm) (RCo_ec (Ef_ec he2) ho) (OR_ef he2 hl) (by rw [E3_isC he2]; exact hp) (by rw [E3_pI he2]; exact i2) (by rw [E3_pI he2]; exact i3) (by rw [E3_pI he2]; exact i4) (by
          rw [sI_uI, es, List.length_append, List.length_singleton, ← nI_1]
          show sI u 402 + 1 = _
          rw [hs]) (by
          rw [es]
          show LR (aI (vI u 22 (upd (aI u 22) (FL (fitB h t nm a b) k).length (nI k))) 22) _
          rw [aI_vI]; exact LR_push hx)
      refine ⟨u', ?_, he2.trans x1, x2, x3⟩
      rw [if_neg (by decide), hs, stI_nI (by omega) (by decide), Option.bind_some, Option.bind_some, fX4_findFitting_L69, nI_1, e]
theorem FL_r {h : HA} {t : Nat} {nm a b : Int32} {k m : Nat} (hx : m ∈ FL (fitB h t nm a b) k) : m < k ∧ ∃ r, hB h m = some r ∧ rM r = true := by
  obtain ⟨h1, h2⟩ := FL_mem.mp hx
  refine ⟨h1, ?_⟩
  unfold fitB at h2
  cases e : hB h m with
  | none => rw [e] at h2; cases h2
  | some r => rw [e] at h2; dsimp only at h2; rw [Bool.and_eq_true] at h2; exact ⟨r, rfl, h2.1⟩
theorem e4_all_L {u : ST} {h : HA} (hr : RCt u h) (hm : RCm u h) (ho : RCo u h) (hw : WF h) {L : List Nat} (h60 : L.length ≤ 60) (hL' : ∀ m, m ∈ L → m < 60 ∧ ∃ r, hB h m = some r ∧ rM r = true) (hs : sI u 402 = nI L.length) (hx : LR (aI u 22) L) {m : Nat} (hmL : m ∈ L) : ∀ (n k f : Nat), k + n = L.length → n < f → fX4_goesIntoAll_L10 u f (nI m) (nI k) = some (bI ((L.drop k).all (un2 h m)))
  | 0, k, f, hk, hf => by
    obtain ⟨f, rfl⟩ : ∃ j, f = j + 1 := ⟨f - 1, by omega⟩
    rw [fX4_goesIntoAll_L10, hs, if_pos (nI_le (by omega) (by omega)), List.drop_eq_nil_of_le (by omega)]; rfl
  | n + 1, k, f, hk, hf => by
    have hn := hw.1
    obtain ⟨f, rfl⟩ : ∃ j, f = j + 1 := ⟨f - 1, by omega⟩
    have hk2 : k < L.length := by omega
    obtain ⟨m1, r, er, erm⟩ := hL' m hmL
    obtain ⟨m2, r', er', erm'⟩ := hL' _ (getD_mem hk2)
    obtain ⟨-, -, -, -, a5, a6, -⟩ := RCm_at hm m1 er
    obtain ⟨-, -, -, -, b5, b6, -⟩ := RCm_at hm m2 er'
    obtain ⟨o1, o2⟩ := okP_r hw er erm
    obtain ⟨o3, o4⟩ := okP_r hw er' erm'
    have ih := e4_all_L hr hm ho hw h60 hL' hs hx hmL n (k + 1) f (by omega) (by omega)
    have eu : un2 h m (L.getD k 0) = (und h (rA r) (rA r') && und h (rB r) (rB r')) := by unfold un2; rw [er]; dsimp only; rw [er']
    rw [fX4_goesIntoAll_L10, hs, if_neg (nI_ge hk2 (by omega)), rdI_nI (by omega) (by decide), Option.bind_some, hx k hk2, rdI_nI m1 (by decide), Option.bind_some, rdI_nI m2 (by decide), Option.bind_some, a5, b5, e7_goesInto hr ho hn o1 o3, Option.bind_some, drop_getD hk2, List.all_cons, eu]
    cases c1 : und h (rA r) (rA r') with
    | false => rw [if_pos bI_f]; rfl
    | true =>
      rw [if_neg (by decide), rdI_nI m1 (by decide), Option.bind_some, rdI_nI m2 (by decide), Option.bind_some, a6, b6, e7_goesInto hr ho hn o2 o4, Option.bind_some]
      cases c2 : und h (rB r) (rB r') with
      | false => rw [if_pos bI_f]; rfl
      | true => rw [if_neg (by decide), nI_1, ih]; rfl
theorem e4_nar_L {u : ST} {h : HA} (hr : RCt u h) (hm : RCm u h) (ho : RCo u h) (hw : WF h) {L : List Nat} (h60 : L.length ≤ 60) (hL' : ∀ m, m ∈ L → m < 60 ∧ ∃ r, hB h m = some r ∧ rM r = true) (hs : sI u 402 = nI L.length) (hx : LR (aI u 22) L) : ∀ (n k f : Nat), k + n = L.length → n < f → fX4_narrowest_L2 u f (nI k) = some (oI ((L.drop k).find? (fun m => L.all (un2 h m))))
  | 0, k, f, hk, hf => by
    obtain ⟨f, rfl⟩ : ∃ j, f = j + 1 := ⟨f - 1, by omega⟩
    rw [fX4_narrowest_L2, hs, if_pos (nI_le (by omega) (by omega)), List.drop_eq_nil_of_le (by omega)]; rfl
  | n + 1, k, f, hk, hf => by
    obtain ⟨f, rfl⟩ : ∃ j, f = j + 1 := ⟨f - 1, by omega⟩
    have hk2 : k < L.length := by omega
    have ih := e4_nar_L hr hm ho hw h60 hL' hs hx n (k + 1) f (by omega) (by omega)
    have ea : fX4_goesIntoAll u (nI (L.getD k 0)) = some (bI (L.all (un2 h (L.getD k 0)))) := e4_all_L hr hm ho hw h60 hL' hs hx (getD_mem hk2) L.length 0 5000 (by omega) (by omega)
    rw [fX4_narrowest_L2, hs, if_neg (nI_ge hk2 (by omega)), rdI_nI (by omega) (by decide), Option.bind_some, hx k hk2, ea, Option.bind_some, drop_getD hk2, List.find?_cons]
    cases c : L.all (un2 h (L.getD k 0)) with
    | false => rw [if_pos bI_f, nI_1, ih]
    | true => rw [if_neg (by decide), Option.bind_some]; rfl
