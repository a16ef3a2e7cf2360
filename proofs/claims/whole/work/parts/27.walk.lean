/-! ===== the class's order ===== -/
def OR (u : ST) (l : List Nat) (n : Nat) : Prop := sI u 209 = nI l.length ∧ (∀ j, j < l.length → aI u 14 j = nI (l.getD j 0)) ∧ (∀ i, i < 32 → bt (sI u 210) i = decide (i ∈ l)) ∧ l.Nodup ∧ ∀ x, x ∈ l → x < n
abbrev Eo (u v : ST) : Prop := E3 u v [209, 210] [] [14]
theorem RCt_eo {u v : ST} {h : HA} (he : Eo u v) (hr : RCt u h) : RCt v h := by
  unfold RCt at hr ⊢
  rw [he.1 200 (by decide), he.2.2.1 8 (by decide), he.2.2.1 9 (by decide), he.2.2.1 10 (by decide), he.2.2.1 11 (by decide), he.2.2.1 12 (by decide)]
  exact hr
theorem RCm_eo {u v : ST} {h : HA} (he : Eo u v) (hr : RCm u h) : RCm v h := by
  unfold RCm at hr ⊢
  rw [he.1 300 (by decide), he.2.2.1 15 (by decide), he.2.2.1 16 (by decide), he.2.2.1 17 (by decide), he.2.2.1 18 (by decide), he.2.2.1 19 (by decide), he.2.2.1 20 (by decide), he.2.2.2.1]
  exact hr
theorem RCo_eo {u v : ST} {h : HA} (he : Eo u v) (hr : RCo u h) : RCo v h := by
  unfold RCo at hr ⊢
  rw [he.1 207 (by decide), he.2.2.1 13 (by decide)]
  exact hr
def JC (h : HA) (q : Nat → Nat) (b : Bool) (l : List Nat) (r : Nat) : Prop := ∀ x, x ∈ l → q x < r → ∀ y, y ∈ odr h b x → y ∈ l
theorem fold_sub : ∀ {xs l : List Nat}, (∀ y, y ∈ xs → y ∈ l) → xs.foldl addQ l = l
  | [], _, _ => rfl
  | x :: xs, l, h => by
    have : addQ l x = l := by unfold addQ; rw [if_pos (h x List.mem_cons_self)]
    rw [List.foldl_cons, this, fold_sub (fun y hy => h y (List.mem_cons_of_mem _ hy))]
theorem odr_rank {h : HA} (hw : WF h) {q : Nat → Nat} (q2 : ∀ t, t < hN h → ∀ s, s ∈ suc h t → q s < q t) (b : Bool) : ∀ t, t < hN h → ∀ x, x ∈ odr h b t → q x ≤ q t := by
  refine bel_ind hw (fun t => ∀ x, x ∈ odr h b t → q x ≤ q t) (fun t ht ih x hx => ?_)
  rw [odr_fix hw b ht] at hx
  rcases List.mem_cons.mp hx with rfl | hx
  · exact Nat.le_refl _
  · obtain ⟨m, hm, hx⟩ := List.mem_flatMap.mp hx
    have := ih m (kB_suc t ht m hm) x hx
    have := q2 t ht m (kB_suc t ht m hm)
    omega
theorem OR_push {u : ST} {l : List Nat} {n t : Nat} (ho : OR u l n) (hn : n ≤ 12) (ht : t < n) (hm : t ∉ l) : l.length < n ∧ ∃ v, stI (uI u 210 (sI u 210 ||| ((1 : Int32) <<< (nI t &&& 31)))) 14 12 (sI (uI u 210 (sI u 210 ||| ((1 : Int32) <<< (nI t &&& 31)))) 209) (nI t) = some v ∧ OR (uI v 209 (sI v 209 + 1)) (l ++ [t]) n ∧ Eo u (uI v 209 (sI v 209 + 1)) := by
  obtain ⟨o1, o2, o3, o4, o5⟩ := ho
  have hnd : (l ++ [t]).Nodup := by
    rw [List.nodup_append]
    exact ⟨o4, by simp, fun a ha b hb => by simp at hb; subst hb; exact fun e => hm (e ▸ ha)⟩
  have hlt : ∀ x, x ∈ l ++ [t] → x < n := by
    intro x hx
    rcases List.mem_append.mp hx with h1 | h1
    · exact o5 x h1
    · simp at h1; omega
  have hlen := nodup_le hnd hlt
  rw [List.length_append, List.length_singleton] at hlen
  refine ⟨by omega, vI (uI u 210 (sI u 210 ||| ((1 : Int32) <<< (nI t &&& 31)))) 14 (upd (aI u 14) l.length (nI t)), ?_, ⟨?_, ?_, ?_, hnd, hlt⟩, ?_⟩
  · have : sI (uI u 210 (sI u 210 ||| ((1 : Int32) <<< (nI t &&& 31)))) 209 = nI l.length := o1
    rw [this, stI_nI (by omega) (by decide)]; rfl
  · show sI u 209 + 1 = _
    rw [o1, nI_1, List.length_append, List.length_singleton]
  · intro j hj
    show upd (aI u 14) l.length (nI t) j = _
    rw [List.length_append, List.length_singleton] at hj
    rw [upd_rd]
    by_cases c : j = l.length
    · subst c; simp
    · rw [if_neg c, o2 j (by omega)]
      simp only [List.getD_eq_getElem?_getD]
      rw [List.getElem?_append_left (by omega)]
  · intro i hi
    show bt (sI u 210 ||| ((1 : Int32) <<< (nI t &&& 31))) i = _
    rw [b_or, o3 i hi, b_bit (by omega) hi]; simp
  · exact ((E3.uI (by decide)).trans (E3.vI (by decide))).trans (E3.uI (by decide))
theorem walk_ok {h : HA} (hw : WF h) {q : Nat → Nat} (q2 : ∀ t, t < hN h → ∀ s, s ∈ suc h t → q s < q t) (b : Bool) : ∀ (n t : Nat), t < hN h → q t = n → ∀ (d dp : Nat) (u : ST) (l : List Nat) (r : Nat), n + 1 < d → dp + n ≤ 11 → RCt u h → OR u l (hN h) → JC h q b l r → n < r → ∃ u', fX7_walk d u (nI t) (bI b) (nI dp) = some u' ∧ Eo u u' ∧ OR u' ((odr h b t).foldl addQ l) (hN h) ∧ JC h q b ((odr h b t).foldl addQ l) r := by
  have hn := hw.1
  intro n
  induction n using Nat.strongRecOn with
  | ind n ih =>
    intro t ht hq d dp u l r hd hdp hr ho hj hnr
    obtain ⟨d, rfl⟩ : ∃ j, d = j + 1 := ⟨d - 1, by omega⟩
    have hsz : ¬ sI u 200 ≤ nI t := by rw [hr.1]; exact nI_ge ht (by omega)
    have c12 : ¬ (12 : Int32) ≤ nI dp := nI_ge (b := 12) (by omega) (by decide)
    rw [fX7_walk, fX7_walk_B, if_neg (nI_pos (by omega)), if_neg hsz, if_neg c12]
    by_cases hm : t ∈ l
    · have hsub : (odr h b t).foldl addQ l = l := fold_sub (hj t hm (by omega))
      refine ⟨u, ?_, E3.refl, by rw [hsub]; exact ho, by rw [hsub]; exact hj⟩
      by_cases c : (12 : Int32) ≤ sI u 209
      · rw [if_pos c]
      · have hb : bt (sI u 210) t = true := by rw [ho.2.2.1 t (by omega)]; simp [hm]
        rw [if_neg c, if_neg (by rw [tst0 _ (by omega), hb]; decide)]
    · obtain ⟨hlen, v, ev, ho8, he8⟩ := OR_push ho hn ht hm
      have c : ¬ (12 : Int32) ≤ sI u 209 := by rw [ho.1]; exact nI_ge (b := 12) (by omega) (by decide)
      have hb : bt (sI u 210) t = false := by rw [ho.2.2.1 t (by omega)]; simp [hm]
      rw [if_neg c, if_pos ((tst0 _ (by omega)).mpr hb), Option.bind_some, ev, Option.bind_some, Option.bind_some]
      have hr8 := RCt_eo he8 hr
      have hj8 : JC h q b (l ++ [t]) (q t) := by
        intro x hx hqx y hy
        rcases List.mem_append.mp hx with h1 | h1
        · exact List.mem_append_left _ (hj x h1 (by omega) y hy)
        · simp at h1; subst h1; omega
      -- one child
      have one : ∀ (s : Nat), s ∈ suc h t → ∀ (u1 : ST) (l1 : List Nat), RCt u1 h → OR u1 l1 (hN h) → JC h q b l1 (q t) → ∃ u2, fX7_walk d u1 (nI s) (bI b) (nI dp + 1) = some u2 ∧ Eo u1 u2 ∧ OR u2 ((odr h b s).foldl addQ l1) (hN h) ∧ JC h q b ((odr h b s).foldl addQ l1) (q t) := by
        intro s hs u1 l1 a1 a2 a3
        have h1 := q2 t ht s hs
        rw [nI_1]
        exact ih (q s) (by omega) s (suc_lt hw ht hs) rfl d (dp + 1) u1 l1 (q t) (by omega) (by omega) a1 a2 a3 (by omega)
      -- what is above
      have up : ∀ (u1 : ST) (l1 : List Nat), RCt u1 h → OR u1 l1 (hN h) → JC h q b l1 (q t) → ∃ u2, fX7_walk d u1 (oI (hA h t)) (bI b) (nI dp + 1) = some u2 ∧ Eo u1 u2 ∧ OR u2 (((hA h t).toList.flatMap (odr h b)).foldl addQ l1) (hN h) ∧ JC h q b (((hA h t).toList.flatMap (odr h b)).foldl addQ l1) (q t) := by
        intro u1 l1 a1 a2 a3
        cases ha : hA h t with
        | none =>
          obtain ⟨d, rfl⟩ : ∃ j, d = j + 1 := ⟨d - 1, by omega⟩
          refine ⟨u1, ?_, E3.refl, a2, a3⟩
          rw [fX7_walk, fX7_walk_B, if_pos (by decide)]
        | some a =>
          obtain ⟨u2, e, x1, x2, x3⟩ := one a (List.mem_append_left _ (by rw [ha]; simp)) u1 l1 a1 a2 a3
          refine ⟨u2, e, x1, ?_, ?_⟩
          · simpa using x2
          · simpa using x3
      -- the FACES
      have fcs : ∀ (rem i f : Nat) (u1 : ST) (l1 : List Nat), i + rem = (hL h t).length → rem < f → RCt u1 h → OR u1 l1 (hN h) → JC h q b l1 (q t) → ∃ u2, Eo u1 u2 ∧ OR u2 ((((hL h t).drop i).flatMap (odr h b)).foldl addQ l1) (hN h) ∧ JC h q b ((((hL h t).drop i).flatMap (odr h b)).foldl addQ l1) (q t) ∧ fX7_walk_L92 (fX7_walk d) f u1 (nI t) (bI b) (nI dp) (nI i) = (if bI b = 0 then some u2 else (rdI u2 9 12 (nI t)).bind fun v13 => (fX7_walk d u2 v13 1 (nI dp + 1)).bind fun u14 => some u14) := by
        have hl3 := (hw.2.2.1 t ht).1
        intro rem
        induction rem with
        | zero =>
          intro i f u1 l1 hi hf a1 a2 a3
          obtain ⟨f, rfl⟩ : ∃ j, f = j + 1 := ⟨f - 1, by omega⟩
          refine ⟨u1, E3.refl, ?_, ?_, ?_⟩
          · rw [List.drop_eq_nil_of_le (by omega)]; exact a2
          · rw [List.drop_eq_nil_of_le (by omega)]; exact a3
          · rw [fX7_walk_L92, rdI_nI (by omega) (by decide), Option.bind_some, (a1.2 t ht).2.2.2.1, if_pos (nI_le (by omega) (by omega))]
        | succ rem ihr =>
          intro i f u1 l1 hi hf a1 a2 a3
          obtain ⟨f, rfl⟩ : ∃ j, f = j + 1 := ⟨f - 1, by omega⟩
          have hi2 : i < (hL h t).length := by omega
          have hg : (hL h t)[i]? = some ((hL h t).getD i 0) := by rw [List.getD_eq_getElem?_getD, List.getElem?_eq_getElem hi2]; rfl
          have hmem := List.mem_of_getElem? hg
          obtain ⟨u2, e, x1, x2, x3⟩ := one _ (List.mem_append_right _ hmem) u1 l1 a1 a2 a3
          obtain ⟨u3, y1, y2, y3, y4⟩ := ihr (i + 1) f u2 _ (by omega) (by omega) (RCt_eo x1 a1) x2 x3
          have hdr : (hL h t).drop i = (hL h t).getD i 0 :: (hL h t).drop (i + 1) := by
            rw [List.drop_eq_getElem_cons hi2]
            congr 1
            exact (List.getElem?_eq_some_iff.mp hg).2
          refine ⟨u3, x1.trans y1, ?_, ?_, ?_⟩
          · rw [hdr, List.flatMap_cons, List.foldl_append]; exact y2
          · rw [hdr, List.flatMap_cons, List.foldl_append]; exact y3
          · have e3 : nI t * 3 + nI i = nI (3 * t + i) := by
              have : (3 : Int32) = nI 3 := rfl
              rw [this, pk_mul, nI_add]; congr 1; omega
            rw [fX7_walk_L92, rdI_nI (by omega) (by decide), Option.bind_some, (a1.2 t ht).2.2.2.1, if_neg (nI_ge hi2 (by omega)), e3, rdI_nI (by omega) (by decide), Option.bind_some, (a1.2 t ht).2.2.2.2 i hi2, e, Option.bind_some, nI_1]
            exact y4
      -- the end
      have fin : ∀ (u' : ST), Eo (uI v 209 (sI v 209 + 1)) u' → OR u' (((kB h b t).flatMap (odr h b)).foldl addQ (l ++ [t])) (hN h) → JC h q b (((kB h b t).flatMap (odr h b)).foldl addQ (l ++ [t])) (q t) → Eo u u' ∧ OR u' ((odr h b t).foldl addQ l) (hN h) ∧ JC h q b ((odr h b t).foldl addQ l) r := by
        intro u' x1 x2 x3
        have e1 : (odr h b t).foldl addQ l = ((kB h b t).flatMap (odr h b)).foldl addQ (l ++ [t]) := by
          rw [odr_fix hw b ht, List.foldl_cons]
          congr 1
          unfold addQ; rw [if_neg hm]
        refine ⟨he8.trans x1, by rw [e1]; exact x2, ?_⟩
        intro x hx hqx y hy
        by_cases c1 : q x < q t
        · rw [e1] at hx ⊢
          exact x3 x hx c1 y hy
        · rcases foldQ_mem.mp hx with h1 | h1
          · exact foldQ_mem.mpr (Or.inl (hj x h1 hqx y hy))
          · rw [odr_fix hw b ht] at h1
            rcases List.mem_cons.mp h1 with rfl | h2
            · exact foldQ_mem.mpr (Or.inr hy)
            · obtain ⟨m, hm2, h3⟩ := List.mem_flatMap.mp h2
              have a1 := odr_rank hw q2 b m (suc_lt hw ht (kB_suc t ht m hm2)) x h3
              have a2 := q2 t ht m (kB_suc t ht m hm2)
              omega
      have h9 : ∀ (u1 : ST), RCt u1 h → rdI u1 9 12 (nI t) = some (oI (hA h t)) := fun u1 a1 => by rw [rdI_nI (by omega) (by decide), (a1.2 t ht).2.1]
      cases b with
      | false =>
        rw [bI_f, if_pos rfl, h9 _ hr8, Option.bind_some]
        obtain ⟨u2, e, x1, x2, x3⟩ := up _ _ hr8 ho8 hj8
        have e' : fX7_walk d (uI v 209 (sI v 209 + 1)) (oI (hA h t)) 0 (nI dp + 1) = some u2 := e
        rw [e', Option.bind_some]
        obtain ⟨u3, y1, y2, y3, y4⟩ := fcs (hL h t).length 0 5000 u2 _ (by omega) (by have := (hw.2.2.1 t ht).1; omega) (RCt_eo x1 hr8) x2 x3
        refine ⟨u3, ?_, fin u3 (x1.trans y1) ?_ ?_⟩
        · unfold fX7_walk_L89
          have y4' : fX7_walk_L92 (fX7_walk d) 5000 u2 (nI t) 0 (nI dp) 0 = some u3 := y4
          exact y4'
        · unfold kB; rw [if_neg (by decide), List.flatMap_append, List.foldl_append]; exact y2
        · unfold kB; rw [if_neg (by decide), List.flatMap_append, List.foldl_append]; exact y3
      | true =>
        rw [bI_t, if_neg (by decide)]
        unfold fX7_walk_L89
        obtain ⟨u3, y1, y2, y3, y4⟩ := fcs (hL h t).length 0 5000 _ _ (by omega) (by have := (hw.2.2.1 t ht).1; omega) hr8 ho8 hj8
        obtain ⟨u2, e, x1, x2, x3⟩ := up u3 _ (RCt_eo y1 hr8) y2 y3
        refine ⟨u2, ?_, fin u2 (y1.trans x1) ?_ ?_⟩
        · have y4' : fX7_walk_L92 (fX7_walk d) 5000 (uI v 209 (sI v 209 + 1)) (nI t) 1 (nI dp) 0 = (rdI u3 9 12 (nI t)).bind fun v13 => (fX7_walk d u3 v13 1 (nI dp + 1)).bind fun u14 => some u14 := y4
          have e' : fX7_walk d u3 (oI (hA h t)) 1 (nI dp + 1) = some u2 := e
          rw [y4', h9 _ (RCt_eo y1 hr8), Option.bind_some, e', Option.bind_some]
        · unfold kB; rw [if_pos rfl, List.flatMap_append, List.foldl_append]; exact x2
        · unfold kB; rw [if_pos rfl, List.flatMap_append, List.foldl_append]; exact x3
theorem e7_orderFrom {u : ST} {h : HA} (hr : RCt u h) (hw : WF h) (b : Bool) {t : Nat} (ht : t < hN h) : ∃ u', fX7_orderFrom u (nI t) (bI b) = some u' ∧ Eo u u' ∧ OR u' ((odr h b t).foldl addQ []) (hN h) := by
  have hn := hw.1
  obtain ⟨q, q1, q2, -⟩ := WF_rank hw
  unfold fX7_orderFrom
  rw [Option.bind_some, Option.bind_some]
  have he : Eo u (uI (uI u 209 0) 210 0) := (E3.uI (by decide)).trans (E3.uI (by decide))
  have h12 := q1 t ht
  obtain ⟨u', e, x1, x2, -⟩ := walk_ok hw q2 b (q t) t ht rfl 14 0 (uI (uI u 209 0) 210 0) [] (q t + 1) (by omega) (by omega) (RCt_eo he hr) ⟨rfl, fun j hj => by simp at hj, fun i hi => by
    show bt 0 i = _
    rw [b_0]; simp, by simp, fun x hx => by simp at hx⟩ (fun x hx => by simp at hx) (by omega)
  have e' : fX7_walk 14 (uI (uI u 209 0) 210 0) (nI t) (bI b) 0 = some u' := e
  exact ⟨u', by rw [e', Option.bind_some], he.trans x1, x2⟩
