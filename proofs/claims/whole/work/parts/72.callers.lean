/-! ===== CALLERS: made, told ===== -/
def pz (x : Int32 × Int64) : Prop := x.1 = 0 ∨ (¬ x.1 ≤ 0 ∧ x.2 = 0)
theorem pz_ite {p : Prop} [Decidable p] {x y : Int32 × Int64} (hx : p → pz x) (hy : ¬ p → pz y) : pz (if p then x else y) := by
  by_cases c : p
  · rw [if_pos c]; exact hx c
  · rw [if_neg c]; exact hy c
theorem pz_k {k : Int32} (h : ¬ k ≤ 0) : pz (k, 0) := Or.inr ⟨h, rfl⟩
theorem rdf_pos {h : HA} {l : List Nat} (e : ¬ rdf h l = 0) : ¬ rdf h l ≤ 0 := fun q => e (rdf_le.mp q)
theorem mtO_pos (h : HA) (t r : Nat) : mtO h t r = 0 ∨ ¬ mtO h t r ≤ 0 := by
  unfold mtO
  by_cases c : rdf h (chn h r) = 0
  · rw [if_pos c]
    by_cases d : bel h r t = true
    · rw [if_pos d]; exact Or.inl rfl
    · rw [if_neg d]; exact Or.inr (by decide)
  · rw [if_neg c]; exact Or.inr (rdf_pos c)
theorem mtF_pos (h : HA) (K : CK) (t r m : Nat) : mtF h K t r m = 0 ∨ ¬ mtF h K t r m ≤ 0 := by
  unfold mtF
  by_cases c : haB h (nI m) 4 = true
  · rw [if_pos c]; exact Or.inr (by decide)
  · rw [if_neg c]
    by_cases d : haB h (nI m) 1 = kSt K
    · rw [if_pos d]
      by_cases e : kSt K = true
      · rw [if_pos e]; exact Or.inl rfl
      · rw [if_neg e]; exact mtO_pos h t r
    · rw [if_neg d]; exact Or.inr (by decide)
theorem mtV_pz (h : HA) (y : Int32) : pz (mtV h y) := by
  unfold mtV
  refine pz_ite (fun _ => ?_) (fun _ => pz_ite (fun _ => pz_k (by decide)) (fun _ => pz_k (by decide)))
  cases hB h (cl y) with
  | none => exact pz_k (by decide)
  | some r => exact Or.inl rfl
theorem mt_pz (h : HA) (so t n : Int32) (K : CK) (r : Nat) : pz (mt h so t n K r) := by
  unfold mt
  refine pz_ite (fun _ => pz_ite (fun _ => pz_ite (fun _ => Or.inl rfl) (fun _ => pz_ite (fun _ => pz_ite (fun _ => ?_) (fun _ => pz_ite (fun _ => ?_) (fun _ => ?_))) (fun c => pz_k (rdf_pos c)))) (fun _ => pz_k (by decide))) (fun _ => pz_k (by decide))
  · unfold mtG
    cases lkF h (cl t) n false with
    | none => exact pz_k (by decide)
    | some m =>
      refine pz_ite (fun _ => ?_) (fun c => pz_k ((mtF_pos h K (cl t) r m).resolve_left c))
      cases hB h m with
      | none => exact pz_k (by decide)
      | some q => exact pz_ite (fun _ => Or.inl rfl) (fun _ => pz_k (by decide))
  · unfold mtC
    refine pz_ite (fun _ => ?_) (fun _ => pz_k (by decide))
    cases lkM h (cl t) n (kFi K) (kSe K) with
    | none => exact pz_k (by decide)
    | some m => exact pz_ite (fun _ => mtV_pz h _) (fun c => pz_k ((mtF_pos h K (cl t) r m).resolve_left c))
  · unfold mtN
    exact pz_ite (fun _ => pz_k (by decide)) (fun _ => Or.inl rfl)
def okK (so : Int32) (K : CK) : Prop := (kFi K = -2 → kSe K = -2) ∧ (so = 0 → isN (kKd K) 8 = true)
theorem mk_ok {h : HA} (hw : WF h) {so : Int32} {t : Nat} {n a b : Int32} : ((mk h so t n a b).1 = 0 ∧ okK so (mk h so t n a b).2) ∨ ¬ (mk h so t n a b).1 ≤ 0 := by
  unfold mk
  by_cases c0 : so = 0
  · rw [if_pos c0]
    unfold mkG
    cases e : lkF h t n true with
    | none => exact Or.inr (by show ¬ (1 : Int32) ≤ 0; decide)
    | some m =>
      obtain ⟨m60, r, er, erm, -⟩ := lkF_some e
      dsimp only
      rw [er]
      exact Or.inl ⟨rfl, fun _ => rfl, fun _ => (okR_f hw er erm).2⟩
  · rw [if_neg c0]
    by_cases c1 : so = 1
    · rw [if_pos c1]
      unfold mkC
      by_cases d : FL (fitB h t n a b) 60 = []
      · rw [if_pos d]; exact Or.inr (by decide)
      · rw [if_neg d]
        cases e : nar h (fitB h t n a b) with
        | none => exact Or.inr (by show ¬ (2 : Int32) ≤ 0; decide)
        | some m =>
          obtain ⟨m60, r, er, erm⟩ := nar_some e
          dsimp only
          rw [er]
          exact Or.inl ⟨rfl, ((hw.2.2.2.2.2.2.1 m r er).2.2.1 erm).2.2.2, fun x => absurd x c0⟩
    · rw [if_neg c1]
      unfold mkN
      by_cases d : (hF h t || !decide (hM h t &&& 1 = 0)) = true
      · rw [if_pos d]; exact Or.inr (by decide)
      · rw [if_neg d]; exact Or.inl ⟨rfl, fun _ => rfl, fun x => absurd x c0⟩
theorem wC {u : ST} {q k : Nat} (hC : isC u q = true) (x : Int32) : ∃ v, wcI u q k x = some v ∧ isC v q = true ∧ pI v q k = x ∧ (∀ j, j ≠ k → pI v q j = pI u q j) ∧ ∀ A B C, EP u v A B C q :=
  ⟨qI u q k x, wcI_ok hC, hC, by rw [pI_qI, if_pos rfl], fun j hj => by rw [pI_qI, if_neg hj], fun _ _ _ => EP.qI⟩
theorem wCZ {u : ST} {q k : Nat} (hC : isC u q = true) : ∃ v, wcZ u q k 0 = some v ∧ isC v q = true ∧ pI v q k = 0 ∧ (∀ j, j ≠ k → pI v q j = pI u q j) ∧ ∀ A B C, EP u v A B C q :=
  ⟨qI u q k 0, wcZ_ok hC (by decide), hC, by rw [pI_qI, if_pos rfl], fun j hj => by rw [pI_qI, if_neg hj], fun _ _ _ => EP.qI⟩
theorem wCV {u : ST} {q : Nat} (hC : isC u q = true) (x : Int64) : ∃ v, wcV u q x = some v ∧ isC v q = true ∧ pV v q = x ∧ pI v = pI u ∧ ∀ A B C, EP u v A B C q :=
  ⟨qV u q x, wcV_ok hC, hC, pV_qV u q x, rfl, fun _ _ _ => EP.qV⟩
theorem e0_name {u : ST} {q : Nat} (hC : isC u q = true) (so t n a b : Int32) : ∃ v, fX0_name u q so t n a b = some v ∧ RCc v q so t n a b K0 ∧ ∀ A B C, EP u v A B C q := by
  obtain ⟨u1, e1, i1, f1, o1, y1⟩ := wC (u := u) (q := q) (k := 0) hC so
  obtain ⟨u2, e2, i2, f2, o2, y2⟩ := wC (u := u1) (q := q) (k := 1) i1 t
  obtain ⟨u3, e3, i3, f3, o3, y3⟩ := wC (u := u2) (q := q) (k := 2) i2 n
  obtain ⟨u4, e4, i4, f4, o4, y4⟩ := wC (u := u3) (q := q) (k := 3) i3 a
  obtain ⟨u5, e5, i5, f5, o5, y5⟩ := wC (u := u4) (q := q) (k := 4) i4 b
  obtain ⟨u6, e6, i6, f6, o6, y6⟩ := wC (u := u5) (q := q) (k := 5) i5 (-2)
  obtain ⟨u7, e7, i7, f7, o7, y7⟩ := wC (u := u6) (q := q) (k := 6) i6 (-2)
  obtain ⟨u8, e8, i8, f8, o8, y8⟩ := wC (u := u7) (q := q) (k := 7) i7 0
  obtain ⟨u9, e9, i9, f9, o9, y9⟩ := wCZ (u := u8) (q := q) (k := 8) i8
  obtain ⟨u10, e10, i10, f10, o10, y10⟩ := wCZ (u := u9) (q := q) (k := 9) i9
  obtain ⟨u11, e11, i11, f11, o11, y11⟩ := wCZ (u := u10) (q := q) (k := 10) i10
  obtain ⟨u12, e12, i12, f12, o12, y12⟩ := wCV (u := u11) (q := q) i11 0
  refine ⟨u12, ?_, ⟨i12, ⟨(by rw [o12, o11 0 (by decide), o10 0 (by decide), o9 0 (by decide), o8 0 (by decide), o7 0 (by decide), o6 0 (by decide), o5 0 (by decide), o4 0 (by decide), o3 0 (by decide), o2 0 (by decide), f1]), (by rw [o12, o11 1 (by decide), o10 1 (by decide), o9 1 (by decide), o8 1 (by decide), o7 1 (by decide), o6 1 (by decide), o5 1 (by decide), o4 1 (by decide), o3 1 (by decide), f2]), (by rw [o12, o11 2 (by decide), o10 2 (by decide), o9 2 (by decide), o8 2 (by decide), o7 2 (by decide), o6 2 (by decide), o5 2 (by decide), o4 2 (by decide), f3]), (by rw [o12, o11 3 (by decide), o10 3 (by decide), o9 3 (by decide), o8 3 (by decide), o7 3 (by decide), o6 3 (by decide), o5 3 (by decide), f4]), (by rw [o12, o11 4 (by decide), o10 4 (by decide), o9 4 (by decide), o8 4 (by decide), o7 4 (by decide), o6 4 (by decide), f5])⟩, (by rw [o12, o11 5 (by decide), o10 5 (by decide), o9 5 (by decide), o8 5 (by decide), o7 5 (by decide), f6]; rfl), (by rw [o12, o11 6 (by decide), o10 6 (by decide), o9 6 (by decide), o8 6 (by decide), f7]; rfl), (by rw [o12, o11 7 (by decide), o10 7 (by decide), o9 7 (by decide), f8]; rfl), (by rw [o12, o11 8 (by decide), o10 8 (by decide), f9]; rfl), (by rw [o12, o11 9 (by decide), f10]; rfl), (by rw [o12, f11]; rfl), f12⟩, fun A B C => ?_⟩
  · rw [fX0_name, e1, Option.bind_some, e2, Option.bind_some, e3, Option.bind_some, e4, Option.bind_some, e5, Option.bind_some, e6, Option.bind_some, e7, Option.bind_some, e8, Option.bind_some, e9, Option.bind_some, e10, Option.bind_some, e11, Option.bind_some, e12, Option.bind_some]
  · exact ((((((((((((y1 A B C).trans (y2 A B C)).trans (y3 A B C)).trans (y4 A B C)).trans (y5 A B C)).trans (y6 A B C)).trans (y7 A B C)).trans (y8 A B C)).trans (y9 A B C)).trans (y10 A B C)).trans (y11 A B C)).trans (y12 A B C))
/-- scratch, and one more in the pool -/
def EW (u v : ST) (q : Nat) : Prop := (∀ k, k ∉ [209, 210, 402] → sI v k = sI u k) ∧ (∀ k, k ∉ [501] → sL v k = sL u k) ∧ (∀ k, k ∉ [14, 22] → aI v k = aI u k) ∧ aL v = aL u ∧ aR v = aR u ∧ ag v = ag u ∧ (∀ x, x ∈ pA u → x ∈ pA v) ∧ (∀ x, x ≠ q → pK v x = pK u x) ∧ (∀ x, x ≠ q → pI v x = pI u x) ∧ (∀ x, x ≠ q → pV v x = pV u x)
theorem EW.of {u v : ST} {q : Nat} (h : EN u v q) : EW u v q := by
  obtain ⟨h1, h2, h3, h4, h5, h6, h7⟩ := h
  exact ⟨fun k _ => by rw [h1], fun k _ => by rw [h2], fun k _ => by rw [h3], h4, h5, h6, h7⟩
theorem EW.ek {u v w : ST} {q : Nat} (h1 : EW u v q) (h2 : Ek v w q) : EW u w q := by
  obtain ⟨p1, p2, p3, p4, p5, p6, p7, p8, p9, p10⟩ := h1
  obtain ⟨r1, r2, r3, r4, r5, r6, r7, r8, r9, r10⟩ := h2
  exact ⟨fun k h => (r1 k h).trans (p1 k h), fun k h => (r2 k h).trans (p2 k h), fun k h => (r3 k h).trans (p3 k h), r4.trans p4, r5.trans p5, r8.trans p6, fun x hx => by rw [r6]; exact p7 x hx, fun x hx => by rw [r7]; exact p8 x hx, fun x hx => (r9 x hx).trans (p9 x hx), fun x hx => (r10 x hx).trans (p10 x hx)⟩
theorem EW_isE {u v : ST} {q : Nat} (x : EW u v q) (hq : q ∉ pA u) {a : Nat} (h : isE u a = true) : isE v a = true := by
  unfold isE at h ⊢
  rw [Bool.and_eq_true, decide_eq_true_eq] at h ⊢
  refine ⟨x.2.2.2.2.2.2.1 a h.1, ?_⟩
  rw [x.2.2.2.2.2.2.2.1 a (fun e => hq (e ▸ h.1))]; exact h.2
theorem EW_isC {u v : ST} {q : Nat} (x : EW u v q) (hq : q ∉ pA u) {a : Nat} (h : isC u a = true) : isC v a = true := by
  unfold isC at h ⊢
  rw [Bool.and_eq_true, decide_eq_true_eq] at h ⊢
  refine ⟨x.2.2.2.2.2.2.1 a h.1, ?_⟩
  rw [x.2.2.2.2.2.2.2.1 a (fun e => hq (e ▸ h.1))]; exact h.2
theorem RU_ew {u v : ST} {q : Nat} (x : EW u v q) (hq : q ∉ pA u) {f : Nat → AE} {n : Nat} {c : Nat → CA} {m : Nat} {h : HA} (hr : RU u f n c m h) : RU v f n c m h := by
  obtain ⟨h1, h2, h3, h4, h5, h6⟩ := hr
  have g := x.2.2.1
  refine ⟨by rw [x.1 4 (by decide)]; exact h1, by rw [x.1 6 (by decide)]; exact h2, by rw [x.2.2.2.2.2.1]; exact EW_isC x hq h3, ⟨?_, ?_, ?_⟩, LCr_p (p := q) (fun a ha e => hq (e ▸ isE_in ha)) (fun a ha => EW_isE x hq ha) (by rw [x.2.2.2.2.1]) x.2.2.2.2.2.2.2.2.1 x.2.2.2.2.2.2.2.2.2 h5, CCr_p (p := q) (fun a ha _ e => hq (e ▸ isC_in ha)) (fun a ha => EW_isC x hq ha) x.2.2.2.2.2.1 (by rw [x.2.2.2.2.1]) x.2.2.2.2.2.2.2.2.1 x.2.2.2.2.2.2.2.2.2 h6⟩
  · exact RCt_same h4.1 (x.1 200 (by decide)) (g 8 (by decide)) (g 9 (by decide)) (g 10 (by decide)) (g 11 (by decide)) (g 12 (by decide))
  · exact RCm_same h4.2.1 (x.1 300 (by decide)) (g 15 (by decide)) (g 16 (by decide)) (g 17 (by decide)) (g 18 (by decide)) (g 19 (by decide)) (g 20 (by decide)) (by rw [x.2.2.2.1])
  · exact RCo_same h4.2.2 rfl rfl (fun _ => rfl) (g 13 (by decide)) (x.1 207 (by decide))
theorem isC_qN {u : ST} {q : Nat} : isC (qN u q false) q = true := by
  unfold isC
  rw [Bool.and_eq_true, decide_eq_true_eq]
  refine ⟨List.mem_append_right _ (by simp), ?_⟩
  show (!va_up (pK u) q false q) = true
  rw [va_up_self]; rfl
/-- the Caller comes into the row -/
theorem add_K {u u7 : ST} {q : Nat} (hq : q ∉ pA u) {f : Nat → AE} {n : Nat} {c : Nat → CA} {m : Nat} {h : HA} (hr : RU u f n c m h) (x7 : EW u u7 q) (hm : m < 24) {so t nm a b : Int32} {K : CK} (y : RCc u7 q so t nm a b K) : ∃ u3, ((wcI u7 q 12 (sI u7 4)).bind fun u10 => (stC u10 7 24 (sI u10 6) q).bind fun u11 => (some (uI u11 6 ((sI u11 6) + 1))).bind fun u12 => some (((sI u12 6) - 1), u12)) = some (nI m, u3) ∧ RU u3 f n (va_up c m (so, t, nm, a, b, K, n)) (m + 1) h ∧ (∀ k, k ∉ [501] → sL u3 k = sL u k) := by
  have hr7 := RU_ew x7 hq hr
  obtain ⟨h1, h2, h3, h4, h5, h6⟩ := hr7
  have qg : q ≠ ag u7 := by
    rw [x7.2.2.2.2.2.1]
    exact fun e => hq (e ▸ isC_in hr.2.2.1)
  have qE : ∀ k, k < n → ∀ p, aR u7 6 k = some p → p ≠ q := fun k hk p e => by
    obtain ⟨p', e', y'⟩ := hr.2.2.2.2.1 k hk
    rw [x7.2.2.2.2.1, e'] at e
    cases e
    exact fun e => hq (e ▸ isE_in y'.1)
  have qC : ∀ k, k < m → ∀ p, aR u7 7 k = some p → p ≠ q := fun k hk p e => by
    obtain ⟨p', e', -, y', -⟩ := hr.2.2.2.2.2 k hk
    rw [x7.2.2.2.2.1, e'] at e
    cases e
    exact fun e => hq (e ▸ isC_in y'.1)
  obtain ⟨u1, hu1⟩ : ∃ u1, u1 = qI u7 q 12 (nI n) := ⟨_, rfl⟩
  have e1 : wcI u7 q 12 (sI u7 4) = some u1 := by rw [wcI_ok y.1, h1, hu1]
  have p12 : pI u1 q 12 = nI n := by rw [hu1, pI_qI, if_pos rfl]
  have po : ∀ j, j ≠ 12 → pI u1 q j = pI u7 q j := fun j hj => by rw [hu1, pI_qI, if_neg hj]
  have pn : ∀ p, p ≠ q → pI u1 p = pI u7 p := fun p hp => by
    rw [hu1]
    show va_up (pI u7) q _ p = _
    rw [va_up_ne _ _ hp]
  have r1 : sI u1 = sI u7 ∧ sL u1 = sL u7 ∧ aI u1 = aI u7 ∧ aL u1 = aL u7 ∧ aR u1 = aR u7 ∧ pA u1 = pA u7 ∧ pK u1 = pK u7 ∧ pV u1 = pV u7 ∧ ag u1 = ag u7 := by rw [hu1]; exact ⟨rfl, rfl, rfl, rfl, rfl, rfl, rfl, rfl, rfl⟩
  clear hu1
  have iC1 : ∀ a, isC u1 a = isC u7 a := fun a => by unfold isC; rw [r1.2.2.2.2.2.1, r1.2.2.2.2.2.2.1]
  obtain ⟨u2, hu2⟩ : ∃ u2, u2 = vR u1 7 (va_up (aR u1 7) m (some q)) := ⟨_, rfl⟩
  have e2 : stC u1 7 24 (sI u1 6) q = some u2 := by rw [stC, ck_pos (by rw [iC1]; exact y.1), r1.1, h2, stR_nI hm (by decide), hu2]
  have a7 : aR u2 7 = va_up (aR u7 7) m (some q) := by
    rw [hu2]
    show va_up (aR u1) 7 (va_up (aR u1 7) m (some q)) 7 = _
    rw [va_up_self, r1.2.2.2.2.1]
  have a6 : aR u2 6 = aR u7 6 := by
    rw [hu2]
    show va_up (aR u1) 7 (va_up (aR u1 7) m (some q)) 6 = _
    rw [va_up_ne _ _ (by decide), r1.2.2.2.2.1]
  have r2 : sI u2 = sI u7 ∧ sL u2 = sL u7 ∧ aI u2 = aI u7 ∧ aL u2 = aL u7 ∧ pA u2 = pA u7 ∧ pK u2 = pK u7 ∧ pI u2 = pI u1 ∧ pV u2 = pV u7 ∧ ag u2 = ag u7 := by
    rw [← r1.1, ← r1.2.1, ← r1.2.2.1, ← r1.2.2.2.1, ← r1.2.2.2.2.2.1, ← r1.2.2.2.2.2.2.1, ← r1.2.2.2.2.2.2.2.1, ← r1.2.2.2.2.2.2.2.2, hu2]; exact ⟨rfl, rfl, rfl, rfl, rfl, rfl, rfl, rfl, rfl⟩
  clear hu2
  obtain ⟨u3, hu3⟩ : ∃ u3, u3 = uI u2 6 (nI (m + 1)) := ⟨_, rfl⟩
  have s6 : sI u3 6 = nI (m + 1) := by rw [hu3]; exact sI_uI _ _ _
  have so' : ∀ k, k ≠ 6 → sI u3 k = sI u7 k := fun k hk => by rw [← r2.1, hu3]; exact va_up_ne _ _ hk
  have r3 : sL u3 = sL u7 ∧ aI u3 = aI u7 ∧ aL u3 = aL u7 ∧ aR u3 = aR u2 ∧ pA u3 = pA u7 ∧ pK u3 = pK u7 ∧ pI u3 = pI u1 ∧ pV u3 = pV u7 ∧ ag u3 = ag u7 := by
    rw [← r2.2.1, ← r2.2.2.1, ← r2.2.2.2.1, ← r2.2.2.2.2.1, ← r2.2.2.2.2.2.1, ← r2.2.2.2.2.2.2.1, ← r2.2.2.2.2.2.2.2.1, ← r2.2.2.2.2.2.2.2.2, hu3]; exact ⟨rfl, rfl, rfl, rfl, rfl, rfl, rfl, rfl, rfl⟩
  obtain ⟨t1, t2, t3, t4, t5, t6, t7, t8, t9⟩ := r3
  have iE : ∀ a, isE u3 a = isE u7 a := fun a => by unfold isE; rw [t5, t6]
  have iC : ∀ a, isC u3 a = isC u7 a := fun a => by unfold isC; rw [t5, t6]
  refine ⟨u3, ?_, ⟨by rw [so' 4 (by decide)]; exact h1, s6, by rw [t9, iC]; exact h3, ⟨?_, ?_, ?_⟩, fun k hk => ?_, fun k hk => ?_⟩, fun k hk => by rw [t1]; exact x7.2.1 k hk⟩
  · rw [e1, Option.bind_some, e2, Option.bind_some, r2.1, h2, nI_1, ← hu3, Option.bind_some, s6, pred_nI]
  · exact RCt_same h4.1 (so' 200 (by decide)) (by rw [t2]) (by rw [t2]) (by rw [t2]) (by rw [t2]) (by rw [t2])
  · exact RCm_same h4.2.1 (so' 300 (by decide)) (by rw [t2]) (by rw [t2]) (by rw [t2]) (by rw [t2]) (by rw [t2]) (by rw [t2]) (by rw [t3])
  · exact RCo_same h4.2.2 rfl rfl (fun _ => rfl) (by rw [t2]) (so' 207 (by decide))
  · obtain ⟨p, e, yp⟩ := h5 k hk
    refine ⟨p, by rw [t4, a6]; exact e, ?_⟩
    unfold EQx EQ at yp ⊢
    rw [iE, t7, t8, pn p (qE k hk p e)]; exact yp
  · by_cases d : k = m
    · subst d
      refine ⟨q, by rw [t4, a7, va_up_self], by rw [t9]; exact qg, ?_, by rw [va_up_self, t7]; exact p12⟩
      rw [va_up_self]
      obtain ⟨y0, ⟨y1, y2, y3, y4, y5⟩, y6, y7, y8, y9, y10, y11, y12⟩ := y
      exact ⟨by rw [iC]; exact y0, ⟨by rw [t7, po 0 (by decide)]; exact y1, by rw [t7, po 1 (by decide)]; exact y2, by rw [t7, po 2 (by decide)]; exact y3, by rw [t7, po 3 (by decide)]; exact y4, by rw [t7, po 4 (by decide)]; exact y5⟩, by rw [t7, po 5 (by decide)]; exact y6, by rw [t7, po 6 (by decide)]; exact y7, by rw [t7, po 7 (by decide)]; exact y8, by rw [t7, po 8 (by decide)]; exact y9, by rw [t7, po 9 (by decide)]; exact y10, by rw [t7, po 10 (by decide)]; exact y11, by rw [t8]; exact y12⟩
    · obtain ⟨p, e, e2, yp, e4⟩ := h6 k (by omega)
      have np := qC k (by omega) p e
      rw [va_up_ne _ _ d]
      refine ⟨p, by rw [t4, a7, va_up_ne _ _ d]; exact e, by rw [t9]; exact e2, ?_, by rw [t7, pn p np]; exact e4⟩
      unfold RCx RCc at yp ⊢
      rw [iC, t7, t8, pn p np]; exact yp
theorem add_R {z z1 : ST} {f : Nat → AE} {n : Nat} {c : Nat → CA} {m : Nat} {h : HA} (hr : RZ z f n c m h) (x : EM z z1 m) {so t nm a b : Int32} {K : CK} (y : RMc z1 m so t nm a b K) (y41 : aI z1 41 m = nI n) : RZ (uI z1 28 (nI (m + 1))) f n (va_up c m (so, t, nm, a, b, K, n)) (m + 1) h := by
  obtain ⟨h1, h2, h3, h4, h5⟩ := RZ_EM x (Nat.le_refl m) hr
  obtain ⟨z2, e2, f2, o2, i2, l2, -⟩ := wS z1 28 (nI (m + 1))
  rw [e2]
  refine ⟨by rw [o2 16 (by decide)]; exact h1, f2, ⟨?_, ?_⟩, fun k hk => ?_, fun k hk => ?_⟩
  · exact RMt_same h3.1 (o2 0 (by decide)) (by rw [i2]) (by rw [i2]) (by rw [i2]) (by rw [i2]) (by rw [i2])
  · exact RMm_same h3.2 (by rw [i2]) (by rw [i2]) (by rw [i2]) (by rw [i2]) (by rw [i2]) (by rw [i2]) (by rw [i2]) (by rw [i2]) (by rw [l2])
  · have := h4 k hk
    unfold rwE at this ⊢
    rw [i2, l2]; exact this
  · by_cases d : k = m
    · subst d
      rw [va_up_self]
      refine ⟨?_, by rw [i2]; exact y41⟩
      unfold RMx RMc
      unfold RMc at y
      rw [i2, l2]; exact y
    · rw [va_up_ne _ _ d]
      obtain ⟨q1, q2⟩ := h5 k (by omega)
      refine ⟨?_, by rw [i2]; exact q2⟩
      unfold RMx RMc at q1 ⊢
      rw [i2, l2]; exact q1
theorem new_sim (hfp : FPx) {u z : ST} {f : Nat → AE} {n : Nat} {cc : Nat → CA} {m : Nat} (hO : OK f n cc m) (hU : RU u f n cc m (hk f n)) (hZ : RZ z f n cc m (hk f n)) (hS : sL u 8 = sL z 44) {so nm a b : Int32} {t : Nat} (hso : so = 0 ∨ so = 1 ∨ so = 2) (ht : t < hN (hk f n)) (ha : okP (hN (hk f n)) a) (hb : okP (hN (hk f n)) b) (hab : a = -2 → b = -2) : ∃ x r z1, fX8_keepCaller u so (nI t) nm a b = some x ∧ okN u x ∧ fX9_newCaller z so (nI t) nm a b = some (r, z1) ∧ ∀ r1 u1, poN u x r1 u1 → r1 = r ∧ Rl u1 z1 := by
  obtain ⟨hn, hL, hm, hA⟩ := id hO
  have hw := hk_WF hL n (Nat.le_refl _)
  have hn12 := hw.1
  by_cases hm2 : m = 24
  · refine ⟨.inl (-3, u), -3, z, ?_, fun K hK => (by cases hK), ?_, ?_⟩
    · have c : ¬ sI u 6 < 24 := by rw [hU.2.1, hm2]; decide
      rw [fX8_keepCaller, if_neg c]
    · have c : sI z 28 = 24 := by rw [hZ.2.1, hm2]; decide
      rw [fX9_newCaller, if_pos c]
    · rintro r1 u1 (hp | ⟨K, q, hK, hq, hp⟩)
      · cases hp
        exact ⟨rfl, f, n, cc, m, hO, hU, hZ, hS⟩
      · cases hK
  · have hm3 : m < 24 := by omega
    have c1 : sI u 6 < 24 := by rw [hU.2.1]; exact nI_lt (b := 24) hm3 (by decide)
    have c2 : ¬ sI z 28 = 24 := by rw [hZ.2.1]; exact fun x => hm2 (nI_inj (b := 24) (by omega) (by decide) x)
    obtain ⟨z1, e1, y1, y2, y3⟩ := e9_making hfp hw hZ.2.2.1.1 hZ.2.2.1.2 (c := m) (by omega) ht (n := nm) hso ha hb
    have hS1 : sL z1 44 = sL z 44 := y1.2.1 44 (by decide)
    -- up to the fault
    have k1 : ∀ q, q ∉ pA u → ∃ u6 u7, fX0_name (qN u q false) q so (nI t) nm a b = some u6 ∧ fX4_faultOf u6 q = some ((mk (hk f n) so t nm a b).1, u7) ∧ EW u u7 q ∧ ((mk (hk f n) so t nm a b).1 = 0 → RCc u7 q so (nI t) nm a b (mk (hk f n) so t nm a b).2) := by
      intro q hq
      obtain ⟨u6, e6, r6, x6⟩ := e0_name (u := qN u q false) (q := q) isC_qN so (nI t) nm a b
      have w6 : EW u u6 q := (EW.of EN_qN).ek (x6 _ _ _)
      have hU6 := RU_ew w6 hq hU
      obtain ⟨u7, e7, x7, r7⟩ := e4_faultOf hU6.2.2.2.1.1 hU6.2.2.2.1.2.1 hU6.2.2.2.1.2.2 hw ht hso ha hb r6
      exact ⟨u6, u7, e6, e7, w6.ek x7, r7⟩
    have eF : fX8_keepCaller u so (nI t) nm a b = some (.inr fun q2 => (some (qN u q2 false)).bind fun u3 => (fX0_init u3 q2).bind fun u4 => ck (isC u4 q2) <| (fX0_name u4 q2 so (nI t) nm a b).bind fun u6 => b2 (fX4_faultOf u6 q2) fun v8 u7 => if v8 = 0 then (wcI u7 q2 12 (sI u7 4)).bind fun u10 => (stC u10 7 24 (sI u10 6) q2).bind fun u11 => (some (uI u11 6 ((sI u11 6) + 1))).bind fun u12 => some (((sI u12 6) - 1), u12) else some (((-10) - v8), u7)) := by rw [fX8_keepCaller, if_pos c1]
    rcases mk_ok (so := so) (t := t) (n := nm) (a := a) (b := b) hw with ⟨m0, mok⟩ | mpos
    · have k2 : ∀ q, q ∉ pA u → ∃ u3, ((some (qN u q false)).bind fun u3 => (fX0_init u3 q).bind fun u4 => ck (isC u4 q) <| (fX0_name u4 q so (nI t) nm a b).bind fun u6 => b2 (fX4_faultOf u6 q) fun v8 u7 => if v8 = 0 then (wcI u7 q 12 (sI u7 4)).bind fun u10 => (stC u10 7 24 (sI u10 6) q).bind fun u11 => (some (uI u11 6 ((sI u11 6) + 1))).bind fun u12 => some (((sI u12 6) - 1), u12) else some (((-10) - v8), u7)) = some (nI m, u3) ∧ RU u3 f n (va_up cc m (so, nI t, nm, a, b, (mk (hk f n) so t nm a b).2, n)) (m + 1) (hk f n) ∧ (∀ k, k ∉ [501] → sL u3 k = sL u k) := by
        intro q hq
        obtain ⟨u6, u7, e6, e7, w7, r7⟩ := k1 q hq
        obtain ⟨u3, e3, q3, s3⟩ := add_K hq hU w7 hm3 (r7 m0)
        refine ⟨u3, ?_, q3, s3⟩
        rw [Option.bind_some, fX0_init, Option.bind_some, ck_pos isC_qN, e6, Option.bind_some, e7, b2_eq, if_pos m0, e3]
      have g := add_R hZ y1 (y3 m0) (by rw [y2]; exact hZ.1)
      refine ⟨_, nI m, uI z1 28 (nI (m + 1)), eF, ?_, ?_, ?_⟩
      · intro K hK q hq
        cases hK
        obtain ⟨u3, e3, -⟩ := k2 q hq
        exact ⟨_, _, e3⟩
      · have le : (mk (hk f n) so t nm a b).1 ≤ 0 := by rw [m0]; decide
        rw [fX9_newCaller, if_neg c2, hZ.2.1, e1, b2_eq, if_pos le, y1.1 28 (by decide), hZ.2.1, nI_1, Option.bind_some, sI_uI, pred_nI]
      · rintro r1 u1 (hp | ⟨K, q, hK, hq, hp⟩)
        · cases hp
        · cases hK
          obtain ⟨u3, e3, q3, s3⟩ := k2 q hq
          obtain ⟨q4, q5⟩ := Prod.mk.inj (Option.some.inj (e3.symm.trans hp))
          rw [← q4, ← q5]
          refine ⟨rfl, f, n, _, m + 1, ⟨hn, hL, by omega, fun k hk' => ?_⟩, q3, g, ?_⟩
          · by_cases d : k = m
            · subst d
              rw [va_up_self]
              exact ⟨hso, nI_ne_m2 (by omega), mok.1, mok.2, hab, hn⟩
            · rw [va_up_ne _ _ d]; exact hA k (by omega)
          · rw [s3 8 (by decide)]
            show _ = sL z1 44
            rw [hS1]; exact hS
    · have m0 : ¬ (mk (hk f n) so t nm a b).1 = 0 := fun e => mpos (by rw [e]; decide)
      have k2 : ∀ q, q ∉ pA u → ∃ u7, ((some (qN u q false)).bind fun u3 => (fX0_init u3 q).bind fun u4 => ck (isC u4 q) <| (fX0_name u4 q so (nI t) nm a b).bind fun u6 => b2 (fX4_faultOf u6 q) fun v8 u7 => if v8 = 0 then (wcI u7 q 12 (sI u7 4)).bind fun u10 => (stC u10 7 24 (sI u10 6) q).bind fun u11 => (some (uI u11 6 ((sI u11 6) + 1))).bind fun u12 => some (((sI u12 6) - 1), u12) else some (((-10) - v8), u7)) = some ((-10) - (mk (hk f n) so t nm a b).1, u7) ∧ EW u u7 q := by
        intro q hq
        obtain ⟨u6, u7, e6, e7, w7, r7⟩ := k1 q hq
        refine ⟨u7, ?_, w7⟩
        rw [Option.bind_some, fX0_init, Option.bind_some, ck_pos isC_qN, e6, Option.bind_some, e7, b2_eq, if_neg m0]
      refine ⟨_, (-10) - (mk (hk f n) so t nm a b).1, z1, eF, ?_, ?_, ?_⟩
      · intro K hK q hq
        cases hK
        obtain ⟨u3, e3, -⟩ := k2 q hq
        exact ⟨_, _, e3⟩
      · rw [fX9_newCaller, if_neg c2, hZ.2.1, e1, b2_eq, if_neg mpos]
      · rintro r1 u1 (hp | ⟨K, q, hK, hq, hp⟩)
        · cases hp
        · cases hK
          obtain ⟨u7, e7, w7⟩ := k2 q hq
          obtain ⟨q4, q5⟩ := Prod.mk.inj (Option.some.inj (e7.symm.trans hp))
          rw [← q4, ← q5]
          exact ⟨rfl, f, n, cc, m, hO, RU_ew w7 hq hU, RZ_EM y1 (Nat.le_refl m) hZ, by rw [w7.2.1 8 (by decide), hS1]; exact hS⟩
theorem bad_sim {u z : ST} (hR : Rl u z) : ∃ x r z1, some (Sum.inl ((-1 : Int32), u) : NR) = some x ∧ okN u x ∧ some ((-1 : Int32), z) = some (r, z1) ∧ ∀ r1 u1, poN u x r1 u1 → r1 = r ∧ Rl u1 z1 := by
  refine ⟨_, -1, z, rfl, fun K hK => (by cases hK), rfl, ?_⟩
  rintro r1 u1 (hp | ⟨K, q, hK, hq, hp⟩)
  · cases hp
    exact ⟨rfl, hR⟩
  · cases hK
theorem s_get (hfp : FPx) : sim_get Rl := by
  intro u z x1 x2 hR
  obtain ⟨f, n, cc, m, hO, hU, hZ, hS⟩ := id hR
  have hw := hk_WF hO.2.1 n (Nat.le_refl _)
  have hn12 := hw.1
  have i10 : fX9_in z x2.toInt64 0 9 = some (bI (isN x2 10)) := in_isN z x2 9 10 (by decide)
  rw [fX8_get, fX9_get, e9_isType hZ.2.2.1.1 hn12, Option.bind_some, e7_isType hU.2.2.2.1.1 hn12, Option.bind_some]
  cases c1 : isN x1 (hN (hk f n)) with
  | false => rw [if_pos bI_f, if_pos bI_f]; exact bad_sim hR
  | true =>
    obtain ⟨t, ht, rfl⟩ := isN_true c1 (by omega)
    rw [if_neg (by decide), if_neg (by decide), i10, Option.bind_some, e6_isName, Option.bind_some]
    cases isN x2 10 with
    | false => rw [if_pos bI_f, if_pos bI_f]; exact bad_sim hR
    | true =>
      rw [if_neg (by decide), if_neg (by decide)]
      obtain ⟨x, r, z1, h1, h2, h3, h4⟩ := new_sim hfp hO hU hZ hS (so := 0) (nm := x2) (a := -2) (b := -2) (Or.inl rfl) ht (Or.inl rfl) (Or.inl rfl) (fun _ => rfl)
      exact ⟨x, r, z1, h1, h2, by rw [h3, b2_eq], h4⟩
theorem s_call (hfp : FPx) : sim_call Rl := by
  intro u z x1 x2 x3 x4 hR
  obtain ⟨f, n, cc, m, hO, hU, hZ, hS⟩ := id hR
  have hw := hk_WF hO.2.1 n (Nat.le_refl _)
  have hn12 := hw.1
  have i10 : fX9_in z x2.toInt64 0 9 = some (bI (isN x2 10)) := in_isN z x2 9 10 (by decide)
  rw [fX8_call, fX9_call, e9_isType hZ.2.2.1.1 hn12, Option.bind_some, e7_isType hU.2.2.2.1.1 hn12, Option.bind_some]
  cases c1 : isN x1 (hN (hk f n)) with
  | false => rw [if_pos bI_f, if_pos bI_f]; exact bad_sim hR
  | true =>
    obtain ⟨t, ht, rfl⟩ := isN_true c1 (by omega)
    rw [if_neg (by decide), if_neg (by decide), i10, Option.bind_some, e6_isName, Option.bind_some]
    cases isN x2 10 with
    | false => rw [if_pos bI_f, if_pos bI_f]; exact bad_sim hR
    | true =>
      rw [if_neg (by decide), if_neg (by decide), e9_par hZ.2.2.1.1 hn12, Option.bind_some, e7_par hU.2.2.2.1.1 hn12, Option.bind_some]
      cases c3 : prB (hk f n) x3 x4 with
      | false => rw [if_pos bI_f, if_pos bI_f]; exact bad_sim hR
      | true =>
        rw [if_neg (by decide), if_neg (by decide)]
        obtain ⟨q1, q2, q3⟩ := prB_ok hn12 c3
        obtain ⟨x, r, z1, h1, h2, h3, h4⟩ := new_sim hfp hO hU hZ hS (so := 1) (nm := x2) (a := x3) (b := x4) (Or.inr (Or.inl rfl)) ht q1 q2 q3
        exact ⟨x, r, z1, h1, h2, by rw [h3, b2_eq], h4⟩
theorem s_make (hfp : FPx) : sim_make Rl := by
  intro u z x1 hR
  obtain ⟨f, n, cc, m, hO, hU, hZ, hS⟩ := id hR
  have hw := hk_WF hO.2.1 n (Nat.le_refl _)
  have hn12 := hw.1
  rw [fX8_make, fX9_make, e9_isType hZ.2.2.1.1 hn12, Option.bind_some, e7_isType hU.2.2.2.1.1 hn12, Option.bind_some]
  cases c1 : isN x1 (hN (hk f n)) with
  | false => rw [if_pos bI_f, if_pos bI_f]; exact bad_sim hR
  | true =>
    obtain ⟨t, ht, rfl⟩ := isN_true c1 (by omega)
    rw [if_neg (by decide), if_neg (by decide)]
    obtain ⟨x, r, z1, h1, h2, h3, h4⟩ := new_sim hfp hO hU hZ hS (so := 2) (nm := -2) (a := -2) (b := -2) (Or.inr (Or.inr rfl)) ht (Or.inl rfl) (Or.inl rfl) (fun _ => rfl)
    exact ⟨x, r, z1, h1, h2, by rw [h3, b2_eq], h4⟩
