/-! ===== MEETING ===== -/
/-- the object: READ, and BELOW t -/
def mtO (h : HA) (t r : Nat) : Int32 := if rdf h (chn h r) = 0 then (if bel h r t = true then 0 else 6) else rdf h (chn h r)
/-- what was found: HIDDEN, STATIC or not, the object -/
def mtF (h : HA) (K : CK) (t r m : Nat) : Int32 := if haB h (nI m) 4 = true then 4 else if haB h (nI m) 1 = kSt K then (if kSt K = true then 0 else mtO h t r) else 5
def mtV (h : HA) (y : Int32) : Int32 × Int64 := if isN y 60 = true then (match hB h (cl y) with
  | none => (8, 0)
  | some r => (0, (rV r).toInt32.toInt64)) else if y = -4 then (5, 0) else (8, 0)
def mtG (h : HA) (n : Int32) (K : CK) (t r : Nat) : Int32 × Int64 := match lkF h t n false with
  | none => (3, 0)
  | some m => if mtF h K t r m = 0 then (match hB h m with
    | none => (3, 0)
    | some q => if wdB (rA q) (kKd K) = true then (0, co (kKd K) (co (rA q) (rV q))) else (7, 0)) else (mtF h K t r m, 0)
def mtC (h : HA) (n : Int32) (K : CK) (t r : Nat) : Int32 × Int64 := if hF h t = kFc K then (match lkM h t n (kFi K) (kSe K) with
  | none => (3, 0)
  | some m => if mtF h K t r m = 0 then mtV h (if kSt K = true then nI m else slC h r n (kFi K) (kSe K)) else (mtF h K t r m, 0)) else (5, 0)
def mtN (h : HA) (t : Nat) : Int32 × Int64 := if (!hF h t && !decide (hM h t &&& 1 = 0)) = true then (9, 0) else (0, (nI t).toInt64)
def mt (h : HA) (so t n : Int32) (K : CK) (r : Nat) : Int32 × Int64 := if isN t (hN h) = true then (if prB h (kFi K) (kSe K) = true then (if kKp K = true then (0, kVl K) else if rdf h (chn h (cl t)) = 0 then (if so = 0 then mtG h n K (cl t) r else if so = 1 then mtC h n K (cl t) r else mtN h (cl t)) else (rdf h (chn h (cl t)), 0)) else (3, 0)) else (3, 0)
theorem sL_uL (u : ST) (k : Nat) (v : Int64) : sL (uL u k v) k = v := by simp [sL, uL, mkS, va_up]
theorem e5_found {u : ST} {h : HA} (hm : RCm u h) (hw : WF h) {p : Nat} {so t' n a b : Int32} {K : CK} (hc : RCc u p so t' n a b K) {m : Nat} (m60 : m < 60) {r : MR} (er : hB h m = some r) : fX5_failureOfFound u p (nI m) = some (if haB h (nI m) 4 = true then 4 else if haB h (nI m) 1 = kSt K then 0 else 5) := by
  have hn := hw.1
  rw [fX5_failureOfFound, e6_isMember hm hn (WF_own hw), Option.bind_some, heB_nI m60 er, if_neg (by decide), e6_has hm hn (WF_own hw), Option.bind_some]
  cases c1 : haB h (nI m) 4 with
  | true => rw [if_neg (by decide), if_pos rfl]
  | false =>
    rw [if_pos bI_f, if_neg Bool.false_ne_true, e6_has hm hn (WF_own hw), Option.bind_some, pcI_ok hc.1, Option.bind_some, hc.2.2.2.2.2.1]
    by_cases c2 : haB h (nI m) 1 = kSt K
    · rw [if_pos (by rw [c2]), if_pos c2]
    · rw [if_neg (fun q => c2 (bI_inj q)), if_neg c2]
theorem e5_object {u : ST} {h : HA} (hr : RCt u h) (hm : RCm u h) (ho : RCo u h) (hw : WF h) {p t r : Nat} (ht : t < hN h) (hrr : r < hN h) {so n a b : Int32} {K : CK} (hc : RCc u p so (nI t) n a b K) : fX5_failureOfObject u p (nI r) = some (mtO h t r) := by
  have hn := hw.1
  rw [fX5_failureOfObject, e2_reading hr hm ho hw hrr, Option.bind_some]
  unfold mtO
  by_cases c1 : rdf h (chn h r) = 0
  · rw [if_pos c1, if_pos c1, pcI_ok hc.1, Option.bind_some, hc.2.1.2.1, e7_isBelow hr ho hn, Option.bind_some, blB_nI hn hrr ht]
    cases bel h r t <;> rfl
  · rw [if_neg c1, if_neg c1]
theorem e5_get {u : ST} {h : HA} (hr : RCt u h) (hm : RCm u h) (ho : RCo u h) (hw : WF h) {p t r : Nat} (ht : t < hN h) (hrr : r < hN h) {so n a b : Int32} {K : CK} (hc : RCc u p so (nI t) n a b K) (hk : isN (kKd K) 8 = true) (h501 : sL u 501 = 0) : ∃ u', fX5_failureOfGet u p (nI r) = some ((mtG h n K t r).1, u') ∧ Ec u u' ∧ sL u' 501 = (mtG h n K t r).2 := by
  have hn := hw.1
  obtain ⟨u3, e3, x1⟩ := e2_lookForField hr hm hw ht n false
  have e3' : fX2_lookForField u (nI t) n 0 = some (oI (lkF h t n false), u3) := e3
  have y3 := Eo_ec x1
  have hr3 := RCt_ec y3 hr
  have hm3 := RCm_ec y3 hm
  have ho3 := RCo_ec y3 ho
  have hc3 := RCc_ec y3 hc
  have s3 : sL u3 501 = 0 := by rw [x1.2.1 501 (by decide)]; exact h501
  rw [fX5_failureOfGet, pcI_ok hc.1, Option.bind_some, pcI_ok hc.1, Option.bind_some, hc.2.1.2.1, hc.2.1.2.2.1, e3', b2_eq]
  unfold mtG
  cases el : lkF h t n false with
  | none =>
    refine ⟨u3, ?_, y3, s3⟩
    have : fX5_failureOfFound u3 p (oI none) = some 3 := by rw [fX5_failureOfFound, e6_isMember hm3 hn (WF_own hw), Option.bind_some, oI_none, heB_m2, if_pos bI_f]
    rw [this, Option.bind_some, if_neg (by decide), fX5_failureOfGet_L55, if_neg (by decide)]
  | some m =>
    obtain ⟨m60, q, er, erm, -⟩ := lkF_some el
    obtain ⟨ok1, ok2⟩ := okR_f hw er erm
    have a5 := (RCm_at hm3 m60 er).2.2.2.2.1
    have a7 := (RCm_at hm3 m60 er).2.2.2.2.2.2
    rw [if_neg (by rw [erm]; decide)] at a7
    -- the end
    have fin : ∀ x : Int32, x = mtF h K t r m → ∃ u', fX5_failureOfGet_L55 u3 p (nI m) x = some ((if mtF h K t r m = 0 then (match hB h m with | none => ((3, 0) : Int32 × Int64) | some q => if wdB (rA q) (kKd K) = true then (0, co (kKd K) (co (rA q) (rV q))) else (7, 0)) else (mtF h K t r m, 0)).1, u') ∧ Ec u u' ∧ sL u' 501 = (if mtF h K t r m = 0 then (match hB h m with | none => ((3, 0) : Int32 × Int64) | some q => if wdB (rA q) (kKd K) = true then (0, co (kKd K) (co (rA q) (rV q))) else (7, 0)) else (mtF h K t r m, 0)).2 := by
      intro x hx
      subst hx
      rw [fX5_failureOfGet_L55]
      by_cases c : mtF h K t r m = 0
      · rw [if_pos c, if_pos c, er]
        dsimp only
        rw [rdI_nI m60 (by decide), Option.bind_some, a5, pcI_ok hc3.1, Option.bind_some, hc3.2.2.2.2.1, e3_widens ok2 hk, Option.bind_some]
        cases d : wdB (rA q) (kKd K) with
        | false => exact ⟨u3, by rw [if_pos bI_f]; rfl, y3, s3⟩
        | true =>
          refine ⟨uL u3 501 (co (kKd K) (co (rA q) (rV q))), ?_, y3.trans (E3.uL (by decide)), ?_⟩
          · rw [if_neg (by decide), Option.bind_some, rdL_nI m60 (by decide), Option.bind_some, a7, e3_comesOut, Option.bind_some, Option.bind_some]; rfl
          · rw [sL_uL, if_pos rfl]
      · rw [if_neg c, if_neg c]
        exact ⟨u3, rfl, y3, s3⟩
    rw [oI_some, e5_found hm3 hw hc3 m60 er, Option.bind_some]
    dsimp only
    have e8 := hc3.2.2.2.2.2.1
    by_cases c1 : haB h (nI m) 4 = true
    · rw [if_pos c1, if_neg (by decide)]
      exact fin 4 (by unfold mtF; rw [if_pos c1])
    · rw [if_neg c1]
      by_cases c2 : haB h (nI m) 1 = kSt K
      · rw [if_pos c2, if_pos rfl, pcI_ok hc3.1, Option.bind_some, e8]
        cases c3 : kSt K with
        | false =>
          rw [if_pos bI_f, e5_object hr3 hm3 ho3 hw ht hrr hc3, Option.bind_some]
          exact fin _ (by unfold mtF; rw [if_neg c1, if_pos c2, c3, if_neg Bool.false_ne_true])
        | true =>
          rw [if_neg (by decide)]
          exact fin 0 (by unfold mtF; rw [if_neg c1, if_pos c2, c3, if_pos rfl])
      · rw [if_neg c2, if_neg (by decide)]
        exact fin 5 (by unfold mtF; rw [if_neg c1, if_neg c2])
