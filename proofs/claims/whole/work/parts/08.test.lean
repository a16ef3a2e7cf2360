def fX9_in (u : ST) (x0 : Int64) (x2 : Int64) (x4 : Int64) : Option Int32 :=
  if (lg_cmp x0 x2) < 0 then
    some 0
  else
    if 0 < (lg_cmp x0 x4) then
      some 0
    else
      some 1
section
variable {p : Program} {l : Launch} {e : Env} {s : State} {m : MethodId} {args : Array Value} {below : List Frame} {meth : Method} {c : Code} {H : Heap} {locs : List Loc} {g : GP} {ls : Array Slot} {A : Nat → Prop} {ad : Nat → Nat} {u : ST}
set_option maxRecDepth 100000 in
set_option maxHeartbeats 4000000 in
theorem mX9_in {r0 : Int32} {x0 : Int64} {x2 : Int64} {x4 : Int64} (hf : fX9_in u x0 x2 x4 = some r0) : MRi l yX9_in cX9_in 6 (some .boolean) 0 0 [.long x0, .long x2, .long x4] g (mW g ad u) r0 := by
  refine entR (by decide) (Nat.le_of_ble_eq_true rfl) ?_
  intro p e s m below meth c ls C hP hZ hl
  have hl : lv_has ls 6 [(0, .long x0), (2, .long x2), (4, .long x4)] := hl
  rw [fX9_in] at hf
  refine lv_lload_n C.1 C.2.1 dX9_in_0 rfl (lv_at hl 0 rfl) ?_
  refine lv_lload_n C.1 C.2.1 dX9_in_1 rfl (lv_at hl 1 rfl) ?_
  refine W.lcmp C.1 C.2.1 dX9_in_2 ?_
  refine lv_if_lt (tgt := 17) C.1 C.2.1 dX9_in_3 (by decide) (fun c1 => ?_) (fun c1 => ?_)
  · rw [if_pos c1] at hf
    refine lv_iconst (v := 0) C.1 C.2.1 dX9_in_17 (by decide) ?_
    exact endRz C rfl hf dX9_in_18
  · rw [if_neg c1] at hf
    refine lv_lload_n C.1 C.2.1 dX9_in_6 rfl (lv_at hl 0 rfl) ?_
    refine lv_lload C.1 C.2.1 dX9_in_7 (lv_at hl 2 rfl) ?_
    refine W.lcmp C.1 C.2.1 dX9_in_9 ?_
    refine lv_if_gt (tgt := 17) C.1 C.2.1 dX9_in_10 (by decide) (fun c2 => ?_) (fun c2 => ?_)
    · rw [if_pos c2] at hf
      refine lv_iconst (v := 0) C.1 C.2.1 dX9_in_17 (by decide) ?_
      exact endRz C rfl hf dX9_in_18
    · rw [if_neg c2] at hf
      refine lv_iconst (v := 1) C.1 C.2.1 dX9_in_13 (by decide) ?_
      refine lv_goto (tgt := 18) C.1 C.2.1 dX9_in_14 (by decide) ?_
      exact endRz C rfl hf dX9_in_18
end
theorem vX9_in : YS yX9_in cX9_in 6 (some .boolean) 3 := ⟨⟨wK_X9_in, wZ_X9, by decide +kernel⟩, wS_X9_in⟩
def fX9_isType (u : ST) (x1 : Int32) : Option Int32 :=
  (fX9_in u ((x1 : Int32).toInt64) 0 ((((sI u 0) - 1) : Int32).toInt64)).bind fun v1 =>
  ck (isB v1) (some v1)
section
variable {p : Program} {l : Launch} {e : Env} {s : State} {m : MethodId} {args : Array Value} {below : List Frame} {meth : Method} {c : Code} {H : Heap} {locs : List Loc} {g : GP} {ls : Array Slot} {A : Nat → Prop} {ad : Nat → Nat} {u : ST}
set_option maxRecDepth 100000 in
set_option maxHeartbeats 4000000 in
theorem mX9_isType {r0 : Int32} {x1 : Int32} (hf : fX9_isType u x1 = some r0) : MRi l yX9_isType cX9_isType 2 (some .boolean) 1 25 [.ref (ad 0), .int x1] g (mW g ad u) r0 := by
  refine entR (by decide) (Nat.le_of_ble_eq_true rfl) ?_
  intro p e s m below meth c ls C hP hZ hl
  have hl : lv_has ls 2 [(0, .ref (ad 0)), (1, .int x1)] := hl
  rw [fX9_isType] at hf
  refine lv_iload_n C.1 C.2.1 dX9_isType_0 rfl (lv_at hl 1 rfl) ?_
  refine lv_i2l C.1 C.2.1 dX9_isType_1 rfl ?_
  refine lv_lconst (v := 0) C.1 C.2.1 dX9_isType_2 (by decide) ?_
  refine lv_aload_n C.1 C.2.1 dX9_isType_3 rfl (lv_at hl 0 rfl) ?_
  refine gtm_X9_types C hP wF_X9_129 dX9_isType_4 ?_
  refine lv_iconst (v := 1) C.1 C.2.1 dX9_isType_7 (by decide) ?_
  refine lv_isub C.1 C.2.1 dX9_isType_8 ?_
  refine lv_i2l C.1 C.2.1 dX9_isType_9 rfl ?_
  obtain ⟨v1, hv1, hf⟩ := Option.bind_eq_some_iff.mp hf
  refine cSi (As := [.long ((x1 : Int32).toInt64), .long 0, .long ((((sI u 0) - 1) : Int32).toInt64)]) (rest := []) C (mX9_in hv1) vX9_in wM_X9_133 ⟨Nat.le_of_ble_eq_true rfl, Nat.le_of_ble_eq_true rfl⟩ hP (fun U hU hW => SF.go hZ va_S.rf hU hW (fun _ h => h)) hl.1 rfl rfl (Nat.le_of_ble_eq_true rfl) dX9_isType_10 ⟨Nat.le_of_ble_eq_true rfl, Nat.le_of_ble_eq_true rfl⟩ ?_
  obtain ⟨hB, hf⟩ := ck_some hf
  exact endRz C hB hf dX9_isType_13
end
theorem vX9_isType : YV yX9_isType cX9_isType 2 (some .boolean) 1 := ⟨⟨wK_X9_isType, wZ_X9, by decide +kernel⟩, wI_X9_isType, wV_X9_isType⟩
def fX9_isClass (u : ST) (x1 : Int32) : Option Int32 :=
  (fX9_isType u x1).bind fun v1 =>
  if v1 = 0 then
    some 0
  else
    (rdI u 1 12 x1).bind fun v3 =>
    if v3 = 0 then
      some 1
    else
      some 0
section
variable {p : Program} {l : Launch} {e : Env} {s : State} {m : MethodId} {args : Array Value} {below : List Frame} {meth : Method} {c : Code} {H : Heap} {locs : List Loc} {g : GP} {ls : Array Slot} {A : Nat → Prop} {ad : Nat → Nat} {u : ST}
set_option maxRecDepth 100000 in
set_option maxHeartbeats 4000000 in
theorem mX9_isClass {r0 : Int32} {x1 : Int32} (hf : fX9_isClass u x1 = some r0) : MRi l yX9_isClass cX9_isClass 2 (some .boolean) 2 46 [.ref (ad 0), .int x1] g (mW g ad u) r0 := by
  refine entR (by decide) (Nat.le_of_ble_eq_true rfl) ?_
  intro p e s m below meth c ls C hP hZ hl
  have hl : lv_has ls 2 [(0, .ref (ad 0)), (1, .int x1)] := hl
  rw [fX9_isClass] at hf
  refine lv_aload_n C.1 C.2.1 dX9_isClass_0 rfl (lv_at hl 0 rfl) ?_
  refine lv_iload_n C.1 C.2.1 dX9_isClass_1 rfl (lv_at hl 1 rfl) ?_
  obtain ⟨v1, hv1, hf⟩ := Option.bind_eq_some_iff.mp hf
  refine cRi (As := [.int x1]) (rest := []) C (mX9_isType hv1) vX9_isType wM_X9_137 ⟨Nat.le_of_ble_eq_true rfl, Nat.le_of_ble_eq_true rfl⟩ hP (rcm_X9 C hP) (fun U hU hW => SF.go hZ va_S.rf hU hW (fun _ h => h)) hl.1 rfl rfl (Nat.le_of_ble_eq_true rfl) dX9_isClass_2 ⟨Nat.le_of_ble_eq_true rfl, Nat.le_of_ble_eq_true rfl⟩ ?_
  refine lv_if_eq (tgt := 21) C.1 C.2.1 dX9_isClass_5 (by decide) (fun c2 => ?_) (fun c2 => ?_)
  · rw [if_pos c2] at hf
    refine lv_iconst (v := 0) C.1 C.2.1 dX9_isClass_21 (by decide) ?_
    exact endRz C rfl hf dX9_isClass_22
  · rw [if_neg c2] at hf
    refine lv_aload_n C.1 C.2.1 dX9_isClass_8 rfl (lv_at hl 0 rfl) ?_
    refine gtm_X9_isFace C hP wF_X9_7 dX9_isClass_9 ?_
    refine lv_iload_n C.1 C.2.1 dX9_isClass_12 rfl (lv_at hl 1 rfl) ?_
    obtain ⟨v3, hv3, hf⟩ := Option.bind_eq_some_iff.mp hf
    refine ldm_1 C hP hv3 dX9_isClass_13 ?_
    refine lv_if_ne (tgt := 21) C.1 C.2.1 dX9_isClass_14 (by decide) (fun c4 => ?_) (fun c4 => ?_)
    · rw [if_neg c4] at hf
      refine lv_iconst (v := 0) C.1 C.2.1 dX9_isClass_21 (by decide) ?_
      exact endRz C rfl hf dX9_isClass_22
    · rw [if_pos c4] at hf
      refine lv_iconst (v := 1) C.1 C.2.1 dX9_isClass_17 (by decide) ?_
      refine lv_goto (tgt := 22) C.1 C.2.1 dX9_isClass_18 (by decide) ?_
      exact endRz C rfl hf dX9_isClass_22
end
theorem vX9_isClass : YV yX9_isClass cX9_isClass 2 (some .boolean) 1 := ⟨⟨wK_X9_isClass, wZ_X9, by decide +kernel⟩, wI_X9_isClass, wV_X9_isClass⟩
def fX9_ownOf_L96 (u : ST) (K3 : Int32 → Int32 → Int32 → Int32 → Int32 → Int32 → Option Int32) (x1 : Int32) (x2 : Int32) (x3 : Int32) (x4 : Int32) (x5 : Int32) (x6 : Int32) : Option Int32 :=
  K3 x1 x2 x3 x4 x5 (x6 + 1)
def fX9_ownOf_L58 (u : ST) (K3 : Int32 → Int32 → Int32 → Int32 → Int32 → Int32 → Option Int32) (x1 : Int32) (x2 : Int32) (x3 : Int32) (x4 : Int32) (x5 : Int32) (x6 : Int32) (y0 : Int32) : Option Int32 :=
  if y0 = 0 then
    fX9_ownOf_L96 u K3 x1 x2 x3 x4 x5 x6
  else
    if x2 = 0 then
      some x6
    else
      (rdI u 12 60 x6).bind fun v6 =>
      if v6 = x4 then
        (rdI u 13 60 x6).bind fun v8 =>
        if v8 = x5 then
          some x6
        else
          fX9_ownOf_L96 u K3 x1 x2 x3 x4 x5 x6
      else
        fX9_ownOf_L96 u K3 x1 x2 x3 x4 x5 x6
def fX9_ownOf_L57 (u : ST) (K3 : Int32 → Int32 → Int32 → Int32 → Int32 → Int32 → Option Int32) (x1 : Int32) (x2 : Int32) (x3 : Int32) (x4 : Int32) (x5 : Int32) (x6 : Int32) : Option Int32 :=
  fX9_ownOf_L58 u K3 x1 x2 x3 x4 x5 x6 0
def fX9_ownOf_L3 (u : ST) : Nat → Int32 → Int32 → Int32 → Int32 → Int32 → Int32 → Option Int32
  | 0, _, _, _, _, _, _ => none
  | n + 1, x1, x2, x3, x4, x5, x6 =>
    if 60 ≤ x6 then
      some (-2)
    else
      (rdI u 6 60 x6).bind fun v2 =>
      if v2 = 0 then
        fX9_ownOf_L57 u (fX9_ownOf_L3 u n) x1 x2 x3 x4 x5 x6
      else
        (rdI u 8 60 x6).bind fun v10 =>
        if v10 = x1 then
          (rdI u 7 60 x6).bind fun v12 =>
          if v12 = x2 then
            (rdI u 9 60 x6).bind fun v14 =>
            if v14 = x3 then
              fX9_ownOf_L58 u (fX9_ownOf_L3 u n) x1 x2 x3 x4 x5 x6 1
            else
              fX9_ownOf_L57 u (fX9_ownOf_L3 u n) x1 x2 x3 x4 x5 x6
          else
            fX9_ownOf_L57 u (fX9_ownOf_L3 u n) x1 x2 x3 x4 x5 x6
        else
          fX9_ownOf_L57 u (fX9_ownOf_L3 u n) x1 x2 x3 x4 x5 x6
def fX9_ownOf (u : ST) (x1 : Int32) (x2 : Int32) (x3 : Int32) (x4 : Int32) (x5 : Int32) : Option Int32 :=
  fX9_ownOf_L3 u 5000 x1 x2 x3 x4 x5 0
section
variable {p : Program} {l : Launch} {e : Env} {s : State} {m : MethodId} {args : Array Value} {below : List Frame} {meth : Method} {c : Code} {H : Heap} {locs : List Loc} {g : GP} {ls : Array Slot} {A : Nat → Prop} {ad : Nat → Nat} {u : ST}
set_option maxRecDepth 100000 in
set_option maxHeartbeats 4000000 in
theorem bX9_ownOf_L96 {r0 : Int32} {K3 : Int32 → Int32 → Int32 → Int32 → Int32 → Int32 → Option Int32} {x1 : Int32} {x2 : Int32} {x3 : Int32} {x4 : Int32} {x5 : Int32} {x6 : Int32} (C : Cx p s m args meth c cX9_ownOf 8 RX9 (some .int) g) (hZ : SF (fun _ => False) s) (hK3 : ∀ (x1 : Int32) (x2 : Int32) (x3 : Int32) (x4 : Int32) (x5 : Int32) (x6 : Int32), ∀ (ls : Array Slot), lv_has ls 8 [(0, .ref (ad 0)), (1, .int x1), (2, .int x2), (3, .int x3), (4, .int x4), (5, .int x5), (6, .int x6)] → K3 x1 x2 x3 x4 x5 x6 = some r0 → W p l e (rmR 0 0) s m args below meth c s.heap [] 0 0 (MQ below (vp_Si (fun r => r = r0)) args s 0 0 (fun _ => False)) (F0 m 3 ls [])) (hP : va_P g.1 vwCl (mW g ad u) s.heap) (hl : lv_has ls 8 [(0, .ref (ad 0)), (1, .int x1), (2, .int x2), (3, .int x3), (4, .int x4), (5, .int x5), (6, .int x6)]) (hf : fX9_ownOf_L96 u K3 x1 x2 x3 x4 x5 x6 = some r0) : W p l e (rmR 0 0) s m args below meth c s.heap [] 0 0 (MQ below (vp_Si (fun r => r = r0)) args s 0 0 (fun _ => False)) (F0 m 96 ls []) := by
  rw [fX9_ownOf_L96] at hf
  refine lv_iinc (v := (x6 + 1)) (lv' := [(6, .int (x6 + 1)), (0, .ref (ad 0)), (1, .int x1), (2, .int x2), (3, .int x3), (4, .int x4), (5, .int x5)]) C.1 C.2.1 dX9_ownOf_96 hl (k := 6) rfl rfl (by decide) rfl (fun ls hl => ?_)
  refine lv_goto (tgt := 3) C.1 C.2.1 dX9_ownOf_99 (by decide) ?_
  exact hK3 x1 x2 x3 x4 x5 (x6 + 1) _ (lv_sub hl [1, 2, 3, 4, 5, 6, 0] rfl) hf
set_option maxRecDepth 100000 in
set_option maxHeartbeats 4000000 in
theorem bX9_ownOf_L58 {r0 : Int32} {K3 : Int32 → Int32 → Int32 → Int32 → Int32 → Int32 → Option Int32} {x1 : Int32} {x2 : Int32} {x3 : Int32} {x4 : Int32} {x5 : Int32} {x6 : Int32} {y0 : Int32} (C : Cx p s m args meth c cX9_ownOf 8 RX9 (some .int) g) (hZ : SF (fun _ => False) s) (hK3 : ∀ (x1 : Int32) (x2 : Int32) (x3 : Int32) (x4 : Int32) (x5 : Int32) (x6 : Int32), ∀ (ls : Array Slot), lv_has ls 8 [(0, .ref (ad 0)), (1, .int x1), (2, .int x2), (3, .int x3), (4, .int x4), (5, .int x5), (6, .int x6)] → K3 x1 x2 x3 x4 x5 x6 = some r0 → W p l e (rmR 0 0) s m args below meth c s.heap [] 0 0 (MQ below (vp_Si (fun r => r = r0)) args s 0 0 (fun _ => False)) (F0 m 3 ls [])) (hP : va_P g.1 vwCl (mW g ad u) s.heap) (hl : lv_has ls 8 [(0, .ref (ad 0)), (1, .int x1), (2, .int x2), (3, .int x3), (4, .int x4), (5, .int x5), (6, .int x6)]) (hf : fX9_ownOf_L58 u K3 x1 x2 x3 x4 x5 x6 y0 = some r0) : W p l e (rmR 0 0) s m args below meth c s.heap [] 0 0 (MQ below (vp_Si (fun r => r = r0)) args s 0 0 (fun _ => False)) (F0 m 58 ls [.int y0]) := by
  rw [fX9_ownOf_L58] at hf
  refine lv_istore (lv' := [(7, .int y0), (0, .ref (ad 0)), (1, .int x1), (2, .int x2), (3, .int x3), (4, .int x4), (5, .int x5), (6, .int x6)]) C.1 C.2.1 dX9_ownOf_58 hl (by decide) rfl (fun ls hl => ?_)
  refine lv_iload C.1 C.2.1 dX9_ownOf_60 (lv_at hl 0 rfl) ?_
  refine lv_if_eq (tgt := 96) C.1 C.2.1 dX9_ownOf_62 (by decide) (fun c4 => ?_) (fun c4 => ?_)
  · rw [if_pos c4] at hf
    exact bX9_ownOf_L96 C hZ hK3 hP (lv_sub hl [1, 2, 3, 4, 5, 6, 7] rfl) hf
  · rw [if_neg c4] at hf
    refine lv_iload_n C.1 C.2.1 dX9_ownOf_65 rfl (lv_at hl 3 rfl) ?_
    refine lv_if_eq (tgt := 93) C.1 C.2.1 dX9_ownOf_66 (by decide) (fun c5 => ?_) (fun c5 => ?_)
    · rw [if_pos c5] at hf
      refine lv_iload C.1 C.2.1 dX9_ownOf_93 (lv_at hl 7 rfl) ?_
      exact endRi C hf dX9_ownOf_95
    · rw [if_neg c5] at hf
      refine lv_aload_n C.1 C.2.1 dX9_ownOf_69 rfl (lv_at hl 1 rfl) ?_
      refine gtm_X9_mFirst C hP wF_X9_44 dX9_ownOf_70 ?_
      refine lv_iload C.1 C.2.1 dX9_ownOf_73 (lv_at hl 7 rfl) ?_
      obtain ⟨v6, hv6, hf⟩ := Option.bind_eq_some_iff.mp hf
      refine ldm_12 C hP hv6 dX9_ownOf_75 ?_
      refine lv_iload C.1 C.2.1 dX9_ownOf_76 (lv_at hl 5 rfl) ?_
      refine lv_icmp_ne (tgt := 96) C.1 C.2.1 dX9_ownOf_78 (by decide) (fun c7 => ?_) (fun c7 => ?_)
      · rw [if_neg c7] at hf
        exact bX9_ownOf_L96 C hZ hK3 hP (lv_sub hl [1, 2, 3, 4, 5, 6, 7] rfl) hf
      · rw [if_pos c7] at hf
        refine lv_aload_n C.1 C.2.1 dX9_ownOf_81 rfl (lv_at hl 1 rfl) ?_
        refine gtm_X9_mSecond C hP wF_X9_47 dX9_ownOf_82 ?_
        refine lv_iload C.1 C.2.1 dX9_ownOf_85 (lv_at hl 7 rfl) ?_
        obtain ⟨v8, hv8, hf⟩ := Option.bind_eq_some_iff.mp hf
        refine ldm_13 C hP hv8 dX9_ownOf_87 ?_
        refine lv_iload C.1 C.2.1 dX9_ownOf_88 (lv_at hl 6 rfl) ?_
        refine lv_icmp_ne (tgt := 96) C.1 C.2.1 dX9_ownOf_90 (by decide) (fun c9 => ?_) (fun c9 => ?_)
        · rw [if_neg c9] at hf
          exact bX9_ownOf_L96 C hZ hK3 hP (lv_sub hl [1, 2, 3, 4, 5, 6, 7] rfl) hf
        · rw [if_pos c9] at hf
          refine lv_iload C.1 C.2.1 dX9_ownOf_93 (lv_at hl 7 rfl) ?_
          exact endRi C hf dX9_ownOf_95
set_option maxRecDepth 100000 in
set_option maxHeartbeats 4000000 in
theorem bX9_ownOf_L57 {r0 : Int32} {K3 : Int32 → Int32 → Int32 → Int32 → Int32 → Int32 → Option Int32} {x1 : Int32} {x2 : Int32} {x3 : Int32} {x4 : Int32} {x5 : Int32} {x6 : Int32} (C : Cx p s m args meth c cX9_ownOf 8 RX9 (some .int) g) (hZ : SF (fun _ => False) s) (hK3 : ∀ (x1 : Int32) (x2 : Int32) (x3 : Int32) (x4 : Int32) (x5 : Int32) (x6 : Int32), ∀ (ls : Array Slot), lv_has ls 8 [(0, .ref (ad 0)), (1, .int x1), (2, .int x2), (3, .int x3), (4, .int x4), (5, .int x5), (6, .int x6)] → K3 x1 x2 x3 x4 x5 x6 = some r0 → W p l e (rmR 0 0) s m args below meth c s.heap [] 0 0 (MQ below (vp_Si (fun r => r = r0)) args s 0 0 (fun _ => False)) (F0 m 3 ls [])) (hP : va_P g.1 vwCl (mW g ad u) s.heap) (hl : lv_has ls 8 [(0, .ref (ad 0)), (1, .int x1), (2, .int x2), (3, .int x3), (4, .int x4), (5, .int x5), (6, .int x6)]) (hf : fX9_ownOf_L57 u K3 x1 x2 x3 x4 x5 x6 = some r0) : W p l e (rmR 0 0) s m args below meth c s.heap [] 0 0 (MQ below (vp_Si (fun r => r = r0)) args s 0 0 (fun _ => False)) (F0 m 57 ls []) := by
  rw [fX9_ownOf_L57] at hf
  refine lv_iconst (v := 0) C.1 C.2.1 dX9_ownOf_57 (by decide) ?_
  exact bX9_ownOf_L58 C hZ hK3 hP (lv_sub hl [0, 1, 2, 3, 4, 5, 6] rfl) hf
set_option maxRecDepth 100000 in
set_option maxHeartbeats 4000000 in
theorem bX9_ownOf_L3 {r0 : Int32} (C : Cx p s m args meth c cX9_ownOf 8 RX9 (some .int) g) (hZ : SF (fun _ => False) s) (n : Nat) : ∀ (x1 : Int32) (x2 : Int32) (x3 : Int32) (x4 : Int32) (x5 : Int32) (x6 : Int32), va_P g.1 vwCl (mW g ad u) s.heap → ∀ (ls : Array Slot), lv_has ls 8 [(0, .ref (ad 0)), (1, .int x1), (2, .int x2), (3, .int x3), (4, .int x4), (5, .int x5), (6, .int x6)] → fX9_ownOf_L3 u n x1 x2 x3 x4 x5 x6 = some r0 → W p l e (rmR 0 0) s m args below meth c s.heap [] 0 0 (MQ below (vp_Si (fun r => r = r0)) args s 0 0 (fun _ => False)) (F0 m 3 ls []) := by
  induction n with
  | zero =>
    intro x1 x2 x3 x4 x5 x6 hP ls hl hf
    exact absurd hf (by simp [fX9_ownOf_L3])
  | succ n ih0 =>
    intro x1 x2 x3 x4 x5 x6 hP ls hl hf
    have ih := fun (x1 : Int32) (x2 : Int32) (x3 : Int32) (x4 : Int32) (x5 : Int32) (x6 : Int32) => ih0 x1 x2 x3 x4 x5 x6 hP
    rw [fX9_ownOf_L3] at hf
    refine lv_iload C.1 C.2.1 dX9_ownOf_3 (lv_at hl 6 rfl) ?_
    refine lv_bipush (v := 60) C.1 C.2.1 dX9_ownOf_5 (by decide) ?_
    refine lv_icmp_ge (tgt := 102) C.1 C.2.1 dX9_ownOf_7 (by decide) (fun c1 => ?_) (fun c1 => ?_)
    · rw [if_pos c1] at hf
      refine lv_bipush (v := -2) C.1 C.2.1 dX9_ownOf_102 (by decide) ?_
      exact endRi C hf dX9_ownOf_104
    · rw [if_neg c1] at hf
      refine lv_aload_n C.1 C.2.1 dX9_ownOf_10 rfl (lv_at hl 0 rfl) ?_
      refine gtm_X9_isMember C hP wF_X9_26 dX9_ownOf_11 ?_
      refine lv_iload C.1 C.2.1 dX9_ownOf_14 (lv_at hl 6 rfl) ?_
      obtain ⟨v2, hv2, hf⟩ := Option.bind_eq_some_iff.mp hf
      refine ldm_6 C hP hv2 dX9_ownOf_16 ?_
      refine lv_if_eq (tgt := 57) C.1 C.2.1 dX9_ownOf_17 (by decide) (fun c3 => ?_) (fun c3 => ?_)
      · rw [if_pos c3] at hf
        exact bX9_ownOf_L57 C hZ ih hP (lv_sub hl [0, 1, 2, 3, 4, 5, 6] rfl) hf
      · rw [if_neg c3] at hf
        refine lv_aload_n C.1 C.2.1 dX9_ownOf_20 rfl (lv_at hl 0 rfl) ?_
        refine gtm_X9_mType C hP wF_X9_32 dX9_ownOf_21 ?_
        refine lv_iload C.1 C.2.1 dX9_ownOf_24 (lv_at hl 6 rfl) ?_
        obtain ⟨v10, hv10, hf⟩ := Option.bind_eq_some_iff.mp hf
        refine ldm_8 C hP hv10 dX9_ownOf_26 ?_
        refine lv_iload_n C.1 C.2.1 dX9_ownOf_27 rfl (lv_at hl 1 rfl) ?_
        refine lv_icmp_ne (tgt := 57) C.1 C.2.1 dX9_ownOf_28 (by decide) (fun c11 => ?_) (fun c11 => ?_)
        · rw [if_neg c11] at hf
          exact bX9_ownOf_L57 C hZ ih hP (lv_sub hl [0, 1, 2, 3, 4, 5, 6] rfl) hf
        · rw [if_pos c11] at hf
          refine lv_aload_n C.1 C.2.1 dX9_ownOf_31 rfl (lv_at hl 0 rfl) ?_
          refine gtm_X9_isMethod C hP wF_X9_29 dX9_ownOf_32 ?_
          refine lv_iload C.1 C.2.1 dX9_ownOf_35 (lv_at hl 6 rfl) ?_
          obtain ⟨v12, hv12, hf⟩ := Option.bind_eq_some_iff.mp hf
          refine ldm_7 C hP hv12 dX9_ownOf_37 ?_
          refine lv_iload_n C.1 C.2.1 dX9_ownOf_38 rfl (lv_at hl 2 rfl) ?_
          refine lv_icmp_ne (tgt := 57) C.1 C.2.1 dX9_ownOf_39 (by decide) (fun c13 => ?_) (fun c13 => ?_)
          · rw [if_neg c13] at hf
            exact bX9_ownOf_L57 C hZ ih hP (lv_sub hl [0, 1, 2, 3, 4, 5, 6] rfl) hf
          · rw [if_pos c13] at hf
            refine lv_aload_n C.1 C.2.1 dX9_ownOf_42 rfl (lv_at hl 0 rfl) ?_
            refine gtm_X9_mName C hP wF_X9_35 dX9_ownOf_43 ?_
            refine lv_iload C.1 C.2.1 dX9_ownOf_46 (lv_at hl 6 rfl) ?_
            obtain ⟨v14, hv14, hf⟩ := Option.bind_eq_some_iff.mp hf
            refine ldm_9 C hP hv14 dX9_ownOf_48 ?_
            refine lv_iload_n C.1 C.2.1 dX9_ownOf_49 rfl (lv_at hl 3 rfl) ?_
            refine lv_icmp_ne (tgt := 57) C.1 C.2.1 dX9_ownOf_50 (by decide) (fun c15 => ?_) (fun c15 => ?_)
            · rw [if_neg c15] at hf
              exact bX9_ownOf_L57 C hZ ih hP (lv_sub hl [0, 1, 2, 3, 4, 5, 6] rfl) hf
            · rw [if_pos c15] at hf
              refine lv_iconst (v := 1) C.1 C.2.1 dX9_ownOf_53 (by decide) ?_
              refine lv_goto (tgt := 58) C.1 C.2.1 dX9_ownOf_54 (by decide) ?_
              exact bX9_ownOf_L58 C hZ ih hP (lv_sub hl [0, 1, 2, 3, 4, 5, 6] rfl) hf
set_option maxRecDepth 100000 in
set_option maxHeartbeats 4000000 in
theorem mX9_ownOf {r0 : Int32} {x1 : Int32} {x2 : Int32} {x3 : Int32} {x4 : Int32} {x5 : Int32} (hf : fX9_ownOf u x1 x2 x3 x4 x5 = some r0) : MRi l yX9_ownOf cX9_ownOf 8 (some .int) 0 0 [.ref (ad 0), .int x1, .int x2, .int x3, .int x4, .int x5] g (mW g ad u) r0 := by
  refine entR (by decide) (Nat.le_of_ble_eq_true rfl) ?_
  intro p e s m below meth c ls C hP hZ hl
  have hl : lv_has ls 8 [(0, .ref (ad 0)), (1, .int x1), (2, .int x2), (3, .int x3), (4, .int x4), (5, .int x5)] := hl
  rw [fX9_ownOf] at hf
  refine lv_iconst (v := 0) C.1 C.2.1 dX9_ownOf_0 (by decide) ?_
  refine lv_istore (lv' := [(6, .int 0), (0, .ref (ad 0)), (1, .int x1), (2, .int x2), (3, .int x3), (4, .int x4), (5, .int x5)]) C.1 C.2.1 dX9_ownOf_1 hl (by decide) rfl (fun ls hl => ?_)
  exact bX9_ownOf_L3 C hZ 5000 x1 x2 x3 x4 x5 0 hP _ (lv_sub hl [1, 2, 3, 4, 5, 6, 0] rfl) hf
end
theorem vX9_ownOf : YV yX9_ownOf cX9_ownOf 8 (some .int) 5 := ⟨⟨wK_X9_ownOf, wZ_X9, by decide +kernel⟩, wI_X9_ownOf, wV_X9_ownOf⟩
def fX9_ups_L107 (K34 : ST → Int32 → Int32 → Int32 → Int32 → Int32 → Option (Int32 × ST)) (u : ST) (x2 : Int32) (x3 : Int32) (x4 : Int32) (x5 : Int32) (x6 : Int32) : Option (Int32 × ST) :=
  K34 u x2 x3 x4 x5 (x6 + 1)
def fX9_ups_L73 (K34 : ST → Int32 → Int32 → Int32 → Int32 → Int32 → Option (Int32 × ST)) (u : ST) (x2 : Int32) (x3 : Int32) (x4 : Int32) (x5 : Int32) (x6 : Int32) (y0 : Int32) : Option (Int32 × ST) :=
  if y0 < 0 then
    fX9_ups_L107 K34 u x2 x3 x4 x5 x6
  else
    if ((x2 >>> (y0 &&& 31)) &&& 1) = 0 then
      (stI u 15 64 x3 y0).bind fun u10 =>
      fX9_ups_L107 K34 u10 (x2 ||| (1 <<< (y0 &&& 31))) (x3 + 1) x4 x5 x6
    else
      fX9_ups_L107 K34 u x2 x3 x4 x5 x6
def fX9_ups_L34 (K16 : ST → Int32 → Int32 → Int32 → Option (Int32 × ST)) : Nat → ST → Int32 → Int32 → Int32 → Int32 → Int32 → Option (Int32 × ST)
  | 0, _, _, _, _, _, _ => none
  | n + 1, u, x2, x3, x4, x5, x6 =>
    (rdI u 4 12 x5).bind fun v4 =>
    if v4 ≤ x6 then
      K16 u x2 x3 (x4 + 1)
    else
      if 0 ≤ x6 then
        (rdI u 5 36 ((3 * x5) + x6)).bind fun v7 =>
        fX9_ups_L73 (fX9_ups_L34 K16 n) u x2 x3 x4 x5 x6 v7
      else
        (rdI u 2 12 x5).bind fun v11 =>
        fX9_ups_L73 (fX9_ups_L34 K16 n) u x2 x3 x4 x5 x6 v11
def fX9_ups_L16 : Nat → ST → Int32 → Int32 → Int32 → Option (Int32 × ST)
  | 0, _, _, _, _ => none
  | n + 1, u, x2, x3, x4 =>
    if x3 ≤ x4 then
      some (x2, u)
    else
      (rdI u 15 64 x4).bind fun v3 =>
      fX9_ups_L34 (fX9_ups_L16 n) 5000 u x2 x3 x4 v3 (-1)
def fX9_ups (u : ST) (x1 : Int32) : Option (Int32 × ST) :=
  (stI u 15 64 0 x1).bind fun u1 =>
  fX9_ups_L16 5000 u1 (1 <<< (x1 &&& 31)) 1 0
section
variable {p : Program} {l : Launch} {e : Env} {s : State} {m : MethodId} {args : Array Value} {below : List Frame} {meth : Method} {c : Code} {H : Heap} {locs : List Loc} {g : GP} {ls : Array Slot} {A : Nat → Prop} {ad : Nat → Nat} {u : ST}
set_option maxRecDepth 100000 in
set_option maxHeartbeats 4000000 in
theorem bX9_ups_L107 {r0 : Int32} {u0 : ST} {K34 : ST → Int32 → Int32 → Int32 → Int32 → Int32 → Option (Int32 × ST)} {x2 : Int32} {x3 : Int32} {x4 : Int32} {x5 : Int32} {x6 : Int32} (C : Cx p s m args meth c cX9_ups 8 RX9 (some .int) g) (hA : ∀ q, s.heap.size ≤ q → A q) (hZ : SF A s) (hK34 : ∀ (u : ST) (x2 : Int32) (x3 : Int32) (x4 : Int32) (x5 : Int32) (x6 : Int32) (H : Heap) (locs : List Loc), va_P g.1 vwCl (mW g ad u) H → va_D A (mW g ad u) → va_S A s.heap H locs → ∀ (ls : Array Slot), lv_has ls 8 [(0, .ref (ad 0)), (2, .int x2), (3, .int x3), (4, .int x4), (5, .int x5), (6, .int x6)] → K34 u x2 x3 x4 x5 x6 = some (r0, u0) → W p l e (rmW 0 0 0 0) s m args below meth c H locs 0 0 (MQ below (va_Qi (fun r v => r = r0 ∧ v = u0) (BW g A (mW g ad)) A) args s 0 0 A) (F0 m 34 ls [])) (hP : va_P g.1 vwCl (mW g ad u) H) (hD : va_D A (mW g ad u)) (hS : va_S A s.heap H locs) (hl : lv_has ls 8 [(0, .ref (ad 0)), (2, .int x2), (3, .int x3), (4, .int x4), (5, .int x5), (6, .int x6)]) (hf : fX9_ups_L107 K34 u x2 x3 x4 x5 x6 = some (r0, u0)) : W p l e (rmW 0 0 0 0) s m args below meth c H locs 0 0 (MQ below (va_Qi (fun r v => r = r0 ∧ v = u0) (BW g A (mW g ad)) A) args s 0 0 A) (F0 m 107 ls []) := by
  rw [fX9_ups_L107] at hf
  refine lv_iinc (v := (x6 + 1)) (lv' := [(6, .int (x6 + 1)), (0, .ref (ad 0)), (2, .int x2), (3, .int x3), (4, .int x4), (5, .int x5)]) C.1 C.2.1 dX9_ups_107 hl (k := 5) rfl rfl (by decide) rfl (fun ls hl => ?_)
  refine lv_goto (tgt := 34) C.1 C.2.1 dX9_ups_110 (by decide) ?_
  exact hK34 u x2 x3 x4 x5 (x6 + 1) _ _ hP hD hS _ (lv_sub hl [1, 2, 3, 4, 5, 0] rfl) hf
set_option maxRecDepth 100000 in
set_option maxHeartbeats 4000000 in
theorem bX9_ups_L73 {r0 : Int32} {u0 : ST} {K34 : ST → Int32 → Int32 → Int32 → Int32 → Int32 → Option (Int32 × ST)} {x2 : Int32} {x3 : Int32} {x4 : Int32} {x5 : Int32} {x6 : Int32} {y0 : Int32} (C : Cx p s m args meth c cX9_ups 8 RX9 (some .int) g) (hA : ∀ q, s.heap.size ≤ q → A q) (hZ : SF A s) (hK34 : ∀ (u : ST) (x2 : Int32) (x3 : Int32) (x4 : Int32) (x5 : Int32) (x6 : Int32) (H : Heap) (locs : List Loc), va_P g.1 vwCl (mW g ad u) H → va_D A (mW g ad u) → va_S A s.heap H locs → ∀ (ls : Array Slot), lv_has ls 8 [(0, .ref (ad 0)), (2, .int x2), (3, .int x3), (4, .int x4), (5, .int x5), (6, .int x6)] → K34 u x2 x3 x4 x5 x6 = some (r0, u0) → W p l e (rmW 0 0 0 0) s m args below meth c H locs 0 0 (MQ below (va_Qi (fun r v => r = r0 ∧ v = u0) (BW g A (mW g ad)) A) args s 0 0 A) (F0 m 34 ls [])) (hP : va_P g.1 vwCl (mW g ad u) H) (hD : va_D A (mW g ad u)) (hS : va_S A s.heap H locs) (hl : lv_has ls 8 [(0, .ref (ad 0)), (2, .int x2), (3, .int x3), (4, .int x4), (5, .int x5), (6, .int x6)]) (hf : fX9_ups_L73 K34 u x2 x3 x4 x5 x6 y0 = some (r0, u0)) : W p l e (rmW 0 0 0 0) s m args below meth c H locs 0 0 (MQ below (va_Qi (fun r v => r = r0 ∧ v = u0) (BW g A (mW g ad)) A) args s 0 0 A) (F0 m 73 ls [.int y0]) := by
  rw [fX9_ups_L73] at hf
  refine lv_istore (lv' := [(7, .int y0), (0, .ref (ad 0)), (2, .int x2), (3, .int x3), (4, .int x4), (5, .int x5), (6, .int x6)]) C.1 C.2.1 dX9_ups_73 hl (by decide) rfl (fun ls hl => ?_)
  refine lv_iload C.1 C.2.1 dX9_ups_75 (lv_at hl 0 rfl) ?_
  refine lv_if_lt (tgt := 107) C.1 C.2.1 dX9_ups_77 (by decide) (fun c8 => ?_) (fun c8 => ?_)
  · rw [if_pos c8] at hf
    exact bX9_ups_L107 C hA hZ hK34 hP hD hS (lv_sub hl [1, 2, 3, 4, 5, 6] rfl) hf
  · rw [if_neg c8] at hf
    refine lv_iload_n C.1 C.2.1 dX9_ups_80 rfl (lv_at hl 2 rfl) ?_
    refine lv_iload C.1 C.2.1 dX9_ups_81 (lv_at hl 0 rfl) ?_
    refine lv_ishr C.1 C.2.1 dX9_ups_83 ?_
    refine lv_iconst (v := 1) C.1 C.2.1 dX9_ups_84 (by decide) ?_
    refine lv_iand C.1 C.2.1 dX9_ups_85 ?_
    refine lv_if_ne (tgt := 107) C.1 C.2.1 dX9_ups_86 (by decide) (fun c9 => ?_) (fun c9 => ?_)
    · rw [if_neg c9] at hf
      exact bX9_ups_L107 C hA hZ hK34 hP hD hS (lv_sub hl [1, 2, 3, 4, 5, 6] rfl) hf
    · rw [if_pos c9] at hf
      refine lv_iload_n C.1 C.2.1 dX9_ups_89 rfl (lv_at hl 2 rfl) ?_
      refine lv_iconst (v := 1) C.1 C.2.1 dX9_ups_90 (by decide) ?_
      refine lv_iload C.1 C.2.1 dX9_ups_91 (lv_at hl 0 rfl) ?_
      refine lv_ishl C.1 C.2.1 dX9_ups_93 ?_
      refine lv_ior C.1 C.2.1 dX9_ups_94 ?_
      refine lv_istore_n (lv' := [(2, .int (x2 ||| (1 <<< (y0 &&& 31)))), (7, .int y0), (0, .ref (ad 0)), (3, .int x3), (4, .int x4), (5, .int x5), (6, .int x6)]) C.1 C.2.1 dX9_ups_95 rfl hl (by decide) rfl (fun ls hl => ?_)
      refine lv_aload_n C.1 C.2.1 dX9_ups_96 rfl (lv_at hl 2 rfl) ?_
      refine gtm_X9_queue C hP wF_X9_54 dX9_ups_97 ?_
      refine lv_iload_n C.1 C.2.1 dX9_ups_100 rfl (lv_at hl 3 rfl) ?_
      refine lv_iload C.1 C.2.1 dX9_ups_101 (lv_at hl 1 rfl) ?_
      obtain ⟨u10, hu10, hf⟩ := Option.bind_eq_some_iff.mp hf
      refine stm_15 C hP hD hS hu10 dX9_ups_103 (fun H locs hP hD hS => ?_)
      refine lv_iinc (v := (x3 + 1)) (lv' := [(3, .int (x3 + 1)), (2, .int (x2 ||| (1 <<< (y0 &&& 31)))), (7, .int y0), (0, .ref (ad 0)), (4, .int x4), (5, .int x5), (6, .int x6)]) C.1 C.2.1 dX9_ups_104 hl (k := 3) rfl rfl (by decide) rfl (fun ls hl => ?_)
      exact bX9_ups_L107 C hA hZ hK34 hP hD hS (lv_sub hl [3, 1, 0, 4, 5, 6] rfl) hf
set_option maxRecDepth 100000 in
set_option maxHeartbeats 4000000 in
theorem bX9_ups_L34 {r0 : Int32} {u0 : ST} {K16 : ST → Int32 → Int32 → Int32 → Option (Int32 × ST)} (C : Cx p s m args meth c cX9_ups 8 RX9 (some .int) g) (hA : ∀ q, s.heap.size ≤ q → A q) (hZ : SF A s) (hK16 : ∀ (u : ST) (x2 : Int32) (x3 : Int32) (x4 : Int32) (H : Heap) (locs : List Loc), va_P g.1 vwCl (mW g ad u) H → va_D A (mW g ad u) → va_S A s.heap H locs → ∀ (ls : Array Slot), lv_has ls 8 [(0, .ref (ad 0)), (2, .int x2), (3, .int x3), (4, .int x4)] → K16 u x2 x3 x4 = some (r0, u0) → W p l e (rmW 0 0 0 0) s m args below meth c H locs 0 0 (MQ below (va_Qi (fun r v => r = r0 ∧ v = u0) (BW g A (mW g ad)) A) args s 0 0 A) (F0 m 16 ls [])) : ∀ (n : Nat), ∀ (u : ST) (x2 : Int32) (x3 : Int32) (x4 : Int32) (x5 : Int32) (x6 : Int32) (H : Heap) (locs : List Loc), va_P g.1 vwCl (mW g ad u) H → va_D A (mW g ad u) → va_S A s.heap H locs → ∀ (ls : Array Slot), lv_has ls 8 [(0, .ref (ad 0)), (2, .int x2), (3, .int x3), (4, .int x4), (5, .int x5), (6, .int x6)] → fX9_ups_L34 K16 n u x2 x3 x4 x5 x6 = some (r0, u0) → W p l e (rmW 0 0 0 0) s m args below meth c H locs 0 0 (MQ below (va_Qi (fun r v => r = r0 ∧ v = u0) (BW g A (mW g ad)) A) args s 0 0 A) (F0 m 34 ls []) := by
  intro n
  induction n with
  | zero =>
    intro u x2 x3 x4 x5 x6 H locs hP hD hS ls hl hf
    exact absurd hf (by simp [fX9_ups_L34])
  | succ n ih =>
    intro u x2 x3 x4 x5 x6 H locs hP hD hS ls hl hf
    rw [fX9_ups_L34] at hf
    refine lv_iload C.1 C.2.1 dX9_ups_34 (lv_at hl 5 rfl) ?_
    refine lv_aload_n C.1 C.2.1 dX9_ups_36 rfl (lv_at hl 0 rfl) ?_
    refine gtm_X9_faceMany C hP wF_X9_20 dX9_ups_37 ?_
    refine lv_iload C.1 C.2.1 dX9_ups_40 (lv_at hl 4 rfl) ?_
    obtain ⟨v4, hv4, hf⟩ := Option.bind_eq_some_iff.mp hf
    refine ldm_4 C hP hv4 dX9_ups_42 ?_
    refine lv_icmp_ge (tgt := 113) C.1 C.2.1 dX9_ups_43 (by decide) (fun c5 => ?_) (fun c5 => ?_)
    · rw [if_pos c5] at hf
      refine lv_iinc (v := (x4 + 1)) (lv' := [(4, .int (x4 + 1)), (0, .ref (ad 0)), (2, .int x2), (3, .int x3), (5, .int x5), (6, .int x6)]) C.1 C.2.1 dX9_ups_113 hl (k := 3) rfl rfl (by decide) rfl (fun ls hl => ?_)
      refine lv_goto (tgt := 16) C.1 C.2.1 dX9_ups_116 (by decide) ?_
      exact hK16 u x2 x3 (x4 + 1) _ _ hP hD hS _ (lv_sub hl [1, 2, 3, 0] rfl) hf
    · rw [if_neg c5] at hf
      refine lv_iload C.1 C.2.1 dX9_ups_46 (lv_at hl 5 rfl) ?_
      refine lv_if_ge (tgt := 61) C.1 C.2.1 dX9_ups_48 (by decide) (fun c6 => ?_) (fun c6 => ?_)
      · rw [if_pos c6] at hf
        refine lv_aload_n C.1 C.2.1 dX9_ups_61 rfl (lv_at hl 0 rfl) ?_
        refine gtm_X9_faces C hP wF_X9_23 dX9_ups_62 ?_
        refine lv_iconst (v := 3) C.1 C.2.1 dX9_ups_65 (by decide) ?_
        refine lv_iload C.1 C.2.1 dX9_ups_66 (lv_at hl 4 rfl) ?_
        refine lv_imul C.1 C.2.1 dX9_ups_68 ?_
        refine lv_iload C.1 C.2.1 dX9_ups_69 (lv_at hl 5 rfl) ?_
        refine lv_iadd C.1 C.2.1 dX9_ups_71 ?_
        obtain ⟨v7, hv7, hf⟩ := Option.bind_eq_some_iff.mp hf
        refine ldm_5 C hP hv7 dX9_ups_72 ?_
        exact bX9_ups_L73 C hA hZ ih hP hD hS (lv_sub hl [0, 1, 2, 3, 4, 5] rfl) hf
      · rw [if_neg c6] at hf
        refine lv_aload_n C.1 C.2.1 dX9_ups_51 rfl (lv_at hl 0 rfl) ?_
        refine gtm_X9_over C hP wF_X9_13 dX9_ups_52 ?_
        refine lv_iload C.1 C.2.1 dX9_ups_55 (lv_at hl 4 rfl) ?_
        obtain ⟨v11, hv11, hf⟩ := Option.bind_eq_some_iff.mp hf
        refine ldm_2 C hP hv11 dX9_ups_57 ?_
        refine lv_goto (tgt := 73) C.1 C.2.1 dX9_ups_58 (by decide) ?_
        exact bX9_ups_L73 C hA hZ ih hP hD hS (lv_sub hl [0, 1, 2, 3, 4, 5] rfl) hf
set_option maxRecDepth 100000 in
set_option maxHeartbeats 4000000 in
theorem bX9_ups_L16 {r0 : Int32} {u0 : ST} (C : Cx p s m args meth c cX9_ups 8 RX9 (some .int) g) (hA : ∀ q, s.heap.size ≤ q → A q) (hZ : SF A s) : ∀ (n : Nat), ∀ (u : ST) (x2 : Int32) (x3 : Int32) (x4 : Int32) (H : Heap) (locs : List Loc), va_P g.1 vwCl (mW g ad u) H → va_D A (mW g ad u) → va_S A s.heap H locs → ∀ (ls : Array Slot), lv_has ls 8 [(0, .ref (ad 0)), (2, .int x2), (3, .int x3), (4, .int x4)] → fX9_ups_L16 n u x2 x3 x4 = some (r0, u0) → W p l e (rmW 0 0 0 0) s m args below meth c H locs 0 0 (MQ below (va_Qi (fun r v => r = r0 ∧ v = u0) (BW g A (mW g ad)) A) args s 0 0 A) (F0 m 16 ls []) := by
  intro n
  induction n with
  | zero =>
    intro u x2 x3 x4 H locs hP hD hS ls hl hf
    exact absurd hf (by simp [fX9_ups_L16])
  | succ n ih =>
    intro u x2 x3 x4 H locs hP hD hS ls hl hf
    rw [fX9_ups_L16] at hf
    refine lv_iload C.1 C.2.1 dX9_ups_16 (lv_at hl 3 rfl) ?_
    refine lv_iload_n C.1 C.2.1 dX9_ups_18 rfl (lv_at hl 2 rfl) ?_
    refine lv_icmp_ge (tgt := 119) C.1 C.2.1 dX9_ups_19 (by decide) (fun c2 => ?_) (fun c2 => ?_)
    · rw [if_pos c2] at hf
      refine lv_iload_n C.1 C.2.1 dX9_ups_119 rfl (lv_at hl 1 rfl) ?_
      exact endWi C hP hD hS (Nat.le_refl _) (Nat.le_refl _) hf dX9_ups_120
    · rw [if_neg c2] at hf
      refine lv_aload_n C.1 C.2.1 dX9_ups_22 rfl (lv_at hl 0 rfl) ?_
      refine gtm_X9_queue C hP wF_X9_54 dX9_ups_23 ?_
      refine lv_iload C.1 C.2.1 dX9_ups_26 (lv_at hl 3 rfl) ?_
      obtain ⟨v3, hv3, hf⟩ := Option.bind_eq_some_iff.mp hf
      refine ldm_15 C hP hv3 dX9_ups_28 ?_
      refine lv_istore (lv' := [(5, .int v3), (0, .ref (ad 0)), (2, .int x2), (3, .int x3), (4, .int x4)]) C.1 C.2.1 dX9_ups_29 hl (by decide) rfl (fun ls hl => ?_)
      refine lv_iconst (v := -1) C.1 C.2.1 dX9_ups_31 (by decide) ?_
      refine lv_istore (lv' := [(6, .int (-1)), (5, .int v3), (0, .ref (ad 0)), (2, .int x2), (3, .int x3), (4, .int x4)]) C.1 C.2.1 dX9_ups_32 hl (by decide) rfl (fun ls hl => ?_)
      exact bX9_ups_L34 C hA hZ ih 5000 u x2 x3 x4 v3 (-1) _ _ hP hD hS _ (lv_sub hl [2, 3, 4, 5, 1, 0] rfl) hf
set_option maxRecDepth 100000 in
set_option maxHeartbeats 4000000 in
theorem mX9_ups {r0 : Int32} {u0 : ST} {x1 : Int32} (hf : fX9_ups u x1 = some (r0, u0)) : MWi l yX9_ups cX9_ups 8 (some .int) 0 0 0 0 [.ref (ad 0), .int x1] g (mW g ad) u r0 u0 := by
  refine entW (Qc := fun A => va_Qi (fun r v => r = r0 ∧ v = u0) (BW g A (mW g ad)) A) (by decide) (Nat.le_of_ble_eq_true rfl) ?_
  intro p e s m below meth c ls A C hP hD hS hA hZ hl
  have hl : lv_has ls 8 [(0, .ref (ad 0)), (1, .int x1)] := hl
  rw [fX9_ups] at hf
  refine lv_iconst (v := 1) C.1 C.2.1 dX9_ups_0 (by decide) ?_
  refine lv_iload_n C.1 C.2.1 dX9_ups_1 rfl (lv_at hl 1 rfl) ?_
  refine lv_ishl C.1 C.2.1 dX9_ups_2 ?_
  refine lv_istore_n (lv' := [(2, .int (1 <<< (x1 &&& 31))), (0, .ref (ad 0)), (1, .int x1)]) C.1 C.2.1 dX9_ups_3 rfl hl (by decide) rfl (fun ls hl => ?_)
  refine lv_iconst (v := 1) C.1 C.2.1 dX9_ups_4 (by decide) ?_
  refine lv_istore_n (lv' := [(3, .int 1), (2, .int (1 <<< (x1 &&& 31))), (0, .ref (ad 0)), (1, .int x1)]) C.1 C.2.1 dX9_ups_5 rfl hl (by decide) rfl (fun ls hl => ?_)
  refine lv_aload_n C.1 C.2.1 dX9_ups_6 rfl (lv_at hl 2 rfl) ?_
  refine gtm_X9_queue C hP wF_X9_54 dX9_ups_7 ?_
  refine lv_iconst (v := 0) C.1 C.2.1 dX9_ups_10 (by decide) ?_
  refine lv_iload_n C.1 C.2.1 dX9_ups_11 rfl (lv_at hl 3 rfl) ?_
  obtain ⟨u1, hu1, hf⟩ := Option.bind_eq_some_iff.mp hf
  refine stm_15 C hP hD hS hu1 dX9_ups_12 (fun H locs hP hD hS => ?_)
  refine lv_iconst (v := 0) C.1 C.2.1 dX9_ups_13 (by decide) ?_
  refine lv_istore (lv' := [(4, .int 0), (3, .int 1), (2, .int (1 <<< (x1 &&& 31))), (0, .ref (ad 0)), (1, .int x1)]) C.1 C.2.1 dX9_ups_14 hl (by decide) rfl (fun ls hl => ?_)
  exact bX9_ups_L16 C hA hZ 5000 u1 (1 <<< (x1 &&& 31)) 1 0 _ _ hP hD hS _ (lv_sub hl [3, 2, 1, 0] rfl) hf
end
theorem vX9_ups : YV yX9_ups cX9_ups 8 (some .int) 1 := ⟨⟨wK_X9_ups, wZ_X9, by decide +kernel⟩, wI_X9_ups, wV_X9_ups⟩
def fX9_isBelow (u : ST) (x1 : Int32) (x2 : Int32) : Option (Int32 × ST) :=
  b2 (fX9_ups u x1) fun v2 u1 =>
  if ((v2 >>> (x2 &&& 31)) &&& 1) = 1 then
    some (1, u1)
  else
    some (0, u1)
section
variable {p : Program} {l : Launch} {e : Env} {s : State} {m : MethodId} {args : Array Value} {below : List Frame} {meth : Method} {c : Code} {H : Heap} {locs : List Loc} {g : GP} {ls : Array Slot} {A : Nat → Prop} {ad : Nat → Nat} {u : ST}
set_option maxRecDepth 100000 in
set_option maxHeartbeats 4000000 in
theorem mX9_isBelow {r0 : Int32} {u0 : ST} {x1 : Int32} {x2 : Int32} (hf : fX9_isBelow u x1 x2 = some (r0, u0)) : MWi l yX9_isBelow cX9_isBelow 3 (some .boolean) 1 27 0 0 [.ref (ad 0), .int x1, .int x2] g (mW g ad) u r0 u0 := by
  refine entW (Qc := fun A => va_Qi (fun r v => r = r0 ∧ v = u0) (BW g A (mW g ad)) A) (by decide) (Nat.le_of_ble_eq_true rfl) ?_
  intro p e s m below meth c ls A C hP hD hS hA hZ hl
  have hl : lv_has ls 3 [(0, .ref (ad 0)), (1, .int x1), (2, .int x2)] := hl
  rw [fX9_isBelow] at hf
  refine lv_aload_n C.1 C.2.1 dX9_isBelow_0 rfl (lv_at hl 0 rfl) ?_
  refine lv_iload_n C.1 C.2.1 dX9_isBelow_1 rfl (lv_at hl 1 rfl) ?_
  obtain ⟨v2, u1, hu1, hf⟩ := b2_some hf
  refine cWi (As := [.int x1]) (rest := []) (mc := 0) (ms := 0) C (mX9_ups hu1) vX9_ups wM_X9_143 ⟨Nat.le_of_ble_eq_true rfl, Nat.le_of_ble_eq_true rfl⟩ hP hD hS hA hZ (rcm_X9 C hP) hl.1 rfl rfl (Nat.le_of_ble_eq_true rfl) dX9_isBelow_2 ⟨Nat.le_of_ble_eq_true rfl, Nat.le_of_ble_eq_true rfl⟩ (fun H locs hP hD hS => ?_)
  refine lv_iload_n C.1 C.2.1 dX9_isBelow_5 rfl (lv_at hl 2 rfl) ?_
  refine lv_ishr C.1 C.2.1 dX9_isBelow_6 ?_
  refine lv_iconst (v := 1) C.1 C.2.1 dX9_isBelow_7 (by decide) ?_
  refine lv_iand C.1 C.2.1 dX9_isBelow_8 ?_
  refine lv_iconst (v := 1) C.1 C.2.1 dX9_isBelow_9 (by decide) ?_
  refine lv_icmp_ne (tgt := 17) C.1 C.2.1 dX9_isBelow_10 (by decide) (fun c3 => ?_) (fun c3 => ?_)
  · rw [if_neg c3] at hf
    refine lv_iconst (v := 0) C.1 C.2.1 dX9_isBelow_17 (by decide) ?_
    exact endWz C rfl hP hD hS (Nat.le_refl _) (Nat.le_refl _) hf dX9_isBelow_18
  · rw [if_pos c3] at hf
    refine lv_iconst (v := 1) C.1 C.2.1 dX9_isBelow_13 (by decide) ?_
    refine lv_goto (tgt := 18) C.1 C.2.1 dX9_isBelow_14 (by decide) ?_
    exact endWz C rfl hP hD hS (Nat.le_refl _) (Nat.le_refl _) hf dX9_isBelow_18
end
theorem vX9_isBelow : YV yX9_isBelow cX9_isBelow 3 (some .boolean) 2 := ⟨⟨wK_X9_isBelow, wZ_X9, by decide +kernel⟩, wI_X9_isBelow, wV_X9_isBelow⟩
def fX9_chainOf_L4 : Nat → ST → Int32 → Int32 → Option (Int32 × ST)
  | 0, _, _, _ => none
  | n + 1, u, x2, x3 =>
    if x3 < 0 then
      some (x2, u)
    else
      (stI u 27 12 x2 x3).bind fun u2 =>
      (rdI u2 2 12 x3).bind fun v3 =>
      fX9_chainOf_L4 n u2 (x2 + 1) v3
def fX9_chainOf (u : ST) (x1 : Int32) : Option (Int32 × ST) :=
  fX9_chainOf_L4 5000 u 0 x1
section
variable {p : Program} {l : Launch} {e : Env} {s : State} {m : MethodId} {args : Array Value} {below : List Frame} {meth : Method} {c : Code} {H : Heap} {locs : List Loc} {g : GP} {ls : Array Slot} {A : Nat → Prop} {ad : Nat → Nat} {u : ST}
set_option maxRecDepth 100000 in
set_option maxHeartbeats 4000000 in
theorem bX9_chainOf_L4 {r0 : Int32} {u0 : ST} (C : Cx p s m args meth c cX9_chainOf 4 RX9 (some .int) g) (hA : ∀ q, s.heap.size ≤ q → A q) (hZ : SF A s) : ∀ (n : Nat), ∀ (u : ST) (x2 : Int32) (x3 : Int32) (H : Heap) (locs : List Loc), va_P g.1 vwCl (mW g ad u) H → va_D A (mW g ad u) → va_S A s.heap H locs → ∀ (ls : Array Slot), lv_has ls 4 [(0, .ref (ad 0)), (2, .int x2), (3, .int x3)] → fX9_chainOf_L4 n u x2 x3 = some (r0, u0) → W p l e (rmW 0 0 0 0) s m args below meth c H locs 0 0 (MQ below (va_Qi (fun r v => r = r0 ∧ v = u0) (BW g A (mW g ad)) A) args s 0 0 A) (F0 m 4 ls []) := by
  intro n
  induction n with
  | zero =>
    intro u x2 x3 H locs hP hD hS ls hl hf
    exact absurd hf (by simp [fX9_chainOf_L4])
  | succ n ih =>
    intro u x2 x3 H locs hP hD hS ls hl hf
    rw [fX9_chainOf_L4] at hf
    refine lv_iload_n C.1 C.2.1 dX9_chainOf_4 rfl (lv_at hl 2 rfl) ?_
    refine lv_if_lt (tgt := 28) C.1 C.2.1 dX9_chainOf_5 (by decide) (fun c1 => ?_) (fun c1 => ?_)
    · rw [if_pos c1] at hf
      refine lv_iload_n C.1 C.2.1 dX9_chainOf_28 rfl (lv_at hl 1 rfl) ?_
      exact endWi C hP hD hS (Nat.le_refl _) (Nat.le_refl _) hf dX9_chainOf_29
    · rw [if_neg c1] at hf
      refine lv_aload_n C.1 C.2.1 dX9_chainOf_8 rfl (lv_at hl 0 rfl) ?_
      refine gtm_X9_chain C hP wF_X9_84 dX9_chainOf_9 ?_
      refine lv_iload_n C.1 C.2.1 dX9_chainOf_12 rfl (lv_at hl 1 rfl) ?_
      refine lv_iload_n C.1 C.2.1 dX9_chainOf_13 rfl (lv_at hl 2 rfl) ?_
      obtain ⟨u2, hu2, hf⟩ := Option.bind_eq_some_iff.mp hf
      refine stm_27 C hP hD hS hu2 dX9_chainOf_14 (fun H locs hP hD hS => ?_)
      refine lv_iinc (v := (x2 + 1)) (lv' := [(2, .int (x2 + 1)), (0, .ref (ad 0)), (3, .int x3)]) C.1 C.2.1 dX9_chainOf_15 hl (k := 1) rfl rfl (by decide) rfl (fun ls hl => ?_)
      refine lv_aload_n C.1 C.2.1 dX9_chainOf_18 rfl (lv_at hl 1 rfl) ?_
      refine gtm_X9_over C hP wF_X9_13 dX9_chainOf_19 ?_
      refine lv_iload_n C.1 C.2.1 dX9_chainOf_22 rfl (lv_at hl 2 rfl) ?_
      obtain ⟨v3, hv3, hf⟩ := Option.bind_eq_some_iff.mp hf
      refine ldm_2 C hP hv3 dX9_chainOf_23 ?_
      refine lv_istore_n (lv' := [(3, .int v3), (2, .int (x2 + 1)), (0, .ref (ad 0))]) C.1 C.2.1 dX9_chainOf_24 rfl hl (by decide) rfl (fun ls hl => ?_)
      refine lv_goto (tgt := 4) C.1 C.2.1 dX9_chainOf_25 (by decide) ?_
      exact ih u2 (x2 + 1) v3 _ _ hP hD hS _ (lv_sub hl [2, 1, 0] rfl) hf
set_option maxRecDepth 100000 in
set_option maxHeartbeats 4000000 in
theorem mX9_chainOf {r0 : Int32} {u0 : ST} {x1 : Int32} (hf : fX9_chainOf u x1 = some (r0, u0)) : MWi l yX9_chainOf cX9_chainOf 4 (some .int) 0 0 0 0 [.ref (ad 0), .int x1] g (mW g ad) u r0 u0 := by
  refine entW (Qc := fun A => va_Qi (fun r v => r = r0 ∧ v = u0) (BW g A (mW g ad)) A) (by decide) (Nat.le_of_ble_eq_true rfl) ?_
  intro p e s m below meth c ls A C hP hD hS hA hZ hl
  have hl : lv_has ls 4 [(0, .ref (ad 0)), (1, .int x1)] := hl
  rw [fX9_chainOf] at hf
  refine lv_iconst (v := 0) C.1 C.2.1 dX9_chainOf_0 (by decide) ?_
  refine lv_istore_n (lv' := [(2, .int 0), (0, .ref (ad 0)), (1, .int x1)]) C.1 C.2.1 dX9_chainOf_1 rfl hl (by decide) rfl (fun ls hl => ?_)
  refine lv_iload_n C.1 C.2.1 dX9_chainOf_2 rfl (lv_at hl 2 rfl) ?_
  refine lv_istore_n (lv' := [(3, .int x1), (2, .int 0), (0, .ref (ad 0)), (1, .int x1)]) C.1 C.2.1 dX9_chainOf_3 rfl hl (by decide) rfl (fun ls hl => ?_)
  exact bX9_chainOf_L4 C hA hZ 5000 u 0 x1 _ _ hP hD hS _ (lv_sub hl [2, 1, 0] rfl) hf
end
theorem vX9_chainOf : YV yX9_chainOf cX9_chainOf 4 (some .int) 1 := ⟨⟨wK_X9_chainOf, wZ_X9, by decide +kernel⟩, wI_X9_chainOf, wV_X9_chainOf⟩
def fX7_isType (u : ST) (x1 : Int32) : Option Int32 :=
  if x1 < 0 then
    some 0
  else
    if (sI u 200) ≤ x1 then
      some 0
    else
      some 1
section
variable {p : Program} {l : Launch} {e : Env} {s : State} {m : MethodId} {args : Array Value} {below : List Frame} {meth : Method} {c : Code} {H : Heap} {locs : List Loc} {g : GP} {ls : Array Slot} {A : Nat → Prop} {ad : Nat → Nat} {u : ST}
set_option maxRecDepth 100000 in
set_option maxHeartbeats 4000000 in
theorem mX7_isType {r0 : Int32} {x1 : Int32} (hf : fX7_isType u x1 = some r0) : MRi l yX7_isType cX7_isType 2 (some .boolean) 0 0 [.ref (ad 2), .int x1] g (cW g ad u) r0 := by
  refine entR (by decide) (Nat.le_of_ble_eq_true rfl) ?_
  intro p e s m below meth c ls C hP hZ hl
  have hl : lv_has ls 2 [(0, .ref (ad 2)), (1, .int x1)] := hl
  rw [fX7_isType] at hf
  refine lv_iload_n C.1 C.2.1 dX7_isType_0 rfl (lv_at hl 1 rfl) ?_
  refine lv_if_lt (tgt := 16) C.1 C.2.1 dX7_isType_1 (by decide) (fun c1 => ?_) (fun c1 => ?_)
  · rw [if_pos c1] at hf
    refine lv_iconst (v := 0) C.1 C.2.1 dX7_isType_16 (by decide) ?_
    exact endRz C rfl hf dX7_isType_17
  · rw [if_neg c1] at hf
    refine lv_iload_n C.1 C.2.1 dX7_isType_4 rfl (lv_at hl 1 rfl) ?_
    refine lv_aload_n C.1 C.2.1 dX7_isType_5 rfl (lv_at hl 0 rfl) ?_
    refine gtc_X7_size C hP wF_X7_34 dX7_isType_6 ?_
    refine lv_icmp_ge (tgt := 16) C.1 C.2.1 dX7_isType_9 (by decide) (fun c2 => ?_) (fun c2 => ?_)
    · rw [if_pos c2] at hf
      refine lv_iconst (v := 0) C.1 C.2.1 dX7_isType_16 (by decide) ?_
      exact endRz C rfl hf dX7_isType_17
    · rw [if_neg c2] at hf
      refine lv_iconst (v := 1) C.1 C.2.1 dX7_isType_12 (by decide) ?_
      refine lv_goto (tgt := 17) C.1 C.2.1 dX7_isType_13 (by decide) ?_
      exact endRz C rfl hf dX7_isType_17
end
theorem vX7_isType : YV yX7_isType cX7_isType 2 (some .boolean) 1 := ⟨⟨wK_X7_isType, wZ_X7, by decide +kernel⟩, wI_X7_isType, wV_X7_isType⟩
def fX7_isBelow (u : ST) (x1 : Int32) (x2 : Int32) : Option Int32 :=
  if x1 < 0 then
    some 0
  else
    if (sI u 200) ≤ x1 then
      some 0
    else
      if x2 < 0 then
        some 0
      else
        if (sI u 200) ≤ x2 then
          some 0
        else
          (rdI u 13 12 x1).bind fun v5 =>
          if ((v5 >>> (x2 &&& 31)) &&& 1) = 0 then
            some 0
          else
            some 1
section
variable {p : Program} {l : Launch} {e : Env} {s : State} {m : MethodId} {args : Array Value} {below : List Frame} {meth : Method} {c : Code} {H : Heap} {locs : List Loc} {g : GP} {ls : Array Slot} {A : Nat → Prop} {ad : Nat → Nat} {u : ST}
set_option maxRecDepth 100000 in
set_option maxHeartbeats 4000000 in
theorem mX7_isBelow {r0 : Int32} {x1 : Int32} {x2 : Int32} (hf : fX7_isBelow u x1 x2 = some r0) : MRi l yX7_isBelow cX7_isBelow 3 (some .boolean) 0 0 [.ref (ad 2), .int x1, .int x2] g (cW g ad u) r0 := by
  refine entR (by decide) (Nat.le_of_ble_eq_true rfl) ?_
  intro p e s m below meth c ls C hP hZ hl
  have hl : lv_has ls 3 [(0, .ref (ad 2)), (1, .int x1), (2, .int x2)] := hl
  rw [fX7_isBelow] at hf
  refine lv_iload_n C.1 C.2.1 dX7_isBelow_0 rfl (lv_at hl 1 rfl) ?_
  refine lv_if_lt (tgt := 41) C.1 C.2.1 dX7_isBelow_1 (by decide) (fun c1 => ?_) (fun c1 => ?_)
  · rw [if_pos c1] at hf
    refine lv_iconst (v := 0) C.1 C.2.1 dX7_isBelow_41 (by decide) ?_
    exact endRz C rfl hf dX7_isBelow_42
  · rw [if_neg c1] at hf
    refine lv_iload_n C.1 C.2.1 dX7_isBelow_4 rfl (lv_at hl 1 rfl) ?_
    refine lv_aload_n C.1 C.2.1 dX7_isBelow_5 rfl (lv_at hl 0 rfl) ?_
    refine gtc_X7_size C hP wF_X7_34 dX7_isBelow_6 ?_
    refine lv_icmp_ge (tgt := 41) C.1 C.2.1 dX7_isBelow_9 (by decide) (fun c2 => ?_) (fun c2 => ?_)
    · rw [if_pos c2] at hf
      refine lv_iconst (v := 0) C.1 C.2.1 dX7_isBelow_41 (by decide) ?_
      exact endRz C rfl hf dX7_isBelow_42
    · rw [if_neg c2] at hf
      refine lv_iload_n C.1 C.2.1 dX7_isBelow_12 rfl (lv_at hl 2 rfl) ?_
      refine lv_if_lt (tgt := 41) C.1 C.2.1 dX7_isBelow_13 (by decide) (fun c3 => ?_) (fun c3 => ?_)
      · rw [if_pos c3] at hf
        refine lv_iconst (v := 0) C.1 C.2.1 dX7_isBelow_41 (by decide) ?_
        exact endRz C rfl hf dX7_isBelow_42
      · rw [if_neg c3] at hf
        refine lv_iload_n C.1 C.2.1 dX7_isBelow_16 rfl (lv_at hl 2 rfl) ?_
        refine lv_aload_n C.1 C.2.1 dX7_isBelow_17 rfl (lv_at hl 0 rfl) ?_
        refine gtc_X7_size C hP wF_X7_34 dX7_isBelow_18 ?_
        refine lv_icmp_ge (tgt := 41) C.1 C.2.1 dX7_isBelow_21 (by decide) (fun c4 => ?_) (fun c4 => ?_)
        · rw [if_pos c4] at hf
          refine lv_iconst (v := 0) C.1 C.2.1 dX7_isBelow_41 (by decide) ?_
          exact endRz C rfl hf dX7_isBelow_42
        · rw [if_neg c4] at hf
          refine lv_aload_n C.1 C.2.1 dX7_isBelow_24 rfl (lv_at hl 0 rfl) ?_
          refine gtc_X7_over C hP wF_X7_28 dX7_isBelow_25 ?_
          refine lv_iload_n C.1 C.2.1 dX7_isBelow_28 rfl (lv_at hl 1 rfl) ?_
          obtain ⟨v5, hv5, hf⟩ := Option.bind_eq_some_iff.mp hf
          refine ldc_13 C hP hv5 dX7_isBelow_29 ?_
          refine lv_iload_n C.1 C.2.1 dX7_isBelow_30 rfl (lv_at hl 2 rfl) ?_
          refine lv_ishr C.1 C.2.1 dX7_isBelow_31 ?_
          refine lv_iconst (v := 1) C.1 C.2.1 dX7_isBelow_32 (by decide) ?_
          refine lv_iand C.1 C.2.1 dX7_isBelow_33 ?_
          refine lv_if_eq (tgt := 41) C.1 C.2.1 dX7_isBelow_34 (by decide) (fun c6 => ?_) (fun c6 => ?_)
          · rw [if_pos c6] at hf
            refine lv_iconst (v := 0) C.1 C.2.1 dX7_isBelow_41 (by decide) ?_
            exact endRz C rfl hf dX7_isBelow_42
          · rw [if_neg c6] at hf
            refine lv_iconst (v := 1) C.1 C.2.1 dX7_isBelow_37 (by decide) ?_
            refine lv_goto (tgt := 42) C.1 C.2.1 dX7_isBelow_38 (by decide) ?_
            exact endRz C rfl hf dX7_isBelow_42
end
theorem vX7_isBelow : YV yX7_isBelow cX7_isBelow 3 (some .boolean) 2 := ⟨⟨wK_X7_isBelow, wZ_X7, by decide +kernel⟩, wI_X7_isBelow, wV_X7_isBelow⟩
def fX6_fieldOf_L39 (u : ST) (K2 : Int32 → Int32 → Int32 → Option Int32) (x1 : Int32) (x2 : Int32) (x3 : Int32) : Option Int32 :=
  K2 x1 x2 (x3 + 1)
def fX6_fieldOf_L2 (u : ST) : Nat → Int32 → Int32 → Int32 → Option Int32
  | 0, _, _, _ => none
  | n + 1, x1, x2, x3 =>
    if 60 ≤ x3 then
      some (-2)
    else
      (rdI u 15 60 x3).bind fun v2 =>
      if v2 = x1 then
        (rdI u 16 60 x3).bind fun v4 =>
        if v4 = 0 then
          (rdI u 17 60 x3).bind fun v6 =>
          if v6 = x2 then
            some x3
          else
            fX6_fieldOf_L39 u (fX6_fieldOf_L2 u n) x1 x2 x3
        else
          fX6_fieldOf_L39 u (fX6_fieldOf_L2 u n) x1 x2 x3
      else
        fX6_fieldOf_L39 u (fX6_fieldOf_L2 u n) x1 x2 x3
def fX6_fieldOf (u : ST) (x1 : Int32) (x2 : Int32) : Option Int32 :=
  fX6_fieldOf_L2 u 5000 x1 x2 0
section
variable {p : Program} {l : Launch} {e : Env} {s : State} {m : MethodId} {args : Array Value} {below : List Frame} {meth : Method} {c : Code} {H : Heap} {locs : List Loc} {g : GP} {ls : Array Slot} {A : Nat → Prop} {ad : Nat → Nat} {u : ST}
set_option maxRecDepth 100000 in
set_option maxHeartbeats 4000000 in
theorem bX6_fieldOf_L39 {r0 : Int32} {K2 : Int32 → Int32 → Int32 → Option Int32} {x1 : Int32} {x2 : Int32} {x3 : Int32} (C : Cx p s m args meth c cX6_fieldOf 4 RX6 (some .int) g) (hZ : SF (fun _ => False) s) (hK2 : ∀ (x1 : Int32) (x2 : Int32) (x3 : Int32), ∀ (ls : Array Slot), lv_has ls 4 [(0, .ref (ad 3)), (1, .int x1), (2, .int x2), (3, .int x3)] → K2 x1 x2 x3 = some r0 → W p l e (rmR 0 0) s m args below meth c s.heap [] 0 0 (MQ below (vp_Si (fun r => r = r0)) args s 0 0 (fun _ => False)) (F0 m 2 ls [])) (hP : va_P g.1 vwCl (cW g ad u) s.heap) (hl : lv_has ls 4 [(0, .ref (ad 3)), (1, .int x1), (2, .int x2), (3, .int x3)]) (hf : fX6_fieldOf_L39 u K2 x1 x2 x3 = some r0) : W p l e (rmR 0 0) s m args below meth c s.heap [] 0 0 (MQ below (vp_Si (fun r => r = r0)) args s 0 0 (fun _ => False)) (F0 m 39 ls []) := by
  rw [fX6_fieldOf_L39] at hf
  refine lv_iinc (v := (x3 + 1)) (lv' := [(3, .int (x3 + 1)), (0, .ref (ad 3)), (1, .int x1), (2, .int x2)]) C.1 C.2.1 dX6_fieldOf_39 hl (k := 3) rfl rfl (by decide) rfl (fun ls hl => ?_)
  refine lv_goto (tgt := 2) C.1 C.2.1 dX6_fieldOf_42 (by decide) ?_
  exact hK2 x1 x2 (x3 + 1) _ (lv_sub hl [1, 2, 3, 0] rfl) hf
set_option maxRecDepth 100000 in
set_option maxHeartbeats 4000000 in
theorem bX6_fieldOf_L2 {r0 : Int32} (C : Cx p s m args meth c cX6_fieldOf 4 RX6 (some .int) g) (hZ : SF (fun _ => False) s) (n : Nat) : ∀ (x1 : Int32) (x2 : Int32) (x3 : Int32), va_P g.1 vwCl (cW g ad u) s.heap → ∀ (ls : Array Slot), lv_has ls 4 [(0, .ref (ad 3)), (1, .int x1), (2, .int x2), (3, .int x3)] → fX6_fieldOf_L2 u n x1 x2 x3 = some r0 → W p l e (rmR 0 0) s m args below meth c s.heap [] 0 0 (MQ below (vp_Si (fun r => r = r0)) args s 0 0 (fun _ => False)) (F0 m 2 ls []) := by
  induction n with
  | zero =>
    intro x1 x2 x3 hP ls hl hf
    exact absurd hf (by simp [fX6_fieldOf_L2])
  | succ n ih0 =>
    intro x1 x2 x3 hP ls hl hf
    have ih := fun (x1 : Int32) (x2 : Int32) (x3 : Int32) => ih0 x1 x2 x3 hP
    rw [fX6_fieldOf_L2] at hf
    refine lv_iload_n C.1 C.2.1 dX6_fieldOf_2 rfl (lv_at hl 3 rfl) ?_
    refine lv_bipush (v := 60) C.1 C.2.1 dX6_fieldOf_3 (by decide) ?_
    refine lv_icmp_ge (tgt := 45) C.1 C.2.1 dX6_fieldOf_5 (by decide) (fun c1 => ?_) (fun c1 => ?_)
    · rw [if_pos c1] at hf
      refine lv_bipush (v := -2) C.1 C.2.1 dX6_fieldOf_45 (by decide) ?_
      exact endRi C hf dX6_fieldOf_47
    · rw [if_neg c1] at hf
      refine lv_aload_n C.1 C.2.1 dX6_fieldOf_8 rfl (lv_at hl 0 rfl) ?_
      refine gtc_X6_owner C hP wF_X6_11 dX6_fieldOf_9 ?_
      refine lv_iload_n C.1 C.2.1 dX6_fieldOf_12 rfl (lv_at hl 3 rfl) ?_
      obtain ⟨v2, hv2, hf⟩ := Option.bind_eq_some_iff.mp hf
      refine ldc_15 C hP hv2 dX6_fieldOf_13 ?_
      refine lv_iload_n C.1 C.2.1 dX6_fieldOf_14 rfl (lv_at hl 1 rfl) ?_
      refine lv_icmp_ne (tgt := 39) C.1 C.2.1 dX6_fieldOf_15 (by decide) (fun c3 => ?_) (fun c3 => ?_)
      · rw [if_neg c3] at hf
        exact bX6_fieldOf_L39 C hZ ih hP (lv_sub hl [0, 1, 2, 3] rfl) hf
      · rw [if_pos c3] at hf
        refine lv_aload_n C.1 C.2.1 dX6_fieldOf_18 rfl (lv_at hl 0 rfl) ?_
        refine gtc_X6_isMethod C hP wF_X6_15 dX6_fieldOf_19 ?_
        refine lv_iload_n C.1 C.2.1 dX6_fieldOf_22 rfl (lv_at hl 3 rfl) ?_
        obtain ⟨v4, hv4, hf⟩ := Option.bind_eq_some_iff.mp hf
        refine ldc_16 C hP hv4 dX6_fieldOf_23 ?_
        refine lv_if_ne (tgt := 39) C.1 C.2.1 dX6_fieldOf_24 (by decide) (fun c5 => ?_) (fun c5 => ?_)
        · rw [if_neg c5] at hf
          exact bX6_fieldOf_L39 C hZ ih hP (lv_sub hl [0, 1, 2, 3] rfl) hf
        · rw [if_pos c5] at hf
          refine lv_aload_n C.1 C.2.1 dX6_fieldOf_27 rfl (lv_at hl 0 rfl) ?_
          refine gtc_X6_name C hP wF_X6_19 dX6_fieldOf_28 ?_
          refine lv_iload_n C.1 C.2.1 dX6_fieldOf_31 rfl (lv_at hl 3 rfl) ?_
          obtain ⟨v6, hv6, hf⟩ := Option.bind_eq_some_iff.mp hf
          refine ldc_17 C hP hv6 dX6_fieldOf_32 ?_
          refine lv_iload_n C.1 C.2.1 dX6_fieldOf_33 rfl (lv_at hl 2 rfl) ?_
          refine lv_icmp_ne (tgt := 39) C.1 C.2.1 dX6_fieldOf_34 (by decide) (fun c7 => ?_) (fun c7 => ?_)
          · rw [if_neg c7] at hf
            exact bX6_fieldOf_L39 C hZ ih hP (lv_sub hl [0, 1, 2, 3] rfl) hf
          · rw [if_pos c7] at hf
            refine lv_iload_n C.1 C.2.1 dX6_fieldOf_37 rfl (lv_at hl 3 rfl) ?_
            exact endRi C hf dX6_fieldOf_38
set_option maxRecDepth 100000 in
set_option maxHeartbeats 4000000 in
theorem mX6_fieldOf {r0 : Int32} {x1 : Int32} {x2 : Int32} (hf : fX6_fieldOf u x1 x2 = some r0) : MRi l yX6_fieldOf cX6_fieldOf 4 (some .int) 0 0 [.ref (ad 3), .int x1, .int x2] g (cW g ad u) r0 := by
  refine entR (by decide) (Nat.le_of_ble_eq_true rfl) ?_
  intro p e s m below meth c ls C hP hZ hl
  have hl : lv_has ls 4 [(0, .ref (ad 3)), (1, .int x1), (2, .int x2)] := hl
  rw [fX6_fieldOf] at hf
  refine lv_iconst (v := 0) C.1 C.2.1 dX6_fieldOf_0 (by decide) ?_
  refine lv_istore_n (lv' := [(3, .int 0), (0, .ref (ad 3)), (1, .int x1), (2, .int x2)]) C.1 C.2.1 dX6_fieldOf_1 rfl hl (by decide) rfl (fun ls hl => ?_)
  exact bX6_fieldOf_L2 C hZ 5000 x1 x2 0 hP _ (lv_sub hl [1, 2, 3, 0] rfl) hf
end
theorem vX6_fieldOf : YV yX6_fieldOf cX6_fieldOf 4 (some .int) 2 := ⟨⟨wK_X6_fieldOf, wZ_X6, by decide +kernel⟩, wI_X6_fieldOf, wV_X6_fieldOf⟩
def fX7_faceAt (u : ST) (x1 : Int32) (x2 : Int32) : Option Int32 :=
  if x1 < 0 then
    some (-2)
  else
    if (sI u 200) ≤ x1 then
      some (-2)
    else
      if x2 < 0 then
        some (-2)
      else
        (rdI u 11 12 x1).bind fun v4 =>
        if v4 ≤ x2 then
          some (-2)
        else
          (rdI u 12 36 ((x1 * 3) + x2)).bind fun v6 =>
          some v6
section
variable {p : Program} {l : Launch} {e : Env} {s : State} {m : MethodId} {args : Array Value} {below : List Frame} {meth : Method} {c : Code} {H : Heap} {locs : List Loc} {g : GP} {ls : Array Slot} {A : Nat → Prop} {ad : Nat → Nat} {u : ST}
set_option maxRecDepth 100000 in
set_option maxHeartbeats 4000000 in
theorem mX7_faceAt {r0 : Int32} {x1 : Int32} {x2 : Int32} (hf : fX7_faceAt u x1 x2 = some r0) : MRi l yX7_faceAt cX7_faceAt 3 (some .int) 0 0 [.ref (ad 2), .int x1, .int x2] g (cW g ad u) r0 := by
  refine entR (by decide) (Nat.le_of_ble_eq_true rfl) ?_
  intro p e s m below meth c ls C hP hZ hl
  have hl : lv_has ls 3 [(0, .ref (ad 2)), (1, .int x1), (2, .int x2)] := hl
  rw [fX7_faceAt] at hf
  refine lv_iload_n C.1 C.2.1 dX7_faceAt_0 rfl (lv_at hl 1 rfl) ?_
  refine lv_if_lt (tgt := 39) C.1 C.2.1 dX7_faceAt_1 (by decide) (fun c1 => ?_) (fun c1 => ?_)
  · rw [if_pos c1] at hf
    refine lv_bipush (v := -2) C.1 C.2.1 dX7_faceAt_39 (by decide) ?_
    exact endRi C hf dX7_faceAt_41
  · rw [if_neg c1] at hf
    refine lv_iload_n C.1 C.2.1 dX7_faceAt_4 rfl (lv_at hl 1 rfl) ?_
    refine lv_aload_n C.1 C.2.1 dX7_faceAt_5 rfl (lv_at hl 0 rfl) ?_
    refine gtc_X7_size C hP wF_X7_34 dX7_faceAt_6 ?_
    refine lv_icmp_ge (tgt := 39) C.1 C.2.1 dX7_faceAt_9 (by decide) (fun c2 => ?_) (fun c2 => ?_)
    · rw [if_pos c2] at hf
      refine lv_bipush (v := -2) C.1 C.2.1 dX7_faceAt_39 (by decide) ?_
      exact endRi C hf dX7_faceAt_41
    · rw [if_neg c2] at hf
      refine lv_iload_n C.1 C.2.1 dX7_faceAt_12 rfl (lv_at hl 2 rfl) ?_
      refine lv_if_lt (tgt := 39) C.1 C.2.1 dX7_faceAt_13 (by decide) (fun c3 => ?_) (fun c3 => ?_)
      · rw [if_pos c3] at hf
        refine lv_bipush (v := -2) C.1 C.2.1 dX7_faceAt_39 (by decide) ?_
        exact endRi C hf dX7_faceAt_41
      · rw [if_neg c3] at hf
        refine lv_iload_n C.1 C.2.1 dX7_faceAt_16 rfl (lv_at hl 2 rfl) ?_
        refine lv_aload_n C.1 C.2.1 dX7_faceAt_17 rfl (lv_at hl 0 rfl) ?_
        refine gtc_X7_faceCount C hP wF_X7_22 dX7_faceAt_18 ?_
        refine lv_iload_n C.1 C.2.1 dX7_faceAt_21 rfl (lv_at hl 1 rfl) ?_
        obtain ⟨v4, hv4, hf⟩ := Option.bind_eq_some_iff.mp hf
        refine ldc_11 C hP hv4 dX7_faceAt_22 ?_
        refine lv_icmp_ge (tgt := 39) C.1 C.2.1 dX7_faceAt_23 (by decide) (fun c5 => ?_) (fun c5 => ?_)
        · rw [if_pos c5] at hf
          refine lv_bipush (v := -2) C.1 C.2.1 dX7_faceAt_39 (by decide) ?_
          exact endRi C hf dX7_faceAt_41
        · rw [if_neg c5] at hf
          refine lv_aload_n C.1 C.2.1 dX7_faceAt_26 rfl (lv_at hl 0 rfl) ?_
          refine gtc_X7_faces C hP wF_X7_25 dX7_faceAt_27 ?_
          refine lv_iload_n C.1 C.2.1 dX7_faceAt_30 rfl (lv_at hl 1 rfl) ?_
          refine lv_iconst (v := 3) C.1 C.2.1 dX7_faceAt_31 (by decide) ?_
          refine lv_imul C.1 C.2.1 dX7_faceAt_32 ?_
          refine lv_iload_n C.1 C.2.1 dX7_faceAt_33 rfl (lv_at hl 2 rfl) ?_
          refine lv_iadd C.1 C.2.1 dX7_faceAt_34 ?_
          obtain ⟨v6, hv6, hf⟩ := Option.bind_eq_some_iff.mp hf
          refine ldc_12 C hP hv6 dX7_faceAt_35 ?_
          refine lv_goto (tgt := 41) C.1 C.2.1 dX7_faceAt_36 (by decide) ?_
          exact endRi C hf dX7_faceAt_41
end
theorem vX7_faceAt : YV yX7_faceAt cX7_faceAt 3 (some .int) 2 := ⟨⟨wK_X7_faceAt, wZ_X7, by decide +kernel⟩, wI_X7_faceAt, wV_X7_faceAt⟩
def fX7_whatIsAbove (u : ST) (x1 : Int32) : Option Int32 :=
  if x1 < 0 then
    some (-2)
  else
    if (sI u 200) ≤ x1 then
      some (-2)
    else
      (rdI u 9 12 x1).bind fun v3 =>
      some v3
section
variable {p : Program} {l : Launch} {e : Env} {s : State} {m : MethodId} {args : Array Value} {below : List Frame} {meth : Method} {c : Code} {H : Heap} {locs : List Loc} {g : GP} {ls : Array Slot} {A : Nat → Prop} {ad : Nat → Nat} {u : ST}
set_option maxRecDepth 100000 in
set_option maxHeartbeats 4000000 in
theorem mX7_whatIsAbove {r0 : Int32} {x1 : Int32} (hf : fX7_whatIsAbove u x1 = some r0) : MRi l yX7_whatIsAbove cX7_whatIsAbove 2 (some .int) 0 0 [.ref (ad 2), .int x1] g (cW g ad u) r0 := by
  refine entR (by decide) (Nat.le_of_ble_eq_true rfl) ?_
  intro p e s m below meth c ls C hP hZ hl
  have hl : lv_has ls 2 [(0, .ref (ad 2)), (1, .int x1)] := hl
  rw [fX7_whatIsAbove] at hf
  refine lv_iload_n C.1 C.2.1 dX7_whatIsAbove_0 rfl (lv_at hl 1 rfl) ?_
  refine lv_if_lt (tgt := 21) C.1 C.2.1 dX7_whatIsAbove_1 (by decide) (fun c1 => ?_) (fun c1 => ?_)
  · rw [if_pos c1] at hf
    refine lv_bipush (v := -2) C.1 C.2.1 dX7_whatIsAbove_21 (by decide) ?_
    exact endRi C hf dX7_whatIsAbove_23
  · rw [if_neg c1] at hf
    refine lv_iload_n C.1 C.2.1 dX7_whatIsAbove_4 rfl (lv_at hl 1 rfl) ?_
    refine lv_aload_n C.1 C.2.1 dX7_whatIsAbove_5 rfl (lv_at hl 0 rfl) ?_
    refine gtc_X7_size C hP wF_X7_34 dX7_whatIsAbove_6 ?_
    refine lv_icmp_ge (tgt := 21) C.1 C.2.1 dX7_whatIsAbove_9 (by decide) (fun c2 => ?_) (fun c2 => ?_)
    · rw [if_pos c2] at hf
      refine lv_bipush (v := -2) C.1 C.2.1 dX7_whatIsAbove_21 (by decide) ?_
      exact endRi C hf dX7_whatIsAbove_23
    · rw [if_neg c2] at hf
      refine lv_aload_n C.1 C.2.1 dX7_whatIsAbove_12 rfl (lv_at hl 0 rfl) ?_
      refine gtc_X7_above C hP wF_X7_15 dX7_whatIsAbove_13 ?_
      refine lv_iload_n C.1 C.2.1 dX7_whatIsAbove_16 rfl (lv_at hl 1 rfl) ?_
      obtain ⟨v3, hv3, hf⟩ := Option.bind_eq_some_iff.mp hf
      refine ldc_9 C hP hv3 dX7_whatIsAbove_17 ?_
      refine lv_goto (tgt := 23) C.1 C.2.1 dX7_whatIsAbove_18 (by decide) ?_
      exact endRi C hf dX7_whatIsAbove_23
end
theorem vX7_whatIsAbove : YV yX7_whatIsAbove cX7_whatIsAbove 2 (some .int) 1 := ⟨⟨wK_X7_whatIsAbove, wZ_X7, by decide +kernel⟩, wI_X7_whatIsAbove, wV_X7_whatIsAbove⟩
def fX7_overDirectly_L64 (u : ST) (K28 : Int32 → Int32 → Int32 → Option Int32) (x1 : Int32) (x4 : Int32) (y0 : Int32) (y1 : Int32) : Option Int32 :=
  K28 x1 (y0 ||| y1) (x4 + 1)
def fX7_overDirectly_L28 (u : ST) : Nat → Int32 → Int32 → Int32 → Option Int32
  | 0, _, _, _ => none
  | n + 1, x1, x3, x4 =>
    if 3 ≤ x4 then
      some x3
    else
      (fX7_faceAt u x1 x4).bind fun v5 =>
      (fX7_isType u v5).bind fun v6 =>
      if v6 = 0 then
        fX7_overDirectly_L64 u (fX7_overDirectly_L28 u n) x1 x4 x3 0
      else
        (rdI u 13 12 v5).bind fun v8 =>
        fX7_overDirectly_L64 u (fX7_overDirectly_L28 u n) x1 x4 x3 v8
def fX7_overDirectly_L24 (u : ST) (x1 : Int32) (y0 : Int32) : Option Int32 :=
  fX7_overDirectly_L28 u 5000 x1 y0 0
def fX7_overDirectly (u : ST) (x1 : Int32) : Option Int32 :=
  (fX7_whatIsAbove u x1).bind fun v1 =>
  (fX7_isType u v1).bind fun v2 =>
  if v2 = 0 then
    fX7_overDirectly_L24 u x1 0
  else
    (rdI u 13 12 v1).bind fun v9 =>
    fX7_overDirectly_L24 u x1 v9
section
variable {p : Program} {l : Launch} {e : Env} {s : State} {m : MethodId} {args : Array Value} {below : List Frame} {meth : Method} {c : Code} {H : Heap} {locs : List Loc} {g : GP} {ls : Array Slot} {A : Nat → Prop} {ad : Nat → Nat} {u : ST}
set_option maxRecDepth 100000 in
set_option maxHeartbeats 4000000 in
theorem bX7_overDirectly_L64 {r0 : Int32} {K28 : Int32 → Int32 → Int32 → Option Int32} {x1 : Int32} {x4 : Int32} {y0 : Int32} {y1 : Int32} (C : Cx p s m args meth c cX7_overDirectly 6 RX7 (some .int) g) (hZ : SF (fun _ => False) s) (hK28 : ∀ (x1 : Int32) (x3 : Int32) (x4 : Int32), ∀ (ls : Array Slot), lv_has ls 6 [(0, .ref (ad 2)), (1, .int x1), (3, .int x3), (4, .int x4)] → K28 x1 x3 x4 = some r0 → W p l e (rmR 1 22) s m args below meth c s.heap [] 0 0 (MQ below (vp_Si (fun r => r = r0)) args s 0 0 (fun _ => False)) (F0 m 28 ls [])) (hP : va_P g.1 vwCl (cW g ad u) s.heap) (hl : lv_has ls 6 [(0, .ref (ad 2)), (1, .int x1), (4, .int x4)]) (hf : fX7_overDirectly_L64 u K28 x1 x4 y0 y1 = some r0) : W p l e (rmR 1 22) s m args below meth c s.heap [] 0 0 (MQ below (vp_Si (fun r => r = r0)) args s 0 0 (fun _ => False)) (F0 m 64 ls [.int y1, .int y0]) := by
  rw [fX7_overDirectly_L64] at hf
  refine lv_ior C.1 C.2.1 dX7_overDirectly_64 ?_
  refine lv_istore_n (lv' := [(3, .int (y0 ||| y1)), (0, .ref (ad 2)), (1, .int x1), (4, .int x4)]) C.1 C.2.1 dX7_overDirectly_65 rfl hl (by decide) rfl (fun ls hl => ?_)
  refine lv_iinc (v := (x4 + 1)) (lv' := [(4, .int (x4 + 1)), (3, .int (y0 ||| y1)), (0, .ref (ad 2)), (1, .int x1)]) C.1 C.2.1 dX7_overDirectly_66 hl (k := 3) rfl rfl (by decide) rfl (fun ls hl => ?_)
  refine lv_goto (tgt := 28) C.1 C.2.1 dX7_overDirectly_69 (by decide) ?_
  exact hK28 x1 (y0 ||| y1) (x4 + 1) _ (lv_sub hl [2, 3, 1, 0] rfl) hf
set_option maxRecDepth 100000 in
set_option maxHeartbeats 4000000 in
theorem bX7_overDirectly_L28 {r0 : Int32} (C : Cx p s m args meth c cX7_overDirectly 6 RX7 (some .int) g) (hZ : SF (fun _ => False) s) (n : Nat) : ∀ (x1 : Int32) (x3 : Int32) (x4 : Int32), va_P g.1 vwCl (cW g ad u) s.heap → ∀ (ls : Array Slot), lv_has ls 6 [(0, .ref (ad 2)), (1, .int x1), (3, .int x3), (4, .int x4)] → fX7_overDirectly_L28 u n x1 x3 x4 = some r0 → W p l e (rmR 1 22) s m args below meth c s.heap [] 0 0 (MQ below (vp_Si (fun r => r = r0)) args s 0 0 (fun _ => False)) (F0 m 28 ls []) := by
  induction n with
  | zero =>
    intro x1 x3 x4 hP ls hl hf
    exact absurd hf (by simp [fX7_overDirectly_L28])
  | succ n ih0 =>
    intro x1 x3 x4 hP ls hl hf
    have ih := fun (x1 : Int32) (x3 : Int32) (x4 : Int32) => ih0 x1 x3 x4 hP
    rw [fX7_overDirectly_L28] at hf
    refine lv_iload C.1 C.2.1 dX7_overDirectly_28 (lv_at hl 3 rfl) ?_
    refine lv_iconst (v := 3) C.1 C.2.1 dX7_overDirectly_30 (by decide) ?_
    refine lv_icmp_ge (tgt := 72) C.1 C.2.1 dX7_overDirectly_31 (by decide) (fun c4 => ?_) (fun c4 => ?_)
    · rw [if_pos c4] at hf
      refine lv_iload_n C.1 C.2.1 dX7_overDirectly_72 rfl (lv_at hl 2 rfl) ?_
      exact endRi C hf dX7_overDirectly_73
    · rw [if_neg c4] at hf
      refine lv_aload_n C.1 C.2.1 dX7_overDirectly_34 rfl (lv_at hl 0 rfl) ?_
      refine lv_iload_n C.1 C.2.1 dX7_overDirectly_35 rfl (lv_at hl 1 rfl) ?_
      refine lv_iload C.1 C.2.1 dX7_overDirectly_36 (lv_at hl 3 rfl) ?_
      obtain ⟨v5, hv5, hf⟩ := Option.bind_eq_some_iff.mp hf
      refine cRi (As := [.int x1, .int x4]) (rest := []) C (mX7_faceAt hv5) vX7_faceAt wM_X7_60 ⟨Nat.le_of_ble_eq_true rfl, Nat.le_of_ble_eq_true rfl⟩ hP (rcc_X7 C hP) (fun U hU hW => SF.go hZ va_S.rf hU hW (fun _ h => h)) hl.1 rfl rfl (Nat.le_of_ble_eq_true rfl) dX7_overDirectly_38 ⟨Nat.le_of_ble_eq_true rfl, Nat.le_of_ble_eq_true rfl⟩ ?_
      refine lv_istore (lv' := [(5, .int v5), (0, .ref (ad 2)), (1, .int x1), (3, .int x3), (4, .int x4)]) C.1 C.2.1 dX7_overDirectly_41 hl (by decide) rfl (fun ls hl => ?_)
      refine lv_iload_n C.1 C.2.1 dX7_overDirectly_43 rfl (lv_at hl 3 rfl) ?_
      refine lv_aload_n C.1 C.2.1 dX7_overDirectly_44 rfl (lv_at hl 1 rfl) ?_
      refine lv_iload C.1 C.2.1 dX7_overDirectly_45 (lv_at hl 0 rfl) ?_
      obtain ⟨v6, hv6, hf⟩ := Option.bind_eq_some_iff.mp hf
      refine cRi (As := [.int v5]) (rest := [.int x3]) C (mX7_isType hv6) vX7_isType wM_X7_45 ⟨Nat.le_of_ble_eq_true rfl, Nat.le_of_ble_eq_true rfl⟩ hP (rcc_X7 C hP) (fun U hU hW => SF.go hZ va_S.rf hU hW (fun _ h => h)) hl.1 rfl rfl (Nat.le_of_ble_eq_true rfl) dX7_overDirectly_47 ⟨Nat.le_of_ble_eq_true rfl, Nat.le_of_ble_eq_true rfl⟩ ?_
      refine lv_if_eq (tgt := 63) C.1 C.2.1 dX7_overDirectly_50 (by decide) (fun c7 => ?_) (fun c7 => ?_)
      · rw [if_pos c7] at hf
        refine lv_iconst (v := 0) C.1 C.2.1 dX7_overDirectly_63 (by decide) ?_
        exact bX7_overDirectly_L64 C hZ ih hP (lv_sub hl [1, 2, 4] rfl) hf
      · rw [if_neg c7] at hf
        refine lv_aload_n C.1 C.2.1 dX7_overDirectly_53 rfl (lv_at hl 1 rfl) ?_
        refine gtc_X7_over C hP wF_X7_28 dX7_overDirectly_54 ?_
        refine lv_iload C.1 C.2.1 dX7_overDirectly_57 (lv_at hl 0 rfl) ?_
        obtain ⟨v8, hv8, hf⟩ := Option.bind_eq_some_iff.mp hf
        refine ldc_13 C hP hv8 dX7_overDirectly_59 ?_
        refine lv_goto (tgt := 64) C.1 C.2.1 dX7_overDirectly_60 (by decide) ?_
        exact bX7_overDirectly_L64 C hZ ih hP (lv_sub hl [1, 2, 4] rfl) hf
set_option maxRecDepth 100000 in
set_option maxHeartbeats 4000000 in
theorem bX7_overDirectly_L24 {r0 : Int32} {x1 : Int32} {y0 : Int32} (C : Cx p s m args meth c cX7_overDirectly 6 RX7 (some .int) g) (hZ : SF (fun _ => False) s) (hP : va_P g.1 vwCl (cW g ad u) s.heap) (hl : lv_has ls 6 [(0, .ref (ad 2)), (1, .int x1)]) (hf : fX7_overDirectly_L24 u x1 y0 = some r0) : W p l e (rmR 1 22) s m args below meth c s.heap [] 0 0 (MQ below (vp_Si (fun r => r = r0)) args s 0 0 (fun _ => False)) (F0 m 24 ls [.int y0]) := by
  rw [fX7_overDirectly_L24] at hf
  refine lv_istore_n (lv' := [(3, .int y0), (0, .ref (ad 2)), (1, .int x1)]) C.1 C.2.1 dX7_overDirectly_24 rfl hl (by decide) rfl (fun ls hl => ?_)
  refine lv_iconst (v := 0) C.1 C.2.1 dX7_overDirectly_25 (by decide) ?_
  refine lv_istore (lv' := [(4, .int 0), (3, .int y0), (0, .ref (ad 2)), (1, .int x1)]) C.1 C.2.1 dX7_overDirectly_26 hl (by decide) rfl (fun ls hl => ?_)
  exact bX7_overDirectly_L28 C hZ 5000 x1 y0 0 hP _ (lv_sub hl [2, 3, 1, 0] rfl) hf
set_option maxRecDepth 100000 in
set_option maxHeartbeats 4000000 in
theorem mX7_overDirectly {r0 : Int32} {x1 : Int32} (hf : fX7_overDirectly u x1 = some r0) : MRi l yX7_overDirectly cX7_overDirectly 6 (some .int) 1 22 [.ref (ad 2), .int x1] g (cW g ad u) r0 := by
  refine entR (by decide) (Nat.le_of_ble_eq_true rfl) ?_
  intro p e s m below meth c ls C hP hZ hl
  have hl : lv_has ls 6 [(0, .ref (ad 2)), (1, .int x1)] := hl
  rw [fX7_overDirectly] at hf
  refine lv_aload_n C.1 C.2.1 dX7_overDirectly_0 rfl (lv_at hl 0 rfl) ?_
  refine lv_iload_n C.1 C.2.1 dX7_overDirectly_1 rfl (lv_at hl 1 rfl) ?_
  obtain ⟨v1, hv1, hf⟩ := Option.bind_eq_some_iff.mp hf
  refine cRi (As := [.int x1]) (rest := []) C (mX7_whatIsAbove hv1) vX7_whatIsAbove wM_X7_71 ⟨Nat.le_of_ble_eq_true rfl, Nat.le_of_ble_eq_true rfl⟩ hP (rcc_X7 C hP) (fun U hU hW => SF.go hZ va_S.rf hU hW (fun _ h => h)) hl.1 rfl rfl (Nat.le_of_ble_eq_true rfl) dX7_overDirectly_2 ⟨Nat.le_of_ble_eq_true rfl, Nat.le_of_ble_eq_true rfl⟩ ?_
  refine lv_istore_n (lv' := [(2, .int v1), (0, .ref (ad 2)), (1, .int x1)]) C.1 C.2.1 dX7_overDirectly_5 rfl hl (by decide) rfl (fun ls hl => ?_)
  refine lv_aload_n C.1 C.2.1 dX7_overDirectly_6 rfl (lv_at hl 1 rfl) ?_
  refine lv_iload_n C.1 C.2.1 dX7_overDirectly_7 rfl (lv_at hl 0 rfl) ?_
  obtain ⟨v2, hv2, hf⟩ := Option.bind_eq_some_iff.mp hf
  refine cRi (As := [.int v1]) (rest := []) C (mX7_isType hv2) vX7_isType wM_X7_45 ⟨Nat.le_of_ble_eq_true rfl, Nat.le_of_ble_eq_true rfl⟩ hP (rcc_X7 C hP) (fun U hU hW => SF.go hZ va_S.rf hU hW (fun _ h => h)) hl.1 rfl rfl (Nat.le_of_ble_eq_true rfl) dX7_overDirectly_8 ⟨Nat.le_of_ble_eq_true rfl, Nat.le_of_ble_eq_true rfl⟩ ?_
  refine lv_if_eq (tgt := 23) C.1 C.2.1 dX7_overDirectly_11 (by decide) (fun c3 => ?_) (fun c3 => ?_)
  · rw [if_pos c3] at hf
    refine lv_iconst (v := 0) C.1 C.2.1 dX7_overDirectly_23 (by decide) ?_
    exact bX7_overDirectly_L24 C hZ hP (lv_sub hl [1, 2] rfl) hf
  · rw [if_neg c3] at hf
    refine lv_aload_n C.1 C.2.1 dX7_overDirectly_14 rfl (lv_at hl 1 rfl) ?_
    refine gtc_X7_over C hP wF_X7_28 dX7_overDirectly_15 ?_
    refine lv_iload_n C.1 C.2.1 dX7_overDirectly_18 rfl (lv_at hl 0 rfl) ?_
    obtain ⟨v9, hv9, hf⟩ := Option.bind_eq_some_iff.mp hf
    refine ldc_13 C hP hv9 dX7_overDirectly_19 ?_
    refine lv_goto (tgt := 24) C.1 C.2.1 dX7_overDirectly_20 (by decide) ?_
    exact bX7_overDirectly_L24 C hZ hP (lv_sub hl [1, 2] rfl) hf
end
theorem vX7_overDirectly : YV yX7_overDirectly cX7_overDirectly 6 (some .int) 1 := ⟨⟨wK_X7_overDirectly, wZ_X7, by decide +kernel⟩, wI_X7_overDirectly, wV_X7_overDirectly⟩
def fX7_findOver_L85 (K43 : ST → Int32 → Int32 → Int32 → Option ST) (u : ST) (x2 : Int32) (x3 : Int32) (x4 : Int32) (y0 : Int32) : Option ST :=
  (stI u 13 12 x3 x4).bind fun u8 =>
  K43 u8 y0 x2 (x3 + 1)
def fX7_findOver_L80 (K43 : ST → Int32 → Int32 → Int32 → Option ST) (u : ST) (x2 : Int32) (x3 : Int32) (x4 : Int32) : Option ST :=
  fX7_findOver_L85 K43 u x2 x3 x4 1
def fX7_findOver_L43 (K29 : ST → Int32 → Int32 → Option ST) : Nat → ST → Int32 → Int32 → Int32 → Option ST
  | 0, _, _, _, _ => none
  | n + 1, u, x1, x2, x3 =>
    if (sI u 200) ≤ x3 then
      K29 u x1 (x2 + 1)
    else
      (rdI u 13 12 x3).bind fun v5 =>
      (fX7_overDirectly u x3).bind fun v6 =>
      if x1 = 0 then
        (rdI u 13 12 x3).bind fun v9 =>
        if (v5 ||| v6) = v9 then
          fX7_findOver_L85 (fX7_findOver_L43 K29 n) u x2 x3 (v5 ||| v6) 0
        else
          fX7_findOver_L80 (fX7_findOver_L43 K29 n) u x2 x3 (v5 ||| v6)
      else
        fX7_findOver_L80 (fX7_findOver_L43 K29 n) u x2 x3 (v5 ||| v6)
def fX7_findOver_L29 : Nat → ST → Int32 → Int32 → Option ST
  | 0, _, _, _ => none
  | n + 1, u, x1, x2 =>
    if x1 = 0 then
      some u
    else
      if 12 ≤ x2 then
        some u
      else
        fX7_findOver_L43 (fX7_findOver_L29 n) 5000 u 0 x2 0
def fX7_findOver_L2 : Nat → ST → Int32 → Option ST
  | 0, _, _ => none
  | n + 1, u, x1 =>
    if (sI u 200) ≤ x1 then
      fX7_findOver_L29 5000 u 1 0
    else
      (stI u 13 12 x1 (1 <<< (x1 &&& 31))).bind fun u11 =>
      fX7_findOver_L2 n u11 (x1 + 1)
def fX7_findOver (u : ST) : Option ST :=
  fX7_findOver_L2 5000 u 0
section
variable {p : Program} {l : Launch} {e : Env} {s : State} {m : MethodId} {args : Array Value} {below : List Frame} {meth : Method} {c : Code} {H : Heap} {locs : List Loc} {g : GP} {ls : Array Slot} {A : Nat → Prop} {ad : Nat → Nat} {u : ST}
set_option maxRecDepth 100000 in
set_option maxHeartbeats 4000000 in
theorem bX7_findOver_L85 {u0 : ST} {K43 : ST → Int32 → Int32 → Int32 → Option ST} {x2 : Int32} {x3 : Int32} {x4 : Int32} {y0 : Int32} (C : Cx p s m args meth c cX7_findOver 5 RX7 none g) (hA : ∀ q, s.heap.size ≤ q → A q) (hZ : SF A s) (hK43 : ∀ (u : ST) (x1 : Int32) (x2 : Int32) (x3 : Int32) (H : Heap) (locs : List Loc), va_P g.1 vwCl (cW g ad u) H → va_D A (cW g ad u) → va_S A s.heap H locs → ∀ (ls : Array Slot), lv_has ls 5 [(0, .ref (ad 2)), (1, .int x1), (2, .int x2), (3, .int x3)] → K43 u x1 x2 x3 = some u0 → W p l e (rmW 2 47 0 0) s m args below meth c H locs 0 0 (MQ below (va_Qv (fun v => v = u0) (BW g A (cW g ad)) A) args s 0 0 A) (F0 m 43 ls [])) (hP : va_P g.1 vwCl (cW g ad u) H) (hD : va_D A (cW g ad u)) (hS : va_S A s.heap H locs) (hl : lv_has ls 5 [(0, .ref (ad 2)), (2, .int x2), (3, .int x3), (4, .int x4)]) (hf : fX7_findOver_L85 K43 u x2 x3 x4 y0 = some u0) : W p l e (rmW 2 47 0 0) s m args below meth c H locs 0 0 (MQ below (va_Qv (fun v => v = u0) (BW g A (cW g ad)) A) args s 0 0 A) (F0 m 85 ls [.int y0]) := by
  rw [fX7_findOver_L85] at hf
  refine lv_istore_n (lv' := [(1, .int y0), (0, .ref (ad 2)), (2, .int x2), (3, .int x3), (4, .int x4)]) C.1 C.2.1 dX7_findOver_85 rfl hl (by decide) rfl (fun ls hl => ?_)
  refine lv_aload_n C.1 C.2.1 dX7_findOver_86 rfl (lv_at hl 1 rfl) ?_
  refine gtc_X7_over C hP wF_X7_28 dX7_findOver_87 ?_
  refine lv_iload_n C.1 C.2.1 dX7_findOver_90 rfl (lv_at hl 3 rfl) ?_
  refine lv_iload C.1 C.2.1 dX7_findOver_91 (lv_at hl 4 rfl) ?_
  obtain ⟨u8, hu8, hf⟩ := Option.bind_eq_some_iff.mp hf
  refine stc_13 C hP hD hS hu8 dX7_findOver_93 (fun H locs hP hD hS => ?_)
  refine lv_iinc (v := (x3 + 1)) (lv' := [(3, .int (x3 + 1)), (1, .int y0), (0, .ref (ad 2)), (2, .int x2), (4, .int x4)]) C.1 C.2.1 dX7_findOver_94 hl (k := 3) rfl rfl (by decide) rfl (fun ls hl => ?_)
  refine lv_goto (tgt := 43) C.1 C.2.1 dX7_findOver_97 (by decide) ?_
  exact hK43 u8 y0 x2 (x3 + 1) _ _ hP hD hS _ (lv_sub hl [2, 1, 3, 0] rfl) hf
set_option maxRecDepth 100000 in
set_option maxHeartbeats 4000000 in
theorem bX7_findOver_L80 {u0 : ST} {K43 : ST → Int32 → Int32 → Int32 → Option ST} {x2 : Int32} {x3 : Int32} {x4 : Int32} (C : Cx p s m args meth c cX7_findOver 5 RX7 none g) (hA : ∀ q, s.heap.size ≤ q → A q) (hZ : SF A s) (hK43 : ∀ (u : ST) (x1 : Int32) (x2 : Int32) (x3 : Int32) (H : Heap) (locs : List Loc), va_P g.1 vwCl (cW g ad u) H → va_D A (cW g ad u) → va_S A s.heap H locs → ∀ (ls : Array Slot), lv_has ls 5 [(0, .ref (ad 2)), (1, .int x1), (2, .int x2), (3, .int x3)] → K43 u x1 x2 x3 = some u0 → W p l e (rmW 2 47 0 0) s m args below meth c H locs 0 0 (MQ below (va_Qv (fun v => v = u0) (BW g A (cW g ad)) A) args s 0 0 A) (F0 m 43 ls [])) (hP : va_P g.1 vwCl (cW g ad u) H) (hD : va_D A (cW g ad u)) (hS : va_S A s.heap H locs) (hl : lv_has ls 5 [(0, .ref (ad 2)), (2, .int x2), (3, .int x3), (4, .int x4)]) (hf : fX7_findOver_L80 K43 u x2 x3 x4 = some u0) : W p l e (rmW 2 47 0 0) s m args below meth c H locs 0 0 (MQ below (va_Qv (fun v => v = u0) (BW g A (cW g ad)) A) args s 0 0 A) (F0 m 80 ls []) := by
  rw [fX7_findOver_L80] at hf
  refine lv_iconst (v := 1) C.1 C.2.1 dX7_findOver_80 (by decide) ?_
  refine lv_goto (tgt := 85) C.1 C.2.1 dX7_findOver_81 (by decide) ?_
  exact bX7_findOver_L85 C hA hZ hK43 hP hD hS (lv_sub hl [0, 1, 2, 3] rfl) hf
set_option maxRecDepth 100000 in
set_option maxHeartbeats 4000000 in
theorem bX7_findOver_L43 {u0 : ST} {K29 : ST → Int32 → Int32 → Option ST} (C : Cx p s m args meth c cX7_findOver 5 RX7 none g) (hA : ∀ q, s.heap.size ≤ q → A q) (hZ : SF A s) (hK29 : ∀ (u : ST) (x1 : Int32) (x2 : Int32) (H : Heap) (locs : List Loc), va_P g.1 vwCl (cW g ad u) H → va_D A (cW g ad u) → va_S A s.heap H locs → ∀ (ls : Array Slot), lv_has ls 5 [(0, .ref (ad 2)), (1, .int x1), (2, .int x2)] → K29 u x1 x2 = some u0 → W p l e (rmW 2 47 0 0) s m args below meth c H locs 0 0 (MQ below (va_Qv (fun v => v = u0) (BW g A (cW g ad)) A) args s 0 0 A) (F0 m 29 ls [])) : ∀ (n : Nat), ∀ (u : ST) (x1 : Int32) (x2 : Int32) (x3 : Int32) (H : Heap) (locs : List Loc), va_P g.1 vwCl (cW g ad u) H → va_D A (cW g ad u) → va_S A s.heap H locs → ∀ (ls : Array Slot), lv_has ls 5 [(0, .ref (ad 2)), (1, .int x1), (2, .int x2), (3, .int x3)] → fX7_findOver_L43 K29 n u x1 x2 x3 = some u0 → W p l e (rmW 2 47 0 0) s m args below meth c H locs 0 0 (MQ below (va_Qv (fun v => v = u0) (BW g A (cW g ad)) A) args s 0 0 A) (F0 m 43 ls []) := by
  intro n
  induction n with
  | zero =>
    intro u x1 x2 x3 H locs hP hD hS ls hl hf
    exact absurd hf (by simp [fX7_findOver_L43])
  | succ n ih =>
    intro u x1 x2 x3 H locs hP hD hS ls hl hf
    rw [fX7_findOver_L43] at hf
    refine lv_iload_n C.1 C.2.1 dX7_findOver_43 rfl (lv_at hl 3 rfl) ?_
    refine lv_aload_n C.1 C.2.1 dX7_findOver_44 rfl (lv_at hl 0 rfl) ?_
    refine gtc_X7_size C hP wF_X7_34 dX7_findOver_45 ?_
    refine lv_icmp_ge (tgt := 100) C.1 C.2.1 dX7_findOver_48 (by decide) (fun c4 => ?_) (fun c4 => ?_)
    · rw [if_pos c4] at hf
      refine lv_iinc (v := (x2 + 1)) (lv' := [(2, .int (x2 + 1)), (0, .ref (ad 2)), (1, .int x1), (3, .int x3)]) C.1 C.2.1 dX7_findOver_100 hl (k := 2) rfl rfl (by decide) rfl (fun ls hl => ?_)
      refine lv_goto (tgt := 29) C.1 C.2.1 dX7_findOver_103 (by decide) ?_
      exact hK29 u x1 (x2 + 1) _ _ hP hD hS _ (lv_sub hl [1, 2, 0] rfl) hf
    · rw [if_neg c4] at hf
      refine lv_aload_n C.1 C.2.1 dX7_findOver_51 rfl (lv_at hl 0 rfl) ?_
      refine gtc_X7_over C hP wF_X7_28 dX7_findOver_52 ?_
      refine lv_iload_n C.1 C.2.1 dX7_findOver_55 rfl (lv_at hl 3 rfl) ?_
      obtain ⟨v5, hv5, hf⟩ := Option.bind_eq_some_iff.mp hf
      refine ldc_13 C hP hv5 dX7_findOver_56 ?_
      refine lv_aload_n C.1 C.2.1 dX7_findOver_57 rfl (lv_at hl 0 rfl) ?_
      refine lv_iload_n C.1 C.2.1 dX7_findOver_58 rfl (lv_at hl 3 rfl) ?_
      obtain ⟨v6, hv6, hf⟩ := Option.bind_eq_some_iff.mp hf
      refine cRi (As := [.int x3]) (rest := [.int v5]) C (mX7_overDirectly hv6) vX7_overDirectly wM_X7_67 ⟨Nat.le_of_ble_eq_true rfl, Nat.le_of_ble_eq_true rfl⟩ hP (rcc_X7 C hP) (fun U hU hW => SF.go hZ hS hU hW (fun _ h => h.elim)) hl.1 rfl rfl (Nat.le_of_ble_eq_true rfl) dX7_findOver_59 ⟨Nat.le_of_ble_eq_true rfl, Nat.le_of_ble_eq_true rfl⟩ ?_
      refine lv_ior C.1 C.2.1 dX7_findOver_62 ?_
      refine lv_istore (lv' := [(4, .int (v5 ||| v6)), (0, .ref (ad 2)), (1, .int x1), (2, .int x2), (3, .int x3)]) C.1 C.2.1 dX7_findOver_63 hl (by decide) rfl (fun ls hl => ?_)
      refine lv_iload_n C.1 C.2.1 dX7_findOver_65 rfl (lv_at hl 2 rfl) ?_
      refine lv_if_ne (tgt := 80) C.1 C.2.1 dX7_findOver_66 (by decide) (fun c7 => ?_) (fun c7 => ?_)
      · rw [if_neg c7] at hf
        exact bX7_findOver_L80 C hA hZ ih hP hD hS (lv_sub hl [1, 3, 4, 0] rfl) hf
      · rw [if_pos c7] at hf
        refine lv_iload C.1 C.2.1 dX7_findOver_69 (lv_at hl 0 rfl) ?_
        refine lv_aload_n C.1 C.2.1 dX7_findOver_71 rfl (lv_at hl 1 rfl) ?_
        refine gtc_X7_over C hP wF_X7_28 dX7_findOver_72 ?_
        refine lv_iload_n C.1 C.2.1 dX7_findOver_75 rfl (lv_at hl 4 rfl) ?_
        obtain ⟨v9, hv9, hf⟩ := Option.bind_eq_some_iff.mp hf
        refine ldc_13 C hP hv9 dX7_findOver_76 ?_
        refine lv_icmp_eq (tgt := 84) C.1 C.2.1 dX7_findOver_77 (by decide) (fun c10 => ?_) (fun c10 => ?_)
        · rw [if_pos c10] at hf
          refine lv_iconst (v := 0) C.1 C.2.1 dX7_findOver_84 (by decide) ?_
          exact bX7_findOver_L85 C hA hZ ih hP hD hS (lv_sub hl [1, 3, 4, 0] rfl) hf
        · rw [if_neg c10] at hf
          exact bX7_findOver_L80 C hA hZ ih hP hD hS (lv_sub hl [1, 3, 4, 0] rfl) hf
set_option maxRecDepth 100000 in
set_option maxHeartbeats 4000000 in
theorem bX7_findOver_L29 {u0 : ST} (C : Cx p s m args meth c cX7_findOver 5 RX7 none g) (hA : ∀ q, s.heap.size ≤ q → A q) (hZ : SF A s) : ∀ (n : Nat), ∀ (u : ST) (x1 : Int32) (x2 : Int32) (H : Heap) (locs : List Loc), va_P g.1 vwCl (cW g ad u) H → va_D A (cW g ad u) → va_S A s.heap H locs → ∀ (ls : Array Slot), lv_has ls 5 [(0, .ref (ad 2)), (1, .int x1), (2, .int x2)] → fX7_findOver_L29 n u x1 x2 = some u0 → W p l e (rmW 2 47 0 0) s m args below meth c H locs 0 0 (MQ below (va_Qv (fun v => v = u0) (BW g A (cW g ad)) A) args s 0 0 A) (F0 m 29 ls []) := by
  intro n
  induction n with
  | zero =>
    intro u x1 x2 H locs hP hD hS ls hl hf
    exact absurd hf (by simp [fX7_findOver_L29])
  | succ n ih =>
    intro u x1 x2 H locs hP hD hS ls hl hf
    rw [fX7_findOver_L29] at hf
    refine lv_iload_n C.1 C.2.1 dX7_findOver_29 rfl (lv_at hl 1 rfl) ?_
    refine lv_if_eq (tgt := 106) C.1 C.2.1 dX7_findOver_30 (by decide) (fun c2 => ?_) (fun c2 => ?_)
    · rw [if_pos c2] at hf
      exact endWv C hP hD hS (Nat.le_refl _) (Nat.le_refl _) hf dX7_findOver_106
    · rw [if_neg c2] at hf
      refine lv_iload_n C.1 C.2.1 dX7_findOver_33 rfl (lv_at hl 2 rfl) ?_
      refine lv_bipush (v := 12) C.1 C.2.1 dX7_findOver_34 (by decide) ?_
      refine lv_icmp_ge (tgt := 106) C.1 C.2.1 dX7_findOver_36 (by decide) (fun c3 => ?_) (fun c3 => ?_)
      · rw [if_pos c3] at hf
        exact endWv C hP hD hS (Nat.le_refl _) (Nat.le_refl _) hf dX7_findOver_106
      · rw [if_neg c3] at hf
        refine lv_iconst (v := 0) C.1 C.2.1 dX7_findOver_39 (by decide) ?_
        refine lv_istore_n (lv' := [(1, .int 0), (0, .ref (ad 2)), (2, .int x2)]) C.1 C.2.1 dX7_findOver_40 rfl hl (by decide) rfl (fun ls hl => ?_)
        refine lv_iconst (v := 0) C.1 C.2.1 dX7_findOver_41 (by decide) ?_
        refine lv_istore_n (lv' := [(3, .int 0), (1, .int 0), (0, .ref (ad 2)), (2, .int x2)]) C.1 C.2.1 dX7_findOver_42 rfl hl (by decide) rfl (fun ls hl => ?_)
        exact bX7_findOver_L43 C hA hZ ih 5000 u 0 x2 0 _ _ hP hD hS _ (lv_sub hl [2, 1, 3, 0] rfl) hf
set_option maxRecDepth 100000 in
set_option maxHeartbeats 4000000 in
theorem bX7_findOver_L2 {u0 : ST} (C : Cx p s m args meth c cX7_findOver 5 RX7 none g) (hA : ∀ q, s.heap.size ≤ q → A q) (hZ : SF A s) : ∀ (n : Nat), ∀ (u : ST) (x1 : Int32) (H : Heap) (locs : List Loc), va_P g.1 vwCl (cW g ad u) H → va_D A (cW g ad u) → va_S A s.heap H locs → ∀ (ls : Array Slot), lv_has ls 5 [(0, .ref (ad 2)), (1, .int x1)] → fX7_findOver_L2 n u x1 = some u0 → W p l e (rmW 2 47 0 0) s m args below meth c H locs 0 0 (MQ below (va_Qv (fun v => v = u0) (BW g A (cW g ad)) A) args s 0 0 A) (F0 m 2 ls []) := by
  intro n
  induction n with
  | zero =>
    intro u x1 H locs hP hD hS ls hl hf
    exact absurd hf (by simp [fX7_findOver_L2])
  | succ n ih =>
    intro u x1 H locs hP hD hS ls hl hf
    rw [fX7_findOver_L2] at hf
    refine lv_iload_n C.1 C.2.1 dX7_findOver_2 rfl (lv_at hl 1 rfl) ?_
    refine lv_aload_n C.1 C.2.1 dX7_findOver_3 rfl (lv_at hl 0 rfl) ?_
    refine gtc_X7_size C hP wF_X7_34 dX7_findOver_4 ?_
    refine lv_icmp_ge (tgt := 25) C.1 C.2.1 dX7_findOver_7 (by decide) (fun c1 => ?_) (fun c1 => ?_)
    · rw [if_pos c1] at hf
      refine lv_iconst (v := 1) C.1 C.2.1 dX7_findOver_25 (by decide) ?_
      refine lv_istore_n (lv' := [(1, .int 1), (0, .ref (ad 2))]) C.1 C.2.1 dX7_findOver_26 rfl hl (by decide) rfl (fun ls hl => ?_)
      refine lv_iconst (v := 0) C.1 C.2.1 dX7_findOver_27 (by decide) ?_
      refine lv_istore_n (lv' := [(2, .int 0), (1, .int 1), (0, .ref (ad 2))]) C.1 C.2.1 dX7_findOver_28 rfl hl (by decide) rfl (fun ls hl => ?_)
      exact bX7_findOver_L29 C hA hZ 5000 u 1 0 _ _ hP hD hS _ (lv_sub hl [2, 1, 0] rfl) hf
    · rw [if_neg c1] at hf
      refine lv_aload_n C.1 C.2.1 dX7_findOver_10 rfl (lv_at hl 0 rfl) ?_
      refine gtc_X7_over C hP wF_X7_28 dX7_findOver_11 ?_
      refine lv_iload_n C.1 C.2.1 dX7_findOver_14 rfl (lv_at hl 1 rfl) ?_
      refine lv_iconst (v := 1) C.1 C.2.1 dX7_findOver_15 (by decide) ?_
      refine lv_iload_n C.1 C.2.1 dX7_findOver_16 rfl (lv_at hl 1 rfl) ?_
      refine lv_ishl C.1 C.2.1 dX7_findOver_17 ?_
      obtain ⟨u11, hu11, hf⟩ := Option.bind_eq_some_iff.mp hf
      refine stc_13 C hP hD hS hu11 dX7_findOver_18 (fun H locs hP hD hS => ?_)
      refine lv_iinc (v := (x1 + 1)) (lv' := [(1, .int (x1 + 1)), (0, .ref (ad 2))]) C.1 C.2.1 dX7_findOver_19 hl (k := 1) rfl rfl (by decide) rfl (fun ls hl => ?_)
      refine lv_goto (tgt := 2) C.1 C.2.1 dX7_findOver_22 (by decide) ?_
      exact ih u11 (x1 + 1) _ _ hP hD hS _ (lv_sub hl [1, 0] rfl) hf
set_option maxRecDepth 100000 in
set_option maxHeartbeats 4000000 in
theorem mX7_findOver {u0 : ST} (hf : fX7_findOver u = some u0) : MWv l yX7_findOver cX7_findOver 5 none 2 47 0 0 [.ref (ad 2)] g (cW g ad) u u0 := by
  refine entW (Qc := fun A => va_Qv (fun v => v = u0) (BW g A (cW g ad)) A) (by decide) (Nat.le_of_ble_eq_true rfl) ?_
  intro p e s m below meth c ls A C hP hD hS hA hZ hl
  have hl : lv_has ls 5 [(0, .ref (ad 2))] := hl
  rw [fX7_findOver] at hf
  refine lv_iconst (v := 0) C.1 C.2.1 dX7_findOver_0 (by decide) ?_
  refine lv_istore_n (lv' := [(1, .int 0), (0, .ref (ad 2))]) C.1 C.2.1 dX7_findOver_1 rfl hl (by decide) rfl (fun ls hl => ?_)
  exact bX7_findOver_L2 C hA hZ 5000 u 0 _ _ hP hD hS _ (lv_sub hl [1, 0] rfl) hf
end
theorem vX7_findOver : YV yX7_findOver cX7_findOver 5 none 0 := ⟨⟨wK_X7_findOver, wZ_X7, by decide +kernel⟩, wI_X7_findOver, wV_X7_findOver⟩
def fX9_toldOf (u : ST) (x1 : Int32) (x2 : Int32) : Option Int32 :=
  if x2 = 0 then
    (rdI u 1 12 x1).bind fun v2 =>
    if v2 = 0 then
      some 0
    else
      some 1
  else
  if x2 = 1 then
    (rdI u 2 12 x1).bind fun v5 =>
    some v5
  else
  if x2 = 2 then
    (rdI u 3 12 x1).bind fun v7 =>
    some v7
  else
  if x2 = 3 then
    (rdI u 4 12 x1).bind fun v9 =>
    some v9
  else
    (rdI u 4 12 x1).bind fun v10 =>
    if v10 ≤ (x2 - 4) then
      some (-2)
    else
      (rdI u 5 36 (((3 * x1) + x2) - 4)).bind fun v12 =>
      some v12
section
variable {p : Program} {l : Launch} {e : Env} {s : State} {m : MethodId} {args : Array Value} {below : List Frame} {meth : Method} {c : Code} {H : Heap} {locs : List Loc} {g : GP} {ls : Array Slot} {A : Nat → Prop} {ad : Nat → Nat} {u : ST}
set_option maxRecDepth 100000 in
set_option maxHeartbeats 4000000 in
theorem mX9_toldOf {r0 : Int32} {x1 : Int32} {x2 : Int32} (hf : fX9_toldOf u x1 x2 = some r0) : MRi l yX9_toldOf cX9_toldOf 3 (some .int) 0 0 [.ref (ad 0), .int x1, .int x2] g (mW g ad u) r0 := by
  refine entR (by decide) (Nat.le_of_ble_eq_true rfl) ?_
  intro p e s m below meth c ls C hP hZ hl
  have hl : lv_has ls 3 [(0, .ref (ad 0)), (1, .int x1), (2, .int x2)] := hl
  rw [fX9_toldOf] at hf
  refine lv_iload_n C.1 C.2.1 dX9_toldOf_0 rfl (lv_at hl 2 rfl) ?_
  by_cases c1 : x2 = 0
  · rw [if_pos c1] at hf
    have e9 : (x2 : Int32).toInt = 0 := by rw [c1]; rfl
    refine lv_tableIn (off := 31) (tgt := 32) C.1 C.2.1 dX9_toldOf_1 (by rw [e9]; decide) (by rw [e9]; decide) (by rw [e9]; rfl) (by decide) ?_
    refine lv_aload_n C.1 C.2.1 dX9_toldOf_32 rfl (lv_at hl 0 rfl) ?_
    refine gtm_X9_isFace C hP wF_X9_7 dX9_toldOf_33 ?_
    refine lv_iload_n C.1 C.2.1 dX9_toldOf_36 rfl (lv_at hl 1 rfl) ?_
    obtain ⟨v2, hv2, hf⟩ := Option.bind_eq_some_iff.mp hf
    refine ldm_1 C hP hv2 dX9_toldOf_37 ?_
    refine lv_if_eq (tgt := 45) C.1 C.2.1 dX9_toldOf_38 (by decide) (fun c3 => ?_) (fun c3 => ?_)
    · rw [if_pos c3] at hf
      refine lv_iconst (v := 0) C.1 C.2.1 dX9_toldOf_45 (by decide) ?_
      exact endRi C hf dX9_toldOf_46
    · rw [if_neg c3] at hf
      refine lv_iconst (v := 1) C.1 C.2.1 dX9_toldOf_41 (by decide) ?_
      refine lv_goto (tgt := 46) C.1 C.2.1 dX9_toldOf_42 (by decide) ?_
      exact endRi C hf dX9_toldOf_46
  rw [if_neg c1] at hf
  by_cases c4 : x2 = 1
  · rw [if_pos c4] at hf
    have e9 : (x2 : Int32).toInt = 1 := by rw [c4]; rfl
    refine lv_tableIn (off := 46) (tgt := 47) C.1 C.2.1 dX9_toldOf_1 (by rw [e9]; decide) (by rw [e9]; decide) (by rw [e9]; rfl) (by decide) ?_
    refine lv_aload_n C.1 C.2.1 dX9_toldOf_47 rfl (lv_at hl 0 rfl) ?_
    refine gtm_X9_over C hP wF_X9_13 dX9_toldOf_48 ?_
    refine lv_iload_n C.1 C.2.1 dX9_toldOf_51 rfl (lv_at hl 1 rfl) ?_
    obtain ⟨v5, hv5, hf⟩ := Option.bind_eq_some_iff.mp hf
    refine ldm_2 C hP hv5 dX9_toldOf_52 ?_
    exact endRi C hf dX9_toldOf_53
  rw [if_neg c4] at hf
  by_cases c6 : x2 = 2
  · rw [if_pos c6] at hf
    have e9 : (x2 : Int32).toInt = 2 := by rw [c6]; rfl
    refine lv_tableIn (off := 53) (tgt := 54) C.1 C.2.1 dX9_toldOf_1 (by rw [e9]; decide) (by rw [e9]; decide) (by rw [e9]; rfl) (by decide) ?_
    refine lv_aload_n C.1 C.2.1 dX9_toldOf_54 rfl (lv_at hl 0 rfl) ?_
    refine gtm_X9_tMarks C hP wF_X9_17 dX9_toldOf_55 ?_
    refine lv_iload_n C.1 C.2.1 dX9_toldOf_58 rfl (lv_at hl 1 rfl) ?_
    obtain ⟨v7, hv7, hf⟩ := Option.bind_eq_some_iff.mp hf
    refine ldm_3 C hP hv7 dX9_toldOf_59 ?_
    exact endRi C hf dX9_toldOf_60
  rw [if_neg c6] at hf
  by_cases c8 : x2 = 3
  · rw [if_pos c8] at hf
    have e9 : (x2 : Int32).toInt = 3 := by rw [c8]; rfl
    refine lv_tableIn (off := 60) (tgt := 61) C.1 C.2.1 dX9_toldOf_1 (by rw [e9]; decide) (by rw [e9]; decide) (by rw [e9]; rfl) (by decide) ?_
    refine lv_aload_n C.1 C.2.1 dX9_toldOf_61 rfl (lv_at hl 0 rfl) ?_
    refine gtm_X9_faceMany C hP wF_X9_20 dX9_toldOf_62 ?_
    refine lv_iload_n C.1 C.2.1 dX9_toldOf_65 rfl (lv_at hl 1 rfl) ?_
    obtain ⟨v9, hv9, hf⟩ := Option.bind_eq_some_iff.mp hf
    refine ldm_4 C hP hv9 dX9_toldOf_66 ?_
    exact endRi C hf dX9_toldOf_67
  rw [if_neg c8] at hf
  refine lv_tableOut (tgt := 68) C.1 C.2.1 dX9_toldOf_1 (by have q0 := neI c1 (k := 0) rfl; have q1 := neI c4 (k := 1) rfl; have q2 := neI c6 (k := 2) rfl; have q3 := neI c8 (k := 3) rfl; omega) (by decide) ?_
  refine lv_iload_n C.1 C.2.1 dX9_toldOf_68 rfl (lv_at hl 2 rfl) ?_
  refine lv_iconst (v := 4) C.1 C.2.1 dX9_toldOf_69 (by decide) ?_
  refine lv_isub C.1 C.2.1 dX9_toldOf_70 ?_
  refine lv_aload_n C.1 C.2.1 dX9_toldOf_71 rfl (lv_at hl 0 rfl) ?_
  refine gtm_X9_faceMany C hP wF_X9_20 dX9_toldOf_72 ?_
  refine lv_iload_n C.1 C.2.1 dX9_toldOf_75 rfl (lv_at hl 1 rfl) ?_
  obtain ⟨v10, hv10, hf⟩ := Option.bind_eq_some_iff.mp hf
  refine ldm_4 C hP hv10 dX9_toldOf_76 ?_
  refine lv_icmp_ge (tgt := 95) C.1 C.2.1 dX9_toldOf_77 (by decide) (fun c11 => ?_) (fun c11 => ?_)
  · rw [if_pos c11] at hf
    refine lv_bipush (v := -2) C.1 C.2.1 dX9_toldOf_95 (by decide) ?_
    exact endRi C hf dX9_toldOf_97
  · rw [if_neg c11] at hf
    refine lv_aload_n C.1 C.2.1 dX9_toldOf_80 rfl (lv_at hl 0 rfl) ?_
    refine gtm_X9_faces C hP wF_X9_23 dX9_toldOf_81 ?_
    refine lv_iconst (v := 3) C.1 C.2.1 dX9_toldOf_84 (by decide) ?_
    refine lv_iload_n C.1 C.2.1 dX9_toldOf_85 rfl (lv_at hl 1 rfl) ?_
    refine lv_imul C.1 C.2.1 dX9_toldOf_86 ?_
    refine lv_iload_n C.1 C.2.1 dX9_toldOf_87 rfl (lv_at hl 2 rfl) ?_
    refine lv_iadd C.1 C.2.1 dX9_toldOf_88 ?_
    refine lv_iconst (v := 4) C.1 C.2.1 dX9_toldOf_89 (by decide) ?_
    refine lv_isub C.1 C.2.1 dX9_toldOf_90 ?_
    obtain ⟨v12, hv12, hf⟩ := Option.bind_eq_some_iff.mp hf
    refine ldm_5 C hP hv12 dX9_toldOf_91 ?_
    refine lv_goto (tgt := 97) C.1 C.2.1 dX9_toldOf_92 (by decide) ?_
    exact endRi C hf dX9_toldOf_97
end
theorem vX9_toldOf : YV yX9_toldOf cX9_toldOf 3 (some .int) 2 := ⟨⟨wK_X9_toldOf, wZ_X9, by decide +kernel⟩, wI_X9_toldOf, wV_X9_toldOf⟩
