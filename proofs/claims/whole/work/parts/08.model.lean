def fX9_in (u : ST) (x0 : Int64) (x2 : Int64) (x4 : Int64) : Option Int32 :=
  if (lg_cmp x0 x2) < 0 then
    some 0
  else
    if 0 < (lg_cmp x0 x4) then
      some 0
    else
      some 1
section
variable {p : Program} {l : Launch} {e : Env} {s : State} {m : MethodId} {args : Array Value} {below : List Frame} {meth : Method} {c : Code} {H : Heap} {locs : List Loc} {g : GP} {ls : Array Slot} {A : Nat → Prop} {ad : Nat → Nat} {u : ST}
set_option maxRecDepth 100000 in
set_option maxHeartbeats 4000000 in
theorem mX9_in {r0 : Int32} {x0 : Int64} {x2 : Int64} {x4 : Int64} (hf : fX9_in u x0 x2 x4 = some r0) : MRi l yX9_in cX9_in 6 (some .boolean) 0 0 [.long x0, .long x2, .long x4] g (mW g ad u) r0 := by
  refine entR (by decide) (Nat.le_of_ble_eq_true rfl) ?_
  intro p e s m below meth c ls C hP hZ hl
  have hl : lv_has ls 6 [(0, .long x0), (2, .long x2), (4, .long x4)] := hl
  rw [fX9_in] at hf
  refine lv_lload_n C.1 C.2.1 dX9_in_0 rfl (lv_at hl 0 rfl) ?_
  refine lv_lload_n C.1 C.2.1 dX9_in_1 rfl (lv_at hl 1 rfl) ?_
  refine W.lcmp C.1 C.2.1 dX9_in_2 ?_
  refine lv_if_lt (tgt := 17) C.1 C.2.1 dX9_in_3 (by decide) (fun c1 => ?_) (fun c1 => ?_)
  · rw [if_pos c1] at hf
    refine lv_iconst (v := 0) C.1 C.2.1 dX9_in_17 (by decide) ?_
    exact endRz C rfl hf dX9_in_18
  · rw [if_neg c1] at hf
    refine lv_lload_n C.1 C.2.1 dX9_in_6 rfl (lv_at hl 0 rfl) ?_
    refine lv_lload C.1 C.2.1 dX9_in_7 (lv_at hl 2 rfl) ?_
    refine W.lcmp C.1 C.2.1 dX9_in_9 ?_
    refine lv_if_gt (tgt := 17) C.1 C.2.1 dX9_in_10 (by decide) (fun c2 => ?_) (fun c2 => ?_)
    · rw [if_pos c2] at hf
      refine lv_iconst (v := 0) C.1 C.2.1 dX9_in_17 (by decide) ?_
      exact endRz C rfl hf dX9_in_18
    · rw [if_neg c2] at hf
      refine lv_iconst (v := 1) C.1 C.2.1 dX9_in_13 (by decide) ?_
      refine lv_goto (tgt := 18) C.1 C.2.1 dX9_in_14 (by decide) ?_
      exact endRz C rfl hf dX9_in_18
end
theorem vX9_in : YS yX9_in cX9_in 6 (some .boolean) 3 := ⟨⟨wK_X9_in, wZ_X9, by decide +kernel⟩, wS_X9_in⟩
def fX9_isType (u : ST) (x1 : Int32) : Option Int32 :=
  (fX9_in u ((x1 : Int32).toInt64) 0 ((((sI u 0) - 1) : Int32).toInt64)).bind fun v1 =>
  ck (isB v1) (some v1)
section
variable {p : Program} {l : Launch} {e : Env} {s : State} {m : MethodId} {args : Array Value} {below : List Frame} {meth : Method} {c : Code} {H : Heap} {locs : List Loc} {g : GP} {ls : Array Slot} {A : Nat → Prop} {ad : Nat → Nat} {u : ST}
set_option maxRecDepth 100000 in
set_option maxHeartbeats 4000000 in
theorem mX9_isType {r0 : Int32} {x1 : Int32} (hf : fX9_isType u x1 = some r0) : MRi l yX9_isType cX9_isType 2 (some .boolean) 1 25 [.ref (ad 0), .int x1] g (mW g ad u) r0 := by
  refine entR (by decide) (Nat.le_of_ble_eq_true rfl) ?_
  intro p e s m below meth c ls C hP hZ hl
  have hl : lv_has ls 2 [(0, .ref (ad 0)), (1, .int x1)] := hl
  rw [fX9_isType] at hf
  refine lv_iload_n C.1 C.2.1 dX9_isType_0 rfl (lv_at hl 1 rfl) ?_
  refine lv_i2l C.1 C.2.1 dX9_isType_1 rfl ?_
  refine lv_lconst (v := 0) C.1 C.2.1 dX9_isType_2 (by decide) ?_
  refine lv_aload_n C.1 C.2.1 dX9_isType_3 rfl (lv_at hl 0 rfl) ?_
  refine gtm_X9_types C hP wF_X9_129 dX9_isType_4 ?_
  refine lv_iconst (v := 1) C.1 C.2.1 dX9_isType_7 (by decide) ?_
  refine lv_isub C.1 C.2.1 dX9_isType_8 ?_
  refine lv_i2l C.1 C.2.1 dX9_isType_9 rfl ?_
  obtain ⟨v1, hv1, hf⟩ := Option.bind_eq_some_iff.mp hf
  refine cSi (As := [.long ((x1 : Int32).toInt64), .long 0, .long ((((sI u 0) - 1) : Int32).toInt64)]) (rest := []) C (mX9_in hv1) vX9_in wM_X9_133 ⟨Nat.le_of_ble_eq_true rfl, Nat.le_of_ble_eq_true rfl⟩ hP (fun U hU hW => SF.go hZ va_S.rf hU hW (fun _ h => h)) hl.1 rfl rfl (Nat.le_of_ble_eq_true rfl) dX9_isType_10 ⟨Nat.le_of_ble_eq_true rfl, Nat.le_of_ble_eq_true rfl⟩ ?_
  obtain ⟨hB, hf⟩ := ck_some hf
  exact endRz C hB hf dX9_isType_13
end
theorem vX9_isType : YV yX9_isType cX9_isType 2 (some .boolean) 1 := ⟨⟨wK_X9_isType, wZ_X9, by decide +kernel⟩, wI_X9_isType, wV_X9_isType⟩
def fX9_isClass (u : ST) (x1 : Int32) : Option Int32 :=
  (fX9_isType u x1).bind fun v1 =>
  if v1 = 0 then
    some 0
  else
    (rdI u 1 12 x1).bind fun v3 =>
    if v3 = 0 then
      some 1
    else
      some 0
section
variable {p : Program} {l : Launch} {e : Env} {s : State} {m : MethodId} {args : Array Value} {below : List Frame} {meth : Method} {c : Code} {H : Heap} {locs : List Loc} {g : GP} {ls : Array Slot} {A : Nat → Prop} {ad : Nat → Nat} {u : ST}
set_option maxRecDepth 100000 in
set_option maxHeartbeats 4000000 in
theorem mX9_isClass {r0 : Int32} {x1 : Int32} (hf : fX9_isClass u x1 = some r0) : MRi l yX9_isClass cX9_isClass 2 (some .boolean) 2 46 [.ref (ad 0), .int x1] g (mW g ad u) r0 := by
  refine entR (by decide) (Nat.le_of_ble_eq_true rfl) ?_
  intro p e s m below meth c ls C hP hZ hl
  have hl : lv_has ls 2 [(0, .ref (ad 0)), (1, .int x1)] := hl
  rw [fX9_isClass] at hf
  refine lv_aload_n C.1 C.2.1 dX9_isClass_0 rfl (lv_at hl 0 rfl) ?_
  refine lv_iload_n C.1 C.2.1 dX9_isClass_1 rfl (lv_at hl 1 rfl) ?_
  obtain ⟨v1, hv1, hf⟩ := Option.bind_eq_some_iff.mp hf
  refine cRi (As := [.int x1]) (rest := []) C (mX9_isType hv1) vX9_isType wM_X9_137 ⟨Nat.le_of_ble_eq_true rfl, Nat.le_of_ble_eq_true rfl⟩ hP (rcm_X9 C hP) (fun U hU hW => SF.go hZ va_S.rf hU hW (fun _ h => h)) hl.1 rfl rfl (Nat.le_of_ble_eq_true rfl) dX9_isClass_2 ⟨Nat.le_of_ble_eq_true rfl, Nat.le_of_ble_eq_true rfl⟩ ?_
  refine lv_if_eq (tgt := 21) C.1 C.2.1 dX9_isClass_5 (by decide) (fun c2 => ?_) (fun c2 => ?_)
  · rw [if_pos c2] at hf
    refine lv_iconst (v := 0) C.1 C.2.1 dX9_isClass_21 (by decide) ?_
    exact endRz C rfl hf dX9_isClass_22
  · rw [if_neg c2] at hf
    refine lv_aload_n C.1 C.2.1 dX9_isClass_8 rfl (lv_at hl 0 rfl) ?_
    refine gtm_X9_isFace C hP wF_X9_7 dX9_isClass_9 ?_
    refine lv_iload_n C.1 C.2.1 dX9_isClass_12 rfl (lv_at hl 1 rfl) ?_
    obtain ⟨v3, hv3, hf⟩ := Option.bind_eq_some_iff.mp hf
    refine ldm_1 C hP hv3 dX9_isClass_13 ?_
    refine lv_if_ne (tgt := 21) C.1 C.2.1 dX9_isClass_14 (by decide) (fun c4 => ?_) (fun c4 => ?_)
    · rw [if_neg c4] at hf
      refine lv_iconst (v := 0) C.1 C.2.1 dX9_isClass_21 (by decide) ?_
      exact endRz C rfl hf dX9_isClass_22
    · rw [if_pos c4] at hf
      refine lv_iconst (v := 1) C.1 C.2.1 dX9_isClass_17 (by decide) ?_
      refine lv_goto (tgt := 22) C.1 C.2.1 dX9_isClass_18 (by decide) ?_
      exact endRz C rfl hf dX9_isClass_22
end
theorem vX9_isClass : YV yX9_isClass cX9_isClass 2 (some .boolean) 1 := ⟨⟨wK_X9_isClass, wZ_X9, by decide +kernel⟩, wI_X9_isClass, wV_X9_isClass⟩
def fX9_ups_L107 (K34 : ST → Int32 → Int32 → Int32 → Int32 → Int32 → Option (Int32 × ST)) (u : ST) (x2 : Int32) (x3 : Int32) (x4 : Int32) (x5 : Int32) (x6 : Int32) : Option (Int32 × ST) :=
  K34 u x2 x3 x4 x5 (x6 + 1)
def fX9_ups_L73 (K34 : ST → Int32 → Int32 → Int32 → Int32 → Int32 → Option (Int32 × ST)) (u : ST) (x2 : Int32) (x3 : Int32) (x4 : Int32) (x5 : Int32) (x6 : Int32) (y0 : Int32) : Option (Int32 × ST) :=
  if y0 < 0 then
    fX9_ups_L107 K34 u x2 x3 x4 x5 x6
  else
    if ((x2 >>> (y0 &&& 31)) &&& 1) = 0 then
      (stI u 15 64 x3 y0).bind fun u10 =>
      fX9_ups_L107 K34 u10 (x2 ||| (1 <<< (y0 &&& 31))) (x3 + 1) x4 x5 x6
    else
      fX9_ups_L107 K34 u x2 x3 x4 x5 x6
def fX9_ups_L34 (K16 : ST → Int32 → Int32 → Int32 → Option (Int32 × ST)) : Nat → ST → Int32 → Int32 → Int32 → Int32 → Int32 → Option (Int32 × ST)
  | 0, _, _, _, _, _, _ => none
  | n + 1, u, x2, x3, x4, x5, x6 =>
    (rdI u 4 12 x5).bind fun v4 =>
    if v4 ≤ x6 then
      K16 u x2 x3 (x4 + 1)
    else
      if 0 ≤ x6 then
        (rdI u 5 36 ((3 * x5) + x6)).bind fun v7 =>
        fX9_ups_L73 (fX9_ups_L34 K16 n) u x2 x3 x4 x5 x6 v7
      else
        (rdI u 2 12 x5).bind fun v11 =>
        fX9_ups_L73 (fX9_ups_L34 K16 n) u x2 x3 x4 x5 x6 v11
def fX9_ups_L16 : Nat → ST → Int32 → Int32 → Int32 → Option (Int32 × ST)
  | 0, _, _, _, _ => none
  | n + 1, u, x2, x3, x4 =>
    if x3 ≤ x4 then
      some (x2, u)
    else
      (rdI u 15 64 x4).bind fun v3 =>
      fX9_ups_L34 (fX9_ups_L16 n) 5000 u x2 x3 x4 v3 (-1)
def fX9_ups (u : ST) (x1 : Int32) : Option (Int32 × ST) :=
  (stI u 15 64 0 x1).bind fun u1 =>
  fX9_ups_L16 5000 u1 (1 <<< (x1 &&& 31)) 1 0
section
variable {p : Program} {l : Launch} {e : Env} {s : State} {m : MethodId} {args : Array Value} {below : List Frame} {meth : Method} {c : Code} {H : Heap} {locs : List Loc} {g : GP} {ls : Array Slot} {A : Nat → Prop} {ad : Nat → Nat} {u : ST}
set_option maxRecDepth 100000 in
set_option maxHeartbeats 4000000 in
theorem bX9_ups_L107 {r0 : Int32} {u0 : ST} {K34 : ST → Int32 → Int32 → Int32 → Int32 → Int32 → Option (Int32 × ST)} {x2 : Int32} {x3 : Int32} {x4 : Int32} {x5 : Int32} {x6 : Int32} (C : Cx p s m args meth c cX9_ups 8 RX9 (some .int) g) (hA : ∀ q, s.heap.size ≤ q → A q) (hZ : SF A s) (hK34 : ∀ (u : ST) (x2 : Int32) (x3 : Int32) (x4 : Int32) (x5 : Int32) (x6 : Int32) (H : Heap) (locs : List Loc), va_P g.1 vwCl (mW g ad u) H → va_D A (mW g ad u) → va_S A s.heap H locs → ∀ (ls : Array Slot), lv_has ls 8 [(0, .ref (ad 0)), (2, .int x2), (3, .int x3), (4, .int x4), (5, .int x5), (6, .int x6)] → K34 u x2 x3 x4 x5 x6 = some (r0, u0) → W p l e (rmW 0 0 0 0) s m args below meth c H locs 0 0 (MQ below (va_Qi (fun r v => r = r0 ∧ v = u0) (BW g A (mW g ad)) A) args s 0 0 A) (F0 m 34 ls [])) (hP : va_P g.1 vwCl (mW g ad u) H) (hD : va_D A (mW g ad u)) (hS : va_S A s.heap H locs) (hl : lv_has ls 8 [(0, .ref (ad 0)), (2, .int x2), (3, .int x3), (4, .int x4), (5, .int x5), (6, .int x6)]) (hf : fX9_ups_L107 K34 u x2 x3 x4 x5 x6 = some (r0, u0)) : W p l e (rmW 0 0 0 0) s m args below meth c H locs 0 0 (MQ below (va_Qi (fun r v => r = r0 ∧ v = u0) (BW g A (mW g ad)) A) args s 0 0 A) (F0 m 107 ls []) := by
  rw [fX9_ups_L107] at hf
  refine lv_iinc (v := (x6 + 1)) (lv' := [(6, .int (x6 + 1)), (0, .ref (ad 0)), (2, .int x2), (3, .int x3), (4, .int x4), (5, .int x5)]) C.1 C.2.1 dX9_ups_107 hl (k := 5) rfl rfl (by decide) rfl (fun ls hl => ?_)
  refine lv_goto (tgt := 34) C.1 C.2.1 dX9_ups_110 (by decide) ?_
  exact hK34 u x2 x3 x4 x5 (x6 + 1) _ _ hP hD hS _ (lv_sub hl [1, 2, 3, 4, 5, 0] rfl) hf
set_option maxRecDepth 100000 in
set_option maxHeartbeats 4000000 in
theorem bX9_ups_L73 {r0 : Int32} {u0 : ST} {K34 : ST → Int32 → Int32 → Int32 → Int32 → Int32 → Option (Int32 × ST)} {x2 : Int32} {x3 : Int32} {x4 : Int32} {x5 : Int32} {x6 : Int32} {y0 : Int32} (C : Cx p s m args meth c cX9_ups 8 RX9 (some .int) g) (hA : ∀ q, s.heap.size ≤ q → A q) (hZ : SF A s) (hK34 : ∀ (u : ST) (x2 : Int32) (x3 : Int32) (x4 : Int32) (x5 : Int32) (x6 : Int32) (H : Heap) (locs : List Loc), va_P g.1 vwCl (mW g ad u) H → va_D A (mW g ad u) → va_S A s.heap H locs → ∀ (ls : Array Slot), lv_has ls 8 [(0, .ref (ad 0)), (2, .int x2), (3, .int x3), (4, .int x4), (5, .int x5), (6, .int x6)] → K34 u x2 x3 x4 x5 x6 = some (r0, u0) → W p l e (rmW 0 0 0 0) s m args below meth c H locs 0 0 (MQ below (va_Qi (fun r v => r = r0 ∧ v = u0) (BW g A (mW g ad)) A) args s 0 0 A) (F0 m 34 ls [])) (hP : va_P g.1 vwCl (mW g ad u) H) (hD : va_D A (mW g ad u)) (hS : va_S A s.heap H locs) (hl : lv_has ls 8 [(0, .ref (ad 0)), (2, .int x2), (3, .int x3), (4, .int x4), (5, .int x5), (6, .int x6)]) (hf : fX9_ups_L73 K34 u x2 x3 x4 x5 x6 y0 = some (r0, u0)) : W p l e (rmW 0 0 0 0) s m args below meth c H locs 0 0 (MQ below (va_Qi (fun r v => r = r0 ∧ v = u0) (BW g A (mW g ad)) A) args s 0 0 A) (F0 m 73 ls [.int y0]) := by
  rw [fX9_ups_L73] at hf
  refine lv_istore (lv' := [(7, .int y0), (0, .ref (ad 0)), (2, .int x2), (3, .int x3), (4, .int x4), (5, .int x5), (6, .int x6)]) C.1 C.2.1 dX9_ups_73 hl (by decide) rfl (fun ls hl => ?_)
  refine lv_iload C.1 C.2.1 dX9_ups_75 (lv_at hl 0 rfl) ?_
  refine lv_if_lt (tgt := 107) C.1 C.2.1 dX9_ups_77 (by decide) (fun c8 => ?_) (fun c8 => ?_)
  · rw [if_pos c8] at hf
    exact bX9_ups_L107 C hA hZ hK34 hP hD hS (lv_sub hl [1, 2, 3, 4, 5, 6] rfl) hf
  · rw [if_neg c8] at hf
    refine lv_iload_n C.1 C.2.1 dX9_ups_80 rfl (lv_at hl 2 rfl) ?_
    refine lv_iload C.1 C.2.1 dX9_ups_81 (lv_at hl 0 rfl) ?_
    refine lv_ishr C.1 C.2.1 dX9_ups_83 ?_
    refine lv_iconst (v := 1) C.1 C.2.1 dX9_ups_84 (by decide) ?_
    refine lv_iand C.1 C.2.1 dX9_ups_85 ?_
    refine lv_if_ne (tgt := 107) C.1 C.2.1 dX9_ups_86 (by decide) (fun c9 => ?_) (fun c9 => ?_)
    · rw [if_neg c9] at hf
      exact bX9_ups_L107 C hA hZ hK34 hP hD hS (lv_sub hl [1, 2, 3, 4, 5, 6] rfl) hf
    · rw [if_pos c9] at hf
      refine lv_iload_n C.1 C.2.1 dX9_ups_89 rfl (lv_at hl 2 rfl) ?_
      refine lv_iconst (v := 1) C.1 C.2.1 dX9_ups_90 (by decide) ?_
      refine lv_iload C.1 C.2.1 dX9_ups_91 (lv_at hl 0 rfl) ?_
      refine lv_ishl C.1 C.2.1 dX9_ups_93 ?_
      refine lv_ior C.1 C.2.1 dX9_ups_94 ?_
      refine lv_istore_n (lv' := [(2, .int (x2 ||| (1 <<< (y0 &&& 31)))), (7, .int y0), (0, .ref (ad 0)), (3, .int x3), (4, .int x4), (5, .int x5), (6, .int x6)]) C.1 C.2.1 dX9_ups_95 rfl hl (by decide) rfl (fun ls hl => ?_)
      refine lv_aload_n C.1 C.2.1 dX9_ups_96 rfl (lv_at hl 2 rfl) ?_
      refine gtm_X9_queue C hP wF_X9_54 dX9_ups_97 ?_
      refine lv_iload_n C.1 C.2.1 dX9_ups_100 rfl (lv_at hl 3 rfl) ?_
      refine lv_iload C.1 C.2.1 dX9_ups_101 (lv_at hl 1 rfl) ?_
      obtain ⟨u10, hu10, hf⟩ := Option.bind_eq_some_iff.mp hf
      refine stm_15 C hP hD hS hu10 dX9_ups_103 (fun H locs hP hD hS => ?_)
      refine lv_iinc (v := (x3 + 1)) (lv' := [(3, .int (x3 + 1)), (2, .int (x2 ||| (1 <<< (y0 &&& 31)))), (7, .int y0), (0, .ref (ad 0)), (4, .int x4), (5, .int x5), (6, .int x6)]) C.1 C.2.1 dX9_ups_104 hl (k := 3) rfl rfl (by decide) rfl (fun ls hl => ?_)
      exact bX9_ups_L107 C hA hZ hK34 hP hD hS (lv_sub hl [3, 1, 0, 4, 5, 6] rfl) hf
set_option maxRecDepth 100000 in
set_option maxHeartbeats 4000000 in
theorem bX9_ups_L34 {r0 : Int32} {u0 : ST} {K16 : ST → Int32 → Int32 → Int32 → Option (Int32 × ST)} (C : Cx p s m args meth c cX9_ups 8 RX9 (some .int) g) (hA : ∀ q, s.heap.size ≤ q → A q) (hZ : SF A s) (hK16 : ∀ (u : ST) (x2 : Int32) (x3 : Int32) (x4 : Int32) (H : Heap) (locs : List Loc), va_P g.1 vwCl (mW g ad u) H → va_D A (mW g ad u) → va_S A s.heap H locs → ∀ (ls : Array Slot), lv_has ls 8 [(0, .ref (ad 0)), (2, .int x2), (3, .int x3), (4, .int x4)] → K16 u x2 x3 x4 = some (r0, u0) → W p l e (rmW 0 0 0 0) s m args below meth c H locs 0 0 (MQ below (va_Qi (fun r v => r = r0 ∧ v = u0) (BW g A (mW g ad)) A) args s 0 0 A) (F0 m 16 ls [])) : ∀ (n : Nat), ∀ (u : ST) (x2 : Int32) (x3 : Int32) (x4 : Int32) (x5 : Int32) (x6 : Int32) (H : Heap) (locs : List Loc), va_P g.1 vwCl (mW g ad u) H → va_D A (mW g ad u) → va_S A s.heap H locs → ∀ (ls : Array Slot), lv_has ls 8 [(0, .ref (ad 0)), (2, .int x2), (3, .int x3), (4, .int x4), (5, .int x5), (6, .int x6)] → fX9_ups_L34 K16 n u x2 x3 x4 x5 x6 = some (r0, u0) → W p l e (rmW 0 0 0 0) s m args below meth c H locs 0 0 (MQ below (va_Qi (fun r v => r = r0 ∧ v = u0) (BW g A (mW g ad)) A) args s 0 0 A) (F0 m 34 ls []) := by
  intro n
  induction n with
  | zero =>
    intro u x2 x3 x4 x5 x6 H locs hP hD hS ls hl hf
    exact absurd hf (by simp [fX9_ups_L34])
  | succ n ih =>
    intro u x2 x3 x4 x5 x6 H locs hP hD hS ls hl hf
    rw [fX9_ups_L34] at hf
    refine lv_iload C.1 C.2.1 dX9_ups_34 (lv_at hl 5 rfl) ?_
    refine lv_aload_n C.1 C.2.1 dX9_ups_36 rfl (lv_at hl 0 rfl) ?_
    refine gtm_X9_faceMany C hP wF_X9_20 dX9_ups_37 ?_
    refine lv_iload C.1 C.2.1 dX9_ups_40 (lv_at hl 4 rfl) ?_
    obtain ⟨v4, hv4, hf⟩ := Option.bind_eq_some_iff.mp hf
    refine ldm_4 C hP hv4 dX9_ups_42 ?_
    refine lv_icmp_ge (tgt := 113) C.1 C.2.1 dX9_ups_43 (by decide) (fun c5 => ?_) (fun c5 => ?_)
    · rw [if_pos c5] at hf
      refine lv_iinc (v := (x4 + 1)) (lv' := [(4, .int (x4 + 1)), (0, .ref (ad 0)), (2, .int x2), (3, .int x3), (5, .int x5), (6, .int x6)]) C.1 C.2.1 dX9_ups_113 hl (k := 3) rfl rfl (by decide) rfl (fun ls hl => ?_)
      refine lv_goto (tgt := 16) C.1 C.2.1 dX9_ups_116 (by decide) ?_
      exact hK16 u x2 x3 (x4 + 1) _ _ hP hD hS _ (lv_sub hl [1, 2, 3, 0] rfl) hf
    · rw [if_neg c5] at hf
      refine lv_iload C.1 C.2.1 dX9_ups_46 (lv_at hl 5 rfl) ?_
      refine lv_if_ge (tgt := 61) C.1 C.2.1 dX9_ups_48 (by decide) (fun c6 => ?_) (fun c6 => ?_)
      · rw [if_pos c6] at hf
        refine lv_aload_n C.1 C.2.1 dX9_ups_61 rfl (lv_at hl 0 rfl) ?_
        refine gtm_X9_faces C hP wF_X9_23 dX9_ups_62 ?_
        refine lv_iconst (v := 3) C.1 C.2.1 dX9_ups_65 (by decide) ?_
        refine lv_iload C.1 C.2.1 dX9_ups_66 (lv_at hl 4 rfl) ?_
        refine lv_imul C.1 C.2.1 dX9_ups_68 ?_
        refine lv_iload C.1 C.2.1 dX9_ups_69 (lv_at hl 5 rfl) ?_
        refine lv_iadd C.1 C.2.1 dX9_ups_71 ?_
        obtain ⟨v7, hv7, hf⟩ := Option.bind_eq_some_iff.mp hf
        refine ldm_5 C hP hv7 dX9_ups_72 ?_
        exact bX9_ups_L73 C hA hZ ih hP hD hS (lv_sub hl [0, 1, 2, 3, 4, 5] rfl) hf
      · rw [if_neg c6] at hf
        refine lv_aload_n C.1 C.2.1 dX9_ups_51 rfl (lv_at hl 0 rfl) ?_
        refine gtm_X9_over C hP wF_X9_13 dX9_ups_52 ?_
        refine lv_iload C.1 C.2.1 dX9_ups_55 (lv_at hl 4 rfl) ?_
        obtain ⟨v11, hv11, hf⟩ := Option.bind_eq_some_iff.mp hf
        refine ldm_2 C hP hv11 dX9_ups_57 ?_
        refine lv_goto (tgt := 73) C.1 C.2.1 dX9_ups_58 (by decide) ?_
        exact bX9_ups_L73 C hA hZ ih hP hD hS (lv_sub hl [0, 1, 2, 3, 4, 5] rfl) hf
set_option maxRecDepth 100000 in
set_option maxHeartbeats 4000000 in
theorem bX9_ups_L16 {r0 : Int32} {u0 : ST} (C : Cx p s m args meth c cX9_ups 8 RX9 (some .int) g) (hA : ∀ q, s.heap.size ≤ q → A q) (hZ : SF A s) : ∀ (n : Nat), ∀ (u : ST) (x2 : Int32) (x3 : Int32) (x4 : Int32) (H : Heap) (locs : List Loc), va_P g.1 vwCl (mW g ad u) H → va_D A (mW g ad u) → va_S A s.heap H locs → ∀ (ls : Array Slot), lv_has ls 8 [(0, .ref (ad 0)), (2, .int x2), (3, .int x3), (4, .int x4)] → fX9_ups_L16 n u x2 x3 x4 = some (r0, u0) → W p l e (rmW 0 0 0 0) s m args below meth c H locs 0 0 (MQ below (va_Qi (fun r v => r = r0 ∧ v = u0) (BW g A (mW g ad)) A) args s 0 0 A) (F0 m 16 ls []) := by
  intro n
  induction n with
  | zero =>
    intro u x2 x3 x4 H locs hP hD hS ls hl hf
    exact absurd hf (by simp [fX9_ups_L16])
  | succ n ih =>
    intro u x2 x3 x4 H locs hP hD hS ls hl hf
    rw [fX9_ups_L16] at hf
    refine lv_iload C.1 C.2.1 dX9_ups_16 (lv_at hl 3 rfl) ?_
    refine lv_iload_n C.1 C.2.1 dX9_ups_18 rfl (lv_at hl 2 rfl) ?_
    refine lv_icmp_ge (tgt := 119) C.1 C.2.1 dX9_ups_19 (by decide) (fun c2 => ?_) (fun c2 => ?_)
    · rw [if_pos c2] at hf
      refine lv_iload_n C.1 C.2.1 dX9_ups_119 rfl (lv_at hl 1 rfl) ?_
      exact endWi C hP hD hS (Nat.le_refl _) (Nat.le_refl _) hf dX9_ups_120
    · rw [if_neg c2] at hf
      refine lv_aload_n C.1 C.2.1 dX9_ups_22 rfl (lv_at hl 0 rfl) ?_
      refine gtm_X9_queue C hP wF_X9_54 dX9_ups_23 ?_
      refine lv_iload C.1 C.2.1 dX9_ups_26 (lv_at hl 3 rfl) ?_
      obtain ⟨v3, hv3, hf⟩ := Option.bind_eq_some_iff.mp hf
      refine ldm_15 C hP hv3 dX9_ups_28 ?_
      refine lv_istore (lv' := [(5, .int v3), (0, .ref (ad 0)), (2, .int x2), (3, .int x3), (4, .int x4)]) C.1 C.2.1 dX9_ups_29 hl (by decide) rfl (fun ls hl => ?_)
      refine lv_iconst (v := -1) C.1 C.2.1 dX9_ups_31 (by decide) ?_
      refine lv_istore (lv' := [(6, .int (-1)), (5, .int v3), (0, .ref (ad 0)), (2, .int x2), (3, .int x3), (4, .int x4)]) C.1 C.2.1 dX9_ups_32 hl (by decide) rfl (fun ls hl => ?_)
      exact bX9_ups_L34 C hA hZ ih 5000 u x2 x3 x4 v3 (-1) _ _ hP hD hS _ (lv_sub hl [2, 3, 4, 5, 1, 0] rfl) hf
set_option maxRecDepth 100000 in
set_option maxHeartbeats 4000000 in
theorem mX9_ups {r0 : Int32} {u0 : ST} {x1 : Int32} (hf : fX9_ups u x1 = some (r0, u0)) : MWi l yX9_ups cX9_ups 8 (some .int) 0 0 0 0 [.ref (ad 0), .int x1] g (mW g ad) u r0 u0 := by
  refine entW (Qc := fun A => va_Qi (fun r v => r = r0 ∧ v = u0) (BW g A (mW g ad)) A) (by decide) (Nat.le_of_ble_eq_true rfl) ?_
  intro p e s m below meth c ls A C hP hD hS hA hZ hl
  have hl : lv_has ls 8 [(0, .ref (ad 0)), (1, .int x1)] := hl
  rw [fX9_ups] at hf
  refine lv_iconst (v := 1) C.1 C.2.1 dX9_ups_0 (by decide) ?_
  refine lv_iload_n C.1 C.2.1 dX9_ups_1 rfl (lv_at hl 1 rfl) ?_
  refine lv_ishl C.1 C.2.1 dX9_ups_2 ?_
  refine lv_istore_n (lv' := [(2, .int (1 <<< (x1 &&& 31))), (0, .ref (ad 0)), (1, .int x1)]) C.1 C.2.1 dX9_ups_3 rfl hl (by decide) rfl (fun ls hl => ?_)
  refine lv_iconst (v := 1) C.1 C.2.1 dX9_ups_4 (by decide) ?_
  refine lv_istore_n (lv' := [(3, .int 1), (2, .int (1 <<< (x1 &&& 31))), (0, .ref (ad 0)), (1, .int x1)]) C.1 C.2.1 dX9_ups_5 rfl hl (by decide) rfl (fun ls hl => ?_)
  refine lv_aload_n C.1 C.2.1 dX9_ups_6 rfl (lv_at hl 2 rfl) ?_
  refine gtm_X9_queue C hP wF_X9_54 dX9_ups_7 ?_
  refine lv_iconst (v := 0) C.1 C.2.1 dX9_ups_10 (by decide) ?_
  refine lv_iload_n C.1 C.2.1 dX9_ups_11 rfl (lv_at hl 3 rfl) ?_
  obtain ⟨u1, hu1, hf⟩ := Option.bind_eq_some_iff.mp hf
  refine stm_15 C hP hD hS hu1 dX9_ups_12 (fun H locs hP hD hS => ?_)
  refine lv_iconst (v := 0) C.1 C.2.1 dX9_ups_13 (by decide) ?_
  refine lv_istore (lv' := [(4, .int 0), (3, .int 1), (2, .int (1 <<< (x1 &&& 31))), (0, .ref (ad 0)), (1, .int x1)]) C.1 C.2.1 dX9_ups_14 hl (by decide) rfl (fun ls hl => ?_)
  exact bX9_ups_L16 C hA hZ 5000 u1 (1 <<< (x1 &&& 31)) 1 0 _ _ hP hD hS _ (lv_sub hl [3, 2, 1, 0] rfl) hf
end
theorem vX9_ups : YV yX9_ups cX9_ups 8 (some .int) 1 := ⟨⟨wK_X9_ups, wZ_X9, by decide +kernel⟩, wI_X9_ups, wV_X9_ups⟩
def fX9_isBelow (u : ST) (x1 : Int32) (x2 : Int32) : Option (Int32 × ST) :=
  b2 (fX9_ups u x1) fun v2 u1 =>
  if ((v2 >>> (x2 &&& 31)) &&& 1) = 1 then
    some (1, u1)
  else
    some (0, u1)
section
variable {p : Program} {l : Launch} {e : Env} {s : State} {m : MethodId} {args : Array Value} {below : List Frame} {meth : Method} {c : Code} {H : Heap} {locs : List Loc} {g : GP} {ls : Array Slot} {A : Nat → Prop} {ad : Nat → Nat} {u : ST}
set_option maxRecDepth 100000 in
set_option maxHeartbeats 4000000 in
theorem mX9_isBelow {r0 : Int32} {u0 : ST} {x1 : Int32} {x2 : Int32} (hf : fX9_isBelow u x1 x2 = some (r0, u0)) : MWi l yX9_isBelow cX9_isBelow 3 (some .boolean) 1 27 0 0 [.ref (ad 0), .int x1, .int x2] g (mW g ad) u r0 u0 := by
  refine entW (Qc := fun A => va_Qi (fun r v => r = r0 ∧ v = u0) (BW g A (mW g ad)) A) (by decide) (Nat.le_of_ble_eq_true rfl) ?_
  intro p e s m below meth c ls A C hP hD hS hA hZ hl
  have hl : lv_has ls 3 [(0, .ref (ad 0)), (1, .int x1), (2, .int x2)] := hl
  rw [fX9_isBelow] at hf
  refine lv_aload_n C.1 C.2.1 dX9_isBelow_0 rfl (lv_at hl 0 rfl) ?_
  refine lv_iload_n C.1 C.2.1 dX9_isBelow_1 rfl (lv_at hl 1 rfl) ?_
  obtain ⟨v2, u1, hu1, hf⟩ := b2_some hf
  refine cWi (As := [.int x1]) (rest := []) (mc := 0) (ms := 0) C (mX9_ups hu1) vX9_ups wM_X9_143 ⟨Nat.le_of_ble_eq_true rfl, Nat.le_of_ble_eq_true rfl⟩ hP hD hS hA hZ (rcm_X9 C hP) hl.1 rfl rfl (Nat.le_of_ble_eq_true rfl) dX9_isBelow_2 ⟨Nat.le_of_ble_eq_true rfl, Nat.le_of_ble_eq_true rfl⟩ (fun H locs hP hD hS => ?_)
  refine lv_iload_n C.1 C.2.1 dX9_isBelow_5 rfl (lv_at hl 2 rfl) ?_
  refine lv_ishr C.1 C.2.1 dX9_isBelow_6 ?_
  refine lv_iconst (v := 1) C.1 C.2.1 dX9_isBelow_7 (by decide) ?_
  refine lv_iand C.1 C.2.1 dX9_isBelow_8 ?_
  refine lv_iconst (v := 1) C.1 C.2.1 dX9_isBelow_9 (by decide) ?_
  refine lv_icmp_ne (tgt := 17) C.1 C.2.1 dX9_isBelow_10 (by decide) (fun c3 => ?_) (fun c3 => ?_)
  · rw [if_neg c3] at hf
    refine lv_iconst (v := 0) C.1 C.2.1 dX9_isBelow_17 (by decide) ?_
    exact endWz C rfl hP hD hS (Nat.le_refl _) (Nat.le_refl _) hf dX9_isBelow_18
  · rw [if_pos c3] at hf
    refine lv_iconst (v := 1) C.1 C.2.1 dX9_isBelow_13 (by decide) ?_
    refine lv_goto (tgt := 18) C.1 C.2.1 dX9_isBelow_14 (by decide) ?_
    exact endWz C rfl hP hD hS (Nat.le_refl _) (Nat.le_refl _) hf dX9_isBelow_18
end
theorem vX9_isBelow : YV yX9_isBelow cX9_isBelow 3 (some .boolean) 2 := ⟨⟨wK_X9_isBelow, wZ_X9, by decide +kernel⟩, wI_X9_isBelow, wV_X9_isBelow⟩
def fX9_refusalOfFace_L39 : Nat → ST → Int32 → Int32 → Int32 → Option (Int32 × ST)
  | 0, _, _, _, _ => none
  | n + 1, u, x1, x2, x3 =>
    (rdI u 4 12 x1).bind fun v9 =>
    if v9 ≤ x3 then
      b2 (fX9_isBelow u x2 x1) fun v12 u11 =>
      if v12 = 0 then
        some (0, u11)
      else
        some ((-4), u11)
    else
      (rdI u 5 36 ((3 * x1) + x3)).bind fun v14 =>
      if v14 = x2 then
        some ((-1), u)
      else
        fX9_refusalOfFace_L39 n u x1 x2 (x3 + 1)
def fX9_refusalOfFace (u : ST) (x1 : Int32) (x2 : Int32) : Option (Int32 × ST) :=
  (fX9_isType u x1).bind fun v1 =>
  if v1 = 0 then
    some ((-1), u)
  else
    (fX9_isType u x2).bind fun v3 =>
    if v3 = 0 then
      some ((-1), u)
    else
      (rdI u 1 12 x2).bind fun v5 =>
      if v5 = 0 then
        some ((-1), u)
      else
        (rdI u 4 12 x1).bind fun v7 =>
        if v7 = 3 then
          some ((-1), u)
        else
          fX9_refusalOfFace_L39 5000 u x1 x2 0
section
variable {p : Program} {l : Launch} {e : Env} {s : State} {m : MethodId} {args : Array Value} {below : List Frame} {meth : Method} {c : Code} {H : Heap} {locs : List Loc} {g : GP} {ls : Array Slot} {A : Nat → Prop} {ad : Nat → Nat} {u : ST}
set_option maxRecDepth 100000 in
set_option maxHeartbeats 4000000 in
theorem bX9_refusalOfFace_L39 {r0 : Int32} {u0 : ST} (C : Cx p s m args meth c cX9_refusalOfFace 4 RX9 (some .int) g) (hA : ∀ q, s.heap.size ≤ q → A q) (hZ : SF A s) : ∀ (n : Nat), ∀ (u : ST) (x1 : Int32) (x2 : Int32) (x3 : Int32) (H : Heap) (locs : List Loc), va_P g.1 vwCl (mW g ad u) H → va_D A (mW g ad u) → va_S A s.heap H locs → ∀ (ls : Array Slot), lv_has ls 4 [(0, .ref (ad 0)), (1, .int x1), (2, .int x2), (3, .int x3)] → fX9_refusalOfFace_L39 n u x1 x2 x3 = some (r0, u0) → W p l e (rmW 2 49 0 0) s m args below meth c H locs 0 0 (MQ below (va_Qi (fun r v => r = r0 ∧ v = u0) (BW g A (mW g ad)) A) args s 0 0 A) (F0 m 39 ls []) := by
  intro n
  induction n with
  | zero =>
    intro u x1 x2 x3 H locs hP hD hS ls hl hf
    exact absurd hf (by simp [fX9_refusalOfFace_L39])
  | succ n ih =>
    intro u x1 x2 x3 H locs hP hD hS ls hl hf
    rw [fX9_refusalOfFace_L39] at hf
    refine lv_iload_n C.1 C.2.1 dX9_refusalOfFace_39 rfl (lv_at hl 3 rfl) ?_
    refine lv_aload_n C.1 C.2.1 dX9_refusalOfFace_40 rfl (lv_at hl 0 rfl) ?_
    refine gtm_X9_faceMany C hP wF_X9_20 dX9_refusalOfFace_41 ?_
    refine lv_iload_n C.1 C.2.1 dX9_refusalOfFace_44 rfl (lv_at hl 1 rfl) ?_
    obtain ⟨v9, hv9, hf⟩ := Option.bind_eq_some_iff.mp hf
    refine ldm_4 C hP hv9 dX9_refusalOfFace_45 ?_
    refine lv_icmp_ge (tgt := 71) C.1 C.2.1 dX9_refusalOfFace_46 (by decide) (fun c10 => ?_) (fun c10 => ?_)
    · rw [if_pos c10] at hf
      refine lv_aload_n C.1 C.2.1 dX9_refusalOfFace_71 rfl (lv_at hl 0 rfl) ?_
      refine lv_iload_n C.1 C.2.1 dX9_refusalOfFace_72 rfl (lv_at hl 2 rfl) ?_
      refine lv_iload_n C.1 C.2.1 dX9_refusalOfFace_73 rfl (lv_at hl 1 rfl) ?_
      obtain ⟨v12, u11, hu11, hf⟩ := b2_some hf
      refine cWi (As := [.int x2, .int x1]) (rest := []) (mc := 0) (ms := 0) C (mX9_isBelow hu11) vX9_isBelow wM_X9_182 ⟨Nat.le_of_ble_eq_true rfl, Nat.le_of_ble_eq_true rfl⟩ hP hD hS hA hZ (rcm_X9 C hP) hl.1 rfl rfl (Nat.le_of_ble_eq_true rfl) dX9_refusalOfFace_74 ⟨Nat.le_of_ble_eq_true rfl, Nat.le_of_ble_eq_true rfl⟩ (fun H locs hP hD hS => ?_)
      refine lv_if_eq (tgt := 85) C.1 C.2.1 dX9_refusalOfFace_77 (by decide) (fun c13 => ?_) (fun c13 => ?_)
      · rw [if_pos c13] at hf
        refine lv_iconst (v := 0) C.1 C.2.1 dX9_refusalOfFace_85 (by decide) ?_
        exact endWi C hP hD hS (Nat.le_refl _) (Nat.le_refl _) hf dX9_refusalOfFace_86
      · rw [if_neg c13] at hf
        refine lv_bipush (v := -4) C.1 C.2.1 dX9_refusalOfFace_80 (by decide) ?_
        refine lv_goto (tgt := 86) C.1 C.2.1 dX9_refusalOfFace_82 (by decide) ?_
        exact endWi C hP hD hS (Nat.le_refl _) (Nat.le_refl _) hf dX9_refusalOfFace_86
    · rw [if_neg c10] at hf
      refine lv_aload_n C.1 C.2.1 dX9_refusalOfFace_49 rfl (lv_at hl 0 rfl) ?_
      refine gtm_X9_faces C hP wF_X9_23 dX9_refusalOfFace_50 ?_
      refine lv_iconst (v := 3) C.1 C.2.1 dX9_refusalOfFace_53 (by decide) ?_
      refine lv_iload_n C.1 C.2.1 dX9_refusalOfFace_54 rfl (lv_at hl 1 rfl) ?_
      refine lv_imul C.1 C.2.1 dX9_refusalOfFace_55 ?_
      refine lv_iload_n C.1 C.2.1 dX9_refusalOfFace_56 rfl (lv_at hl 3 rfl) ?_
      refine lv_iadd C.1 C.2.1 dX9_refusalOfFace_57 ?_
      obtain ⟨v14, hv14, hf⟩ := Option.bind_eq_some_iff.mp hf
      refine ldm_5 C hP hv14 dX9_refusalOfFace_58 ?_
      refine lv_iload_n C.1 C.2.1 dX9_refusalOfFace_59 rfl (lv_at hl 2 rfl) ?_
      refine lv_icmp_ne (tgt := 65) C.1 C.2.1 dX9_refusalOfFace_60 (by decide) (fun c15 => ?_) (fun c15 => ?_)
      · rw [if_neg c15] at hf
        refine lv_iinc (v := (x3 + 1)) (lv' := [(3, .int (x3 + 1)), (0, .ref (ad 0)), (1, .int x1), (2, .int x2)]) C.1 C.2.1 dX9_refusalOfFace_65 hl (k := 3) rfl rfl (by decide) rfl (fun ls hl => ?_)
        refine lv_goto (tgt := 39) C.1 C.2.1 dX9_refusalOfFace_68 (by decide) ?_
        exact ih u x1 x2 (x3 + 1) _ _ hP hD hS _ (lv_sub hl [1, 2, 3, 0] rfl) hf
      · rw [if_pos c15] at hf
        refine lv_iconst (v := -1) C.1 C.2.1 dX9_refusalOfFace_63 (by decide) ?_
        exact endWi C hP hD hS (Nat.le_refl _) (Nat.le_refl _) hf dX9_refusalOfFace_64
set_option maxRecDepth 100000 in
set_option maxHeartbeats 4000000 in
theorem mX9_refusalOfFace {r0 : Int32} {u0 : ST} {x1 : Int32} {x2 : Int32} (hf : fX9_refusalOfFace u x1 x2 = some (r0, u0)) : MWi l yX9_refusalOfFace cX9_refusalOfFace 4 (some .int) 2 49 0 0 [.ref (ad 0), .int x1, .int x2] g (mW g ad) u r0 u0 := by
  refine entW (Qc := fun A => va_Qi (fun r v => r = r0 ∧ v = u0) (BW g A (mW g ad)) A) (by decide) (Nat.le_of_ble_eq_true rfl) ?_
  intro p e s m below meth c ls A C hP hD hS hA hZ hl
  have hl : lv_has ls 4 [(0, .ref (ad 0)), (1, .int x1), (2, .int x2)] := hl
  rw [fX9_refusalOfFace] at hf
  refine lv_aload_n C.1 C.2.1 dX9_refusalOfFace_0 rfl (lv_at hl 0 rfl) ?_
  refine lv_iload_n C.1 C.2.1 dX9_refusalOfFace_1 rfl (lv_at hl 1 rfl) ?_
  obtain ⟨v1, hv1, hf⟩ := Option.bind_eq_some_iff.mp hf
  refine cRi (As := [.int x1]) (rest := []) C (mX9_isType hv1) vX9_isType wM_X9_137 ⟨Nat.le_of_ble_eq_true rfl, Nat.le_of_ble_eq_true rfl⟩ hP (rcm_X9 C hP) (fun U hU hW => SF.go hZ hS hU hW (fun _ h => h.elim)) hl.1 rfl rfl (Nat.le_of_ble_eq_true rfl) dX9_refusalOfFace_2 ⟨Nat.le_of_ble_eq_true rfl, Nat.le_of_ble_eq_true rfl⟩ ?_
  refine lv_if_eq (tgt := 35) C.1 C.2.1 dX9_refusalOfFace_5 (by decide) (fun c2 => ?_) (fun c2 => ?_)
  · rw [if_pos c2] at hf
    refine lv_iconst (v := -1) C.1 C.2.1 dX9_refusalOfFace_35 (by decide) ?_
    exact endWi C hP hD hS (Nat.le_refl _) (Nat.le_refl _) hf dX9_refusalOfFace_36
  · rw [if_neg c2] at hf
    refine lv_aload_n C.1 C.2.1 dX9_refusalOfFace_8 rfl (lv_at hl 0 rfl) ?_
    refine lv_iload_n C.1 C.2.1 dX9_refusalOfFace_9 rfl (lv_at hl 2 rfl) ?_
    obtain ⟨v3, hv3, hf⟩ := Option.bind_eq_some_iff.mp hf
    refine cRi (As := [.int x2]) (rest := []) C (mX9_isType hv3) vX9_isType wM_X9_137 ⟨Nat.le_of_ble_eq_true rfl, Nat.le_of_ble_eq_true rfl⟩ hP (rcm_X9 C hP) (fun U hU hW => SF.go hZ hS hU hW (fun _ h => h.elim)) hl.1 rfl rfl (Nat.le_of_ble_eq_true rfl) dX9_refusalOfFace_10 ⟨Nat.le_of_ble_eq_true rfl, Nat.le_of_ble_eq_true rfl⟩ ?_
    refine lv_if_eq (tgt := 35) C.1 C.2.1 dX9_refusalOfFace_13 (by decide) (fun c4 => ?_) (fun c4 => ?_)
    · rw [if_pos c4] at hf
      refine lv_iconst (v := -1) C.1 C.2.1 dX9_refusalOfFace_35 (by decide) ?_
      exact endWi C hP hD hS (Nat.le_refl _) (Nat.le_refl _) hf dX9_refusalOfFace_36
    · rw [if_neg c4] at hf
      refine lv_aload_n C.1 C.2.1 dX9_refusalOfFace_16 rfl (lv_at hl 0 rfl) ?_
      refine gtm_X9_isFace C hP wF_X9_7 dX9_refusalOfFace_17 ?_
      refine lv_iload_n C.1 C.2.1 dX9_refusalOfFace_20 rfl (lv_at hl 2 rfl) ?_
      obtain ⟨v5, hv5, hf⟩ := Option.bind_eq_some_iff.mp hf
      refine ldm_1 C hP hv5 dX9_refusalOfFace_21 ?_
      refine lv_if_eq (tgt := 35) C.1 C.2.1 dX9_refusalOfFace_22 (by decide) (fun c6 => ?_) (fun c6 => ?_)
      · rw [if_pos c6] at hf
        refine lv_iconst (v := -1) C.1 C.2.1 dX9_refusalOfFace_35 (by decide) ?_
        exact endWi C hP hD hS (Nat.le_refl _) (Nat.le_refl _) hf dX9_refusalOfFace_36
      · rw [if_neg c6] at hf
        refine lv_aload_n C.1 C.2.1 dX9_refusalOfFace_25 rfl (lv_at hl 0 rfl) ?_
        refine gtm_X9_faceMany C hP wF_X9_20 dX9_refusalOfFace_26 ?_
        refine lv_iload_n C.1 C.2.1 dX9_refusalOfFace_29 rfl (lv_at hl 1 rfl) ?_
        obtain ⟨v7, hv7, hf⟩ := Option.bind_eq_some_iff.mp hf
        refine ldm_4 C hP hv7 dX9_refusalOfFace_30 ?_
        refine lv_iconst (v := 3) C.1 C.2.1 dX9_refusalOfFace_31 (by decide) ?_
        refine lv_icmp_ne (tgt := 37) C.1 C.2.1 dX9_refusalOfFace_32 (by decide) (fun c8 => ?_) (fun c8 => ?_)
        · rw [if_neg c8] at hf
          refine lv_iconst (v := 0) C.1 C.2.1 dX9_refusalOfFace_37 (by decide) ?_
          refine lv_istore_n (lv' := [(3, .int 0), (0, .ref (ad 0)), (1, .int x1), (2, .int x2)]) C.1 C.2.1 dX9_refusalOfFace_38 rfl hl (by decide) rfl (fun ls hl => ?_)
          exact bX9_refusalOfFace_L39 C hA hZ 5000 u x1 x2 0 _ _ hP hD hS _ (lv_sub hl [1, 2, 3, 0] rfl) hf
        · rw [if_pos c8] at hf
          refine lv_iconst (v := -1) C.1 C.2.1 dX9_refusalOfFace_35 (by decide) ?_
          exact endWi C hP hD hS (Nat.le_refl _) (Nat.le_refl _) hf dX9_refusalOfFace_36
end
theorem vX9_refusalOfFace : YV yX9_refusalOfFace cX9_refusalOfFace 4 (some .int) 2 := ⟨⟨wK_X9_refusalOfFace, wZ_X9, by decide +kernel⟩, wI_X9_refusalOfFace, wV_X9_refusalOfFace⟩
def fX9_areFieldMarks (u : ST) (x0 : Int32) (x1 : Int32) : Option Int32 :=
  (fX9_in u ((x0 : Int32).toInt64) 0 7).bind fun v1 =>
  if v1 = 0 then
    some 0
  else
    if x1 = 0 then
      some 1
    else
      if (x0 &&& 1) = 0 then
        some 0
      else
        some 1
section
variable {p : Program} {l : Launch} {e : Env} {s : State} {m : MethodId} {args : Array Value} {below : List Frame} {meth : Method} {c : Code} {H : Heap} {locs : List Loc} {g : GP} {ls : Array Slot} {A : Nat → Prop} {ad : Nat → Nat} {u : ST}
set_option maxRecDepth 100000 in
set_option maxHeartbeats 4000000 in
theorem mX9_areFieldMarks {r0 : Int32} {x0 : Int32} {x1 : Int32} (hf : fX9_areFieldMarks u x0 x1 = some r0) : MRi l yX9_areFieldMarks cX9_areFieldMarks 2 (some .boolean) 1 25 [.int x0, .int x1] g (mW g ad u) r0 := by
  refine entR (by decide) (Nat.le_of_ble_eq_true rfl) ?_
  intro p e s m below meth c ls C hP hZ hl
  have hl : lv_has ls 2 [(0, .int x0), (1, .int x1)] := hl
  rw [fX9_areFieldMarks] at hf
  refine lv_iload_n C.1 C.2.1 dX9_areFieldMarks_0 rfl (lv_at hl 0 rfl) ?_
  refine lv_i2l C.1 C.2.1 dX9_areFieldMarks_1 rfl ?_
  refine lv_lconst (v := 0) C.1 C.2.1 dX9_areFieldMarks_2 (by decide) ?_
  refine lv_ldc2 (v := 7) C.1 C.2.1 C.2.2.2.1 (C.2.2.2.2.1 _ wKL_X9_173) dX9_areFieldMarks_3 ?_
  obtain ⟨v1, hv1, hf⟩ := Option.bind_eq_some_iff.mp hf
  refine cSi (As := [.long ((x0 : Int32).toInt64), .long 0, .long 7]) (rest := []) C (mX9_in hv1) vX9_in wM_X9_133 ⟨Nat.le_of_ble_eq_true rfl, Nat.le_of_ble_eq_true rfl⟩ hP (fun U hU hW => SF.go hZ va_S.rf hU hW (fun _ h => h)) hl.1 rfl rfl (Nat.le_of_ble_eq_true rfl) dX9_areFieldMarks_6 ⟨Nat.le_of_ble_eq_true rfl, Nat.le_of_ble_eq_true rfl⟩ ?_
  refine lv_if_eq (tgt := 26) C.1 C.2.1 dX9_areFieldMarks_9 (by decide) (fun c2 => ?_) (fun c2 => ?_)
  · rw [if_pos c2] at hf
    refine lv_iconst (v := 0) C.1 C.2.1 dX9_areFieldMarks_26 (by decide) ?_
    exact endRz C rfl hf dX9_areFieldMarks_27
  · rw [if_neg c2] at hf
    refine lv_iload_n C.1 C.2.1 dX9_areFieldMarks_12 rfl (lv_at hl 1 rfl) ?_
    refine lv_if_eq (tgt := 22) C.1 C.2.1 dX9_areFieldMarks_13 (by decide) (fun c3 => ?_) (fun c3 => ?_)
    · rw [if_pos c3] at hf
      refine lv_iconst (v := 1) C.1 C.2.1 dX9_areFieldMarks_22 (by decide) ?_
      refine lv_goto (tgt := 27) C.1 C.2.1 dX9_areFieldMarks_23 (by decide) ?_
      exact endRz C rfl hf dX9_areFieldMarks_27
    · rw [if_neg c3] at hf
      refine lv_iload_n C.1 C.2.1 dX9_areFieldMarks_16 rfl (lv_at hl 0 rfl) ?_
      refine lv_iconst (v := 1) C.1 C.2.1 dX9_areFieldMarks_17 (by decide) ?_
      refine lv_iand C.1 C.2.1 dX9_areFieldMarks_18 ?_
      refine lv_if_eq (tgt := 26) C.1 C.2.1 dX9_areFieldMarks_19 (by decide) (fun c4 => ?_) (fun c4 => ?_)
      · rw [if_pos c4] at hf
        refine lv_iconst (v := 0) C.1 C.2.1 dX9_areFieldMarks_26 (by decide) ?_
        exact endRz C rfl hf dX9_areFieldMarks_27
      · rw [if_neg c4] at hf
        refine lv_iconst (v := 1) C.1 C.2.1 dX9_areFieldMarks_22 (by decide) ?_
        refine lv_goto (tgt := 27) C.1 C.2.1 dX9_areFieldMarks_23 (by decide) ?_
        exact endRz C rfl hf dX9_areFieldMarks_27
end
theorem vX9_areFieldMarks : YS yX9_areFieldMarks cX9_areFieldMarks 2 (some .boolean) 2 := ⟨⟨wK_X9_areFieldMarks, wZ_X9, by decide +kernel⟩, wS_X9_areFieldMarks⟩
def fX9_ownOf_L96 (u : ST) (K3 : Int32 → Int32 → Int32 → Int32 → Int32 → Int32 → Option Int32) (x1 : Int32) (x2 : Int32) (x3 : Int32) (x4 : Int32) (x5 : Int32) (x6 : Int32) : Option Int32 :=
  K3 x1 x2 x3 x4 x5 (x6 + 1)
def fX9_ownOf_L58 (u : ST) (K3 : Int32 → Int32 → Int32 → Int32 → Int32 → Int32 → Option Int32) (x1 : Int32) (x2 : Int32) (x3 : Int32) (x4 : Int32) (x5 : Int32) (x6 : Int32) (y0 : Int32) : Option Int32 :=
  if y0 = 0 then
    fX9_ownOf_L96 u K3 x1 x2 x3 x4 x5 x6
  else
    if x2 = 0 then
      some x6
    else
      (rdI u 12 60 x6).bind fun v6 =>
      if v6 = x4 then
        (rdI u 13 60 x6).bind fun v8 =>
        if v8 = x5 then
          some x6
        else
          fX9_ownOf_L96 u K3 x1 x2 x3 x4 x5 x6
      else
        fX9_ownOf_L96 u K3 x1 x2 x3 x4 x5 x6
def fX9_ownOf_L57 (u : ST) (K3 : Int32 → Int32 → Int32 → Int32 → Int32 → Int32 → Option Int32) (x1 : Int32) (x2 : Int32) (x3 : Int32) (x4 : Int32) (x5 : Int32) (x6 : Int32) : Option Int32 :=
  fX9_ownOf_L58 u K3 x1 x2 x3 x4 x5 x6 0
def fX9_ownOf_L3 (u : ST) : Nat → Int32 → Int32 → Int32 → Int32 → Int32 → Int32 → Option Int32
  | 0, _, _, _, _, _, _ => none
  | n + 1, x1, x2, x3, x4, x5, x6 =>
    if 60 ≤ x6 then
      some (-2)
    else
      (rdI u 6 60 x6).bind fun v2 =>
      if v2 = 0 then
        fX9_ownOf_L57 u (fX9_ownOf_L3 u n) x1 x2 x3 x4 x5 x6
      else
        (rdI u 8 60 x6).bind fun v10 =>
        if v10 = x1 then
          (rdI u 7 60 x6).bind fun v12 =>
          if v12 = x2 then
            (rdI u 9 60 x6).bind fun v14 =>
            if v14 = x3 then
              fX9_ownOf_L58 u (fX9_ownOf_L3 u n) x1 x2 x3 x4 x5 x6 1
            else
              fX9_ownOf_L57 u (fX9_ownOf_L3 u n) x1 x2 x3 x4 x5 x6
          else
            fX9_ownOf_L57 u (fX9_ownOf_L3 u n) x1 x2 x3 x4 x5 x6
        else
          fX9_ownOf_L57 u (fX9_ownOf_L3 u n) x1 x2 x3 x4 x5 x6
def fX9_ownOf (u : ST) (x1 : Int32) (x2 : Int32) (x3 : Int32) (x4 : Int32) (x5 : Int32) : Option Int32 :=
  fX9_ownOf_L3 u 5000 x1 x2 x3 x4 x5 0
section
variable {p : Program} {l : Launch} {e : Env} {s : State} {m : MethodId} {args : Array Value} {below : List Frame} {meth : Method} {c : Code} {H : Heap} {locs : List Loc} {g : GP} {ls : Array Slot} {A : Nat → Prop} {ad : Nat → Nat} {u : ST}
set_option maxRecDepth 100000 in
set_option maxHeartbeats 4000000 in
theorem bX9_ownOf_L96 {r0 : Int32} {K3 : Int32 → Int32 → Int32 → Int32 → Int32 → Int32 → Option Int32} {x1 : Int32} {x2 : Int32} {x3 : Int32} {x4 : Int32} {x5 : Int32} {x6 : Int32} (C : Cx p s m args meth c cX9_ownOf 8 RX9 (some .int) g) (hZ : SF (fun _ => False) s) (hK3 : ∀ (x1 : Int32) (x2 : Int32) (x3 : Int32) (x4 : Int32) (x5 : Int32) (x6 : Int32), ∀ (ls : Array Slot), lv_has ls 8 [(0, .ref (ad 0)), (1, .int x1), (2, .int x2), (3, .int x3), (4, .int x4), (5, .int x5), (6, .int x6)] → K3 x1 x2 x3 x4 x5 x6 = some r0 → W p l e (rmR 0 0) s m args below meth c s.heap [] 0 0 (MQ below (vp_Si (fun r => r = r0)) args s 0 0 (fun _ => False)) (F0 m 3 ls [])) (hP : va_P g.1 vwCl (mW g ad u) s.heap) (hl : lv_has ls 8 [(0, .ref (ad 0)), (1, .int x1), (2, .int x2), (3, .int x3), (4, .int x4), (5, .int x5), (6, .int x6)]) (hf : fX9_ownOf_L96 u K3 x1 x2 x3 x4 x5 x6 = some r0) : W p l e (rmR 0 0) s m args below meth c s.heap [] 0 0 (MQ below (vp_Si (fun r => r = r0)) args s 0 0 (fun _ => False)) (F0 m 96 ls []) := by
  rw [fX9_ownOf_L96] at hf
  refine lv_iinc (v := (x6 + 1)) (lv' := [(6, .int (x6 + 1)), (0, .ref (ad 0)), (1, .int x1), (2, .int x2), (3, .int x3), (4, .int x4), (5, .int x5)]) C.1 C.2.1 dX9_ownOf_96 hl (k := 6) rfl rfl (by decide) rfl (fun ls hl => ?_)
  refine lv_goto (tgt := 3) C.1 C.2.1 dX9_ownOf_99 (by decide) ?_
  exact hK3 x1 x2 x3 x4 x5 (x6 + 1) _ (lv_sub hl [1, 2, 3, 4, 5, 6, 0] rfl) hf
set_option maxRecDepth 100000 in
set_option maxHeartbeats 4000000 in
theorem bX9_ownOf_L58 {r0 : Int32} {K3 : Int32 → Int32 → Int32 → Int32 → Int32 → Int32 → Option Int32} {x1 : Int32} {x2 : Int32} {x3 : Int32} {x4 : Int32} {x5 : Int32} {x6 : Int32} {y0 : Int32} (C : Cx p s m args meth c cX9_ownOf 8 RX9 (some .int) g) (hZ : SF (fun _ => False) s) (hK3 : ∀ (x1 : Int32) (x2 : Int32) (x3 : Int32) (x4 : Int32) (x5 : Int32) (x6 : Int32), ∀ (ls : Array Slot), lv_has ls 8 [(0, .ref (ad 0)), (1, .int x1), (2, .int x2), (3, .int x3), (4, .int x4), (5, .int x5), (6, .int x6)] → K3 x1 x2 x3 x4 x5 x6 = some r0 → W p l e (rmR 0 0) s m args below meth c s.heap [] 0 0 (MQ below (vp_Si (fun r => r = r0)) args s 0 0 (fun _ => False)) (F0 m 3 ls [])) (hP : va_P g.1 vwCl (mW g ad u) s.heap) (hl : lv_has ls 8 [(0, .ref (ad 0)), (1, .int x1), (2, .int x2), (3, .int x3), (4, .int x4), (5, .int x5), (6, .int x6)]) (hf : fX9_ownOf_L58 u K3 x1 x2 x3 x4 x5 x6 y0 = some r0) : W p l e (rmR 0 0) s m args below meth c s.heap [] 0 0 (MQ below (vp_Si (fun r => r = r0)) args s 0 0 (fun _ => False)) (F0 m 58 ls [.int y0]) := by
  rw [fX9_ownOf_L58] at hf
  refine lv_istore (lv' := [(7, .int y0), (0, .ref (ad 0)), (1, .int x1), (2, .int x2), (3, .int x3), (4, .int x4), (5, .int x5), (6, .int x6)]) C.1 C.2.1 dX9_ownOf_58 hl (by decide) rfl (fun ls hl => ?_)
  refine lv_iload C.1 C.2.1 dX9_ownOf_60 (lv_at hl 0 rfl) ?_
  refine lv_if_eq (tgt := 96) C.1 C.2.1 dX9_ownOf_62 (by decide) (fun c4 => ?_) (fun c4 => ?_)
  · rw [if_pos c4] at hf
    exact bX9_ownOf_L96 C hZ hK3 hP (lv_sub hl [1, 2, 3, 4, 5, 6, 7] rfl) hf
  · rw [if_neg c4] at hf
    refine lv_iload_n C.1 C.2.1 dX9_ownOf_65 rfl (lv_at hl 3 rfl) ?_
    refine lv_if_eq (tgt := 93) C.1 C.2.1 dX9_ownOf_66 (by decide) (fun c5 => ?_) (fun c5 => ?_)
    · rw [if_pos c5] at hf
      refine lv_iload C.1 C.2.1 dX9_ownOf_93 (lv_at hl 7 rfl) ?_
      exact endRi C hf dX9_ownOf_95
    · rw [if_neg c5] at hf
      refine lv_aload_n C.1 C.2.1 dX9_ownOf_69 rfl (lv_at hl 1 rfl) ?_
      refine gtm_X9_mFirst C hP wF_X9_44 dX9_ownOf_70 ?_
      refine lv_iload C.1 C.2.1 dX9_ownOf_73 (lv_at hl 7 rfl) ?_
      obtain ⟨v6, hv6, hf⟩ := Option.bind_eq_some_iff.mp hf
      refine ldm_12 C hP hv6 dX9_ownOf_75 ?_
      refine lv_iload C.1 C.2.1 dX9_ownOf_76 (lv_at hl 5 rfl) ?_
      refine lv_icmp_ne (tgt := 96) C.1 C.2.1 dX9_ownOf_78 (by decide) (fun c7 => ?_) (fun c7 => ?_)
      · rw [if_neg c7] at hf
        exact bX9_ownOf_L96 C hZ hK3 hP (lv_sub hl [1, 2, 3, 4, 5, 6, 7] rfl) hf
      · rw [if_pos c7] at hf
        refine lv_aload_n C.1 C.2.1 dX9_ownOf_81 rfl (lv_at hl 1 rfl) ?_
        refine gtm_X9_mSecond C hP wF_X9_47 dX9_ownOf_82 ?_
        refine lv_iload C.1 C.2.1 dX9_ownOf_85 (lv_at hl 7 rfl) ?_
        obtain ⟨v8, hv8, hf⟩ := Option.bind_eq_some_iff.mp hf
        refine ldm_13 C hP hv8 dX9_ownOf_87 ?_
        refine lv_iload C.1 C.2.1 dX9_ownOf_88 (lv_at hl 6 rfl) ?_
        refine lv_icmp_ne (tgt := 96) C.1 C.2.1 dX9_ownOf_90 (by decide) (fun c9 => ?_) (fun c9 => ?_)
        · rw [if_neg c9] at hf
          exact bX9_ownOf_L96 C hZ hK3 hP (lv_sub hl [1, 2, 3, 4, 5, 6, 7] rfl) hf
        · rw [if_pos c9] at hf
          refine lv_iload C.1 C.2.1 dX9_ownOf_93 (lv_at hl 7 rfl) ?_
          exact endRi C hf dX9_ownOf_95
set_option maxRecDepth 100000 in
set_option maxHeartbeats 4000000 in
theorem bX9_ownOf_L57 {r0 : Int32} {K3 : Int32 → Int32 → Int32 → Int32 → Int32 → Int32 → Option Int32} {x1 : Int32} {x2 : Int32} {x3 : Int32} {x4 : Int32} {x5 : Int32} {x6 : Int32} (C : Cx p s m args meth c cX9_ownOf 8 RX9 (some .int) g) (hZ : SF (fun _ => False) s) (hK3 : ∀ (x1 : Int32) (x2 : Int32) (x3 : Int32) (x4 : Int32) (x5 : Int32) (x6 : Int32), ∀ (ls : Array Slot), lv_has ls 8 [(0, .ref (ad 0)), (1, .int x1), (2, .int x2), (3, .int x3), (4, .int x4), (5, .int x5), (6, .int x6)] → K3 x1 x2 x3 x4 x5 x6 = some r0 → W p l e (rmR 0 0) s m args below meth c s.heap [] 0 0 (MQ below (vp_Si (fun r => r = r0)) args s 0 0 (fun _ => False)) (F0 m 3 ls [])) (hP : va_P g.1 vwCl (mW g ad u) s.heap) (hl : lv_has ls 8 [(0, .ref (ad 0)), (1, .int x1), (2, .int x2), (3, .int x3), (4, .int x4), (5, .int x5), (6, .int x6)]) (hf : fX9_ownOf_L57 u K3 x1 x2 x3 x4 x5 x6 = some r0) : W p l e (rmR 0 0) s m args below meth c s.heap [] 0 0 (MQ below (vp_Si (fun r => r = r0)) args s 0 0 (fun _ => False)) (F0 m 57 ls []) := by
  rw [fX9_ownOf_L57] at hf
  refine lv_iconst (v := 0) C.1 C.2.1 dX9_ownOf_57 (by decide) ?_
  exact bX9_ownOf_L58 C hZ hK3 hP (lv_sub hl [0, 1, 2, 3, 4, 5, 6] rfl) hf
set_option maxRecDepth 100000 in
set_option maxHeartbeats 4000000 in
theorem bX9_ownOf_L3 {r0 : Int32} (C : Cx p s m args meth c cX9_ownOf 8 RX9 (some .int) g) (hZ : SF (fun _ => False) s) (n : Nat) : ∀ (x1 : Int32) (x2 : Int32) (x3 : Int32) (x4 : Int32) (x5 : Int32) (x6 : Int32), va_P g.1 vwCl (mW g ad u) s.heap → ∀ (ls : Array Slot), lv_has ls 8 [(0, .ref (ad 0)), (1, .int x1), (2, .int x2), (3, .int x3), (4, .int x4), (5, .int x5), (6, .int x6)] → fX9_ownOf_L3 u n x1 x2 x3 x4 x5 x6 = some r0 → W p l e (rmR 0 0) s m args below meth c s.heap [] 0 0 (MQ below (vp_Si (fun r => r = r0)) args s 0 0 (fun _ => False)) (F0 m 3 ls []) := by
  induction n with
  | zero =>
    intro x1 x2 x3 x4 x5 x6 hP ls hl hf
    exact absurd hf (by simp [fX9_ownOf_L3])
  | succ n ih0 =>
    intro x1 x2 x3 x4 x5 x6 hP ls hl hf
    have ih := fun (x1 : Int32) (x2 : Int32) (x3 : Int32) (x4 : Int32) (x5 : Int32) (x6 : Int32) => ih0 x1 x2 x3 x4 x5 x6 hP
    rw [fX9_ownOf_L3] at hf
    refine lv_iload C.1 C.2.1 dX9_ownOf_3 (lv_at hl 6 rfl) ?_
    refine lv_bipush (v := 60) C.1 C.2.1 dX9_ownOf_5 (by decide) ?_
    refine lv_icmp_ge (tgt := 102) C.1 C.2.1 dX9_ownOf_7 (by decide) (fun c1 => ?_) (fun c1 => ?_)
    · rw [if_pos c1] at hf
      refine lv_bipush (v := -2) C.1 C.2.1 dX9_ownOf_102 (by decide) ?_
      exact endRi C hf dX9_ownOf_104
    · rw [if_neg c1] at hf
      refine lv_aload_n C.1 C.2.1 dX9_ownOf_10 rfl (lv_at hl 0 rfl) ?_
      refine gtm_X9_isMember C hP wF_X9_26 dX9_ownOf_11 ?_
      refine lv_iload C.1 C.2.1 dX9_ownOf_14 (lv_at hl 6 rfl) ?_
      obtain ⟨v2, hv2, hf⟩ := Option.bind_eq_some_iff.mp hf
      refine ldm_6 C hP hv2 dX9_ownOf_16 ?_
      refine lv_if_eq (tgt := 57) C.1 C.2.1 dX9_ownOf_17 (by decide) (fun c3 => ?_) (fun c3 => ?_)
      · rw [if_pos c3] at hf
        exact bX9_ownOf_L57 C hZ ih hP (lv_sub hl [0, 1, 2, 3, 4, 5, 6] rfl) hf
      · rw [if_neg c3] at hf
        refine lv_aload_n C.1 C.2.1 dX9_ownOf_20 rfl (lv_at hl 0 rfl) ?_
        refine gtm_X9_mType C hP wF_X9_32 dX9_ownOf_21 ?_
        refine lv_iload C.1 C.2.1 dX9_ownOf_24 (lv_at hl 6 rfl) ?_
        obtain ⟨v10, hv10, hf⟩ := Option.bind_eq_some_iff.mp hf
        refine ldm_8 C hP hv10 dX9_ownOf_26 ?_
        refine lv_iload_n C.1 C.2.1 dX9_ownOf_27 rfl (lv_at hl 1 rfl) ?_
        refine lv_icmp_ne (tgt := 57) C.1 C.2.1 dX9_ownOf_28 (by decide) (fun c11 => ?_) (fun c11 => ?_)
        · rw [if_neg c11] at hf
          exact bX9_ownOf_L57 C hZ ih hP (lv_sub hl [0, 1, 2, 3, 4, 5, 6] rfl) hf
        · rw [if_pos c11] at hf
          refine lv_aload_n C.1 C.2.1 dX9_ownOf_31 rfl (lv_at hl 0 rfl) ?_
          refine gtm_X9_isMethod C hP wF_X9_29 dX9_ownOf_32 ?_
          refine lv_iload C.1 C.2.1 dX9_ownOf_35 (lv_at hl 6 rfl) ?_
          obtain ⟨v12, hv12, hf⟩ := Option.bind_eq_some_iff.mp hf
          refine ldm_7 C hP hv12 dX9_ownOf_37 ?_
          refine lv_iload_n C.1 C.2.1 dX9_ownOf_38 rfl (lv_at hl 2 rfl) ?_
          refine lv_icmp_ne (tgt := 57) C.1 C.2.1 dX9_ownOf_39 (by decide) (fun c13 => ?_) (fun c13 => ?_)
          · rw [if_neg c13] at hf
            exact bX9_ownOf_L57 C hZ ih hP (lv_sub hl [0, 1, 2, 3, 4, 5, 6] rfl) hf
          · rw [if_pos c13] at hf
            refine lv_aload_n C.1 C.2.1 dX9_ownOf_42 rfl (lv_at hl 0 rfl) ?_
            refine gtm_X9_mName C hP wF_X9_35 dX9_ownOf_43 ?_
            refine lv_iload C.1 C.2.1 dX9_ownOf_46 (lv_at hl 6 rfl) ?_
            obtain ⟨v14, hv14, hf⟩ := Option.bind_eq_some_iff.mp hf
            refine ldm_9 C hP hv14 dX9_ownOf_48 ?_
            refine lv_iload_n C.1 C.2.1 dX9_ownOf_49 rfl (lv_at hl 3 rfl) ?_
            refine lv_icmp_ne (tgt := 57) C.1 C.2.1 dX9_ownOf_50 (by decide) (fun c15 => ?_) (fun c15 => ?_)
            · rw [if_neg c15] at hf
              exact bX9_ownOf_L57 C hZ ih hP (lv_sub hl [0, 1, 2, 3, 4, 5, 6] rfl) hf
            · rw [if_pos c15] at hf
              refine lv_iconst (v := 1) C.1 C.2.1 dX9_ownOf_53 (by decide) ?_
              refine lv_goto (tgt := 58) C.1 C.2.1 dX9_ownOf_54 (by decide) ?_
              exact bX9_ownOf_L58 C hZ ih hP (lv_sub hl [0, 1, 2, 3, 4, 5, 6] rfl) hf
set_option maxRecDepth 100000 in
set_option maxHeartbeats 4000000 in
theorem mX9_ownOf {r0 : Int32} {x1 : Int32} {x2 : Int32} {x3 : Int32} {x4 : Int32} {x5 : Int32} (hf : fX9_ownOf u x1 x2 x3 x4 x5 = some r0) : MRi l yX9_ownOf cX9_ownOf 8 (some .int) 0 0 [.ref (ad 0), .int x1, .int x2, .int x3, .int x4, .int x5] g (mW g ad u) r0 := by
  refine entR (by decide) (Nat.le_of_ble_eq_true rfl) ?_
  intro p e s m below meth c ls C hP hZ hl
  have hl : lv_has ls 8 [(0, .ref (ad 0)), (1, .int x1), (2, .int x2), (3, .int x3), (4, .int x4), (5, .int x5)] := hl
  rw [fX9_ownOf] at hf
  refine lv_iconst (v := 0) C.1 C.2.1 dX9_ownOf_0 (by decide) ?_
  refine lv_istore (lv' := [(6, .int 0), (0, .ref (ad 0)), (1, .int x1), (2, .int x2), (3, .int x3), (4, .int x4), (5, .int x5)]) C.1 C.2.1 dX9_ownOf_1 hl (by decide) rfl (fun ls hl => ?_)
  exact bX9_ownOf_L3 C hZ 5000 x1 x2 x3 x4 x5 0 hP _ (lv_sub hl [1, 2, 3, 4, 5, 6, 0] rfl) hf
end
theorem vX9_ownOf : YV yX9_ownOf cX9_ownOf 8 (some .int) 5 := ⟨⟨wK_X9_ownOf, wZ_X9, by decide +kernel⟩, wI_X9_ownOf, wV_X9_ownOf⟩
def fX9_freeMember_L2 (u : ST) : Nat → Int32 → Option Int32
  | 0, _ => none
  | n + 1, x1 =>
    if 60 ≤ x1 then
      some (-2)
    else
      (rdI u 6 60 x1).bind fun v2 =>
      if v2 = 0 then
        some x1
      else
        fX9_freeMember_L2 u n (x1 + 1)
def fX9_freeMember (u : ST) : Option Int32 :=
  fX9_freeMember_L2 u 5000 0
section
variable {p : Program} {l : Launch} {e : Env} {s : State} {m : MethodId} {args : Array Value} {below : List Frame} {meth : Method} {c : Code} {H : Heap} {locs : List Loc} {g : GP} {ls : Array Slot} {A : Nat → Prop} {ad : Nat → Nat} {u : ST}
set_option maxRecDepth 100000 in
set_option maxHeartbeats 4000000 in
theorem bX9_freeMember_L2 {r0 : Int32} (C : Cx p s m args meth c cX9_freeMember 2 RX9 (some .int) g) (hZ : SF (fun _ => False) s) (n : Nat) : ∀ (x1 : Int32), va_P g.1 vwCl (mW g ad u) s.heap → ∀ (ls : Array Slot), lv_has ls 2 [(0, .ref (ad 0)), (1, .int x1)] → fX9_freeMember_L2 u n x1 = some r0 → W p l e (rmR 0 0) s m args below meth c s.heap [] 0 0 (MQ below (vp_Si (fun r => r = r0)) args s 0 0 (fun _ => False)) (F0 m 2 ls []) := by
  induction n with
  | zero =>
    intro x1 hP ls hl hf
    exact absurd hf (by simp [fX9_freeMember_L2])
  | succ n ih0 =>
    intro x1 hP ls hl hf
    have ih := fun (x1 : Int32) => ih0 x1 hP
    rw [fX9_freeMember_L2] at hf
    refine lv_iload_n C.1 C.2.1 dX9_freeMember_2 rfl (lv_at hl 1 rfl) ?_
    refine lv_bipush (v := 60) C.1 C.2.1 dX9_freeMember_3 (by decide) ?_
    refine lv_icmp_ge (tgt := 25) C.1 C.2.1 dX9_freeMember_5 (by decide) (fun c1 => ?_) (fun c1 => ?_)
    · rw [if_pos c1] at hf
      refine lv_bipush (v := -2) C.1 C.2.1 dX9_freeMember_25 (by decide) ?_
      exact endRi C hf dX9_freeMember_27
    · rw [if_neg c1] at hf
      refine lv_aload_n C.1 C.2.1 dX9_freeMember_8 rfl (lv_at hl 0 rfl) ?_
      refine gtm_X9_isMember C hP wF_X9_26 dX9_freeMember_9 ?_
      refine lv_iload_n C.1 C.2.1 dX9_freeMember_12 rfl (lv_at hl 1 rfl) ?_
      obtain ⟨v2, hv2, hf⟩ := Option.bind_eq_some_iff.mp hf
      refine ldm_6 C hP hv2 dX9_freeMember_13 ?_
      refine lv_if_ne (tgt := 19) C.1 C.2.1 dX9_freeMember_14 (by decide) (fun c3 => ?_) (fun c3 => ?_)
      · rw [if_neg c3] at hf
        refine lv_iinc (v := (x1 + 1)) (lv' := [(1, .int (x1 + 1)), (0, .ref (ad 0))]) C.1 C.2.1 dX9_freeMember_19 hl (k := 1) rfl rfl (by decide) rfl (fun ls hl => ?_)
        refine lv_goto (tgt := 2) C.1 C.2.1 dX9_freeMember_22 (by decide) ?_
        exact ih (x1 + 1) _ (lv_sub hl [1, 0] rfl) hf
      · rw [if_pos c3] at hf
        refine lv_iload_n C.1 C.2.1 dX9_freeMember_17 rfl (lv_at hl 1 rfl) ?_
        exact endRi C hf dX9_freeMember_18
set_option maxRecDepth 100000 in
set_option maxHeartbeats 4000000 in
theorem mX9_freeMember {r0 : Int32} (hf : fX9_freeMember u = some r0) : MRi l yX9_freeMember cX9_freeMember 2 (some .int) 0 0 [.ref (ad 0)] g (mW g ad u) r0 := by
  refine entR (by decide) (Nat.le_of_ble_eq_true rfl) ?_
  intro p e s m below meth c ls C hP hZ hl
  have hl : lv_has ls 2 [(0, .ref (ad 0))] := hl
  rw [fX9_freeMember] at hf
  refine lv_iconst (v := 0) C.1 C.2.1 dX9_freeMember_0 (by decide) ?_
  refine lv_istore_n (lv' := [(1, .int 0), (0, .ref (ad 0))]) C.1 C.2.1 dX9_freeMember_1 rfl hl (by decide) rfl (fun ls hl => ?_)
  exact bX9_freeMember_L2 C hZ 5000 0 hP _ (lv_sub hl [1, 0] rfl) hf
end
theorem vX9_freeMember : YV yX9_freeMember cX9_freeMember 2 (some .int) 0 := ⟨⟨wK_X9_freeMember, wZ_X9, by decide +kernel⟩, wI_X9_freeMember, wV_X9_freeMember⟩
def fX9_areParameters_L28 (u : ST) (x1 : Int32) (x2 : Int32) : Option Int32 :=
  if x1 = (-2) then
    if x2 = (-2) then
      some 1
    else
      some 0
  else
    some 1
def fX9_areParameters_L14 (u : ST) (x1 : Int32) (x2 : Int32) : Option Int32 :=
  if x2 = (-2) then
    fX9_areParameters_L28 u x1 x2
  else
    (fX9_isType u x2).bind fun v5 =>
    if v5 = 0 then
      some 0
    else
      fX9_areParameters_L28 u x1 x2
def fX9_areParameters (u : ST) (x1 : Int32) (x2 : Int32) : Option Int32 :=
  if x1 = (-2) then
    fX9_areParameters_L14 u x1 x2
  else
    (fX9_isType u x1).bind fun v7 =>
    if v7 = 0 then
      some 0
    else
      fX9_areParameters_L14 u x1 x2
section
variable {p : Program} {l : Launch} {e : Env} {s : State} {m : MethodId} {args : Array Value} {below : List Frame} {meth : Method} {c : Code} {H : Heap} {locs : List Loc} {g : GP} {ls : Array Slot} {A : Nat → Prop} {ad : Nat → Nat} {u : ST}
set_option maxRecDepth 100000 in
set_option maxHeartbeats 4000000 in
theorem bX9_areParameters_L28 {r0 : Int32} {x1 : Int32} {x2 : Int32} (C : Cx p s m args meth c cX9_areParameters 3 RX9 (some .boolean) g) (hZ : SF (fun _ => False) s) (hP : va_P g.1 vwCl (mW g ad u) s.heap) (hl : lv_has ls 3 [(1, .int x1), (2, .int x2)]) (hf : fX9_areParameters_L28 u x1 x2 = some r0) : W p l e (rmR 2 46) s m args below meth c s.heap [] 0 0 (MQ below (vp_Si (fun r => r = r0)) args s 0 0 (fun _ => False)) (F0 m 28 ls []) := by
  rw [fX9_areParameters_L28] at hf
  refine lv_iload_n C.1 C.2.1 dX9_areParameters_28 rfl (lv_at hl 0 rfl) ?_
  refine lv_bipush (v := -2) C.1 C.2.1 dX9_areParameters_29 (by decide) ?_
  refine lv_icmp_ne (tgt := 40) C.1 C.2.1 dX9_areParameters_31 (by decide) (fun c3 => ?_) (fun c3 => ?_)
  · rw [if_neg c3] at hf
    refine lv_iconst (v := 1) C.1 C.2.1 dX9_areParameters_40 (by decide) ?_
    refine lv_goto (tgt := 45) C.1 C.2.1 dX9_areParameters_41 (by decide) ?_
    exact endRz C rfl hf dX9_areParameters_45
  · rw [if_pos c3] at hf
    refine lv_iload_n C.1 C.2.1 dX9_areParameters_34 rfl (lv_at hl 1 rfl) ?_
    refine lv_bipush (v := -2) C.1 C.2.1 dX9_areParameters_35 (by decide) ?_
    refine lv_icmp_ne (tgt := 44) C.1 C.2.1 dX9_areParameters_37 (by decide) (fun c4 => ?_) (fun c4 => ?_)
    · rw [if_neg c4] at hf
      refine lv_iconst (v := 0) C.1 C.2.1 dX9_areParameters_44 (by decide) ?_
      exact endRz C rfl hf dX9_areParameters_45
    · rw [if_pos c4] at hf
      refine lv_iconst (v := 1) C.1 C.2.1 dX9_areParameters_40 (by decide) ?_
      refine lv_goto (tgt := 45) C.1 C.2.1 dX9_areParameters_41 (by decide) ?_
      exact endRz C rfl hf dX9_areParameters_45
set_option maxRecDepth 100000 in
set_option maxHeartbeats 4000000 in
theorem bX9_areParameters_L14 {r0 : Int32} {x1 : Int32} {x2 : Int32} (C : Cx p s m args meth c cX9_areParameters 3 RX9 (some .boolean) g) (hZ : SF (fun _ => False) s) (hP : va_P g.1 vwCl (mW g ad u) s.heap) (hl : lv_has ls 3 [(0, .ref (ad 0)), (1, .int x1), (2, .int x2)]) (hf : fX9_areParameters_L14 u x1 x2 = some r0) : W p l e (rmR 2 46) s m args below meth c s.heap [] 0 0 (MQ below (vp_Si (fun r => r = r0)) args s 0 0 (fun _ => False)) (F0 m 14 ls []) := by
  rw [fX9_areParameters_L14] at hf
  refine lv_iload_n C.1 C.2.1 dX9_areParameters_14 rfl (lv_at hl 2 rfl) ?_
  refine lv_bipush (v := -2) C.1 C.2.1 dX9_areParameters_15 (by decide) ?_
  refine lv_icmp_eq (tgt := 28) C.1 C.2.1 dX9_areParameters_17 (by decide) (fun c2 => ?_) (fun c2 => ?_)
  · rw [if_pos c2] at hf
    exact bX9_areParameters_L28 C hZ hP (lv_sub hl [1, 2] rfl) hf
  · rw [if_neg c2] at hf
    refine lv_aload_n C.1 C.2.1 dX9_areParameters_20 rfl (lv_at hl 0 rfl) ?_
    refine lv_iload_n C.1 C.2.1 dX9_areParameters_21 rfl (lv_at hl 2 rfl) ?_
    obtain ⟨v5, hv5, hf⟩ := Option.bind_eq_some_iff.mp hf
    refine cRi (As := [.int x2]) (rest := []) C (mX9_isType hv5) vX9_isType wM_X9_137 ⟨Nat.le_of_ble_eq_true rfl, Nat.le_of_ble_eq_true rfl⟩ hP (rcm_X9 C hP) (fun U hU hW => SF.go hZ va_S.rf hU hW (fun _ h => h)) hl.1 rfl rfl (Nat.le_of_ble_eq_true rfl) dX9_areParameters_22 ⟨Nat.le_of_ble_eq_true rfl, Nat.le_of_ble_eq_true rfl⟩ ?_
    refine lv_if_eq (tgt := 44) C.1 C.2.1 dX9_areParameters_25 (by decide) (fun c6 => ?_) (fun c6 => ?_)
    · rw [if_pos c6] at hf
      refine lv_iconst (v := 0) C.1 C.2.1 dX9_areParameters_44 (by decide) ?_
      exact endRz C rfl hf dX9_areParameters_45
    · rw [if_neg c6] at hf
      exact bX9_areParameters_L28 C hZ hP (lv_sub hl [1, 2] rfl) hf
set_option maxRecDepth 100000 in
set_option maxHeartbeats 4000000 in
theorem mX9_areParameters {r0 : Int32} {x1 : Int32} {x2 : Int32} (hf : fX9_areParameters u x1 x2 = some r0) : MRi l yX9_areParameters cX9_areParameters 3 (some .boolean) 2 46 [.ref (ad 0), .int x1, .int x2] g (mW g ad u) r0 := by
  refine entR (by decide) (Nat.le_of_ble_eq_true rfl) ?_
  intro p e s m below meth c ls C hP hZ hl
  have hl : lv_has ls 3 [(0, .ref (ad 0)), (1, .int x1), (2, .int x2)] := hl
  rw [fX9_areParameters] at hf
  refine lv_iload_n C.1 C.2.1 dX9_areParameters_0 rfl (lv_at hl 1 rfl) ?_
  refine lv_bipush (v := -2) C.1 C.2.1 dX9_areParameters_1 (by decide) ?_
  refine lv_icmp_eq (tgt := 14) C.1 C.2.1 dX9_areParameters_3 (by decide) (fun c1 => ?_) (fun c1 => ?_)
  · rw [if_pos c1] at hf
    exact bX9_areParameters_L14 C hZ hP (lv_sub hl [0, 1, 2] rfl) hf
  · rw [if_neg c1] at hf
    refine lv_aload_n C.1 C.2.1 dX9_areParameters_6 rfl (lv_at hl 0 rfl) ?_
    refine lv_iload_n C.1 C.2.1 dX9_areParameters_7 rfl (lv_at hl 1 rfl) ?_
    obtain ⟨v7, hv7, hf⟩ := Option.bind_eq_some_iff.mp hf
    refine cRi (As := [.int x1]) (rest := []) C (mX9_isType hv7) vX9_isType wM_X9_137 ⟨Nat.le_of_ble_eq_true rfl, Nat.le_of_ble_eq_true rfl⟩ hP (rcm_X9 C hP) (fun U hU hW => SF.go hZ va_S.rf hU hW (fun _ h => h)) hl.1 rfl rfl (Nat.le_of_ble_eq_true rfl) dX9_areParameters_8 ⟨Nat.le_of_ble_eq_true rfl, Nat.le_of_ble_eq_true rfl⟩ ?_
    refine lv_if_eq (tgt := 44) C.1 C.2.1 dX9_areParameters_11 (by decide) (fun c8 => ?_) (fun c8 => ?_)
    · rw [if_pos c8] at hf
      refine lv_iconst (v := 0) C.1 C.2.1 dX9_areParameters_44 (by decide) ?_
      exact endRz C rfl hf dX9_areParameters_45
    · rw [if_neg c8] at hf
      exact bX9_areParameters_L14 C hZ hP (lv_sub hl [0, 1, 2] rfl) hf
end
theorem vX9_areParameters : YV yX9_areParameters cX9_areParameters 3 (some .boolean) 2 := ⟨⟨wK_X9_areParameters, wZ_X9, by decide +kernel⟩, wI_X9_areParameters, wV_X9_areParameters⟩
def fX9_areMethodMarks (u : ST) (x0 : Int32) : Option Int32 :=
  (fX9_in u ((x0 : Int32).toInt64) 0 15).bind fun v1 =>
  if v1 = 0 then
    some 0
  else
    if (x0 &&& 8) = 0 then
      some 1
    else
      if x0 = 8 then
        some 1
      else
        some 0
section
variable {p : Program} {l : Launch} {e : Env} {s : State} {m : MethodId} {args : Array Value} {below : List Frame} {meth : Method} {c : Code} {H : Heap} {locs : List Loc} {g : GP} {ls : Array Slot} {A : Nat → Prop} {ad : Nat → Nat} {u : ST}
set_option maxRecDepth 100000 in
set_option maxHeartbeats 4000000 in
theorem mX9_areMethodMarks {r0 : Int32} {x0 : Int32} (hf : fX9_areMethodMarks u x0 = some r0) : MRi l yX9_areMethodMarks cX9_areMethodMarks 1 (some .boolean) 1 25 [.int x0] g (mW g ad u) r0 := by
  refine entR (by decide) (Nat.le_of_ble_eq_true rfl) ?_
  intro p e s m below meth c ls C hP hZ hl
  have hl : lv_has ls 1 [(0, .int x0)] := hl
  rw [fX9_areMethodMarks] at hf
  refine lv_iload_n C.1 C.2.1 dX9_areMethodMarks_0 rfl (lv_at hl 0 rfl) ?_
  refine lv_i2l C.1 C.2.1 dX9_areMethodMarks_1 rfl ?_
  refine lv_lconst (v := 0) C.1 C.2.1 dX9_areMethodMarks_2 (by decide) ?_
  refine lv_ldc2 (v := 15) C.1 C.2.1 C.2.2.2.1 (C.2.2.2.2.1 _ wKL_X9_175) dX9_areMethodMarks_3 ?_
  obtain ⟨v1, hv1, hf⟩ := Option.bind_eq_some_iff.mp hf
  refine cSi (As := [.long ((x0 : Int32).toInt64), .long 0, .long 15]) (rest := []) C (mX9_in hv1) vX9_in wM_X9_133 ⟨Nat.le_of_ble_eq_true rfl, Nat.le_of_ble_eq_true rfl⟩ hP (fun U hU hW => SF.go hZ va_S.rf hU hW (fun _ h => h)) hl.1 rfl rfl (Nat.le_of_ble_eq_true rfl) dX9_areMethodMarks_6 ⟨Nat.le_of_ble_eq_true rfl, Nat.le_of_ble_eq_true rfl⟩ ?_
  refine lv_if_eq (tgt := 29) C.1 C.2.1 dX9_areMethodMarks_9 (by decide) (fun c2 => ?_) (fun c2 => ?_)
  · rw [if_pos c2] at hf
    refine lv_iconst (v := 0) C.1 C.2.1 dX9_areMethodMarks_29 (by decide) ?_
    exact endRz C rfl hf dX9_areMethodMarks_30
  · rw [if_neg c2] at hf
    refine lv_iload_n C.1 C.2.1 dX9_areMethodMarks_12 rfl (lv_at hl 0 rfl) ?_
    refine lv_bipush (v := 8) C.1 C.2.1 dX9_areMethodMarks_13 (by decide) ?_
    refine lv_iand C.1 C.2.1 dX9_areMethodMarks_15 ?_
    refine lv_if_eq (tgt := 25) C.1 C.2.1 dX9_areMethodMarks_16 (by decide) (fun c3 => ?_) (fun c3 => ?_)
    · rw [if_pos c3] at hf
      refine lv_iconst (v := 1) C.1 C.2.1 dX9_areMethodMarks_25 (by decide) ?_
      refine lv_goto (tgt := 30) C.1 C.2.1 dX9_areMethodMarks_26 (by decide) ?_
      exact endRz C rfl hf dX9_areMethodMarks_30
    · rw [if_neg c3] at hf
      refine lv_iload_n C.1 C.2.1 dX9_areMethodMarks_19 rfl (lv_at hl 0 rfl) ?_
      refine lv_bipush (v := 8) C.1 C.2.1 dX9_areMethodMarks_20 (by decide) ?_
      refine lv_icmp_ne (tgt := 29) C.1 C.2.1 dX9_areMethodMarks_22 (by decide) (fun c4 => ?_) (fun c4 => ?_)
      · rw [if_neg c4] at hf
        refine lv_iconst (v := 0) C.1 C.2.1 dX9_areMethodMarks_29 (by decide) ?_
        exact endRz C rfl hf dX9_areMethodMarks_30
      · rw [if_pos c4] at hf
        refine lv_iconst (v := 1) C.1 C.2.1 dX9_areMethodMarks_25 (by decide) ?_
        refine lv_goto (tgt := 30) C.1 C.2.1 dX9_areMethodMarks_26 (by decide) ?_
        exact endRz C rfl hf dX9_areMethodMarks_30
end
theorem vX9_areMethodMarks : YS yX9_areMethodMarks cX9_areMethodMarks 1 (some .boolean) 1 := ⟨⟨wK_X9_areMethodMarks, wZ_X9, by decide +kernel⟩, wS_X9_areMethodMarks⟩
def fX9_isHere (u : ST) (x1 : Int32) : Option Int32 :=
  (fX9_in u ((x1 : Int32).toInt64) 0 59).bind fun v1 =>
  if v1 = 0 then
    some 0
  else
    (rdI u 6 60 x1).bind fun v3 =>
    if v3 = 0 then
      some 0
    else
      some 1
section
variable {p : Program} {l : Launch} {e : Env} {s : State} {m : MethodId} {args : Array Value} {below : List Frame} {meth : Method} {c : Code} {H : Heap} {locs : List Loc} {g : GP} {ls : Array Slot} {A : Nat → Prop} {ad : Nat → Nat} {u : ST}
set_option maxRecDepth 100000 in
set_option maxHeartbeats 4000000 in
theorem mX9_isHere {r0 : Int32} {x1 : Int32} (hf : fX9_isHere u x1 = some r0) : MRi l yX9_isHere cX9_isHere 2 (some .boolean) 1 25 [.ref (ad 0), .int x1] g (mW g ad u) r0 := by
  refine entR (by decide) (Nat.le_of_ble_eq_true rfl) ?_
  intro p e s m below meth c ls C hP hZ hl
  have hl : lv_has ls 2 [(0, .ref (ad 0)), (1, .int x1)] := hl
  rw [fX9_isHere] at hf
  refine lv_iload_n C.1 C.2.1 dX9_isHere_0 rfl (lv_at hl 1 rfl) ?_
  refine lv_i2l C.1 C.2.1 dX9_isHere_1 rfl ?_
  refine lv_lconst (v := 0) C.1 C.2.1 dX9_isHere_2 (by decide) ?_
  refine lv_ldc2 (v := 59) C.1 C.2.1 C.2.2.2.1 (C.2.2.2.2.1 _ wKL_X9_141) dX9_isHere_3 ?_
  obtain ⟨v1, hv1, hf⟩ := Option.bind_eq_some_iff.mp hf
  refine cSi (As := [.long ((x1 : Int32).toInt64), .long 0, .long 59]) (rest := []) C (mX9_in hv1) vX9_in wM_X9_133 ⟨Nat.le_of_ble_eq_true rfl, Nat.le_of_ble_eq_true rfl⟩ hP (fun U hU hW => SF.go hZ va_S.rf hU hW (fun _ h => h)) hl.1 rfl rfl (Nat.le_of_ble_eq_true rfl) dX9_isHere_6 ⟨Nat.le_of_ble_eq_true rfl, Nat.le_of_ble_eq_true rfl⟩ ?_
  refine lv_if_eq (tgt := 25) C.1 C.2.1 dX9_isHere_9 (by decide) (fun c2 => ?_) (fun c2 => ?_)
  · rw [if_pos c2] at hf
    refine lv_iconst (v := 0) C.1 C.2.1 dX9_isHere_25 (by decide) ?_
    exact endRz C rfl hf dX9_isHere_26
  · rw [if_neg c2] at hf
    refine lv_aload_n C.1 C.2.1 dX9_isHere_12 rfl (lv_at hl 0 rfl) ?_
    refine gtm_X9_isMember C hP wF_X9_26 dX9_isHere_13 ?_
    refine lv_iload_n C.1 C.2.1 dX9_isHere_16 rfl (lv_at hl 1 rfl) ?_
    obtain ⟨v3, hv3, hf⟩ := Option.bind_eq_some_iff.mp hf
    refine ldm_6 C hP hv3 dX9_isHere_17 ?_
    refine lv_if_eq (tgt := 25) C.1 C.2.1 dX9_isHere_18 (by decide) (fun c4 => ?_) (fun c4 => ?_)
    · rw [if_pos c4] at hf
      refine lv_iconst (v := 0) C.1 C.2.1 dX9_isHere_25 (by decide) ?_
      exact endRz C rfl hf dX9_isHere_26
    · rw [if_neg c4] at hf
      refine lv_iconst (v := 1) C.1 C.2.1 dX9_isHere_21 (by decide) ?_
      refine lv_goto (tgt := 26) C.1 C.2.1 dX9_isHere_22 (by decide) ?_
      exact endRz C rfl hf dX9_isHere_26
end
theorem vX9_isHere : YV yX9_isHere cX9_isHere 2 (some .boolean) 1 := ⟨⟨wK_X9_isHere, wZ_X9, by decide +kernel⟩, wI_X9_isHere, wV_X9_isHere⟩
def fX9_likeIn (u : ST) (x1 : Int32) (x2 : Int32) : Option Int32 :=
  (rdI u 7 60 x2).bind fun v1 =>
  (rdI u 9 60 x2).bind fun v2 =>
  (rdI u 12 60 x2).bind fun v3 =>
  (rdI u 13 60 x2).bind fun v4 =>
  (fX9_ownOf u x1 v1 v2 v3 v4).bind fun v5 =>
  some v5
section
variable {p : Program} {l : Launch} {e : Env} {s : State} {m : MethodId} {args : Array Value} {below : List Frame} {meth : Method} {c : Code} {H : Heap} {locs : List Loc} {g : GP} {ls : Array Slot} {A : Nat → Prop} {ad : Nat → Nat} {u : ST}
set_option maxRecDepth 100000 in
set_option maxHeartbeats 4000000 in
theorem mX9_likeIn {r0 : Int32} {x1 : Int32} {x2 : Int32} (hf : fX9_likeIn u x1 x2 = some r0) : MRi l yX9_likeIn cX9_likeIn 3 (some .int) 1 27 [.ref (ad 0), .int x1, .int x2] g (mW g ad u) r0 := by
  refine entR (by decide) (Nat.le_of_ble_eq_true rfl) ?_
  intro p e s m below meth c ls C hP hZ hl
  have hl : lv_has ls 3 [(0, .ref (ad 0)), (1, .int x1), (2, .int x2)] := hl
  rw [fX9_likeIn] at hf
  refine lv_aload_n C.1 C.2.1 dX9_likeIn_0 rfl (lv_at hl 0 rfl) ?_
  refine lv_iload_n C.1 C.2.1 dX9_likeIn_1 rfl (lv_at hl 1 rfl) ?_
  refine lv_aload_n C.1 C.2.1 dX9_likeIn_2 rfl (lv_at hl 0 rfl) ?_
  refine gtm_X9_isMethod C hP wF_X9_29 dX9_likeIn_3 ?_
  refine lv_iload_n C.1 C.2.1 dX9_likeIn_6 rfl (lv_at hl 2 rfl) ?_
  obtain ⟨v1, hv1, hf⟩ := Option.bind_eq_some_iff.mp hf
  refine ldm_7 C hP hv1 dX9_likeIn_7 ?_
  refine lv_aload_n C.1 C.2.1 dX9_likeIn_8 rfl (lv_at hl 0 rfl) ?_
  refine gtm_X9_mName C hP wF_X9_35 dX9_likeIn_9 ?_
  refine lv_iload_n C.1 C.2.1 dX9_likeIn_12 rfl (lv_at hl 2 rfl) ?_
  obtain ⟨v2, hv2, hf⟩ := Option.bind_eq_some_iff.mp hf
  refine ldm_9 C hP hv2 dX9_likeIn_13 ?_
  refine lv_aload_n C.1 C.2.1 dX9_likeIn_14 rfl (lv_at hl 0 rfl) ?_
  refine gtm_X9_mFirst C hP wF_X9_44 dX9_likeIn_15 ?_
  refine lv_iload_n C.1 C.2.1 dX9_likeIn_18 rfl (lv_at hl 2 rfl) ?_
  obtain ⟨v3, hv3, hf⟩ := Option.bind_eq_some_iff.mp hf
  refine ldm_12 C hP hv3 dX9_likeIn_19 ?_
  refine lv_aload_n C.1 C.2.1 dX9_likeIn_20 rfl (lv_at hl 0 rfl) ?_
  refine gtm_X9_mSecond C hP wF_X9_47 dX9_likeIn_21 ?_
  refine lv_iload_n C.1 C.2.1 dX9_likeIn_24 rfl (lv_at hl 2 rfl) ?_
  obtain ⟨v4, hv4, hf⟩ := Option.bind_eq_some_iff.mp hf
  refine ldm_13 C hP hv4 dX9_likeIn_25 ?_
  obtain ⟨v5, hv5, hf⟩ := Option.bind_eq_some_iff.mp hf
  refine cRi (As := [.int x1, .int v1, .int v2, .int v3, .int v4]) (rest := []) C (mX9_ownOf hv5) vX9_ownOf wM_X9_147 ⟨Nat.le_of_ble_eq_true rfl, Nat.le_of_ble_eq_true rfl⟩ hP (rcm_X9 C hP) (fun U hU hW => SF.go hZ va_S.rf hU hW (fun _ h => h)) hl.1 rfl rfl (Nat.le_of_ble_eq_true rfl) dX9_likeIn_26 ⟨Nat.le_of_ble_eq_true rfl, Nat.le_of_ble_eq_true rfl⟩ ?_
  exact endRi C hf dX9_likeIn_29
end
theorem vX9_likeIn : YV yX9_likeIn cX9_likeIn 3 (some .int) 2 := ⟨⟨wK_X9_likeIn, wZ_X9, by decide +kernel⟩, wI_X9_likeIn, wV_X9_likeIn⟩
def fX9_refusalOfMember (u : ST) (x1 : Int32) (x2 : Int32) (x3 : Int32) : Option Int32 :=
  (fX9_isHere u x2).bind fun v1 =>
  if v1 = 0 then
    some (-1)
  else
    if x1 = 8 then
      (rdI u 7 60 x2).bind fun v4 =>
      if v4 = 0 then
        (rdI u 8 60 x2).bind fun v6 =>
        (rdI u 1 12 v6).bind fun v7 =>
        (fX9_areFieldMarks u x3 v7).bind fun v8 =>
        if v8 = 0 then
          some (-1)
        else
          some 0
      else
        (fX9_areMethodMarks u x3).bind fun v10 =>
        if v10 = 0 then
          some (-1)
        else
          some 0
    else
    if x1 = 9 then
      some 0
    else
    if x1 = 10 then
      (rdI u 7 60 x2).bind fun v14 =>
      if v14 = 0 then
        (fX9_in u ((x3 : Int32).toInt64) 0 7).bind fun v16 =>
        if v16 = 0 then
          some (-1)
        else
          some 0
      else
        some (-1)
    else
    if x1 = 11 then
      (fX9_isType u x3).bind fun v19 =>
      if v19 = 0 then
        some (-1)
      else
        (rdI u 8 60 x2).bind fun v21 =>
        if x3 = v21 then
          some (-1)
        else
          (fX9_likeIn u x3 x2).bind fun v23 =>
          if v23 = (-2) then
            (rdI u 7 60 x2).bind fun v25 =>
            if v25 = 0 then
              (rdI u 1 12 x3).bind fun v27 =>
              if v27 = 0 then
                some 0
              else
                (rdI u 10 60 x2).bind fun v29 =>
                if (v29 &&& 1) = 0 then
                  some (-1)
                else
                  some 0
            else
              some 0
          else
            some (-1)
    else
      some 0
section
variable {p : Program} {l : Launch} {e : Env} {s : State} {m : MethodId} {args : Array Value} {below : List Frame} {meth : Method} {c : Code} {H : Heap} {locs : List Loc} {g : GP} {ls : Array Slot} {A : Nat → Prop} {ad : Nat → Nat} {u : ST}
set_option maxRecDepth 100000 in
set_option maxHeartbeats 4000000 in
theorem mX9_refusalOfMember {r0 : Int32} {x1 : Int32} {x2 : Int32} {x3 : Int32} (hf : fX9_refusalOfMember u x1 x2 x3 = some r0) : MRi l yX9_refusalOfMember cX9_refusalOfMember 4 (some .int) 2 49 [.ref (ad 0), .int x1, .int x2, .int x3] g (mW g ad u) r0 := by
  refine entR (by decide) (Nat.le_of_ble_eq_true rfl) ?_
  intro p e s m below meth c ls C hP hZ hl
  have hl : lv_has ls 4 [(0, .ref (ad 0)), (1, .int x1), (2, .int x2), (3, .int x3)] := hl
  rw [fX9_refusalOfMember] at hf
  refine lv_aload_n C.1 C.2.1 dX9_refusalOfMember_0 rfl (lv_at hl 0 rfl) ?_
  refine lv_iload_n C.1 C.2.1 dX9_refusalOfMember_1 rfl (lv_at hl 2 rfl) ?_
  obtain ⟨v1, hv1, hf⟩ := Option.bind_eq_some_iff.mp hf
  refine cRi (As := [.int x2]) (rest := []) C (mX9_isHere hv1) vX9_isHere wM_X9_210 ⟨Nat.le_of_ble_eq_true rfl, Nat.le_of_ble_eq_true rfl⟩ hP (rcm_X9 C hP) (fun U hU hW => SF.go hZ va_S.rf hU hW (fun _ h => h)) hl.1 rfl rfl (Nat.le_of_ble_eq_true rfl) dX9_refusalOfMember_2 ⟨Nat.le_of_ble_eq_true rfl, Nat.le_of_ble_eq_true rfl⟩ ?_
  refine lv_if_ne (tgt := 10) C.1 C.2.1 dX9_refusalOfMember_5 (by decide) (fun c2 => ?_) (fun c2 => ?_)
  · rw [if_neg c2] at hf
    refine lv_iload_n C.1 C.2.1 dX9_refusalOfMember_10 rfl (lv_at hl 1 rfl) ?_
    by_cases c3 : x1 = 8
    · rw [if_pos c3] at hf
      have e9 : (x1 : Int32).toInt = 8 := by rw [c3]; rfl
      refine lv_tableIn (off := 29) (tgt := 40) C.1 C.2.1 dX9_refusalOfMember_11 (by rw [e9]; decide) (by rw [e9]; decide) (by rw [e9]; rfl) (by decide) ?_
      refine lv_aload_n C.1 C.2.1 dX9_refusalOfMember_40 rfl (lv_at hl 0 rfl) ?_
      refine gtm_X9_isMethod C hP wF_X9_29 dX9_refusalOfMember_41 ?_
      refine lv_iload_n C.1 C.2.1 dX9_refusalOfMember_44 rfl (lv_at hl 2 rfl) ?_
      obtain ⟨v4, hv4, hf⟩ := Option.bind_eq_some_iff.mp hf
      refine ldm_7 C hP hv4 dX9_refusalOfMember_45 ?_
      refine lv_if_eq (tgt := 59) C.1 C.2.1 dX9_refusalOfMember_46 (by decide) (fun c5 => ?_) (fun c5 => ?_)
      · rw [if_pos c5] at hf
        refine lv_iload_n C.1 C.2.1 dX9_refusalOfMember_59 rfl (lv_at hl 3 rfl) ?_
        refine lv_aload_n C.1 C.2.1 dX9_refusalOfMember_60 rfl (lv_at hl 0 rfl) ?_
        refine gtm_X9_isFace C hP wF_X9_7 dX9_refusalOfMember_61 ?_
        refine lv_aload_n C.1 C.2.1 dX9_refusalOfMember_64 rfl (lv_at hl 0 rfl) ?_
        refine gtm_X9_mType C hP wF_X9_32 dX9_refusalOfMember_65 ?_
        refine lv_iload_n C.1 C.2.1 dX9_refusalOfMember_68 rfl (lv_at hl 2 rfl) ?_
        obtain ⟨v6, hv6, hf⟩ := Option.bind_eq_some_iff.mp hf
        refine ldm_8 C hP hv6 dX9_refusalOfMember_69 ?_
        obtain ⟨v7, hv7, hf⟩ := Option.bind_eq_some_iff.mp hf
        refine ldm_1 C hP hv7 dX9_refusalOfMember_70 ?_
        obtain ⟨v8, hv8, hf⟩ := Option.bind_eq_some_iff.mp hf
        refine cSi (As := [.int x3, .int v7]) (rest := []) C (mX9_areFieldMarks hv8) vX9_areFieldMarks wM_X9_192 ⟨Nat.le_of_ble_eq_true rfl, Nat.le_of_ble_eq_true rfl⟩ hP (fun U hU hW => SF.go hZ va_S.rf hU hW (fun _ h => h)) hl.1 rfl rfl (Nat.le_of_ble_eq_true rfl) dX9_refusalOfMember_71 ⟨Nat.le_of_ble_eq_true rfl, Nat.le_of_ble_eq_true rfl⟩ ?_
        refine lv_if_eq (tgt := 81) C.1 C.2.1 dX9_refusalOfMember_74 (by decide) (fun c9 => ?_) (fun c9 => ?_)
        · rw [if_pos c9] at hf
          refine lv_iconst (v := -1) C.1 C.2.1 dX9_refusalOfMember_81 (by decide) ?_
          exact endRi C hf dX9_refusalOfMember_82
        · rw [if_neg c9] at hf
          refine lv_iconst (v := 0) C.1 C.2.1 dX9_refusalOfMember_77 (by decide) ?_
          refine lv_goto (tgt := 82) C.1 C.2.1 dX9_refusalOfMember_78 (by decide) ?_
          exact endRi C hf dX9_refusalOfMember_82
      · rw [if_neg c5] at hf
        refine lv_iload_n C.1 C.2.1 dX9_refusalOfMember_49 rfl (lv_at hl 3 rfl) ?_
        obtain ⟨v10, hv10, hf⟩ := Option.bind_eq_some_iff.mp hf
        refine cSi (As := [.int x3]) (rest := []) C (mX9_areMethodMarks hv10) vX9_areMethodMarks wM_X9_203 ⟨Nat.le_of_ble_eq_true rfl, Nat.le_of_ble_eq_true rfl⟩ hP (fun U hU hW => SF.go hZ va_S.rf hU hW (fun _ h => h)) hl.1 rfl rfl (Nat.le_of_ble_eq_true rfl) dX9_refusalOfMember_50 ⟨Nat.le_of_ble_eq_true rfl, Nat.le_of_ble_eq_true rfl⟩ ?_
        refine lv_if_eq (tgt := 81) C.1 C.2.1 dX9_refusalOfMember_53 (by decide) (fun c11 => ?_) (fun c11 => ?_)
        · rw [if_pos c11] at hf
          refine lv_iconst (v := -1) C.1 C.2.1 dX9_refusalOfMember_81 (by decide) ?_
          exact endRi C hf dX9_refusalOfMember_82
        · rw [if_neg c11] at hf
          refine lv_goto (tgt := 77) C.1 C.2.1 dX9_refusalOfMember_56 (by decide) ?_
          refine lv_iconst (v := 0) C.1 C.2.1 dX9_refusalOfMember_77 (by decide) ?_
          refine lv_goto (tgt := 82) C.1 C.2.1 dX9_refusalOfMember_78 (by decide) ?_
          exact endRi C hf dX9_refusalOfMember_82
    rw [if_neg c3] at hf
    by_cases c12 : x1 = 9
    · rw [if_pos c12] at hf
      have e9 : (x1 : Int32).toInt = 9 := by rw [c12]; rfl
      refine lv_tableIn (off := 165) (tgt := 176) C.1 C.2.1 dX9_refusalOfMember_11 (by rw [e9]; decide) (by rw [e9]; decide) (by rw [e9]; rfl) (by decide) ?_
      refine lv_iconst (v := 0) C.1 C.2.1 dX9_refusalOfMember_176 (by decide) ?_
      exact endRi C hf dX9_refusalOfMember_177
    rw [if_neg c12] at hf
    by_cases c13 : x1 = 10
    · rw [if_pos c13] at hf
      have e9 : (x1 : Int32).toInt = 10 := by rw [c13]; rfl
      refine lv_tableIn (off := 72) (tgt := 83) C.1 C.2.1 dX9_refusalOfMember_11 (by rw [e9]; decide) (by rw [e9]; decide) (by rw [e9]; rfl) (by decide) ?_
      refine lv_aload_n C.1 C.2.1 dX9_refusalOfMember_83 rfl (lv_at hl 0 rfl) ?_
      refine gtm_X9_isMethod C hP wF_X9_29 dX9_refusalOfMember_84 ?_
      refine lv_iload_n C.1 C.2.1 dX9_refusalOfMember_87 rfl (lv_at hl 2 rfl) ?_
      obtain ⟨v14, hv14, hf⟩ := Option.bind_eq_some_iff.mp hf
      refine ldm_7 C hP hv14 dX9_refusalOfMember_88 ?_
      refine lv_if_ne (tgt := 104) C.1 C.2.1 dX9_refusalOfMember_89 (by decide) (fun c15 => ?_) (fun c15 => ?_)
      · rw [if_neg c15] at hf
        refine lv_iconst (v := -1) C.1 C.2.1 dX9_refusalOfMember_104 (by decide) ?_
        refine lv_goto (tgt := 109) C.1 C.2.1 dX9_refusalOfMember_105 (by decide) ?_
        exact endRi C hf dX9_refusalOfMember_109
      · rw [if_pos c15] at hf
        refine lv_iload_n C.1 C.2.1 dX9_refusalOfMember_92 rfl (lv_at hl 3 rfl) ?_
        refine lv_i2l C.1 C.2.1 dX9_refusalOfMember_93 rfl ?_
        refine lv_lconst (v := 0) C.1 C.2.1 dX9_refusalOfMember_94 (by decide) ?_
        refine lv_ldc2 (v := 7) C.1 C.2.1 C.2.2.2.1 (C.2.2.2.2.1 _ wKL_X9_173) dX9_refusalOfMember_95 ?_
        obtain ⟨v16, hv16, hf⟩ := Option.bind_eq_some_iff.mp hf
        refine cSi (As := [.long ((x3 : Int32).toInt64), .long 0, .long 7]) (rest := []) C (mX9_in hv16) vX9_in wM_X9_133 ⟨Nat.le_of_ble_eq_true rfl, Nat.le_of_ble_eq_true rfl⟩ hP (fun U hU hW => SF.go hZ va_S.rf hU hW (fun _ h => h)) hl.1 rfl rfl (Nat.le_of_ble_eq_true rfl) dX9_refusalOfMember_98 ⟨Nat.le_of_ble_eq_true rfl, Nat.le_of_ble_eq_true rfl⟩ ?_
        refine lv_if_ne (tgt := 108) C.1 C.2.1 dX9_refusalOfMember_101 (by decide) (fun c17 => ?_) (fun c17 => ?_)
        · rw [if_neg c17] at hf
          refine lv_iconst (v := 0) C.1 C.2.1 dX9_refusalOfMember_108 (by decide) ?_
          exact endRi C hf dX9_refusalOfMember_109
        · rw [if_pos c17] at hf
          refine lv_iconst (v := -1) C.1 C.2.1 dX9_refusalOfMember_104 (by decide) ?_
          refine lv_goto (tgt := 109) C.1 C.2.1 dX9_refusalOfMember_105 (by decide) ?_
          exact endRi C hf dX9_refusalOfMember_109
    rw [if_neg c13] at hf
    by_cases c18 : x1 = 11
    · rw [if_pos c18] at hf
      have e9 : (x1 : Int32).toInt = 11 := by rw [c18]; rfl
      refine lv_tableIn (off := 99) (tgt := 110) C.1 C.2.1 dX9_refusalOfMember_11 (by rw [e9]; decide) (by rw [e9]; decide) (by rw [e9]; rfl) (by decide) ?_
      refine lv_aload_n C.1 C.2.1 dX9_refusalOfMember_110 rfl (lv_at hl 0 rfl) ?_
      refine lv_iload_n C.1 C.2.1 dX9_refusalOfMember_111 rfl (lv_at hl 3 rfl) ?_
      obtain ⟨v19, hv19, hf⟩ := Option.bind_eq_some_iff.mp hf
      refine cRi (As := [.int x3]) (rest := []) C (mX9_isType hv19) vX9_isType wM_X9_137 ⟨Nat.le_of_ble_eq_true rfl, Nat.le_of_ble_eq_true rfl⟩ hP (rcm_X9 C hP) (fun U hU hW => SF.go hZ va_S.rf hU hW (fun _ h => h)) hl.1 rfl rfl (Nat.le_of_ble_eq_true rfl) dX9_refusalOfMember_112 ⟨Nat.le_of_ble_eq_true rfl, Nat.le_of_ble_eq_true rfl⟩ ?_
      refine lv_if_eq (tgt := 139) C.1 C.2.1 dX9_refusalOfMember_115 (by decide) (fun c20 => ?_) (fun c20 => ?_)
      · rw [if_pos c20] at hf
        refine lv_iconst (v := -1) C.1 C.2.1 dX9_refusalOfMember_139 (by decide) ?_
        exact endRi C hf dX9_refusalOfMember_140
      · rw [if_neg c20] at hf
        refine lv_iload_n C.1 C.2.1 dX9_refusalOfMember_118 rfl (lv_at hl 3 rfl) ?_
        refine lv_aload_n C.1 C.2.1 dX9_refusalOfMember_119 rfl (lv_at hl 0 rfl) ?_
        refine gtm_X9_mType C hP wF_X9_32 dX9_refusalOfMember_120 ?_
        refine lv_iload_n C.1 C.2.1 dX9_refusalOfMember_123 rfl (lv_at hl 2 rfl) ?_
        obtain ⟨v21, hv21, hf⟩ := Option.bind_eq_some_iff.mp hf
        refine ldm_8 C hP hv21 dX9_refusalOfMember_124 ?_
        refine lv_icmp_eq (tgt := 139) C.1 C.2.1 dX9_refusalOfMember_125 (by decide) (fun c22 => ?_) (fun c22 => ?_)
        · rw [if_pos c22] at hf
          refine lv_iconst (v := -1) C.1 C.2.1 dX9_refusalOfMember_139 (by decide) ?_
          exact endRi C hf dX9_refusalOfMember_140
        · rw [if_neg c22] at hf
          refine lv_aload_n C.1 C.2.1 dX9_refusalOfMember_128 rfl (lv_at hl 0 rfl) ?_
          refine lv_iload_n C.1 C.2.1 dX9_refusalOfMember_129 rfl (lv_at hl 3 rfl) ?_
          refine lv_iload_n C.1 C.2.1 dX9_refusalOfMember_130 rfl (lv_at hl 2 rfl) ?_
          obtain ⟨v23, hv23, hf⟩ := Option.bind_eq_some_iff.mp hf
          refine cRi (As := [.int x3, .int x2]) (rest := []) C (mX9_likeIn hv23) vX9_likeIn wM_X9_213 ⟨Nat.le_of_ble_eq_true rfl, Nat.le_of_ble_eq_true rfl⟩ hP (rcm_X9 C hP) (fun U hU hW => SF.go hZ va_S.rf hU hW (fun _ h => h)) hl.1 rfl rfl (Nat.le_of_ble_eq_true rfl) dX9_refusalOfMember_131 ⟨Nat.le_of_ble_eq_true rfl, Nat.le_of_ble_eq_true rfl⟩ ?_
          refine lv_bipush (v := -2) C.1 C.2.1 dX9_refusalOfMember_134 (by decide) ?_
          refine lv_icmp_eq (tgt := 141) C.1 C.2.1 dX9_refusalOfMember_136 (by decide) (fun c24 => ?_) (fun c24 => ?_)
          · rw [if_pos c24] at hf
            refine lv_aload_n C.1 C.2.1 dX9_refusalOfMember_141 rfl (lv_at hl 0 rfl) ?_
            refine gtm_X9_isMethod C hP wF_X9_29 dX9_refusalOfMember_142 ?_
            refine lv_iload_n C.1 C.2.1 dX9_refusalOfMember_145 rfl (lv_at hl 2 rfl) ?_
            obtain ⟨v25, hv25, hf⟩ := Option.bind_eq_some_iff.mp hf
            refine ldm_7 C hP hv25 dX9_refusalOfMember_146 ?_
            refine lv_if_ne (tgt := 174) C.1 C.2.1 dX9_refusalOfMember_147 (by decide) (fun c26 => ?_) (fun c26 => ?_)
            · rw [if_neg c26] at hf
              refine lv_iconst (v := 0) C.1 C.2.1 dX9_refusalOfMember_174 (by decide) ?_
              exact endRi C hf dX9_refusalOfMember_175
            · rw [if_pos c26] at hf
              refine lv_aload_n C.1 C.2.1 dX9_refusalOfMember_150 rfl (lv_at hl 0 rfl) ?_
              refine gtm_X9_isFace C hP wF_X9_7 dX9_refusalOfMember_151 ?_
              refine lv_iload_n C.1 C.2.1 dX9_refusalOfMember_154 rfl (lv_at hl 3 rfl) ?_
              obtain ⟨v27, hv27, hf⟩ := Option.bind_eq_some_iff.mp hf
              refine ldm_1 C hP hv27 dX9_refusalOfMember_155 ?_
              refine lv_if_eq (tgt := 174) C.1 C.2.1 dX9_refusalOfMember_156 (by decide) (fun c28 => ?_) (fun c28 => ?_)
              · rw [if_pos c28] at hf
                refine lv_iconst (v := 0) C.1 C.2.1 dX9_refusalOfMember_174 (by decide) ?_
                exact endRi C hf dX9_refusalOfMember_175
              · rw [if_neg c28] at hf
                refine lv_aload_n C.1 C.2.1 dX9_refusalOfMember_159 rfl (lv_at hl 0 rfl) ?_
                refine gtm_X9_mMarks C hP wF_X9_38 dX9_refusalOfMember_160 ?_
                refine lv_iload_n C.1 C.2.1 dX9_refusalOfMember_163 rfl (lv_at hl 2 rfl) ?_
                obtain ⟨v29, hv29, hf⟩ := Option.bind_eq_some_iff.mp hf
                refine ldm_10 C hP hv29 dX9_refusalOfMember_164 ?_
                refine lv_iconst (v := 1) C.1 C.2.1 dX9_refusalOfMember_165 (by decide) ?_
                refine lv_iand C.1 C.2.1 dX9_refusalOfMember_166 ?_
                refine lv_if_ne (tgt := 174) C.1 C.2.1 dX9_refusalOfMember_167 (by decide) (fun c30 => ?_) (fun c30 => ?_)
                · rw [if_neg c30] at hf
                  refine lv_iconst (v := 0) C.1 C.2.1 dX9_refusalOfMember_174 (by decide) ?_
                  exact endRi C hf dX9_refusalOfMember_175
                · rw [if_pos c30] at hf
                  refine lv_iconst (v := -1) C.1 C.2.1 dX9_refusalOfMember_170 (by decide) ?_
                  refine lv_goto (tgt := 175) C.1 C.2.1 dX9_refusalOfMember_171 (by decide) ?_
                  exact endRi C hf dX9_refusalOfMember_175
          · rw [if_neg c24] at hf
            refine lv_iconst (v := -1) C.1 C.2.1 dX9_refusalOfMember_139 (by decide) ?_
            exact endRi C hf dX9_refusalOfMember_140
    rw [if_neg c18] at hf
    refine lv_tableOut (tgt := 176) C.1 C.2.1 dX9_refusalOfMember_11 (by have q0 := neI c3 (k := 8) rfl; have q1 := neI c12 (k := 9) rfl; have q2 := neI c13 (k := 10) rfl; have q3 := neI c18 (k := 11) rfl; omega) (by decide) ?_
    refine lv_iconst (v := 0) C.1 C.2.1 dX9_refusalOfMember_176 (by decide) ?_
    exact endRi C hf dX9_refusalOfMember_177
  · rw [if_pos c2] at hf
    refine lv_iconst (v := -1) C.1 C.2.1 dX9_refusalOfMember_8 (by decide) ?_
    exact endRi C hf dX9_refusalOfMember_9
end
theorem vX9_refusalOfMember : YV yX9_refusalOfMember cX9_refusalOfMember 4 (some .int) 3 := ⟨⟨wK_X9_refusalOfMember, wZ_X9, by decide +kernel⟩, wI_X9_refusalOfMember, wV_X9_refusalOfMember⟩
def fX9_refusal_L67 (u : ST) (x4 : Int32) (y0 : Int32) : Option (Int32 × ST) :=
  if y0 = 0 then
    some ((-1), u)
  else
    (fX9_in u ((x4 : Int32).toInt64) 0 3).bind fun v4 =>
    if v4 = 0 then
      some ((-1), u)
    else
      if (sI u 0) = 12 then
        some ((-3), u)
      else
        some (0, u)
def fX9_refusal_L62 (u : ST) (x4 : Int32) : Option (Int32 × ST) :=
  fX9_refusal_L67 u x4 1
def fX9_refusal_L66 (u : ST) (x4 : Int32) : Option (Int32 × ST) :=
  fX9_refusal_L67 u x4 0
def fX9_refusal_L133 (u : ST) (x2 : Int32) (x3 : Int32) : Option (Int32 × ST) :=
  if x3 = (-2) then
    some (0, u)
  else
    b2 (fX9_isBelow u x3 x2) fun v16 u15 =>
    if v16 = 0 then
      some (0, u15)
    else
      some ((-4), u15)
def fX9_refusal_L288 (u : ST) (y0 : Int32) : Option (Int32 × ST) :=
  if y0 = 0 then
    some ((-1), u)
  else
    (fX9_freeMember u).bind fun v38 =>
    if v38 = (-2) then
      some ((-3), u)
    else
      some (0, u)
def fX9_refusal_L287 (u : ST) : Option (Int32 × ST) :=
  fX9_refusal_L288 u 0
def fX9_refusal_L375 (u : ST) (y0 : Int32) : Option (Int32 × ST) :=
  if y0 = 0 then
    some ((-1), u)
  else
    (fX9_freeMember u).bind fun v53 =>
    if v53 = (-2) then
      some ((-3), u)
    else
      some (0, u)
def fX9_refusal_L374 (u : ST) : Option (Int32 × ST) :=
  fX9_refusal_L375 u 0
def fX9_refusal (u : ST) (x1 : Int32) (x2 : Int32) (x3 : Int32) (x4 : Int32) (x5 : Int32) (x6 : Int32) : Option (Int32 × ST) :=
  if x1 = 0 then
    if x3 = (-2) then
      fX9_refusal_L62 u x4
    else
      if x2 = 0 then
        (fX9_isClass u x3).bind fun v8 =>
        if v8 = 0 then
          fX9_refusal_L66 u x4
        else
          fX9_refusal_L62 u x4
      else
        fX9_refusal_L66 u x4
  else
  if x1 = 1 then
    (fX9_isClass u x2).bind fun v11 =>
    if v11 = 0 then
      some ((-1), u)
    else
      if x3 = (-2) then
        fX9_refusal_L133 u x2 x3
      else
        (fX9_isClass u x3).bind fun v18 =>
        if v18 = 0 then
          some ((-1), u)
        else
          fX9_refusal_L133 u x2 x3
  else
  if x1 = 2 then
    b2 (fX9_refusalOfFace u x2 x3) fun v22 u21 =>
    some (v22, u21)
  else
  if x1 = 3 then
    (fX9_isType u x2).bind fun v24 =>
    if v24 = 0 then
      some ((-1), u)
    else
      (rdI u 4 12 x2).bind fun v26 =>
      (fX9_in u ((x3 : Int32).toInt64) 0 (((v26 - 1) : Int32).toInt64)).bind fun v27 =>
      if v27 = 0 then
        some ((-1), u)
      else
        some (0, u)
  else
  if x1 = 4 then
    (fX9_isType u x2).bind fun v30 =>
    if v30 = 0 then
      some ((-1), u)
    else
      (fX9_in u ((x3 : Int32).toInt64) 0 3).bind fun v32 =>
      if v32 = 0 then
        some ((-1), u)
      else
        some (0, u)
  else
  if x1 = 5 then
    (fX9_isType u x2).bind fun v35 =>
    if v35 = 0 then
      fX9_refusal_L287 u
    else
      (fX9_in u ((x3 : Int32).toInt64) 0 9).bind fun v40 =>
      if v40 = 0 then
        fX9_refusal_L287 u
      else
        (fX9_in u ((x4 : Int32).toInt64) 0 7).bind fun v42 =>
        if v42 = 0 then
          fX9_refusal_L287 u
        else
          (rdI u 1 12 x2).bind fun v44 =>
          (fX9_areFieldMarks u x5 v44).bind fun v45 =>
          if v45 = 0 then
            fX9_refusal_L287 u
          else
            (fX9_ownOf u x2 0 x3 (-2) (-2)).bind fun v47 =>
            if v47 = (-2) then
              fX9_refusal_L288 u 1
            else
              fX9_refusal_L287 u
  else
  if x1 = 6 then
    (fX9_isType u x2).bind fun v50 =>
    if v50 = 0 then
      fX9_refusal_L374 u
    else
      (fX9_in u ((x3 : Int32).toInt64) 0 9).bind fun v55 =>
      if v55 = 0 then
        fX9_refusal_L374 u
      else
        (fX9_areParameters u x4 x5).bind fun v57 =>
        if v57 = 0 then
          fX9_refusal_L374 u
        else
          (fX9_areMethodMarks u x6).bind fun v59 =>
          if v59 = 0 then
            fX9_refusal_L374 u
          else
            (fX9_ownOf u x2 1 x3 x4 x5).bind fun v61 =>
            if v61 = (-2) then
              fX9_refusal_L375 u 1
            else
              fX9_refusal_L374 u
  else
    (fX9_refusalOfMember u x1 x2 x3).bind fun v63 =>
    some (v63, u)
section
variable {p : Program} {l : Launch} {e : Env} {s : State} {m : MethodId} {args : Array Value} {below : List Frame} {meth : Method} {c : Code} {H : Heap} {locs : List Loc} {g : GP} {ls : Array Slot} {A : Nat → Prop} {ad : Nat → Nat} {u : ST}
set_option maxRecDepth 100000 in
set_option maxHeartbeats 4000000 in
theorem bX9_refusal_L67 {r0 : Int32} {u0 : ST} {x4 : Int32} {y0 : Int32} (C : Cx p s m args meth c cX9_refusal 10 RX9 (some .int) g) (hA : ∀ q, s.heap.size ≤ q → A q) (hZ : SF A s) (hP : va_P g.1 vwCl (mW g ad u) H) (hD : va_D A (mW g ad u)) (hS : va_S A s.heap H locs) (hl : lv_has ls 10 [(0, .ref (ad 0)), (4, .int x4)]) (hf : fX9_refusal_L67 u x4 y0 = some (r0, u0)) : W p l e (rmW 3 72 0 0) s m args below meth c H locs 0 0 (MQ below (va_Qi (fun r v => r = r0 ∧ v = u0) (BW g A (mW g ad)) A) args s 0 0 A) (F0 m 67 ls [.int y0]) := by
  rw [fX9_refusal_L67] at hf
  refine lv_istore (lv' := [(7, .int y0), (0, .ref (ad 0)), (4, .int x4)]) C.1 C.2.1 dX9_refusal_67 hl (by decide) rfl (fun ls hl => ?_)
  refine lv_iload C.1 C.2.1 dX9_refusal_69 (lv_at hl 0 rfl) ?_
  refine lv_if_eq (tgt := 87) C.1 C.2.1 dX9_refusal_71 (by decide) (fun c3 => ?_) (fun c3 => ?_)
  · rw [if_pos c3] at hf
    refine lv_iconst (v := -1) C.1 C.2.1 dX9_refusal_87 (by decide) ?_
    refine lv_goto (tgt := 106) C.1 C.2.1 dX9_refusal_88 (by decide) ?_
    exact endWi C hP hD hS (Nat.le_refl _) (Nat.le_refl _) hf dX9_refusal_106
  · rw [if_neg c3] at hf
    refine lv_iload C.1 C.2.1 dX9_refusal_74 (lv_at hl 2 rfl) ?_
    refine lv_i2l C.1 C.2.1 dX9_refusal_76 rfl ?_
    refine lv_lconst (v := 0) C.1 C.2.1 dX9_refusal_77 (by decide) ?_
    refine lv_ldc2 (v := 3) C.1 C.2.1 C.2.2.2.1 (C.2.2.2.2.1 _ wKL_X9_180) dX9_refusal_78 ?_
    obtain ⟨v4, hv4, hf⟩ := Option.bind_eq_some_iff.mp hf
    refine cSi (As := [.long ((x4 : Int32).toInt64), .long 0, .long 3]) (rest := []) C (mX9_in hv4) vX9_in wM_X9_133 ⟨Nat.le_of_ble_eq_true rfl, Nat.le_of_ble_eq_true rfl⟩ hP (fun U hU hW => SF.go hZ hS hU hW (fun _ h => h.elim)) hl.1 rfl rfl (Nat.le_of_ble_eq_true rfl) dX9_refusal_81 ⟨Nat.le_of_ble_eq_true rfl, Nat.le_of_ble_eq_true rfl⟩ ?_
    refine lv_if_ne (tgt := 91) C.1 C.2.1 dX9_refusal_84 (by decide) (fun c5 => ?_) (fun c5 => ?_)
    · rw [if_neg c5] at hf
      refine lv_aload_n C.1 C.2.1 dX9_refusal_91 rfl (lv_at hl 1 rfl) ?_
      refine gtm_X9_types C hP wF_X9_129 dX9_refusal_92 ?_
      refine lv_bipush (v := 12) C.1 C.2.1 dX9_refusal_95 (by decide) ?_
      refine lv_icmp_ne (tgt := 105) C.1 C.2.1 dX9_refusal_97 (by decide) (fun c6 => ?_) (fun c6 => ?_)
      · rw [if_neg c6] at hf
        refine lv_iconst (v := 0) C.1 C.2.1 dX9_refusal_105 (by decide) ?_
        exact endWi C hP hD hS (Nat.le_refl _) (Nat.le_refl _) hf dX9_refusal_106
      · rw [if_pos c6] at hf
        refine lv_bipush (v := -3) C.1 C.2.1 dX9_refusal_100 (by decide) ?_
        refine lv_goto (tgt := 106) C.1 C.2.1 dX9_refusal_102 (by decide) ?_
        exact endWi C hP hD hS (Nat.le_refl _) (Nat.le_refl _) hf dX9_refusal_106
    · rw [if_pos c5] at hf
      refine lv_iconst (v := -1) C.1 C.2.1 dX9_refusal_87 (by decide) ?_
      refine lv_goto (tgt := 106) C.1 C.2.1 dX9_refusal_88 (by decide) ?_
      exact endWi C hP hD hS (Nat.le_refl _) (Nat.le_refl _) hf dX9_refusal_106
set_option maxRecDepth 100000 in
set_option maxHeartbeats 4000000 in
theorem bX9_refusal_L62 {r0 : Int32} {u0 : ST} {x4 : Int32} (C : Cx p s m args meth c cX9_refusal 10 RX9 (some .int) g) (hA : ∀ q, s.heap.size ≤ q → A q) (hZ : SF A s) (hP : va_P g.1 vwCl (mW g ad u) H) (hD : va_D A (mW g ad u)) (hS : va_S A s.heap H locs) (hl : lv_has ls 10 [(0, .ref (ad 0)), (4, .int x4)]) (hf : fX9_refusal_L62 u x4 = some (r0, u0)) : W p l e (rmW 3 72 0 0) s m args below meth c H locs 0 0 (MQ below (va_Qi (fun r v => r = r0 ∧ v = u0) (BW g A (mW g ad)) A) args s 0 0 A) (F0 m 62 ls []) := by
  rw [fX9_refusal_L62] at hf
  refine lv_iconst (v := 1) C.1 C.2.1 dX9_refusal_62 (by decide) ?_
  refine lv_goto (tgt := 67) C.1 C.2.1 dX9_refusal_63 (by decide) ?_
  exact bX9_refusal_L67 C hA hZ hP hD hS (lv_sub hl [0, 1] rfl) hf
set_option maxRecDepth 100000 in
set_option maxHeartbeats 4000000 in
theorem bX9_refusal_L66 {r0 : Int32} {u0 : ST} {x4 : Int32} (C : Cx p s m args meth c cX9_refusal 10 RX9 (some .int) g) (hA : ∀ q, s.heap.size ≤ q → A q) (hZ : SF A s) (hP : va_P g.1 vwCl (mW g ad u) H) (hD : va_D A (mW g ad u)) (hS : va_S A s.heap H locs) (hl : lv_has ls 10 [(0, .ref (ad 0)), (4, .int x4)]) (hf : fX9_refusal_L66 u x4 = some (r0, u0)) : W p l e (rmW 3 72 0 0) s m args below meth c H locs 0 0 (MQ below (va_Qi (fun r v => r = r0 ∧ v = u0) (BW g A (mW g ad)) A) args s 0 0 A) (F0 m 66 ls []) := by
  rw [fX9_refusal_L66] at hf
  refine lv_iconst (v := 0) C.1 C.2.1 dX9_refusal_66 (by decide) ?_
  exact bX9_refusal_L67 C hA hZ hP hD hS (lv_sub hl [0, 1] rfl) hf
set_option maxRecDepth 100000 in
set_option maxHeartbeats 4000000 in
theorem bX9_refusal_L133 {r0 : Int32} {u0 : ST} {x2 : Int32} {x3 : Int32} (C : Cx p s m args meth c cX9_refusal 10 RX9 (some .int) g) (hA : ∀ q, s.heap.size ≤ q → A q) (hZ : SF A s) (hP : va_P g.1 vwCl (mW g ad u) H) (hD : va_D A (mW g ad u)) (hS : va_S A s.heap H locs) (hl : lv_has ls 10 [(0, .ref (ad 0)), (2, .int x2), (3, .int x3)]) (hf : fX9_refusal_L133 u x2 x3 = some (r0, u0)) : W p l e (rmW 3 72 0 0) s m args below meth c H locs 0 0 (MQ below (va_Qi (fun r v => r = r0 ∧ v = u0) (BW g A (mW g ad)) A) args s 0 0 A) (F0 m 133 ls []) := by
  rw [fX9_refusal_L133] at hf
  refine lv_iload_n C.1 C.2.1 dX9_refusal_133 rfl (lv_at hl 2 rfl) ?_
  refine lv_bipush (v := -2) C.1 C.2.1 dX9_refusal_134 (by decide) ?_
  refine lv_icmp_eq (tgt := 153) C.1 C.2.1 dX9_refusal_136 (by decide) (fun c14 => ?_) (fun c14 => ?_)
  · rw [if_pos c14] at hf
    refine lv_iconst (v := 0) C.1 C.2.1 dX9_refusal_153 (by decide) ?_
    exact endWi C hP hD hS (Nat.le_refl _) (Nat.le_refl _) hf dX9_refusal_154
  · rw [if_neg c14] at hf
    refine lv_aload_n C.1 C.2.1 dX9_refusal_139 rfl (lv_at hl 0 rfl) ?_
    refine lv_iload_n C.1 C.2.1 dX9_refusal_140 rfl (lv_at hl 2 rfl) ?_
    refine lv_iload_n C.1 C.2.1 dX9_refusal_141 rfl (lv_at hl 1 rfl) ?_
    obtain ⟨v16, u15, hu15, hf⟩ := b2_some hf
    refine cWi (As := [.int x3, .int x2]) (rest := []) (mc := 0) (ms := 0) C (mX9_isBelow hu15) vX9_isBelow wM_X9_182 ⟨Nat.le_of_ble_eq_true rfl, Nat.le_of_ble_eq_true rfl⟩ hP hD hS hA hZ (rcm_X9 C hP) hl.1 rfl rfl (Nat.le_of_ble_eq_true rfl) dX9_refusal_142 ⟨Nat.le_of_ble_eq_true rfl, Nat.le_of_ble_eq_true rfl⟩ (fun H locs hP hD hS => ?_)
    refine lv_if_eq (tgt := 153) C.1 C.2.1 dX9_refusal_145 (by decide) (fun c17 => ?_) (fun c17 => ?_)
    · rw [if_pos c17] at hf
      refine lv_iconst (v := 0) C.1 C.2.1 dX9_refusal_153 (by decide) ?_
      exact endWi C hP hD hS (Nat.le_refl _) (Nat.le_refl _) hf dX9_refusal_154
    · rw [if_neg c17] at hf
      refine lv_bipush (v := -4) C.1 C.2.1 dX9_refusal_148 (by decide) ?_
      refine lv_goto (tgt := 154) C.1 C.2.1 dX9_refusal_150 (by decide) ?_
      exact endWi C hP hD hS (Nat.le_refl _) (Nat.le_refl _) hf dX9_refusal_154
set_option maxRecDepth 100000 in
set_option maxHeartbeats 4000000 in
theorem bX9_refusal_L288 {r0 : Int32} {u0 : ST} {y0 : Int32} (C : Cx p s m args meth c cX9_refusal 10 RX9 (some .int) g) (hA : ∀ q, s.heap.size ≤ q → A q) (hZ : SF A s) (hP : va_P g.1 vwCl (mW g ad u) H) (hD : va_D A (mW g ad u)) (hS : va_S A s.heap H locs) (hl : lv_has ls 10 [(0, .ref (ad 0))]) (hf : fX9_refusal_L288 u y0 = some (r0, u0)) : W p l e (rmW 3 72 0 0) s m args below meth c H locs 0 0 (MQ below (va_Qi (fun r v => r = r0 ∧ v = u0) (BW g A (mW g ad)) A) args s 0 0 A) (F0 m 288 ls [.int y0]) := by
  rw [fX9_refusal_L288] at hf
  refine lv_istore (lv' := [(8, .int y0), (0, .ref (ad 0))]) C.1 C.2.1 dX9_refusal_288 hl (by decide) rfl (fun ls hl => ?_)
  refine lv_iload C.1 C.2.1 dX9_refusal_290 (lv_at hl 0 rfl) ?_
  refine lv_if_ne (tgt := 299) C.1 C.2.1 dX9_refusal_292 (by decide) (fun c37 => ?_) (fun c37 => ?_)
  · rw [if_neg c37] at hf
    refine lv_aload_n C.1 C.2.1 dX9_refusal_299 rfl (lv_at hl 1 rfl) ?_
    obtain ⟨v38, hv38, hf⟩ := Option.bind_eq_some_iff.mp hf
    refine cRi (As := []) (rest := []) C (mX9_freeMember hv38) vX9_freeMember wM_X9_196 ⟨Nat.le_of_ble_eq_true rfl, Nat.le_of_ble_eq_true rfl⟩ hP (rcm_X9 C hP) (fun U hU hW => SF.go hZ hS hU hW (fun _ h => h.elim)) hl.1 rfl rfl (Nat.le_of_ble_eq_true rfl) dX9_refusal_300 ⟨Nat.le_of_ble_eq_true rfl, Nat.le_of_ble_eq_true rfl⟩ ?_
    refine lv_bipush (v := -2) C.1 C.2.1 dX9_refusal_303 (by decide) ?_
    refine lv_icmp_ne (tgt := 313) C.1 C.2.1 dX9_refusal_305 (by decide) (fun c39 => ?_) (fun c39 => ?_)
    · rw [if_neg c39] at hf
      refine lv_iconst (v := 0) C.1 C.2.1 dX9_refusal_313 (by decide) ?_
      exact endWi C hP hD hS (Nat.le_refl _) (Nat.le_refl _) hf dX9_refusal_314
    · rw [if_pos c39] at hf
      refine lv_bipush (v := -3) C.1 C.2.1 dX9_refusal_308 (by decide) ?_
      refine lv_goto (tgt := 314) C.1 C.2.1 dX9_refusal_310 (by decide) ?_
      exact endWi C hP hD hS (Nat.le_refl _) (Nat.le_refl _) hf dX9_refusal_314
  · rw [if_pos c37] at hf
    refine lv_iconst (v := -1) C.1 C.2.1 dX9_refusal_295 (by decide) ?_
    refine lv_goto (tgt := 314) C.1 C.2.1 dX9_refusal_296 (by decide) ?_
    exact endWi C hP hD hS (Nat.le_refl _) (Nat.le_refl _) hf dX9_refusal_314
set_option maxRecDepth 100000 in
set_option maxHeartbeats 4000000 in
theorem bX9_refusal_L287 {r0 : Int32} {u0 : ST} (C : Cx p s m args meth c cX9_refusal 10 RX9 (some .int) g) (hA : ∀ q, s.heap.size ≤ q → A q) (hZ : SF A s) (hP : va_P g.1 vwCl (mW g ad u) H) (hD : va_D A (mW g ad u)) (hS : va_S A s.heap H locs) (hl : lv_has ls 10 [(0, .ref (ad 0))]) (hf : fX9_refusal_L287 u = some (r0, u0)) : W p l e (rmW 3 72 0 0) s m args below meth c H locs 0 0 (MQ below (va_Qi (fun r v => r = r0 ∧ v = u0) (BW g A (mW g ad)) A) args s 0 0 A) (F0 m 287 ls []) := by
  rw [fX9_refusal_L287] at hf
  refine lv_iconst (v := 0) C.1 C.2.1 dX9_refusal_287 (by decide) ?_
  exact bX9_refusal_L288 C hA hZ hP hD hS (lv_sub hl [0] rfl) hf
set_option maxRecDepth 100000 in
set_option maxHeartbeats 4000000 in
theorem bX9_refusal_L375 {r0 : Int32} {u0 : ST} {y0 : Int32} (C : Cx p s m args meth c cX9_refusal 10 RX9 (some .int) g) (hA : ∀ q, s.heap.size ≤ q → A q) (hZ : SF A s) (hP : va_P g.1 vwCl (mW g ad u) H) (hD : va_D A (mW g ad u)) (hS : va_S A s.heap H locs) (hl : lv_has ls 10 [(0, .ref (ad 0))]) (hf : fX9_refusal_L375 u y0 = some (r0, u0)) : W p l e (rmW 3 72 0 0) s m args below meth c H locs 0 0 (MQ below (va_Qi (fun r v => r = r0 ∧ v = u0) (BW g A (mW g ad)) A) args s 0 0 A) (F0 m 375 ls [.int y0]) := by
  rw [fX9_refusal_L375] at hf
  refine lv_istore (lv' := [(9, .int y0), (0, .ref (ad 0))]) C.1 C.2.1 dX9_refusal_375 hl (by decide) rfl (fun ls hl => ?_)
  refine lv_iload C.1 C.2.1 dX9_refusal_377 (lv_at hl 0 rfl) ?_
  refine lv_if_ne (tgt := 386) C.1 C.2.1 dX9_refusal_379 (by decide) (fun c52 => ?_) (fun c52 => ?_)
  · rw [if_neg c52] at hf
    refine lv_aload_n C.1 C.2.1 dX9_refusal_386 rfl (lv_at hl 1 rfl) ?_
    obtain ⟨v53, hv53, hf⟩ := Option.bind_eq_some_iff.mp hf
    refine cRi (As := []) (rest := []) C (mX9_freeMember hv53) vX9_freeMember wM_X9_196 ⟨Nat.le_of_ble_eq_true rfl, Nat.le_of_ble_eq_true rfl⟩ hP (rcm_X9 C hP) (fun U hU hW => SF.go hZ hS hU hW (fun _ h => h.elim)) hl.1 rfl rfl (Nat.le_of_ble_eq_true rfl) dX9_refusal_387 ⟨Nat.le_of_ble_eq_true rfl, Nat.le_of_ble_eq_true rfl⟩ ?_
    refine lv_bipush (v := -2) C.1 C.2.1 dX9_refusal_390 (by decide) ?_
    refine lv_icmp_ne (tgt := 400) C.1 C.2.1 dX9_refusal_392 (by decide) (fun c54 => ?_) (fun c54 => ?_)
    · rw [if_neg c54] at hf
      refine lv_iconst (v := 0) C.1 C.2.1 dX9_refusal_400 (by decide) ?_
      exact endWi C hP hD hS (Nat.le_refl _) (Nat.le_refl _) hf dX9_refusal_401
    · rw [if_pos c54] at hf
      refine lv_bipush (v := -3) C.1 C.2.1 dX9_refusal_395 (by decide) ?_
      refine lv_goto (tgt := 401) C.1 C.2.1 dX9_refusal_397 (by decide) ?_
      exact endWi C hP hD hS (Nat.le_refl _) (Nat.le_refl _) hf dX9_refusal_401
  · rw [if_pos c52] at hf
    refine lv_iconst (v := -1) C.1 C.2.1 dX9_refusal_382 (by decide) ?_
    refine lv_goto (tgt := 401) C.1 C.2.1 dX9_refusal_383 (by decide) ?_
    exact endWi C hP hD hS (Nat.le_refl _) (Nat.le_refl _) hf dX9_refusal_401
set_option maxRecDepth 100000 in
set_option maxHeartbeats 4000000 in
theorem bX9_refusal_L374 {r0 : Int32} {u0 : ST} (C : Cx p s m args meth c cX9_refusal 10 RX9 (some .int) g) (hA : ∀ q, s.heap.size ≤ q → A q) (hZ : SF A s) (hP : va_P g.1 vwCl (mW g ad u) H) (hD : va_D A (mW g ad u)) (hS : va_S A s.heap H locs) (hl : lv_has ls 10 [(0, .ref (ad 0))]) (hf : fX9_refusal_L374 u = some (r0, u0)) : W p l e (rmW 3 72 0 0) s m args below meth c H locs 0 0 (MQ below (va_Qi (fun r v => r = r0 ∧ v = u0) (BW g A (mW g ad)) A) args s 0 0 A) (F0 m 374 ls []) := by
  rw [fX9_refusal_L374] at hf
  refine lv_iconst (v := 0) C.1 C.2.1 dX9_refusal_374 (by decide) ?_
  exact bX9_refusal_L375 C hA hZ hP hD hS (lv_sub hl [0] rfl) hf
set_option maxRecDepth 100000 in
set_option maxHeartbeats 4000000 in
theorem mX9_refusal {r0 : Int32} {u0 : ST} {x1 : Int32} {x2 : Int32} {x3 : Int32} {x4 : Int32} {x5 : Int32} {x6 : Int32} (hf : fX9_refusal u x1 x2 x3 x4 x5 x6 = some (r0, u0)) : MWi l yX9_refusal cX9_refusal 10 (some .int) 3 72 0 0 [.ref (ad 0), .int x1, .int x2, .int x3, .int x4, .int x5, .int x6] g (mW g ad) u r0 u0 := by
  refine entW (Qc := fun A => va_Qi (fun r v => r = r0 ∧ v = u0) (BW g A (mW g ad)) A) (by decide) (Nat.le_of_ble_eq_true rfl) ?_
  intro p e s m below meth c ls A C hP hD hS hA hZ hl
  have hl : lv_has ls 10 [(0, .ref (ad 0)), (1, .int x1), (2, .int x2), (3, .int x3), (4, .int x4), (5, .int x5), (6, .int x6)] := hl
  rw [fX9_refusal] at hf
  refine lv_iload_n C.1 C.2.1 dX9_refusal_0 rfl (lv_at hl 1 rfl) ?_
  by_cases c1 : x1 = 0
  · rw [if_pos c1] at hf
    have e9 : (x1 : Int32).toInt = 0 := by rw [c1]; rfl
    refine lv_tableIn (off := 43) (tgt := 44) C.1 C.2.1 dX9_refusal_1 (by rw [e9]; decide) (by rw [e9]; decide) (by rw [e9]; rfl) (by decide) ?_
    refine lv_iload_n C.1 C.2.1 dX9_refusal_44 rfl (lv_at hl 3 rfl) ?_
    refine lv_bipush (v := -2) C.1 C.2.1 dX9_refusal_45 (by decide) ?_
    refine lv_icmp_eq (tgt := 62) C.1 C.2.1 dX9_refusal_47 (by decide) (fun c2 => ?_) (fun c2 => ?_)
    · rw [if_pos c2] at hf
      exact bX9_refusal_L62 C hA hZ hP hD hS (lv_sub hl [0, 4] rfl) hf
    · rw [if_neg c2] at hf
      refine lv_iload_n C.1 C.2.1 dX9_refusal_50 rfl (lv_at hl 2 rfl) ?_
      refine lv_if_ne (tgt := 66) C.1 C.2.1 dX9_refusal_51 (by decide) (fun c7 => ?_) (fun c7 => ?_)
      · rw [if_neg c7] at hf
        exact bX9_refusal_L66 C hA hZ hP hD hS (lv_sub hl [0, 4] rfl) hf
      · rw [if_pos c7] at hf
        refine lv_aload_n C.1 C.2.1 dX9_refusal_54 rfl (lv_at hl 0 rfl) ?_
        refine lv_iload_n C.1 C.2.1 dX9_refusal_55 rfl (lv_at hl 3 rfl) ?_
        obtain ⟨v8, hv8, hf⟩ := Option.bind_eq_some_iff.mp hf
        refine cRi (As := [.int x3]) (rest := []) C (mX9_isClass hv8) vX9_isClass wM_X9_177 ⟨Nat.le_of_ble_eq_true rfl, Nat.le_of_ble_eq_true rfl⟩ hP (rcm_X9 C hP) (fun U hU hW => SF.go hZ hS hU hW (fun _ h => h.elim)) hl.1 rfl rfl (Nat.le_of_ble_eq_true rfl) dX9_refusal_56 ⟨Nat.le_of_ble_eq_true rfl, Nat.le_of_ble_eq_true rfl⟩ ?_
        refine lv_if_eq (tgt := 66) C.1 C.2.1 dX9_refusal_59 (by decide) (fun c9 => ?_) (fun c9 => ?_)
        · rw [if_pos c9] at hf
          exact bX9_refusal_L66 C hA hZ hP hD hS (lv_sub hl [0, 4] rfl) hf
        · rw [if_neg c9] at hf
          exact bX9_refusal_L62 C hA hZ hP hD hS (lv_sub hl [0, 4] rfl) hf
  rw [if_neg c1] at hf
  by_cases c10 : x1 = 1
  · rw [if_pos c10] at hf
    have e9 : (x1 : Int32).toInt = 1 := by rw [c10]; rfl
    refine lv_tableIn (off := 106) (tgt := 107) C.1 C.2.1 dX9_refusal_1 (by rw [e9]; decide) (by rw [e9]; decide) (by rw [e9]; rfl) (by decide) ?_
    refine lv_aload_n C.1 C.2.1 dX9_refusal_107 rfl (lv_at hl 0 rfl) ?_
    refine lv_iload_n C.1 C.2.1 dX9_refusal_108 rfl (lv_at hl 2 rfl) ?_
    obtain ⟨v11, hv11, hf⟩ := Option.bind_eq_some_iff.mp hf
    refine cRi (As := [.int x2]) (rest := []) C (mX9_isClass hv11) vX9_isClass wM_X9_177 ⟨Nat.le_of_ble_eq_true rfl, Nat.le_of_ble_eq_true rfl⟩ hP (rcm_X9 C hP) (fun U hU hW => SF.go hZ hS hU hW (fun _ h => h.elim)) hl.1 rfl rfl (Nat.le_of_ble_eq_true rfl) dX9_refusal_109 ⟨Nat.le_of_ble_eq_true rfl, Nat.le_of_ble_eq_true rfl⟩ ?_
    refine lv_if_eq (tgt := 129) C.1 C.2.1 dX9_refusal_112 (by decide) (fun c12 => ?_) (fun c12 => ?_)
    · rw [if_pos c12] at hf
      refine lv_iconst (v := -1) C.1 C.2.1 dX9_refusal_129 (by decide) ?_
      refine lv_goto (tgt := 154) C.1 C.2.1 dX9_refusal_130 (by decide) ?_
      exact endWi C hP hD hS (Nat.le_refl _) (Nat.le_refl _) hf dX9_refusal_154
    · rw [if_neg c12] at hf
      refine lv_iload_n C.1 C.2.1 dX9_refusal_115 rfl (lv_at hl 3 rfl) ?_
      refine lv_bipush (v := -2) C.1 C.2.1 dX9_refusal_116 (by decide) ?_
      refine lv_icmp_eq (tgt := 133) C.1 C.2.1 dX9_refusal_118 (by decide) (fun c13 => ?_) (fun c13 => ?_)
      · rw [if_pos c13] at hf
        exact bX9_refusal_L133 C hA hZ hP hD hS (lv_sub hl [0, 2, 3] rfl) hf
      · rw [if_neg c13] at hf
        refine lv_aload_n C.1 C.2.1 dX9_refusal_121 rfl (lv_at hl 0 rfl) ?_
        refine lv_iload_n C.1 C.2.1 dX9_refusal_122 rfl (lv_at hl 3 rfl) ?_
        obtain ⟨v18, hv18, hf⟩ := Option.bind_eq_some_iff.mp hf
        refine cRi (As := [.int x3]) (rest := []) C (mX9_isClass hv18) vX9_isClass wM_X9_177 ⟨Nat.le_of_ble_eq_true rfl, Nat.le_of_ble_eq_true rfl⟩ hP (rcm_X9 C hP) (fun U hU hW => SF.go hZ hS hU hW (fun _ h => h.elim)) hl.1 rfl rfl (Nat.le_of_ble_eq_true rfl) dX9_refusal_123 ⟨Nat.le_of_ble_eq_true rfl, Nat.le_of_ble_eq_true rfl⟩ ?_
        refine lv_if_ne (tgt := 133) C.1 C.2.1 dX9_refusal_126 (by decide) (fun c19 => ?_) (fun c19 => ?_)
        · rw [if_neg c19] at hf
          exact bX9_refusal_L133 C hA hZ hP hD hS (lv_sub hl [0, 2, 3] rfl) hf
        · rw [if_pos c19] at hf
          refine lv_iconst (v := -1) C.1 C.2.1 dX9_refusal_129 (by decide) ?_
          refine lv_goto (tgt := 154) C.1 C.2.1 dX9_refusal_130 (by decide) ?_
          exact endWi C hP hD hS (Nat.le_refl _) (Nat.le_refl _) hf dX9_refusal_154
  rw [if_neg c10] at hf
  by_cases c20 : x1 = 2
  · rw [if_pos c20] at hf
    have e9 : (x1 : Int32).toInt = 2 := by rw [c20]; rfl
    refine lv_tableIn (off := 154) (tgt := 155) C.1 C.2.1 dX9_refusal_1 (by rw [e9]; decide) (by rw [e9]; decide) (by rw [e9]; rfl) (by decide) ?_
    refine lv_aload_n C.1 C.2.1 dX9_refusal_155 rfl (lv_at hl 0 rfl) ?_
    refine lv_iload_n C.1 C.2.1 dX9_refusal_156 rfl (lv_at hl 2 rfl) ?_
    refine lv_iload_n C.1 C.2.1 dX9_refusal_157 rfl (lv_at hl 3 rfl) ?_
    obtain ⟨v22, u21, hu21, hf⟩ := b2_some hf
    refine cWi (As := [.int x2, .int x3]) (rest := []) (mc := 0) (ms := 0) C (mX9_refusalOfFace hu21) vX9_refusalOfFace wM_X9_186 ⟨Nat.le_of_ble_eq_true rfl, Nat.le_of_ble_eq_true rfl⟩ hP hD hS hA hZ (rcm_X9 C hP) hl.1 rfl rfl (Nat.le_of_ble_eq_true rfl) dX9_refusal_158 ⟨Nat.le_of_ble_eq_true rfl, Nat.le_of_ble_eq_true rfl⟩ (fun H locs hP hD hS => ?_)
    exact endWi C hP hD hS (Nat.le_refl _) (Nat.le_refl _) hf dX9_refusal_161
  rw [if_neg c20] at hf
  by_cases c23 : x1 = 3
  · rw [if_pos c23] at hf
    have e9 : (x1 : Int32).toInt = 3 := by rw [c23]; rfl
    refine lv_tableIn (off := 161) (tgt := 162) C.1 C.2.1 dX9_refusal_1 (by rw [e9]; decide) (by rw [e9]; decide) (by rw [e9]; rfl) (by decide) ?_
    refine lv_aload_n C.1 C.2.1 dX9_refusal_162 rfl (lv_at hl 0 rfl) ?_
    refine lv_iload_n C.1 C.2.1 dX9_refusal_163 rfl (lv_at hl 2 rfl) ?_
    obtain ⟨v24, hv24, hf⟩ := Option.bind_eq_some_iff.mp hf
    refine cRi (As := [.int x2]) (rest := []) C (mX9_isType hv24) vX9_isType wM_X9_137 ⟨Nat.le_of_ble_eq_true rfl, Nat.le_of_ble_eq_true rfl⟩ hP (rcm_X9 C hP) (fun U hU hW => SF.go hZ hS hU hW (fun _ h => h.elim)) hl.1 rfl rfl (Nat.le_of_ble_eq_true rfl) dX9_refusal_164 ⟨Nat.le_of_ble_eq_true rfl, Nat.le_of_ble_eq_true rfl⟩ ?_
    refine lv_if_eq (tgt := 188) C.1 C.2.1 dX9_refusal_167 (by decide) (fun c25 => ?_) (fun c25 => ?_)
    · rw [if_pos c25] at hf
      refine lv_iconst (v := -1) C.1 C.2.1 dX9_refusal_188 (by decide) ?_
      refine lv_goto (tgt := 193) C.1 C.2.1 dX9_refusal_189 (by decide) ?_
      exact endWi C hP hD hS (Nat.le_refl _) (Nat.le_refl _) hf dX9_refusal_193
    · rw [if_neg c25] at hf
      refine lv_iload_n C.1 C.2.1 dX9_refusal_170 rfl (lv_at hl 3 rfl) ?_
      refine lv_i2l C.1 C.2.1 dX9_refusal_171 rfl ?_
      refine lv_lconst (v := 0) C.1 C.2.1 dX9_refusal_172 (by decide) ?_
      refine lv_aload_n C.1 C.2.1 dX9_refusal_173 rfl (lv_at hl 0 rfl) ?_
      refine gtm_X9_faceMany C hP wF_X9_20 dX9_refusal_174 ?_
      refine lv_iload_n C.1 C.2.1 dX9_refusal_177 rfl (lv_at hl 2 rfl) ?_
      obtain ⟨v26, hv26, hf⟩ := Option.bind_eq_some_iff.mp hf
      refine ldm_4 C hP hv26 dX9_refusal_178 ?_
      refine lv_iconst (v := 1) C.1 C.2.1 dX9_refusal_179 (by decide) ?_
      refine lv_isub C.1 C.2.1 dX9_refusal_180 ?_
      refine lv_i2l C.1 C.2.1 dX9_refusal_181 rfl ?_
      obtain ⟨v27, hv27, hf⟩ := Option.bind_eq_some_iff.mp hf
      refine cSi (As := [.long ((x3 : Int32).toInt64), .long 0, .long (((v26 - 1) : Int32).toInt64)]) (rest := []) C (mX9_in hv27) vX9_in wM_X9_133 ⟨Nat.le_of_ble_eq_true rfl, Nat.le_of_ble_eq_true rfl⟩ hP (fun U hU hW => SF.go hZ hS hU hW (fun _ h => h.elim)) hl.1 rfl rfl (Nat.le_of_ble_eq_true rfl) dX9_refusal_182 ⟨Nat.le_of_ble_eq_true rfl, Nat.le_of_ble_eq_true rfl⟩ ?_
      refine lv_if_ne (tgt := 192) C.1 C.2.1 dX9_refusal_185 (by decide) (fun c28 => ?_) (fun c28 => ?_)
      · rw [if_neg c28] at hf
        refine lv_iconst (v := 0) C.1 C.2.1 dX9_refusal_192 (by decide) ?_
        exact endWi C hP hD hS (Nat.le_refl _) (Nat.le_refl _) hf dX9_refusal_193
      · rw [if_pos c28] at hf
        refine lv_iconst (v := -1) C.1 C.2.1 dX9_refusal_188 (by decide) ?_
        refine lv_goto (tgt := 193) C.1 C.2.1 dX9_refusal_189 (by decide) ?_
        exact endWi C hP hD hS (Nat.le_refl _) (Nat.le_refl _) hf dX9_refusal_193
  rw [if_neg c23] at hf
  by_cases c29 : x1 = 4
  · rw [if_pos c29] at hf
    have e9 : (x1 : Int32).toInt = 4 := by rw [c29]; rfl
    refine lv_tableIn (off := 193) (tgt := 194) C.1 C.2.1 dX9_refusal_1 (by rw [e9]; decide) (by rw [e9]; decide) (by rw [e9]; rfl) (by decide) ?_
    refine lv_aload_n C.1 C.2.1 dX9_refusal_194 rfl (lv_at hl 0 rfl) ?_
    refine lv_iload_n C.1 C.2.1 dX9_refusal_195 rfl (lv_at hl 2 rfl) ?_
    obtain ⟨v30, hv30, hf⟩ := Option.bind_eq_some_iff.mp hf
    refine cRi (As := [.int x2]) (rest := []) C (mX9_isType hv30) vX9_isType wM_X9_137 ⟨Nat.le_of_ble_eq_true rfl, Nat.le_of_ble_eq_true rfl⟩ hP (rcm_X9 C hP) (fun U hU hW => SF.go hZ hS hU hW (fun _ h => h.elim)) hl.1 rfl rfl (Nat.le_of_ble_eq_true rfl) dX9_refusal_196 ⟨Nat.le_of_ble_eq_true rfl, Nat.le_of_ble_eq_true rfl⟩ ?_
    refine lv_if_eq (tgt := 214) C.1 C.2.1 dX9_refusal_199 (by decide) (fun c31 => ?_) (fun c31 => ?_)
    · rw [if_pos c31] at hf
      refine lv_iconst (v := -1) C.1 C.2.1 dX9_refusal_214 (by decide) ?_
      refine lv_goto (tgt := 219) C.1 C.2.1 dX9_refusal_215 (by decide) ?_
      exact endWi C hP hD hS (Nat.le_refl _) (Nat.le_refl _) hf dX9_refusal_219
    · rw [if_neg c31] at hf
      refine lv_iload_n C.1 C.2.1 dX9_refusal_202 rfl (lv_at hl 3 rfl) ?_
      refine lv_i2l C.1 C.2.1 dX9_refusal_203 rfl ?_
      refine lv_lconst (v := 0) C.1 C.2.1 dX9_refusal_204 (by decide) ?_
      refine lv_ldc2 (v := 3) C.1 C.2.1 C.2.2.2.1 (C.2.2.2.2.1 _ wKL_X9_180) dX9_refusal_205 ?_
      obtain ⟨v32, hv32, hf⟩ := Option.bind_eq_some_iff.mp hf
      refine cSi (As := [.long ((x3 : Int32).toInt64), .long 0, .long 3]) (rest := []) C (mX9_in hv32) vX9_in wM_X9_133 ⟨Nat.le_of_ble_eq_true rfl, Nat.le_of_ble_eq_true rfl⟩ hP (fun U hU hW => SF.go hZ hS hU hW (fun _ h => h.elim)) hl.1 rfl rfl (Nat.le_of_ble_eq_true rfl) dX9_refusal_208 ⟨Nat.le_of_ble_eq_true rfl, Nat.le_of_ble_eq_true rfl⟩ ?_
      refine lv_if_ne (tgt := 218) C.1 C.2.1 dX9_refusal_211 (by decide) (fun c33 => ?_) (fun c33 => ?_)
      · rw [if_neg c33] at hf
        refine lv_iconst (v := 0) C.1 C.2.1 dX9_refusal_218 (by decide) ?_
        exact endWi C hP hD hS (Nat.le_refl _) (Nat.le_refl _) hf dX9_refusal_219
      · rw [if_pos c33] at hf
        refine lv_iconst (v := -1) C.1 C.2.1 dX9_refusal_214 (by decide) ?_
        refine lv_goto (tgt := 219) C.1 C.2.1 dX9_refusal_215 (by decide) ?_
        exact endWi C hP hD hS (Nat.le_refl _) (Nat.le_refl _) hf dX9_refusal_219
  rw [if_neg c29] at hf
  by_cases c34 : x1 = 5
  · rw [if_pos c34] at hf
    have e9 : (x1 : Int32).toInt = 5 := by rw [c34]; rfl
    refine lv_tableIn (off := 219) (tgt := 220) C.1 C.2.1 dX9_refusal_1 (by rw [e9]; decide) (by rw [e9]; decide) (by rw [e9]; rfl) (by decide) ?_
    refine lv_aload_n C.1 C.2.1 dX9_refusal_220 rfl (lv_at hl 0 rfl) ?_
    refine lv_iload_n C.1 C.2.1 dX9_refusal_221 rfl (lv_at hl 2 rfl) ?_
    obtain ⟨v35, hv35, hf⟩ := Option.bind_eq_some_iff.mp hf
    refine cRi (As := [.int x2]) (rest := []) C (mX9_isType hv35) vX9_isType wM_X9_137 ⟨Nat.le_of_ble_eq_true rfl, Nat.le_of_ble_eq_true rfl⟩ hP (rcm_X9 C hP) (fun U hU hW => SF.go hZ hS hU hW (fun _ h => h.elim)) hl.1 rfl rfl (Nat.le_of_ble_eq_true rfl) dX9_refusal_222 ⟨Nat.le_of_ble_eq_true rfl, Nat.le_of_ble_eq_true rfl⟩ ?_
    refine lv_if_eq (tgt := 287) C.1 C.2.1 dX9_refusal_225 (by decide) (fun c36 => ?_) (fun c36 => ?_)
    · rw [if_pos c36] at hf
      exact bX9_refusal_L287 C hA hZ hP hD hS (lv_sub hl [0] rfl) hf
    · rw [if_neg c36] at hf
      refine lv_iload_n C.1 C.2.1 dX9_refusal_228 rfl (lv_at hl 3 rfl) ?_
      refine lv_i2l C.1 C.2.1 dX9_refusal_229 rfl ?_
      refine lv_lconst (v := 0) C.1 C.2.1 dX9_refusal_230 (by decide) ?_
      refine lv_ldc2 (v := 9) C.1 C.2.1 C.2.2.2.1 (C.2.2.2.2.1 _ wKL_X9_190) dX9_refusal_231 ?_
      obtain ⟨v40, hv40, hf⟩ := Option.bind_eq_some_iff.mp hf
      refine cSi (As := [.long ((x3 : Int32).toInt64), .long 0, .long 9]) (rest := []) C (mX9_in hv40) vX9_in wM_X9_133 ⟨Nat.le_of_ble_eq_true rfl, Nat.le_of_ble_eq_true rfl⟩ hP (fun U hU hW => SF.go hZ hS hU hW (fun _ h => h.elim)) hl.1 rfl rfl (Nat.le_of_ble_eq_true rfl) dX9_refusal_234 ⟨Nat.le_of_ble_eq_true rfl, Nat.le_of_ble_eq_true rfl⟩ ?_
      refine lv_if_eq (tgt := 287) C.1 C.2.1 dX9_refusal_237 (by decide) (fun c41 => ?_) (fun c41 => ?_)
      · rw [if_pos c41] at hf
        exact bX9_refusal_L287 C hA hZ hP hD hS (lv_sub hl [0] rfl) hf
      · rw [if_neg c41] at hf
        refine lv_iload C.1 C.2.1 dX9_refusal_240 (lv_at hl 4 rfl) ?_
        refine lv_i2l C.1 C.2.1 dX9_refusal_242 rfl ?_
        refine lv_lconst (v := 0) C.1 C.2.1 dX9_refusal_243 (by decide) ?_
        refine lv_ldc2 (v := 7) C.1 C.2.1 C.2.2.2.1 (C.2.2.2.2.1 _ wKL_X9_173) dX9_refusal_244 ?_
        obtain ⟨v42, hv42, hf⟩ := Option.bind_eq_some_iff.mp hf
        refine cSi (As := [.long ((x4 : Int32).toInt64), .long 0, .long 7]) (rest := []) C (mX9_in hv42) vX9_in wM_X9_133 ⟨Nat.le_of_ble_eq_true rfl, Nat.le_of_ble_eq_true rfl⟩ hP (fun U hU hW => SF.go hZ hS hU hW (fun _ h => h.elim)) hl.1 rfl rfl (Nat.le_of_ble_eq_true rfl) dX9_refusal_247 ⟨Nat.le_of_ble_eq_true rfl, Nat.le_of_ble_eq_true rfl⟩ ?_
        refine lv_if_eq (tgt := 287) C.1 C.2.1 dX9_refusal_250 (by decide) (fun c43 => ?_) (fun c43 => ?_)
        · rw [if_pos c43] at hf
          exact bX9_refusal_L287 C hA hZ hP hD hS (lv_sub hl [0] rfl) hf
        · rw [if_neg c43] at hf
          refine lv_iload C.1 C.2.1 dX9_refusal_253 (lv_at hl 5 rfl) ?_
          refine lv_aload_n C.1 C.2.1 dX9_refusal_255 rfl (lv_at hl 0 rfl) ?_
          refine gtm_X9_isFace C hP wF_X9_7 dX9_refusal_256 ?_
          refine lv_iload_n C.1 C.2.1 dX9_refusal_259 rfl (lv_at hl 2 rfl) ?_
          obtain ⟨v44, hv44, hf⟩ := Option.bind_eq_some_iff.mp hf
          refine ldm_1 C hP hv44 dX9_refusal_260 ?_
          obtain ⟨v45, hv45, hf⟩ := Option.bind_eq_some_iff.mp hf
          refine cSi (As := [.int x5, .int v44]) (rest := []) C (mX9_areFieldMarks hv45) vX9_areFieldMarks wM_X9_192 ⟨Nat.le_of_ble_eq_true rfl, Nat.le_of_ble_eq_true rfl⟩ hP (fun U hU hW => SF.go hZ hS hU hW (fun _ h => h.elim)) hl.1 rfl rfl (Nat.le_of_ble_eq_true rfl) dX9_refusal_261 ⟨Nat.le_of_ble_eq_true rfl, Nat.le_of_ble_eq_true rfl⟩ ?_
          refine lv_if_eq (tgt := 287) C.1 C.2.1 dX9_refusal_264 (by decide) (fun c46 => ?_) (fun c46 => ?_)
          · rw [if_pos c46] at hf
            exact bX9_refusal_L287 C hA hZ hP hD hS (lv_sub hl [0] rfl) hf
          · rw [if_neg c46] at hf
            refine lv_aload_n C.1 C.2.1 dX9_refusal_267 rfl (lv_at hl 0 rfl) ?_
            refine lv_iload_n C.1 C.2.1 dX9_refusal_268 rfl (lv_at hl 2 rfl) ?_
            refine lv_iconst (v := 0) C.1 C.2.1 dX9_refusal_269 (by decide) ?_
            refine lv_iload_n C.1 C.2.1 dX9_refusal_270 rfl (lv_at hl 3 rfl) ?_
            refine lv_bipush (v := -2) C.1 C.2.1 dX9_refusal_271 (by decide) ?_
            refine lv_bipush (v := -2) C.1 C.2.1 dX9_refusal_273 (by decide) ?_
            obtain ⟨v47, hv47, hf⟩ := Option.bind_eq_some_iff.mp hf
            refine cRi (As := [.int x2, .int 0, .int x3, .int (-2), .int (-2)]) (rest := []) C (mX9_ownOf hv47) vX9_ownOf wM_X9_147 ⟨Nat.le_of_ble_eq_true rfl, Nat.le_of_ble_eq_true rfl⟩ hP (rcm_X9 C hP) (fun U hU hW => SF.go hZ hS hU hW (fun _ h => h.elim)) hl.1 rfl rfl (Nat.le_of_ble_eq_true rfl) dX9_refusal_275 ⟨Nat.le_of_ble_eq_true rfl, Nat.le_of_ble_eq_true rfl⟩ ?_
            refine lv_bipush (v := -2) C.1 C.2.1 dX9_refusal_278 (by decide) ?_
            refine lv_icmp_ne (tgt := 287) C.1 C.2.1 dX9_refusal_280 (by decide) (fun c48 => ?_) (fun c48 => ?_)
            · rw [if_neg c48] at hf
              exact bX9_refusal_L287 C hA hZ hP hD hS (lv_sub hl [0] rfl) hf
            · rw [if_pos c48] at hf
              refine lv_iconst (v := 1) C.1 C.2.1 dX9_refusal_283 (by decide) ?_
              refine lv_goto (tgt := 288) C.1 C.2.1 dX9_refusal_284 (by decide) ?_
              exact bX9_refusal_L288 C hA hZ hP hD hS (lv_sub hl [0] rfl) hf
  rw [if_neg c34] at hf
  by_cases c49 : x1 = 6
  · rw [if_pos c49] at hf
    have e9 : (x1 : Int32).toInt = 6 := by rw [c49]; rfl
    refine lv_tableIn (off := 314) (tgt := 315) C.1 C.2.1 dX9_refusal_1 (by rw [e9]; decide) (by rw [e9]; decide) (by rw [e9]; rfl) (by decide) ?_
    refine lv_aload_n C.1 C.2.1 dX9_refusal_315 rfl (lv_at hl 0 rfl) ?_
    refine lv_iload_n C.1 C.2.1 dX9_refusal_316 rfl (lv_at hl 2 rfl) ?_
    obtain ⟨v50, hv50, hf⟩ := Option.bind_eq_some_iff.mp hf
    refine cRi (As := [.int x2]) (rest := []) C (mX9_isType hv50) vX9_isType wM_X9_137 ⟨Nat.le_of_ble_eq_true rfl, Nat.le_of_ble_eq_true rfl⟩ hP (rcm_X9 C hP) (fun U hU hW => SF.go hZ hS hU hW (fun _ h => h.elim)) hl.1 rfl rfl (Nat.le_of_ble_eq_true rfl) dX9_refusal_317 ⟨Nat.le_of_ble_eq_true rfl, Nat.le_of_ble_eq_true rfl⟩ ?_
    refine lv_if_eq (tgt := 374) C.1 C.2.1 dX9_refusal_320 (by decide) (fun c51 => ?_) (fun c51 => ?_)
    · rw [if_pos c51] at hf
      exact bX9_refusal_L374 C hA hZ hP hD hS (lv_sub hl [0] rfl) hf
    · rw [if_neg c51] at hf
      refine lv_iload_n C.1 C.2.1 dX9_refusal_323 rfl (lv_at hl 3 rfl) ?_
      refine lv_i2l C.1 C.2.1 dX9_refusal_324 rfl ?_
      refine lv_lconst (v := 0) C.1 C.2.1 dX9_refusal_325 (by decide) ?_
      refine lv_ldc2 (v := 9) C.1 C.2.1 C.2.2.2.1 (C.2.2.2.2.1 _ wKL_X9_190) dX9_refusal_326 ?_
      obtain ⟨v55, hv55, hf⟩ := Option.bind_eq_some_iff.mp hf
      refine cSi (As := [.long ((x3 : Int32).toInt64), .long 0, .long 9]) (rest := []) C (mX9_in hv55) vX9_in wM_X9_133 ⟨Nat.le_of_ble_eq_true rfl, Nat.le_of_ble_eq_true rfl⟩ hP (fun U hU hW => SF.go hZ hS hU hW (fun _ h => h.elim)) hl.1 rfl rfl (Nat.le_of_ble_eq_true rfl) dX9_refusal_329 ⟨Nat.le_of_ble_eq_true rfl, Nat.le_of_ble_eq_true rfl⟩ ?_
      refine lv_if_eq (tgt := 374) C.1 C.2.1 dX9_refusal_332 (by decide) (fun c56 => ?_) (fun c56 => ?_)
      · rw [if_pos c56] at hf
        exact bX9_refusal_L374 C hA hZ hP hD hS (lv_sub hl [0] rfl) hf
      · rw [if_neg c56] at hf
        refine lv_aload_n C.1 C.2.1 dX9_refusal_335 rfl (lv_at hl 0 rfl) ?_
        refine lv_iload C.1 C.2.1 dX9_refusal_336 (lv_at hl 4 rfl) ?_
        refine lv_iload C.1 C.2.1 dX9_refusal_338 (lv_at hl 5 rfl) ?_
        obtain ⟨v57, hv57, hf⟩ := Option.bind_eq_some_iff.mp hf
        refine cRi (As := [.int x4, .int x5]) (rest := []) C (mX9_areParameters hv57) vX9_areParameters wM_X9_200 ⟨Nat.le_of_ble_eq_true rfl, Nat.le_of_ble_eq_true rfl⟩ hP (rcm_X9 C hP) (fun U hU hW => SF.go hZ hS hU hW (fun _ h => h.elim)) hl.1 rfl rfl (Nat.le_of_ble_eq_true rfl) dX9_refusal_340 ⟨Nat.le_of_ble_eq_true rfl, Nat.le_of_ble_eq_true rfl⟩ ?_
        refine lv_if_eq (tgt := 374) C.1 C.2.1 dX9_refusal_343 (by decide) (fun c58 => ?_) (fun c58 => ?_)
        · rw [if_pos c58] at hf
          exact bX9_refusal_L374 C hA hZ hP hD hS (lv_sub hl [0] rfl) hf
        · rw [if_neg c58] at hf
          refine lv_iload C.1 C.2.1 dX9_refusal_346 (lv_at hl 6 rfl) ?_
          obtain ⟨v59, hv59, hf⟩ := Option.bind_eq_some_iff.mp hf
          refine cSi (As := [.int x6]) (rest := []) C (mX9_areMethodMarks hv59) vX9_areMethodMarks wM_X9_203 ⟨Nat.le_of_ble_eq_true rfl, Nat.le_of_ble_eq_true rfl⟩ hP (fun U hU hW => SF.go hZ hS hU hW (fun _ h => h.elim)) hl.1 rfl rfl (Nat.le_of_ble_eq_true rfl) dX9_refusal_348 ⟨Nat.le_of_ble_eq_true rfl, Nat.le_of_ble_eq_true rfl⟩ ?_
          refine lv_if_eq (tgt := 374) C.1 C.2.1 dX9_refusal_351 (by decide) (fun c60 => ?_) (fun c60 => ?_)
          · rw [if_pos c60] at hf
            exact bX9_refusal_L374 C hA hZ hP hD hS (lv_sub hl [0] rfl) hf
          · rw [if_neg c60] at hf
            refine lv_aload_n C.1 C.2.1 dX9_refusal_354 rfl (lv_at hl 0 rfl) ?_
            refine lv_iload_n C.1 C.2.1 dX9_refusal_355 rfl (lv_at hl 2 rfl) ?_
            refine lv_iconst (v := 1) C.1 C.2.1 dX9_refusal_356 (by decide) ?_
            refine lv_iload_n C.1 C.2.1 dX9_refusal_357 rfl (lv_at hl 3 rfl) ?_
            refine lv_iload C.1 C.2.1 dX9_refusal_358 (lv_at hl 4 rfl) ?_
            refine lv_iload C.1 C.2.1 dX9_refusal_360 (lv_at hl 5 rfl) ?_
            obtain ⟨v61, hv61, hf⟩ := Option.bind_eq_some_iff.mp hf
            refine cRi (As := [.int x2, .int 1, .int x3, .int x4, .int x5]) (rest := []) C (mX9_ownOf hv61) vX9_ownOf wM_X9_147 ⟨Nat.le_of_ble_eq_true rfl, Nat.le_of_ble_eq_true rfl⟩ hP (rcm_X9 C hP) (fun U hU hW => SF.go hZ hS hU hW (fun _ h => h.elim)) hl.1 rfl rfl (Nat.le_of_ble_eq_true rfl) dX9_refusal_362 ⟨Nat.le_of_ble_eq_true rfl, Nat.le_of_ble_eq_true rfl⟩ ?_
            refine lv_bipush (v := -2) C.1 C.2.1 dX9_refusal_365 (by decide) ?_
            refine lv_icmp_ne (tgt := 374) C.1 C.2.1 dX9_refusal_367 (by decide) (fun c62 => ?_) (fun c62 => ?_)
            · rw [if_neg c62] at hf
              exact bX9_refusal_L374 C hA hZ hP hD hS (lv_sub hl [0] rfl) hf
            · rw [if_pos c62] at hf
              refine lv_iconst (v := 1) C.1 C.2.1 dX9_refusal_370 (by decide) ?_
              refine lv_goto (tgt := 375) C.1 C.2.1 dX9_refusal_371 (by decide) ?_
              exact bX9_refusal_L375 C hA hZ hP hD hS (lv_sub hl [0] rfl) hf
  rw [if_neg c49] at hf
  refine lv_tableOut (tgt := 402) C.1 C.2.1 dX9_refusal_1 (by have q0 := neI c1 (k := 0) rfl; have q1 := neI c10 (k := 1) rfl; have q2 := neI c20 (k := 2) rfl; have q3 := neI c23 (k := 3) rfl; have q4 := neI c29 (k := 4) rfl; have q5 := neI c34 (k := 5) rfl; have q6 := neI c49 (k := 6) rfl; omega) (by decide) ?_
  refine lv_aload_n C.1 C.2.1 dX9_refusal_402 rfl (lv_at hl 0 rfl) ?_
  refine lv_iload_n C.1 C.2.1 dX9_refusal_403 rfl (lv_at hl 1 rfl) ?_
  refine lv_iload_n C.1 C.2.1 dX9_refusal_404 rfl (lv_at hl 2 rfl) ?_
  refine lv_iload_n C.1 C.2.1 dX9_refusal_405 rfl (lv_at hl 3 rfl) ?_
  obtain ⟨v63, hv63, hf⟩ := Option.bind_eq_some_iff.mp hf
  refine cRi (As := [.int x1, .int x2, .int x3]) (rest := []) C (mX9_refusalOfMember hv63) vX9_refusalOfMember wM_X9_206 ⟨Nat.le_of_ble_eq_true rfl, Nat.le_of_ble_eq_true rfl⟩ hP (rcm_X9 C hP) (fun U hU hW => SF.go hZ hS hU hW (fun _ h => h.elim)) hl.1 rfl rfl (Nat.le_of_ble_eq_true rfl) dX9_refusal_406 ⟨Nat.le_of_ble_eq_true rfl, Nat.le_of_ble_eq_true rfl⟩ ?_
  exact endWi C hP hD hS (Nat.le_refl _) (Nat.le_refl _) hf dX9_refusal_409
end
theorem vX9_refusal : YV yX9_refusal cX9_refusal 10 (some .int) 6 := ⟨⟨wK_X9_refusal, wZ_X9, by decide +kernel⟩, wI_X9_refusal, wV_X9_refusal⟩
def fJF_isNaN (u : ST) (x0 : UInt32) : Option Int32 :=
  if (Op.cmpValue (FP.fcmp x0 x0) .l) = 0 then
    some 0
  else
    some 1
section
variable {p : Program} {l : Launch} {e : Env} {s : State} {m : MethodId} {args : Array Value} {below : List Frame} {meth : Method} {c : Code} {H : Heap} {locs : List Loc} {g : GP} {ls : Array Slot} {A : Nat → Prop} {ad : Nat → Nat} {u : ST}
set_option maxRecDepth 100000 in
set_option maxHeartbeats 4000000 in
theorem mJF_isNaN {r0 : Int32} {x0 : UInt32} (hf : fJF_isNaN u x0 = some r0) : MRi l yJF_isNaN cJF_isNaN 1 (some .boolean) 0 0 [.float x0] g (mW g ad u) r0 := by
  refine entRF (by decide +kernel) (Nat.le_of_ble_eq_true rfl) ?_
  intro p e s m below meth c ls C hP hZ hl
  have hl : lv_has ls 1 [(0, .float x0)] := hl
  rw [fJF_isNaN] at hf
  refine lv_fload_n C.1 C.2.1 dJF_isNaN_0 rfl (lv_at hl 0 rfl) ?_
  refine lv_fload_n C.1 C.2.1 dJF_isNaN_1 rfl (lv_at hl 0 rfl) ?_
  refine lv_fcmp C.1 C.2.1 dJF_isNaN_2 ?_
  refine lv_if_eq (tgt := 10) C.1 C.2.1 dJF_isNaN_3 (by decide) (fun c1 => ?_) (fun c1 => ?_)
  · rw [if_pos c1] at hf
    refine lv_iconst (v := 0) C.1 C.2.1 dJF_isNaN_10 (by decide) ?_
    exact endRz C rfl hf dJF_isNaN_11
  · rw [if_neg c1] at hf
    refine lv_iconst (v := 1) C.1 C.2.1 dJF_isNaN_6 (by decide) ?_
    refine lv_goto (tgt := 11) C.1 C.2.1 dJF_isNaN_7 (by decide) ?_
    exact endRz C rfl hf dJF_isNaN_11
end
theorem vJF_isNaN : YS yJF_isNaN cJF_isNaN 1 (some .boolean) 1 := ⟨⟨wK_JF_isNaN, wZ_JF, by decide +kernel⟩, wS_JF_isNaN⟩
def fJF_floatToIntBits (u : ST) (x0 : UInt32) : Option Int32 :=
  (fJF_isNaN u x0).bind fun v1 =>
  if v1 = 0 then
    some (x0.toInt32)
  else
    some 2143289344
section
variable {p : Program} {l : Launch} {e : Env} {s : State} {m : MethodId} {args : Array Value} {below : List Frame} {meth : Method} {c : Code} {H : Heap} {locs : List Loc} {g : GP} {ls : Array Slot} {A : Nat → Prop} {ad : Nat → Nat} {u : ST}
set_option maxRecDepth 100000 in
set_option maxHeartbeats 4000000 in
theorem mJF_floatToIntBits {r0 : Int32} {x0 : UInt32} (hf : fJF_floatToIntBits u x0 = some r0) : MRi l yJF_floatToIntBits cJF_floatToIntBits 1 (some .int) 1 23 [.float x0] g (mW g ad u) r0 := by
  refine entRF (by decide +kernel) (Nat.le_of_ble_eq_true rfl) ?_
  intro p e s m below meth c ls C hP hZ hl
  have hl : lv_has ls 1 [(0, .float x0)] := hl
  rw [fJF_floatToIntBits] at hf
  refine lv_fload_n C.1 C.2.1 dJF_floatToIntBits_0 rfl (lv_at hl 0 rfl) ?_
  obtain ⟨v1, hv1, hf⟩ := Option.bind_eq_some_iff.mp hf
  refine cSi (As := [.float x0]) (rest := []) C (mJF_isNaN hv1) vJF_isNaN wM_JF_59 ⟨Nat.le_of_ble_eq_true rfl, Nat.le_of_ble_eq_true rfl⟩ hP (fun U hU hW => SF.go hZ va_S.rf hU hW (fun _ h => h)) hl.1 rfl rfl (Nat.le_of_ble_eq_true rfl) dJF_floatToIntBits_1 ⟨Nat.le_of_ble_eq_true rfl, Nat.le_of_ble_eq_true rfl⟩ ?_
  refine lv_if_ne (tgt := 12) C.1 C.2.1 dJF_floatToIntBits_4 (by decide) (fun c2 => ?_) (fun c2 => ?_)
  · rw [if_neg c2] at hf
    refine lv_ldc (v := 2143289344) C.1 C.2.1 C.2.2.2.1 (C.2.2.2.2.1 _ wKc_JF_77) dJF_floatToIntBits_12 ?_
    exact endRi C hf dJF_floatToIntBits_14
  · rw [if_pos c2] at hf
    refine lv_fload_n C.1 C.2.1 dJF_floatToIntBits_7 rfl (lv_at hl 0 rfl) ?_
    refine vn_f2i C.1 C.2.1 (C.2.2.1.trans hl.1.symm) C.2.2.2.1 (C.2.2.2.2.1 _ wM_JF_74) (C.2.2.2.2.1 _ wNat_floatToRawIntBits) (C.2.2.2.2.1 _ wS_java_lang_Float_floatToRawIntBits__F_I) (C.2.2.2.2.1 _ wZ_JF) (Nat.le_of_ble_eq_true rfl) (Nat.le_of_ble_eq_true rfl) dJF_floatToIntBits_8 ?_
    exact endRi C hf dJF_floatToIntBits_11
end
theorem vJF_floatToIntBits : YS yJF_floatToIntBits cJF_floatToIntBits 1 (some .int) 1 := ⟨⟨wK_JF_floatToIntBits, wZ_JF, by decide +kernel⟩, wS_JF_floatToIntBits⟩
def fJD_isNaN (u : ST) (x0 : UInt64) : Option Int32 :=
  if (Op.cmpValue (FP.dcmp x0 x0) .l) = 0 then
    some 0
  else
    some 1
section
variable {p : Program} {l : Launch} {e : Env} {s : State} {m : MethodId} {args : Array Value} {below : List Frame} {meth : Method} {c : Code} {H : Heap} {locs : List Loc} {g : GP} {ls : Array Slot} {A : Nat → Prop} {ad : Nat → Nat} {u : ST}
set_option maxRecDepth 100000 in
set_option maxHeartbeats 4000000 in
theorem mJD_isNaN {r0 : Int32} {x0 : UInt64} (hf : fJD_isNaN u x0 = some r0) : MRi l yJD_isNaN cJD_isNaN 2 (some .boolean) 0 0 [.double x0] g (mW g ad u) r0 := by
  refine entRF (by decide +kernel) (Nat.le_of_ble_eq_true rfl) ?_
  intro p e s m below meth c ls C hP hZ hl
  have hl : lv_has ls 2 [(0, .double x0)] := hl
  rw [fJD_isNaN] at hf
  refine lv_dload_n C.1 C.2.1 dJD_isNaN_0 rfl (lv_at hl 0 rfl) ?_
  refine lv_dload_n C.1 C.2.1 dJD_isNaN_1 rfl (lv_at hl 0 rfl) ?_
  refine lv_dcmp C.1 C.2.1 dJD_isNaN_2 ?_
  refine lv_if_eq (tgt := 10) C.1 C.2.1 dJD_isNaN_3 (by decide) (fun c1 => ?_) (fun c1 => ?_)
  · rw [if_pos c1] at hf
    refine lv_iconst (v := 0) C.1 C.2.1 dJD_isNaN_10 (by decide) ?_
    exact endRz C rfl hf dJD_isNaN_11
  · rw [if_neg c1] at hf
    refine lv_iconst (v := 1) C.1 C.2.1 dJD_isNaN_6 (by decide) ?_
    refine lv_goto (tgt := 11) C.1 C.2.1 dJD_isNaN_7 (by decide) ?_
    exact endRz C rfl hf dJD_isNaN_11
end
theorem vJD_isNaN : YS yJD_isNaN cJD_isNaN 2 (some .boolean) 1 := ⟨⟨wK_JD_isNaN, wZ_JD, by decide +kernel⟩, wS_JD_isNaN⟩
def fJD_doubleToLongBits (u : ST) (x0 : UInt64) : Option Int64 :=
  (fJD_isNaN u x0).bind fun v1 =>
  if v1 = 0 then
    some (x0.toInt64)
  else
    some 9221120237041090560
section
variable {p : Program} {l : Launch} {e : Env} {s : State} {m : MethodId} {args : Array Value} {below : List Frame} {meth : Method} {c : Code} {H : Heap} {locs : List Loc} {g : GP} {ls : Array Slot} {A : Nat → Prop} {ad : Nat → Nat} {u : ST}
set_option maxRecDepth 100000 in
set_option maxHeartbeats 4000000 in
theorem mJD_doubleToLongBits {r0 : Int64} {x0 : UInt64} (hf : fJD_doubleToLongBits u x0 = some r0) : MRl l yJD_doubleToLongBits cJD_doubleToLongBits 2 (some .long) 1 23 [.double x0] g (mW g ad u) r0 := by
  refine entRF (by decide +kernel) (Nat.le_of_ble_eq_true rfl) ?_
  intro p e s m below meth c ls C hP hZ hl
  have hl : lv_has ls 2 [(0, .double x0)] := hl
  rw [fJD_doubleToLongBits] at hf
  refine lv_dload_n C.1 C.2.1 dJD_doubleToLongBits_0 rfl (lv_at hl 0 rfl) ?_
  obtain ⟨v1, hv1, hf⟩ := Option.bind_eq_some_iff.mp hf
  refine cSi (As := [.double x0]) (rest := []) C (mJD_isNaN hv1) vJD_isNaN wM_JD_122 ⟨Nat.le_of_ble_eq_true rfl, Nat.le_of_ble_eq_true rfl⟩ hP (fun U hU hW => SF.go hZ va_S.rf hU hW (fun _ h => h)) hl.1 rfl rfl (Nat.le_of_ble_eq_true rfl) dJD_doubleToLongBits_1 ⟨Nat.le_of_ble_eq_true rfl, Nat.le_of_ble_eq_true rfl⟩ ?_
  refine lv_if_ne (tgt := 12) C.1 C.2.1 dJD_doubleToLongBits_4 (by decide) (fun c2 => ?_) (fun c2 => ?_)
  · rw [if_neg c2] at hf
    refine lv_ldc2 (v := 9221120237041090560) C.1 C.2.1 C.2.2.2.1 (C.2.2.2.2.1 _ wKL_JD_137) dJD_doubleToLongBits_12 ?_
    exact endRl C hf dJD_doubleToLongBits_15
  · rw [if_pos c2] at hf
    refine lv_dload_n C.1 C.2.1 dJD_doubleToLongBits_7 rfl (lv_at hl 0 rfl) ?_
    refine vn_d2l C.1 C.2.1 (C.2.2.1.trans hl.1.symm) C.2.2.2.1 (C.2.2.2.2.1 _ wM_JD_134) (C.2.2.2.2.1 _ wNat_doubleToRawLongBits) (C.2.2.2.2.1 _ wS_java_lang_Double_doubleToRawLongBits__D_J) (C.2.2.2.2.1 _ wZ_JD) (Nat.le_of_ble_eq_true rfl) (Nat.le_of_ble_eq_true rfl) dJD_doubleToLongBits_8 ?_
    exact endRl C hf dJD_doubleToLongBits_11
end
theorem vJD_doubleToLongBits : YS yJD_doubleToLongBits cJD_doubleToLongBits 2 (some .long) 1 := ⟨⟨wK_JD_doubleToLongBits, wZ_JD, by decide +kernel⟩, wS_JD_doubleToLongBits⟩
def fX9_kept (u : ST) (x0 : Int32) (x1 : Int64) : Option Int64 :=
  if x0 = 0 then
    if (lg_cmp x1 0) = 0 then
      some 0
    else
      some 1
  else
  if x0 = 1 then
    some (((((x1 : Int64).toInt32).toInt8.toInt32) : Int32).toInt64)
  else
  if x0 = 2 then
    some (x1 &&& 65535)
  else
  if x0 = 3 then
    some (((((x1 : Int64).toInt32).toInt16.toInt32) : Int32).toInt64)
  else
  if x0 = 4 then
    some ((((x1 : Int64).toInt32) : Int32).toInt64)
  else
  if x0 = 5 then
    some x1
  else
  if x0 = 6 then
    (fJF_floatToIntBits u (FP.l2f x1)).bind fun v9 =>
    some ((v9 : Int32).toInt64)
  else
    (fJD_doubleToLongBits u (FP.l2d x1)).bind fun v10 =>
    some v10
section
variable {p : Program} {l : Launch} {e : Env} {s : State} {m : MethodId} {args : Array Value} {below : List Frame} {meth : Method} {c : Code} {H : Heap} {locs : List Loc} {g : GP} {ls : Array Slot} {A : Nat → Prop} {ad : Nat → Nat} {u : ST}
set_option maxRecDepth 100000 in
set_option maxHeartbeats 4000000 in
theorem mX9_kept {r0 : Int64} {x0 : Int32} {x1 : Int64} (hf : fX9_kept u x0 x1 = some r0) : MRl l yX9_kept cX9_kept 3 (some .long) 2 44 [.int x0, .long x1] g (mW g ad u) r0 := by
  refine entR (by decide) (Nat.le_of_ble_eq_true rfl) ?_
  intro p e s m below meth c ls C hP hZ hl
  have hl : lv_has ls 3 [(0, .int x0), (1, .long x1)] := hl
  rw [fX9_kept] at hf
  refine lv_iload_n C.1 C.2.1 dX9_kept_0 rfl (lv_at hl 0 rfl) ?_
  by_cases c1 : x0 = 0
  · rw [if_pos c1] at hf
    have e9 : (x0 : Int32).toInt = 0 := by rw [c1]; rfl
    refine lv_tableIn (off := 43) (tgt := 44) C.1 C.2.1 dX9_kept_1 (by rw [e9]; decide) (by rw [e9]; decide) (by rw [e9]; rfl) (by decide) ?_
    refine lv_lload_n C.1 C.2.1 dX9_kept_44 rfl (lv_at hl 1 rfl) ?_
    refine lv_lconst (v := 0) C.1 C.2.1 dX9_kept_45 (by decide) ?_
    refine W.lcmp C.1 C.2.1 dX9_kept_46 ?_
    refine lv_if_eq (tgt := 54) C.1 C.2.1 dX9_kept_47 (by decide) (fun c2 => ?_) (fun c2 => ?_)
    · rw [if_pos c2] at hf
      refine lv_lconst (v := 0) C.1 C.2.1 dX9_kept_54 (by decide) ?_
      exact endRl C hf dX9_kept_55
    · rw [if_neg c2] at hf
      refine lv_lconst (v := 1) C.1 C.2.1 dX9_kept_50 (by decide) ?_
      refine lv_goto (tgt := 55) C.1 C.2.1 dX9_kept_51 (by decide) ?_
      exact endRl C hf dX9_kept_55
  rw [if_neg c1] at hf
  by_cases c3 : x0 = 1
  · rw [if_pos c3] at hf
    have e9 : (x0 : Int32).toInt = 1 := by rw [c3]; rfl
    refine lv_tableIn (off := 55) (tgt := 56) C.1 C.2.1 dX9_kept_1 (by rw [e9]; decide) (by rw [e9]; decide) (by rw [e9]; rfl) (by decide) ?_
    refine lv_lload_n C.1 C.2.1 dX9_kept_56 rfl (lv_at hl 1 rfl) ?_
    refine lv_l2i C.1 C.2.1 dX9_kept_57 rfl ?_
    refine lv_i2b C.1 C.2.1 dX9_kept_58 rfl ?_
    refine lv_i2l C.1 C.2.1 dX9_kept_59 rfl ?_
    exact endRl C hf dX9_kept_60
  rw [if_neg c3] at hf
  by_cases c4 : x0 = 2
  · rw [if_pos c4] at hf
    have e9 : (x0 : Int32).toInt = 2 := by rw [c4]; rfl
    refine lv_tableIn (off := 60) (tgt := 61) C.1 C.2.1 dX9_kept_1 (by rw [e9]; decide) (by rw [e9]; decide) (by rw [e9]; rfl) (by decide) ?_
    refine lv_lload_n C.1 C.2.1 dX9_kept_61 rfl (lv_at hl 1 rfl) ?_
    refine lv_ldc2 (v := 65535) C.1 C.2.1 C.2.2.2.1 (C.2.2.2.2.1 _ wKL_X9_151) dX9_kept_62 ?_
    refine lv_land C.1 C.2.1 dX9_kept_65 ?_
    exact endRl C hf dX9_kept_66
  rw [if_neg c4] at hf
  by_cases c5 : x0 = 3
  · rw [if_pos c5] at hf
    have e9 : (x0 : Int32).toInt = 3 := by rw [c5]; rfl
    refine lv_tableIn (off := 66) (tgt := 67) C.1 C.2.1 dX9_kept_1 (by rw [e9]; decide) (by rw [e9]; decide) (by rw [e9]; rfl) (by decide) ?_
    refine lv_lload_n C.1 C.2.1 dX9_kept_67 rfl (lv_at hl 1 rfl) ?_
    refine lv_l2i C.1 C.2.1 dX9_kept_68 rfl ?_
    refine lv_i2s C.1 C.2.1 dX9_kept_69 rfl ?_
    refine lv_i2l C.1 C.2.1 dX9_kept_70 rfl ?_
    exact endRl C hf dX9_kept_71
  rw [if_neg c5] at hf
  by_cases c6 : x0 = 4
  · rw [if_pos c6] at hf
    have e9 : (x0 : Int32).toInt = 4 := by rw [c6]; rfl
    refine lv_tableIn (off := 71) (tgt := 72) C.1 C.2.1 dX9_kept_1 (by rw [e9]; decide) (by rw [e9]; decide) (by rw [e9]; rfl) (by decide) ?_
    refine lv_lload_n C.1 C.2.1 dX9_kept_72 rfl (lv_at hl 1 rfl) ?_
    refine lv_l2i C.1 C.2.1 dX9_kept_73 rfl ?_
    refine lv_i2l C.1 C.2.1 dX9_kept_74 rfl ?_
    exact endRl C hf dX9_kept_75
  rw [if_neg c6] at hf
  by_cases c7 : x0 = 5
  · rw [if_pos c7] at hf
    have e9 : (x0 : Int32).toInt = 5 := by rw [c7]; rfl
    refine lv_tableIn (off := 75) (tgt := 76) C.1 C.2.1 dX9_kept_1 (by rw [e9]; decide) (by rw [e9]; decide) (by rw [e9]; rfl) (by decide) ?_
    refine lv_lload_n C.1 C.2.1 dX9_kept_76 rfl (lv_at hl 1 rfl) ?_
    exact endRl C hf dX9_kept_77
  rw [if_neg c7] at hf
  by_cases c8 : x0 = 6
  · rw [if_pos c8] at hf
    have e9 : (x0 : Int32).toInt = 6 := by rw [c8]; rfl
    refine lv_tableIn (off := 77) (tgt := 78) C.1 C.2.1 dX9_kept_1 (by rw [e9]; decide) (by rw [e9]; decide) (by rw [e9]; rfl) (by decide) ?_
    refine lv_lload_n C.1 C.2.1 dX9_kept_78 rfl (lv_at hl 1 rfl) ?_
    refine lv_l2f C.1 C.2.1 dX9_kept_79 ?_
    obtain ⟨v9, hv9, hf⟩ := Option.bind_eq_some_iff.mp hf
    refine cSi (As := [.float (FP.l2f x1)]) (rest := []) C (mJF_floatToIntBits hv9) vJF_floatToIntBits wM_X9_153 ⟨Nat.le_of_ble_eq_true rfl, Nat.le_of_ble_eq_true rfl⟩ hP (fun U hU hW => SF.go hZ va_S.rf hU hW (fun _ h => h)) hl.1 rfl rfl (Nat.le_of_ble_eq_true rfl) dX9_kept_80 ⟨Nat.le_of_ble_eq_true rfl, Nat.le_of_ble_eq_true rfl⟩ ?_
    refine lv_i2l C.1 C.2.1 dX9_kept_83 rfl ?_
    exact endRl C hf dX9_kept_84
  rw [if_neg c8] at hf
  refine lv_tableOut (tgt := 85) C.1 C.2.1 dX9_kept_1 (by have q0 := neI c1 (k := 0) rfl; have q1 := neI c3 (k := 1) rfl; have q2 := neI c4 (k := 2) rfl; have q3 := neI c5 (k := 3) rfl; have q4 := neI c6 (k := 4) rfl; have q5 := neI c7 (k := 5) rfl; have q6 := neI c8 (k := 6) rfl; omega) (by decide) ?_
  refine lv_lload_n C.1 C.2.1 dX9_kept_85 rfl (lv_at hl 1 rfl) ?_
  refine lv_l2d C.1 C.2.1 dX9_kept_86 ?_
  obtain ⟨v10, hv10, hf⟩ := Option.bind_eq_some_iff.mp hf
  refine cSl (As := [.double (FP.l2d x1)]) (rest := []) C (mJD_doubleToLongBits hv10) vJD_doubleToLongBits wM_X9_159 ⟨Nat.le_of_ble_eq_true rfl, Nat.le_of_ble_eq_true rfl⟩ hP (fun U hU hW => SF.go hZ va_S.rf hU hW (fun _ h => h)) hl.1 rfl rfl (Nat.le_of_ble_eq_true rfl) dX9_kept_87 ⟨Nat.le_of_ble_eq_true rfl, Nat.le_of_ble_eq_true rfl⟩ ?_
  exact endRl C hf dX9_kept_90
end
theorem vX9_kept : YS yX9_kept cX9_kept 3 (some .long) 2 := ⟨⟨wK_X9_kept, wZ_X9, by decide +kernel⟩, wS_X9_kept⟩
def fX9_newMember (u : ST) (x1 : Int32) (x2 : Int32) (x3 : Int32) (x4 : Int32) (x5 : Int32) (x6 : Int32) (x7 : Int64) (x9 : Int32) : Option (Int32 × ST) :=
  (fX9_freeMember u).bind fun v1 =>
  (stZ u 6 60 v1 1).bind fun u2 =>
  (stZ u2 7 60 v1 x1).bind fun u3 =>
  (stI u3 8 60 v1 x2).bind fun u4 =>
  (stI u4 9 60 v1 x3).bind fun u5 =>
  (stI u5 11 60 v1 x4).bind fun u6 =>
  (stI u6 12 60 v1 x5).bind fun u7 =>
  (stI u7 13 60 v1 x9).bind fun u8 =>
  (stI u8 10 60 v1 x6).bind fun u9 =>
  (stL u9 14 60 v1 x7).bind fun u10 =>
  some (v1, u10)
section
variable {p : Program} {l : Launch} {e : Env} {s : State} {m : MethodId} {args : Array Value} {below : List Frame} {meth : Method} {c : Code} {H : Heap} {locs : List Loc} {g : GP} {ls : Array Slot} {A : Nat → Prop} {ad : Nat → Nat} {u : ST}
set_option maxRecDepth 100000 in
set_option maxHeartbeats 4000000 in
theorem mX9_newMember {r0 : Int32} {u0 : ST} {x1 : Int32} {x2 : Int32} {x3 : Int32} {x4 : Int32} {x5 : Int32} {x6 : Int32} {x7 : Int64} {x9 : Int32} (hf : fX9_newMember u x1 x2 x3 x4 x5 x6 x7 x9 = some (r0, u0)) : MWi l yX9_newMember cX9_newMember 11 (some .int) 1 21 0 0 [.ref (ad 0), .int x1, .int x2, .int x3, .int x4, .int x5, .int x6, .long x7, .int x9] g (mW g ad) u r0 u0 := by
  refine entW (Qc := fun A => va_Qi (fun r v => r = r0 ∧ v = u0) (BW g A (mW g ad)) A) (by decide) (Nat.le_of_ble_eq_true rfl) ?_
  intro p e s m below meth c ls A C hP hD hS hA hZ hl
  have hl : lv_has ls 11 [(0, .ref (ad 0)), (1, .int x1), (2, .int x2), (3, .int x3), (4, .int x4), (5, .int x5), (6, .int x6), (7, .long x7), (9, .int x9)] := hl
  rw [fX9_newMember] at hf
  refine lv_aload_n C.1 C.2.1 dX9_newMember_0 rfl (lv_at hl 0 rfl) ?_
  obtain ⟨v1, hv1, hf⟩ := Option.bind_eq_some_iff.mp hf
  refine cRi (As := []) (rest := []) C (mX9_freeMember hv1) vX9_freeMember wM_X9_196 ⟨Nat.le_of_ble_eq_true rfl, Nat.le_of_ble_eq_true rfl⟩ hP (rcm_X9 C hP) (fun U hU hW => SF.go hZ hS hU hW (fun _ h => h.elim)) hl.1 rfl rfl (Nat.le_of_ble_eq_true rfl) dX9_newMember_1 ⟨Nat.le_of_ble_eq_true rfl, Nat.le_of_ble_eq_true rfl⟩ ?_
  refine lv_istore (lv' := [(10, .int v1), (0, .ref (ad 0)), (1, .int x1), (2, .int x2), (3, .int x3), (4, .int x4), (5, .int x5), (6, .int x6), (7, .long x7), (9, .int x9)]) C.1 C.2.1 dX9_newMember_4 hl (by decide) rfl (fun ls hl => ?_)
  refine lv_aload_n C.1 C.2.1 dX9_newMember_6 rfl (lv_at hl 1 rfl) ?_
  refine gtm_X9_isMember C hP wF_X9_26 dX9_newMember_7 ?_
  refine lv_iload C.1 C.2.1 dX9_newMember_10 (lv_at hl 0 rfl) ?_
  refine lv_iconst (v := 1) C.1 C.2.1 dX9_newMember_12 (by decide) ?_
  obtain ⟨u2, hu2, hf⟩ := Option.bind_eq_some_iff.mp hf
  refine stm_6 C hP hD hS hu2 dX9_newMember_13 (fun H locs hP hD hS => ?_)
  refine lv_aload_n C.1 C.2.1 dX9_newMember_14 rfl (lv_at hl 1 rfl) ?_
  refine gtm_X9_isMethod C hP wF_X9_29 dX9_newMember_15 ?_
  refine lv_iload C.1 C.2.1 dX9_newMember_18 (lv_at hl 0 rfl) ?_
  refine lv_iload_n C.1 C.2.1 dX9_newMember_20 rfl (lv_at hl 2 rfl) ?_
  obtain ⟨u3, hu3, hf⟩ := Option.bind_eq_some_iff.mp hf
  refine stm_7 C hP hD hS hu3 dX9_newMember_21 (fun H locs hP hD hS => ?_)
  refine lv_aload_n C.1 C.2.1 dX9_newMember_22 rfl (lv_at hl 1 rfl) ?_
  refine gtm_X9_mType C hP wF_X9_32 dX9_newMember_23 ?_
  refine lv_iload C.1 C.2.1 dX9_newMember_26 (lv_at hl 0 rfl) ?_
  refine lv_iload_n C.1 C.2.1 dX9_newMember_28 rfl (lv_at hl 3 rfl) ?_
  obtain ⟨u4, hu4, hf⟩ := Option.bind_eq_some_iff.mp hf
  refine stm_8 C hP hD hS hu4 dX9_newMember_29 (fun H locs hP hD hS => ?_)
  refine lv_aload_n C.1 C.2.1 dX9_newMember_30 rfl (lv_at hl 1 rfl) ?_
  refine gtm_X9_mName C hP wF_X9_35 dX9_newMember_31 ?_
  refine lv_iload C.1 C.2.1 dX9_newMember_34 (lv_at hl 0 rfl) ?_
  refine lv_iload_n C.1 C.2.1 dX9_newMember_36 rfl (lv_at hl 4 rfl) ?_
  obtain ⟨u5, hu5, hf⟩ := Option.bind_eq_some_iff.mp hf
  refine stm_9 C hP hD hS hu5 dX9_newMember_37 (fun H locs hP hD hS => ?_)
  refine lv_aload_n C.1 C.2.1 dX9_newMember_38 rfl (lv_at hl 1 rfl) ?_
  refine gtm_X9_mKind C hP wF_X9_41 dX9_newMember_39 ?_
  refine lv_iload C.1 C.2.1 dX9_newMember_42 (lv_at hl 0 rfl) ?_
  refine lv_iload C.1 C.2.1 dX9_newMember_44 (lv_at hl 5 rfl) ?_
  obtain ⟨u6, hu6, hf⟩ := Option.bind_eq_some_iff.mp hf
  refine stm_11 C hP hD hS hu6 dX9_newMember_46 (fun H locs hP hD hS => ?_)
  refine lv_aload_n C.1 C.2.1 dX9_newMember_47 rfl (lv_at hl 1 rfl) ?_
  refine gtm_X9_mFirst C hP wF_X9_44 dX9_newMember_48 ?_
  refine lv_iload C.1 C.2.1 dX9_newMember_51 (lv_at hl 0 rfl) ?_
  refine lv_iload C.1 C.2.1 dX9_newMember_53 (lv_at hl 6 rfl) ?_
  obtain ⟨u7, hu7, hf⟩ := Option.bind_eq_some_iff.mp hf
  refine stm_12 C hP hD hS hu7 dX9_newMember_55 (fun H locs hP hD hS => ?_)
  refine lv_aload_n C.1 C.2.1 dX9_newMember_56 rfl (lv_at hl 1 rfl) ?_
  refine gtm_X9_mSecond C hP wF_X9_47 dX9_newMember_57 ?_
  refine lv_iload C.1 C.2.1 dX9_newMember_60 (lv_at hl 0 rfl) ?_
  refine lv_iload C.1 C.2.1 dX9_newMember_62 (lv_at hl 9 rfl) ?_
  obtain ⟨u8, hu8, hf⟩ := Option.bind_eq_some_iff.mp hf
  refine stm_13 C hP hD hS hu8 dX9_newMember_64 (fun H locs hP hD hS => ?_)
  refine lv_aload_n C.1 C.2.1 dX9_newMember_65 rfl (lv_at hl 1 rfl) ?_
  refine gtm_X9_mMarks C hP wF_X9_38 dX9_newMember_66 ?_
  refine lv_iload C.1 C.2.1 dX9_newMember_69 (lv_at hl 0 rfl) ?_
  refine lv_iload C.1 C.2.1 dX9_newMember_71 (lv_at hl 7 rfl) ?_
  obtain ⟨u9, hu9, hf⟩ := Option.bind_eq_some_iff.mp hf
  refine stm_10 C hP hD hS hu9 dX9_newMember_73 (fun H locs hP hD hS => ?_)
  refine lv_aload_n C.1 C.2.1 dX9_newMember_74 rfl (lv_at hl 1 rfl) ?_
  refine gtm_X9_mValue C hP wF_X9_50 dX9_newMember_75 ?_
  refine lv_iload C.1 C.2.1 dX9_newMember_78 (lv_at hl 0 rfl) ?_
  refine lv_lload C.1 C.2.1 dX9_newMember_80 (lv_at hl 8 rfl) ?_
  obtain ⟨u10, hu10, hf⟩ := Option.bind_eq_some_iff.mp hf
  refine stm_14 C hP hD hS hu10 dX9_newMember_82 (fun H locs hP hD hS => ?_)
  refine lv_iload C.1 C.2.1 dX9_newMember_83 (lv_at hl 0 rfl) ?_
  exact endWi C hP hD hS (Nat.le_refl _) (Nat.le_refl _) hf dX9_newMember_85
end
theorem vX9_newMember : YV yX9_newMember cX9_newMember 11 (some .int) 8 := ⟨⟨wK_X9_newMember, wZ_X9, by decide +kernel⟩, wI_X9_newMember, wV_X9_newMember⟩
def fX9_doesMember_L91 (u : ST) (y1 : Int32) (y2 : Int64) : Option (Int32 × ST) :=
  (stL u 14 60 y1 y2).bind fun u11 =>
  some (1, u11)
def fX9_doesMember (u : ST) (x1 : Int32) (x2 : Int32) (x3 : Int32) (x4 : Int64) : Option (Int32 × ST) :=
  if x1 = 7 then
    (stZ u 6 60 x2 0).bind fun u2 =>
    some (1, u2)
  else
  if x1 = 8 then
    (rdI u 10 60 x2).bind fun v4 =>
    (stI u 10 60 x2 x3).bind fun u5 =>
    some (v4, u5)
  else
  if x1 = 9 then
    (rdI u 7 60 x2).bind fun v7 =>
    if v7 = 0 then
      (rdI u 11 60 x2).bind fun v9 =>
      (fX9_kept u v9 x4).bind fun v10 =>
      fX9_doesMember_L91 u x2 v10
    else
      fX9_doesMember_L91 u x2 ((((x4 : Int64).toInt32) : Int32).toInt64)
  else
  if x1 = 10 then
    (stI u 11 60 x2 x3).bind fun u13 =>
    (fX9_kept u13 x3 x4).bind fun v14 =>
    (stL u13 14 60 x2 v14).bind fun u15 =>
    some (1, u15)
  else
    (stI u 8 60 x2 x3).bind fun u16 =>
    some (1, u16)
section
variable {p : Program} {l : Launch} {e : Env} {s : State} {m : MethodId} {args : Array Value} {below : List Frame} {meth : Method} {c : Code} {H : Heap} {locs : List Loc} {g : GP} {ls : Array Slot} {A : Nat → Prop} {ad : Nat → Nat} {u : ST}
set_option maxRecDepth 100000 in
set_option maxHeartbeats 4000000 in
theorem bX9_doesMember_L91 {r0 : Int32} {u0 : ST} {y1 : Int32} {y2 : Int64} (C : Cx p s m args meth c cX9_doesMember 7 RX9 (some .int) g) (hA : ∀ q, s.heap.size ≤ q → A q) (hZ : SF A s) (hP : va_P g.1 vwCl (mW g ad u) H) (hD : va_D A (mW g ad u)) (hS : va_S A s.heap H locs) (hl : lv_has ls 7 []) (hf : fX9_doesMember_L91 u y1 y2 = some (r0, u0)) : W p l e (rmW 3 66 0 0) s m args below meth c H locs 0 0 (MQ below (va_Qi (fun r v => r = r0 ∧ v = u0) (BW g A (mW g ad)) A) args s 0 0 A) (F0 m 91 ls [.long y2, .int y1, .ref (ad 14)]) := by
  rw [fX9_doesMember_L91] at hf
  obtain ⟨u11, hu11, hf⟩ := Option.bind_eq_some_iff.mp hf
  refine stm_14 C hP hD hS hu11 dX9_doesMember_91 (fun H locs hP hD hS => ?_)
  refine lv_iconst (v := 1) C.1 C.2.1 dX9_doesMember_92 (by decide) ?_
  exact endWi C hP hD hS (Nat.le_refl _) (Nat.le_refl _) hf dX9_doesMember_93
set_option maxRecDepth 100000 in
set_option maxHeartbeats 4000000 in
theorem mX9_doesMember {r0 : Int32} {u0 : ST} {x1 : Int32} {x2 : Int32} {x3 : Int32} {x4 : Int64} (hf : fX9_doesMember u x1 x2 x3 x4 = some (r0, u0)) : MWi l yX9_doesMember cX9_doesMember 7 (some .int) 3 66 0 0 [.ref (ad 0), .int x1, .int x2, .int x3, .long x4] g (mW g ad) u r0 u0 := by
  refine entW (Qc := fun A => va_Qi (fun r v => r = r0 ∧ v = u0) (BW g A (mW g ad)) A) (by decide) (Nat.le_of_ble_eq_true rfl) ?_
  intro p e s m below meth c ls A C hP hD hS hA hZ hl
  have hl : lv_has ls 7 [(0, .ref (ad 0)), (1, .int x1), (2, .int x2), (3, .int x3), (4, .long x4)] := hl
  rw [fX9_doesMember] at hf
  refine lv_iload_n C.1 C.2.1 dX9_doesMember_0 rfl (lv_at hl 1 rfl) ?_
  by_cases c1 : x1 = 7
  · rw [if_pos c1] at hf
    have e9 : (x1 : Int32).toInt = 7 := by rw [c1]; rfl
    refine lv_tableIn (off := 31) (tgt := 32) C.1 C.2.1 dX9_doesMember_1 (by rw [e9]; decide) (by rw [e9]; decide) (by rw [e9]; rfl) (by decide) ?_
    refine lv_aload_n C.1 C.2.1 dX9_doesMember_32 rfl (lv_at hl 0 rfl) ?_
    refine gtm_X9_isMember C hP wF_X9_26 dX9_doesMember_33 ?_
    refine lv_iload_n C.1 C.2.1 dX9_doesMember_36 rfl (lv_at hl 2 rfl) ?_
    refine lv_iconst (v := 0) C.1 C.2.1 dX9_doesMember_37 (by decide) ?_
    obtain ⟨u2, hu2, hf⟩ := Option.bind_eq_some_iff.mp hf
    refine stm_6 C hP hD hS hu2 dX9_doesMember_38 (fun H locs hP hD hS => ?_)
    refine lv_iconst (v := 1) C.1 C.2.1 dX9_doesMember_39 (by decide) ?_
    exact endWi C hP hD hS (Nat.le_refl _) (Nat.le_refl _) hf dX9_doesMember_40
  rw [if_neg c1] at hf
  by_cases c3 : x1 = 8
  · rw [if_pos c3] at hf
    have e9 : (x1 : Int32).toInt = 8 := by rw [c3]; rfl
    refine lv_tableIn (off := 40) (tgt := 41) C.1 C.2.1 dX9_doesMember_1 (by rw [e9]; decide) (by rw [e9]; decide) (by rw [e9]; rfl) (by decide) ?_
    refine lv_aload_n C.1 C.2.1 dX9_doesMember_41 rfl (lv_at hl 0 rfl) ?_
    refine gtm_X9_mMarks C hP wF_X9_38 dX9_doesMember_42 ?_
    refine lv_iload_n C.1 C.2.1 dX9_doesMember_45 rfl (lv_at hl 2 rfl) ?_
    obtain ⟨v4, hv4, hf⟩ := Option.bind_eq_some_iff.mp hf
    refine ldm_10 C hP hv4 dX9_doesMember_46 ?_
    refine lv_istore (lv' := [(6, .int v4), (0, .ref (ad 0)), (1, .int x1), (2, .int x2), (3, .int x3), (4, .long x4)]) C.1 C.2.1 dX9_doesMember_47 hl (by decide) rfl (fun ls hl => ?_)
    refine lv_aload_n C.1 C.2.1 dX9_doesMember_49 rfl (lv_at hl 1 rfl) ?_
    refine gtm_X9_mMarks C hP wF_X9_38 dX9_doesMember_50 ?_
    refine lv_iload_n C.1 C.2.1 dX9_doesMember_53 rfl (lv_at hl 3 rfl) ?_
    refine lv_iload_n C.1 C.2.1 dX9_doesMember_54 rfl (lv_at hl 4 rfl) ?_
    obtain ⟨u5, hu5, hf⟩ := Option.bind_eq_some_iff.mp hf
    refine stm_10 C hP hD hS hu5 dX9_doesMember_55 (fun H locs hP hD hS => ?_)
    refine lv_iload C.1 C.2.1 dX9_doesMember_56 (lv_at hl 0 rfl) ?_
    exact endWi C hP hD hS (Nat.le_refl _) (Nat.le_refl _) hf dX9_doesMember_58
  rw [if_neg c3] at hf
  by_cases c6 : x1 = 9
  · rw [if_pos c6] at hf
    have e9 : (x1 : Int32).toInt = 9 := by rw [c6]; rfl
    refine lv_tableIn (off := 58) (tgt := 59) C.1 C.2.1 dX9_doesMember_1 (by rw [e9]; decide) (by rw [e9]; decide) (by rw [e9]; rfl) (by decide) ?_
    refine lv_aload_n C.1 C.2.1 dX9_doesMember_59 rfl (lv_at hl 0 rfl) ?_
    refine gtm_X9_mValue C hP wF_X9_50 dX9_doesMember_60 ?_
    refine lv_iload_n C.1 C.2.1 dX9_doesMember_63 rfl (lv_at hl 2 rfl) ?_
    refine lv_aload_n C.1 C.2.1 dX9_doesMember_64 rfl (lv_at hl 0 rfl) ?_
    refine gtm_X9_isMethod C hP wF_X9_29 dX9_doesMember_65 ?_
    refine lv_iload_n C.1 C.2.1 dX9_doesMember_68 rfl (lv_at hl 2 rfl) ?_
    obtain ⟨v7, hv7, hf⟩ := Option.bind_eq_some_iff.mp hf
    refine ldm_7 C hP hv7 dX9_doesMember_69 ?_
    refine lv_if_eq (tgt := 80) C.1 C.2.1 dX9_doesMember_70 (by decide) (fun c8 => ?_) (fun c8 => ?_)
    · rw [if_pos c8] at hf
      refine lv_aload_n C.1 C.2.1 dX9_doesMember_80 rfl (lv_at hl 0 rfl) ?_
      refine gtm_X9_mKind C hP wF_X9_41 dX9_doesMember_81 ?_
      refine lv_iload_n C.1 C.2.1 dX9_doesMember_84 rfl (lv_at hl 2 rfl) ?_
      obtain ⟨v9, hv9, hf⟩ := Option.bind_eq_some_iff.mp hf
      refine ldm_11 C hP hv9 dX9_doesMember_85 ?_
      refine lv_lload C.1 C.2.1 dX9_doesMember_86 (lv_at hl 4 rfl) ?_
      obtain ⟨v10, hv10, hf⟩ := Option.bind_eq_some_iff.mp hf
      refine cSl (As := [.int v9, .long x4]) (rest := [.int x2, .ref (ad 14)]) C (mX9_kept hv10) vX9_kept wM_X9_216 ⟨Nat.le_of_ble_eq_true rfl, Nat.le_of_ble_eq_true rfl⟩ hP (fun U hU hW => SF.go hZ hS hU hW (fun _ h => h.elim)) hl.1 rfl rfl (Nat.le_of_ble_eq_true rfl) dX9_doesMember_88 ⟨Nat.le_of_ble_eq_true rfl, Nat.le_of_ble_eq_true rfl⟩ ?_
      exact bX9_doesMember_L91 C hA hZ hP hD hS (lv_sub hl [] rfl) hf
    · rw [if_neg c8] at hf
      refine lv_lload C.1 C.2.1 dX9_doesMember_73 (lv_at hl 4 rfl) ?_
      refine lv_l2i C.1 C.2.1 dX9_doesMember_75 rfl ?_
      refine lv_i2l C.1 C.2.1 dX9_doesMember_76 rfl ?_
      refine lv_goto (tgt := 91) C.1 C.2.1 dX9_doesMember_77 (by decide) ?_
      exact bX9_doesMember_L91 C hA hZ hP hD hS (lv_sub hl [] rfl) hf
  rw [if_neg c6] at hf
  by_cases c12 : x1 = 10
  · rw [if_pos c12] at hf
    have e9 : (x1 : Int32).toInt = 10 := by rw [c12]; rfl
    refine lv_tableIn (off := 93) (tgt := 94) C.1 C.2.1 dX9_doesMember_1 (by rw [e9]; decide) (by rw [e9]; decide) (by rw [e9]; rfl) (by decide) ?_
    refine lv_aload_n C.1 C.2.1 dX9_doesMember_94 rfl (lv_at hl 0 rfl) ?_
    refine gtm_X9_mKind C hP wF_X9_41 dX9_doesMember_95 ?_
    refine lv_iload_n C.1 C.2.1 dX9_doesMember_98 rfl (lv_at hl 2 rfl) ?_
    refine lv_iload_n C.1 C.2.1 dX9_doesMember_99 rfl (lv_at hl 3 rfl) ?_
    obtain ⟨u13, hu13, hf⟩ := Option.bind_eq_some_iff.mp hf
    refine stm_11 C hP hD hS hu13 dX9_doesMember_100 (fun H locs hP hD hS => ?_)
    refine lv_aload_n C.1 C.2.1 dX9_doesMember_101 rfl (lv_at hl 0 rfl) ?_
    refine gtm_X9_mValue C hP wF_X9_50 dX9_doesMember_102 ?_
    refine lv_iload_n C.1 C.2.1 dX9_doesMember_105 rfl (lv_at hl 2 rfl) ?_
    refine lv_iload_n C.1 C.2.1 dX9_doesMember_106 rfl (lv_at hl 3 rfl) ?_
    refine lv_lload C.1 C.2.1 dX9_doesMember_107 (lv_at hl 4 rfl) ?_
    obtain ⟨v14, hv14, hf⟩ := Option.bind_eq_some_iff.mp hf
    refine cSl (As := [.int x3, .long x4]) (rest := [.int x2, .ref (ad 14)]) C (mX9_kept hv14) vX9_kept wM_X9_216 ⟨Nat.le_of_ble_eq_true rfl, Nat.le_of_ble_eq_true rfl⟩ hP (fun U hU hW => SF.go hZ hS hU hW (fun _ h => h.elim)) hl.1 rfl rfl (Nat.le_of_ble_eq_true rfl) dX9_doesMember_109 ⟨Nat.le_of_ble_eq_true rfl, Nat.le_of_ble_eq_true rfl⟩ ?_
    obtain ⟨u15, hu15, hf⟩ := Option.bind_eq_some_iff.mp hf
    refine stm_14 C hP hD hS hu15 dX9_doesMember_112 (fun H locs hP hD hS => ?_)
    refine lv_iconst (v := 1) C.1 C.2.1 dX9_doesMember_113 (by decide) ?_
    exact endWi C hP hD hS (Nat.le_refl _) (Nat.le_refl _) hf dX9_doesMember_114
  rw [if_neg c12] at hf
  refine lv_tableOut (tgt := 115) C.1 C.2.1 dX9_doesMember_1 (by have q0 := neI c1 (k := 7) rfl; have q1 := neI c3 (k := 8) rfl; have q2 := neI c6 (k := 9) rfl; have q3 := neI c12 (k := 10) rfl; omega) (by decide) ?_
  refine lv_aload_n C.1 C.2.1 dX9_doesMember_115 rfl (lv_at hl 0 rfl) ?_
  refine gtm_X9_mType C hP wF_X9_32 dX9_doesMember_116 ?_
  refine lv_iload_n C.1 C.2.1 dX9_doesMember_119 rfl (lv_at hl 2 rfl) ?_
  refine lv_iload_n C.1 C.2.1 dX9_doesMember_120 rfl (lv_at hl 3 rfl) ?_
  obtain ⟨u16, hu16, hf⟩ := Option.bind_eq_some_iff.mp hf
  refine stm_8 C hP hD hS hu16 dX9_doesMember_121 (fun H locs hP hD hS => ?_)
  refine lv_iconst (v := 1) C.1 C.2.1 dX9_doesMember_122 (by decide) ?_
  exact endWi C hP hD hS (Nat.le_refl _) (Nat.le_refl _) hf dX9_doesMember_123
end
theorem vX9_doesMember : YV yX9_doesMember cX9_doesMember 7 (some .int) 4 := ⟨⟨wK_X9_doesMember, wZ_X9, by decide +kernel⟩, wI_X9_doesMember, wV_X9_doesMember⟩
def fX9_does_L66 (u : ST) (x3 : Int32) (x4 : Int32) (y1 : Int32) (y2 : Int32) : Option (Int32 × ST) :=
  (stZ u 1 12 y1 y2).bind fun u3 =>
  (stI u3 2 12 (sI u3 0) x3).bind fun u4 =>
  (stI u4 3 12 (sI u4 0) x4).bind fun u5 =>
  (stI u5 4 12 (sI u5 0) 0).bind fun u6 =>
  (some (uI u6 0 ((sI u6 0) + 1))).bind fun u7 =>
  some (((sI u7 0) - 1), u7)
def fX9_does_L170 : Nat → ST → Int32 → Int32 → Option (Int32 × ST)
  | 0, _, _, _ => none
  | n + 1, u, x2, x10 =>
    (rdI u 4 12 x2).bind fun v19 =>
    if v19 ≤ x10 then
      (rdI u 4 12 x2).bind fun v21 =>
      some (v21, u)
    else
      (rdI u 5 36 (((3 * x2) + x10) + 1)).bind fun v22 =>
      (stI u 5 36 ((3 * x2) + x10) v22).bind fun u23 =>
      fX9_does_L170 n u23 x2 (x10 + 1)
def fX9_does (u : ST) (x1 : Int32) (x2 : Int32) (x3 : Int32) (x4 : Int32) (x5 : Int32) (x6 : Int32) (x7 : Int64) : Option (Int32 × ST) :=
  if x1 = 0 then
    if x2 = 1 then
      fX9_does_L66 u x3 x4 (sI u 0) 1
    else
      fX9_does_L66 u x3 x4 (sI u 0) 0
  else
  if x1 = 1 then
    (stI u 2 12 x2 x3).bind fun u9 =>
    some (1, u9)
  else
  if x1 = 2 then
    (rdI u 4 12 x2).bind fun v11 =>
    (stI u 5 36 ((3 * x2) + v11) x3).bind fun u12 =>
    (rdI u12 4 12 x2).bind fun v13 =>
    (stI u12 4 12 x2 (v13 + 1)).bind fun u14 =>
    (rdI u14 4 12 x2).bind fun v15 =>
    some (v15, u14)
  else
  if x1 = 3 then
    (rdI u 4 12 x2).bind fun v17 =>
    (stI u 4 12 x2 (v17 - 1)).bind fun u18 =>
    fX9_does_L170 5000 u18 x2 x3
  else
  if x1 = 4 then
    (rdI u 3 12 x2).bind fun v25 =>
    (stI u 3 12 x2 x3).bind fun u26 =>
    some (v25, u26)
  else
  if x1 = 5 then
    (fX9_kept u x4 x7).bind fun v28 =>
    b2 (fX9_newMember u 0 x2 x3 x4 (-2) x5 v28 (-2)) fun v30 u29 =>
    some (v30, u29)
  else
  if x1 = 6 then
    b2 (fX9_newMember u 1 x2 x3 0 x4 x6 ((((x7 : Int64).toInt32) : Int32).toInt64) x5) fun v33 u32 =>
    some (v33, u32)
  else
    b2 (fX9_doesMember u x1 x2 x3 x7) fun v35 u34 =>
    some (v35, u34)
section
variable {p : Program} {l : Launch} {e : Env} {s : State} {m : MethodId} {args : Array Value} {below : List Frame} {meth : Method} {c : Code} {H : Heap} {locs : List Loc} {g : GP} {ls : Array Slot} {A : Nat → Prop} {ad : Nat → Nat} {u : ST}
set_option maxRecDepth 100000 in
set_option maxHeartbeats 4000000 in
theorem bX9_does_L66 {r0 : Int32} {u0 : ST} {x3 : Int32} {x4 : Int32} {y1 : Int32} {y2 : Int32} (C : Cx p s m args meth c cX9_does 11 RX9 (some .int) g) (hA : ∀ q, s.heap.size ≤ q → A q) (hZ : SF A s) (hP : va_P g.1 vwCl (mW g ad u) H) (hD : va_D A (mW g ad u)) (hS : va_S A s.heap H locs) (hl : lv_has ls 11 [(0, .ref (ad 0)), (3, .int x3), (4, .int x4)]) (hf : fX9_does_L66 u x3 x4 y1 y2 = some (r0, u0)) : W p l e (rmW 4 92 0 0) s m args below meth c H locs 0 0 (MQ below (va_Qi (fun r v => r = r0 ∧ v = u0) (BW g A (mW g ad)) A) args s 0 0 A) (F0 m 66 ls [.int y2, .int y1, .ref (ad 1)]) := by
  rw [fX9_does_L66] at hf
  obtain ⟨u3, hu3, hf⟩ := Option.bind_eq_some_iff.mp hf
  refine stm_1 C hP hD hS hu3 dX9_does_66 (fun H locs hP hD hS => ?_)
  refine lv_aload_n C.1 C.2.1 dX9_does_67 rfl (lv_at hl 0 rfl) ?_
  refine gtm_X9_over C hP wF_X9_13 dX9_does_68 ?_
  refine lv_aload_n C.1 C.2.1 dX9_does_71 rfl (lv_at hl 0 rfl) ?_
  refine gtm_X9_types C hP wF_X9_129 dX9_does_72 ?_
  refine lv_iload_n C.1 C.2.1 dX9_does_75 rfl (lv_at hl 1 rfl) ?_
  obtain ⟨u4, hu4, hf⟩ := Option.bind_eq_some_iff.mp hf
  refine stm_2 C hP hD hS hu4 dX9_does_76 (fun H locs hP hD hS => ?_)
  refine lv_aload_n C.1 C.2.1 dX9_does_77 rfl (lv_at hl 0 rfl) ?_
  refine gtm_X9_tMarks C hP wF_X9_17 dX9_does_78 ?_
  refine lv_aload_n C.1 C.2.1 dX9_does_81 rfl (lv_at hl 0 rfl) ?_
  refine gtm_X9_types C hP wF_X9_129 dX9_does_82 ?_
  refine lv_iload C.1 C.2.1 dX9_does_85 (lv_at hl 2 rfl) ?_
  obtain ⟨u5, hu5, hf⟩ := Option.bind_eq_some_iff.mp hf
  refine stm_3 C hP hD hS hu5 dX9_does_87 (fun H locs hP hD hS => ?_)
  refine lv_aload_n C.1 C.2.1 dX9_does_88 rfl (lv_at hl 0 rfl) ?_
  refine gtm_X9_faceMany C hP wF_X9_20 dX9_does_89 ?_
  refine lv_aload_n C.1 C.2.1 dX9_does_92 rfl (lv_at hl 0 rfl) ?_
  refine gtm_X9_types C hP wF_X9_129 dX9_does_93 ?_
  refine lv_iconst (v := 0) C.1 C.2.1 dX9_does_96 (by decide) ?_
  obtain ⟨u6, hu6, hf⟩ := Option.bind_eq_some_iff.mp hf
  refine stm_4 C hP hD hS hu6 dX9_does_97 (fun H locs hP hD hS => ?_)
  refine lv_aload_n C.1 C.2.1 dX9_does_98 rfl (lv_at hl 0 rfl) ?_
  refine lv_dup C.1 C.2.1 dX9_does_99 rfl ?_
  refine gtm_X9_types C hP wF_X9_129 dX9_does_100 ?_
  refine lv_iconst (v := 1) C.1 C.2.1 dX9_does_103 (by decide) ?_
  refine lv_iadd C.1 C.2.1 dX9_does_104 ?_
  obtain ⟨u7, hu7, hf⟩ := Option.bind_eq_some_iff.mp hf
  refine ptm_X9_types C hP hD hS wF_X9_129 dX9_does_105 (fun H locs hP hD hS => ?_)
  rw [Option.some.inj hu7] at hP hD
  refine lv_aload_n C.1 C.2.1 dX9_does_108 rfl (lv_at hl 0 rfl) ?_
  refine gtm_X9_types C hP wF_X9_129 dX9_does_109 ?_
  refine lv_iconst (v := 1) C.1 C.2.1 dX9_does_112 (by decide) ?_
  refine lv_isub C.1 C.2.1 dX9_does_113 ?_
  exact endWi C hP hD hS (Nat.le_refl _) (Nat.le_refl _) hf dX9_does_114
set_option maxRecDepth 100000 in
set_option maxHeartbeats 4000000 in
theorem bX9_does_L170 {r0 : Int32} {u0 : ST} (C : Cx p s m args meth c cX9_does 11 RX9 (some .int) g) (hA : ∀ q, s.heap.size ≤ q → A q) (hZ : SF A s) : ∀ (n : Nat), ∀ (u : ST) (x2 : Int32) (x10 : Int32) (H : Heap) (locs : List Loc), va_P g.1 vwCl (mW g ad u) H → va_D A (mW g ad u) → va_S A s.heap H locs → ∀ (ls : Array Slot), lv_has ls 11 [(0, .ref (ad 0)), (2, .int x2), (10, .int x10)] → fX9_does_L170 n u x2 x10 = some (r0, u0) → W p l e (rmW 4 92 0 0) s m args below meth c H locs 0 0 (MQ below (va_Qi (fun r v => r = r0 ∧ v = u0) (BW g A (mW g ad)) A) args s 0 0 A) (F0 m 170 ls []) := by
  intro n
  induction n with
  | zero =>
    intro u x2 x10 H locs hP hD hS ls hl hf
    exact absurd hf (by simp [fX9_does_L170])
  | succ n ih =>
    intro u x2 x10 H locs hP hD hS ls hl hf
    rw [fX9_does_L170] at hf
    refine lv_iload C.1 C.2.1 dX9_does_170 (lv_at hl 2 rfl) ?_
    refine lv_aload_n C.1 C.2.1 dX9_does_172 rfl (lv_at hl 0 rfl) ?_
    refine gtm_X9_faceMany C hP wF_X9_20 dX9_does_173 ?_
    refine lv_iload_n C.1 C.2.1 dX9_does_176 rfl (lv_at hl 1 rfl) ?_
    obtain ⟨v19, hv19, hf⟩ := Option.bind_eq_some_iff.mp hf
    refine ldm_4 C hP hv19 dX9_does_177 ?_
    refine lv_icmp_ge (tgt := 211) C.1 C.2.1 dX9_does_178 (by decide) (fun c20 => ?_) (fun c20 => ?_)
    · rw [if_pos c20] at hf
      refine lv_aload_n C.1 C.2.1 dX9_does_211 rfl (lv_at hl 0 rfl) ?_
      refine gtm_X9_faceMany C hP wF_X9_20 dX9_does_212 ?_
      refine lv_iload_n C.1 C.2.1 dX9_does_215 rfl (lv_at hl 1 rfl) ?_
      obtain ⟨v21, hv21, hf⟩ := Option.bind_eq_some_iff.mp hf
      refine ldm_4 C hP hv21 dX9_does_216 ?_
      exact endWi C hP hD hS (Nat.le_refl _) (Nat.le_refl _) hf dX9_does_217
    · rw [if_neg c20] at hf
      refine lv_aload_n C.1 C.2.1 dX9_does_181 rfl (lv_at hl 0 rfl) ?_
      refine gtm_X9_faces C hP wF_X9_23 dX9_does_182 ?_
      refine lv_iconst (v := 3) C.1 C.2.1 dX9_does_185 (by decide) ?_
      refine lv_iload_n C.1 C.2.1 dX9_does_186 rfl (lv_at hl 1 rfl) ?_
      refine lv_imul C.1 C.2.1 dX9_does_187 ?_
      refine lv_iload C.1 C.2.1 dX9_does_188 (lv_at hl 2 rfl) ?_
      refine lv_iadd C.1 C.2.1 dX9_does_190 ?_
      refine lv_aload_n C.1 C.2.1 dX9_does_191 rfl (lv_at hl 0 rfl) ?_
      refine gtm_X9_faces C hP wF_X9_23 dX9_does_192 ?_
      refine lv_iconst (v := 3) C.1 C.2.1 dX9_does_195 (by decide) ?_
      refine lv_iload_n C.1 C.2.1 dX9_does_196 rfl (lv_at hl 1 rfl) ?_
      refine lv_imul C.1 C.2.1 dX9_does_197 ?_
      refine lv_iload C.1 C.2.1 dX9_does_198 (lv_at hl 2 rfl) ?_
      refine lv_iadd C.1 C.2.1 dX9_does_200 ?_
      refine lv_iconst (v := 1) C.1 C.2.1 dX9_does_201 (by decide) ?_
      refine lv_iadd C.1 C.2.1 dX9_does_202 ?_
      obtain ⟨v22, hv22, hf⟩ := Option.bind_eq_some_iff.mp hf
      refine ldm_5 C hP hv22 dX9_does_203 ?_
      obtain ⟨u23, hu23, hf⟩ := Option.bind_eq_some_iff.mp hf
      refine stm_5 C hP hD hS hu23 dX9_does_204 (fun H locs hP hD hS => ?_)
      refine lv_iinc (v := (x10 + 1)) (lv' := [(10, .int (x10 + 1)), (0, .ref (ad 0)), (2, .int x2)]) C.1 C.2.1 dX9_does_205 hl (k := 2) rfl rfl (by decide) rfl (fun ls hl => ?_)
      refine lv_goto (tgt := 170) C.1 C.2.1 dX9_does_208 (by decide) ?_
      exact ih u23 x2 (x10 + 1) _ _ hP hD hS _ (lv_sub hl [1, 2, 0] rfl) hf
set_option maxRecDepth 100000 in
set_option maxHeartbeats 4000000 in
theorem mX9_does {r0 : Int32} {u0 : ST} {x1 : Int32} {x2 : Int32} {x3 : Int32} {x4 : Int32} {x5 : Int32} {x6 : Int32} {x7 : Int64} (hf : fX9_does u x1 x2 x3 x4 x5 x6 x7 = some (r0, u0)) : MWi l yX9_does cX9_does 11 (some .int) 4 92 0 0 [.ref (ad 0), .int x1, .int x2, .int x3, .int x4, .int x5, .int x6, .long x7] g (mW g ad) u r0 u0 := by
  refine entW (Qc := fun A => va_Qi (fun r v => r = r0 ∧ v = u0) (BW g A (mW g ad)) A) (by decide) (Nat.le_of_ble_eq_true rfl) ?_
  intro p e s m below meth c ls A C hP hD hS hA hZ hl
  have hl : lv_has ls 11 [(0, .ref (ad 0)), (1, .int x1), (2, .int x2), (3, .int x3), (4, .int x4), (5, .int x5), (6, .int x6), (7, .long x7)] := hl
  rw [fX9_does] at hf
  refine lv_iconst (v := 1) C.1 C.2.1 dX9_does_0 (by decide) ?_
  refine lv_istore (lv' := [(9, .int 1), (0, .ref (ad 0)), (1, .int x1), (2, .int x2), (3, .int x3), (4, .int x4), (5, .int x5), (6, .int x6), (7, .long x7)]) C.1 C.2.1 dX9_does_1 hl (by decide) rfl (fun ls hl => ?_)
  refine lv_iload_n C.1 C.2.1 dX9_does_3 rfl (lv_at hl 2 rfl) ?_
  by_cases c1 : x1 = 0
  · rw [if_pos c1] at hf
    have e9 : (x1 : Int32).toInt = 0 := by rw [c1]; rfl
    refine lv_tableIn (off := 44) (tgt := 48) C.1 C.2.1 dX9_does_4 (by rw [e9]; decide) (by rw [e9]; decide) (by rw [e9]; rfl) (by decide) ?_
    refine lv_aload_n C.1 C.2.1 dX9_does_48 rfl (lv_at hl 1 rfl) ?_
    refine gtm_X9_isFace C hP wF_X9_7 dX9_does_49 ?_
    refine lv_aload_n C.1 C.2.1 dX9_does_52 rfl (lv_at hl 1 rfl) ?_
    refine gtm_X9_types C hP wF_X9_129 dX9_does_53 ?_
    refine lv_iload_n C.1 C.2.1 dX9_does_56 rfl (lv_at hl 3 rfl) ?_
    refine lv_iconst (v := 1) C.1 C.2.1 dX9_does_57 (by decide) ?_
    refine lv_icmp_ne (tgt := 65) C.1 C.2.1 dX9_does_58 (by decide) (fun c2 => ?_) (fun c2 => ?_)
    · rw [if_neg c2] at hf
      refine lv_iconst (v := 0) C.1 C.2.1 dX9_does_65 (by decide) ?_
      exact bX9_does_L66 C hA hZ hP hD hS (lv_sub hl [1, 4, 5] rfl) hf
    · rw [if_pos c2] at hf
      refine lv_iconst (v := 1) C.1 C.2.1 dX9_does_61 (by decide) ?_
      refine lv_goto (tgt := 66) C.1 C.2.1 dX9_does_62 (by decide) ?_
      exact bX9_does_L66 C hA hZ hP hD hS (lv_sub hl [1, 4, 5] rfl) hf
  rw [if_neg c1] at hf
  by_cases c8 : x1 = 1
  · rw [if_pos c8] at hf
    have e9 : (x1 : Int32).toInt = 1 := by rw [c8]; rfl
    refine lv_tableIn (off := 111) (tgt := 115) C.1 C.2.1 dX9_does_4 (by rw [e9]; decide) (by rw [e9]; decide) (by rw [e9]; rfl) (by decide) ?_
    refine lv_aload_n C.1 C.2.1 dX9_does_115 rfl (lv_at hl 1 rfl) ?_
    refine gtm_X9_over C hP wF_X9_13 dX9_does_116 ?_
    refine lv_iload_n C.1 C.2.1 dX9_does_119 rfl (lv_at hl 3 rfl) ?_
    refine lv_iload_n C.1 C.2.1 dX9_does_120 rfl (lv_at hl 4 rfl) ?_
    obtain ⟨u9, hu9, hf⟩ := Option.bind_eq_some_iff.mp hf
    refine stm_2 C hP hD hS hu9 dX9_does_121 (fun H locs hP hD hS => ?_)
    refine lv_iconst (v := 1) C.1 C.2.1 dX9_does_122 (by decide) ?_
    exact endWi C hP hD hS (Nat.le_refl _) (Nat.le_refl _) hf dX9_does_123
  rw [if_neg c8] at hf
  by_cases c10 : x1 = 2
  · rw [if_pos c10] at hf
    have e9 : (x1 : Int32).toInt = 2 := by rw [c10]; rfl
    refine lv_tableIn (off := 120) (tgt := 124) C.1 C.2.1 dX9_does_4 (by rw [e9]; decide) (by rw [e9]; decide) (by rw [e9]; rfl) (by decide) ?_
    refine lv_aload_n C.1 C.2.1 dX9_does_124 rfl (lv_at hl 1 rfl) ?_
    refine gtm_X9_faces C hP wF_X9_23 dX9_does_125 ?_
    refine lv_iconst (v := 3) C.1 C.2.1 dX9_does_128 (by decide) ?_
    refine lv_iload_n C.1 C.2.1 dX9_does_129 rfl (lv_at hl 3 rfl) ?_
    refine lv_imul C.1 C.2.1 dX9_does_130 ?_
    refine lv_aload_n C.1 C.2.1 dX9_does_131 rfl (lv_at hl 1 rfl) ?_
    refine gtm_X9_faceMany C hP wF_X9_20 dX9_does_132 ?_
    refine lv_iload_n C.1 C.2.1 dX9_does_135 rfl (lv_at hl 3 rfl) ?_
    obtain ⟨v11, hv11, hf⟩ := Option.bind_eq_some_iff.mp hf
    refine ldm_4 C hP hv11 dX9_does_136 ?_
    refine lv_iadd C.1 C.2.1 dX9_does_137 ?_
    refine lv_iload_n C.1 C.2.1 dX9_does_138 rfl (lv_at hl 4 rfl) ?_
    obtain ⟨u12, hu12, hf⟩ := Option.bind_eq_some_iff.mp hf
    refine stm_5 C hP hD hS hu12 dX9_does_139 (fun H locs hP hD hS => ?_)
    refine lv_aload_n C.1 C.2.1 dX9_does_140 rfl (lv_at hl 1 rfl) ?_
    refine gtm_X9_faceMany C hP wF_X9_20 dX9_does_141 ?_
    refine lv_iload_n C.1 C.2.1 dX9_does_144 rfl (lv_at hl 3 rfl) ?_
    refine lv_dup2_11 C.1 C.2.1 dX9_does_145 rfl rfl ?_
    obtain ⟨v13, hv13, hf⟩ := Option.bind_eq_some_iff.mp hf
    refine ldm_4 C hP hv13 dX9_does_146 ?_
    refine lv_iconst (v := 1) C.1 C.2.1 dX9_does_147 (by decide) ?_
    refine lv_iadd C.1 C.2.1 dX9_does_148 ?_
    obtain ⟨u14, hu14, hf⟩ := Option.bind_eq_some_iff.mp hf
    refine stm_4 C hP hD hS hu14 dX9_does_149 (fun H locs hP hD hS => ?_)
    refine lv_aload_n C.1 C.2.1 dX9_does_150 rfl (lv_at hl 1 rfl) ?_
    refine gtm_X9_faceMany C hP wF_X9_20 dX9_does_151 ?_
    refine lv_iload_n C.1 C.2.1 dX9_does_154 rfl (lv_at hl 3 rfl) ?_
    obtain ⟨v15, hv15, hf⟩ := Option.bind_eq_some_iff.mp hf
    refine ldm_4 C hP hv15 dX9_does_155 ?_
    exact endWi C hP hD hS (Nat.le_refl _) (Nat.le_refl _) hf dX9_does_156
  rw [if_neg c10] at hf
  by_cases c16 : x1 = 3
  · rw [if_pos c16] at hf
    have e9 : (x1 : Int32).toInt = 3 := by rw [c16]; rfl
    refine lv_tableIn (off := 153) (tgt := 157) C.1 C.2.1 dX9_does_4 (by rw [e9]; decide) (by rw [e9]; decide) (by rw [e9]; rfl) (by decide) ?_
    refine lv_aload_n C.1 C.2.1 dX9_does_157 rfl (lv_at hl 1 rfl) ?_
    refine gtm_X9_faceMany C hP wF_X9_20 dX9_does_158 ?_
    refine lv_iload_n C.1 C.2.1 dX9_does_161 rfl (lv_at hl 3 rfl) ?_
    refine lv_dup2_11 C.1 C.2.1 dX9_does_162 rfl rfl ?_
    obtain ⟨v17, hv17, hf⟩ := Option.bind_eq_some_iff.mp hf
    refine ldm_4 C hP hv17 dX9_does_163 ?_
    refine lv_iconst (v := 1) C.1 C.2.1 dX9_does_164 (by decide) ?_
    refine lv_isub C.1 C.2.1 dX9_does_165 ?_
    obtain ⟨u18, hu18, hf⟩ := Option.bind_eq_some_iff.mp hf
    refine stm_4 C hP hD hS hu18 dX9_does_166 (fun H locs hP hD hS => ?_)
    refine lv_iload_n C.1 C.2.1 dX9_does_167 rfl (lv_at hl 4 rfl) ?_
    refine lv_istore (lv' := [(10, .int x3), (9, .int 1), (0, .ref (ad 0)), (1, .int x1), (2, .int x2), (3, .int x3), (4, .int x4), (5, .int x5), (6, .int x6), (7, .long x7)]) C.1 C.2.1 dX9_does_168 hl (by decide) rfl (fun ls hl => ?_)
    exact bX9_does_L170 C hA hZ 5000 u18 x2 x3 _ _ hP hD hS _ (lv_sub hl [2, 4, 0] rfl) hf
  rw [if_neg c16] at hf
  by_cases c24 : x1 = 4
  · rw [if_pos c24] at hf
    have e9 : (x1 : Int32).toInt = 4 := by rw [c24]; rfl
    refine lv_tableIn (off := 214) (tgt := 218) C.1 C.2.1 dX9_does_4 (by rw [e9]; decide) (by rw [e9]; decide) (by rw [e9]; rfl) (by decide) ?_
    refine lv_aload_n C.1 C.2.1 dX9_does_218 rfl (lv_at hl 1 rfl) ?_
    refine gtm_X9_tMarks C hP wF_X9_17 dX9_does_219 ?_
    refine lv_iload_n C.1 C.2.1 dX9_does_222 rfl (lv_at hl 3 rfl) ?_
    obtain ⟨v25, hv25, hf⟩ := Option.bind_eq_some_iff.mp hf
    refine ldm_3 C hP hv25 dX9_does_223 ?_
    refine lv_istore (lv' := [(9, .int v25), (0, .ref (ad 0)), (1, .int x1), (2, .int x2), (3, .int x3), (4, .int x4), (5, .int x5), (6, .int x6), (7, .long x7)]) C.1 C.2.1 dX9_does_224 hl (by decide) rfl (fun ls hl => ?_)
    refine lv_aload_n C.1 C.2.1 dX9_does_226 rfl (lv_at hl 1 rfl) ?_
    refine gtm_X9_tMarks C hP wF_X9_17 dX9_does_227 ?_
    refine lv_iload_n C.1 C.2.1 dX9_does_230 rfl (lv_at hl 3 rfl) ?_
    refine lv_iload_n C.1 C.2.1 dX9_does_231 rfl (lv_at hl 4 rfl) ?_
    obtain ⟨u26, hu26, hf⟩ := Option.bind_eq_some_iff.mp hf
    refine stm_3 C hP hD hS hu26 dX9_does_232 (fun H locs hP hD hS => ?_)
    refine lv_iload C.1 C.2.1 dX9_does_233 (lv_at hl 0 rfl) ?_
    exact endWi C hP hD hS (Nat.le_refl _) (Nat.le_refl _) hf dX9_does_235
  rw [if_neg c24] at hf
  by_cases c27 : x1 = 5
  · rw [if_pos c27] at hf
    have e9 : (x1 : Int32).toInt = 5 := by rw [c27]; rfl
    refine lv_tableIn (off := 232) (tgt := 236) C.1 C.2.1 dX9_does_4 (by rw [e9]; decide) (by rw [e9]; decide) (by rw [e9]; rfl) (by decide) ?_
    refine lv_aload_n C.1 C.2.1 dX9_does_236 rfl (lv_at hl 1 rfl) ?_
    refine lv_iconst (v := 0) C.1 C.2.1 dX9_does_237 (by decide) ?_
    refine lv_iload_n C.1 C.2.1 dX9_does_238 rfl (lv_at hl 3 rfl) ?_
    refine lv_iload_n C.1 C.2.1 dX9_does_239 rfl (lv_at hl 4 rfl) ?_
    refine lv_iload C.1 C.2.1 dX9_does_240 (lv_at hl 5 rfl) ?_
    refine lv_bipush (v := -2) C.1 C.2.1 dX9_does_242 (by decide) ?_
    refine lv_iload C.1 C.2.1 dX9_does_244 (lv_at hl 6 rfl) ?_
    refine lv_iload C.1 C.2.1 dX9_does_246 (lv_at hl 5 rfl) ?_
    refine lv_lload C.1 C.2.1 dX9_does_248 (lv_at hl 8 rfl) ?_
    obtain ⟨v28, hv28, hf⟩ := Option.bind_eq_some_iff.mp hf
    refine cSl (As := [.int x4, .long x7]) (rest := [.int x5, .int (-2), .int x4, .int x3, .int x2, .int 0, .ref (ad 0)]) C (mX9_kept hv28) vX9_kept wM_X9_216 ⟨Nat.le_of_ble_eq_true rfl, Nat.le_of_ble_eq_true rfl⟩ hP (fun U hU hW => SF.go hZ hS hU hW (fun _ h => h.elim)) hl.1 rfl rfl (Nat.le_of_ble_eq_true rfl) dX9_does_250 ⟨Nat.le_of_ble_eq_true rfl, Nat.le_of_ble_eq_true rfl⟩ ?_
    refine lv_bipush (v := -2) C.1 C.2.1 dX9_does_253 (by decide) ?_
    obtain ⟨v30, u29, hu29, hf⟩ := b2_some hf
    refine cWi (As := [.int 0, .int x2, .int x3, .int x4, .int (-2), .int x5, .long v28, .int (-2)]) (rest := []) (mc := 0) (ms := 0) C (mX9_newMember hu29) vX9_newMember wM_X9_220 ⟨Nat.le_of_ble_eq_true rfl, Nat.le_of_ble_eq_true rfl⟩ hP hD hS hA hZ (rcm_X9 C hP) hl.1 rfl rfl (Nat.le_of_ble_eq_true rfl) dX9_does_255 ⟨Nat.le_of_ble_eq_true rfl, Nat.le_of_ble_eq_true rfl⟩ (fun H locs hP hD hS => ?_)
    exact endWi C hP hD hS (Nat.le_refl _) (Nat.le_refl _) hf dX9_does_258
  rw [if_neg c27] at hf
  by_cases c31 : x1 = 6
  · rw [if_pos c31] at hf
    have e9 : (x1 : Int32).toInt = 6 := by rw [c31]; rfl
    refine lv_tableIn (off := 255) (tgt := 259) C.1 C.2.1 dX9_does_4 (by rw [e9]; decide) (by rw [e9]; decide) (by rw [e9]; rfl) (by decide) ?_
    refine lv_aload_n C.1 C.2.1 dX9_does_259 rfl (lv_at hl 1 rfl) ?_
    refine lv_iconst (v := 1) C.1 C.2.1 dX9_does_260 (by decide) ?_
    refine lv_iload_n C.1 C.2.1 dX9_does_261 rfl (lv_at hl 3 rfl) ?_
    refine lv_iload_n C.1 C.2.1 dX9_does_262 rfl (lv_at hl 4 rfl) ?_
    refine lv_iconst (v := 0) C.1 C.2.1 dX9_does_263 (by decide) ?_
    refine lv_iload C.1 C.2.1 dX9_does_264 (lv_at hl 5 rfl) ?_
    refine lv_iload C.1 C.2.1 dX9_does_266 (lv_at hl 7 rfl) ?_
    refine lv_lload C.1 C.2.1 dX9_does_268 (lv_at hl 8 rfl) ?_
    refine lv_l2i C.1 C.2.1 dX9_does_270 rfl ?_
    refine lv_i2l C.1 C.2.1 dX9_does_271 rfl ?_
    refine lv_iload C.1 C.2.1 dX9_does_272 (lv_at hl 6 rfl) ?_
    obtain ⟨v33, u32, hu32, hf⟩ := b2_some hf
    refine cWi (As := [.int 1, .int x2, .int x3, .int 0, .int x4, .int x6, .long ((((x7 : Int64).toInt32) : Int32).toInt64), .int x5]) (rest := []) (mc := 0) (ms := 0) C (mX9_newMember hu32) vX9_newMember wM_X9_220 ⟨Nat.le_of_ble_eq_true rfl, Nat.le_of_ble_eq_true rfl⟩ hP hD hS hA hZ (rcm_X9 C hP) hl.1 rfl rfl (Nat.le_of_ble_eq_true rfl) dX9_does_274 ⟨Nat.le_of_ble_eq_true rfl, Nat.le_of_ble_eq_true rfl⟩ (fun H locs hP hD hS => ?_)
    exact endWi C hP hD hS (Nat.le_refl _) (Nat.le_refl _) hf dX9_does_277
  rw [if_neg c31] at hf
  refine lv_tableOut (tgt := 278) C.1 C.2.1 dX9_does_4 (by have q0 := neI c1 (k := 0) rfl; have q1 := neI c8 (k := 1) rfl; have q2 := neI c10 (k := 2) rfl; have q3 := neI c16 (k := 3) rfl; have q4 := neI c24 (k := 4) rfl; have q5 := neI c27 (k := 5) rfl; have q6 := neI c31 (k := 6) rfl; omega) (by decide) ?_
  refine lv_aload_n C.1 C.2.1 dX9_does_278 rfl (lv_at hl 1 rfl) ?_
  refine lv_iload_n C.1 C.2.1 dX9_does_279 rfl (lv_at hl 2 rfl) ?_
  refine lv_iload_n C.1 C.2.1 dX9_does_280 rfl (lv_at hl 3 rfl) ?_
  refine lv_iload_n C.1 C.2.1 dX9_does_281 rfl (lv_at hl 4 rfl) ?_
  refine lv_lload C.1 C.2.1 dX9_does_282 (lv_at hl 8 rfl) ?_
  obtain ⟨v35, u34, hu34, hf⟩ := b2_some hf
  refine cWi (As := [.int x1, .int x2, .int x3, .long x7]) (rest := []) (mc := 0) (ms := 0) C (mX9_doesMember hu34) vX9_doesMember wM_X9_224 ⟨Nat.le_of_ble_eq_true rfl, Nat.le_of_ble_eq_true rfl⟩ hP hD hS hA hZ (rcm_X9 C hP) hl.1 rfl rfl (Nat.le_of_ble_eq_true rfl) dX9_does_284 ⟨Nat.le_of_ble_eq_true rfl, Nat.le_of_ble_eq_true rfl⟩ (fun H locs hP hD hS => ?_)
  exact endWi C hP hD hS (Nat.le_refl _) (Nat.le_refl _) hf dX9_does_287
end
theorem vX9_does : YV yX9_does cX9_does 11 (some .int) 7 := ⟨⟨wK_X9_does, wZ_X9, by decide +kernel⟩, wI_X9_does, wV_X9_does⟩
def fX9_edit (u : ST) (x1 : Int32) (x2 : Int32) (x3 : Int32) (x4 : Int32) (x5 : Int32) (x6 : Int32) (x7 : Int64) : Option (Int32 × ST) :=
  b2 (fX9_refusal u x1 x2 x3 x4 x5 x6) fun v2 u1 =>
  if 0 ≤ v2 then
    if (sI u1 16) = 120 then
      some ((-3), u1)
    else
      (stI u1 17 120 (sI u1 16) x1).bind fun u5 =>
      (stI u5 18 120 (sI u5 16) x2).bind fun u6 =>
      (stI u6 19 120 (sI u6 16) x3).bind fun u7 =>
      (stI u7 20 120 (sI u7 16) x4).bind fun u8 =>
      (stI u8 21 120 (sI u8 16) x5).bind fun u9 =>
      (stI u9 22 120 (sI u9 16) x6).bind fun u10 =>
      (stL u10 23 120 (sI u10 16) x7).bind fun u11 =>
      (some (uI u11 16 ((sI u11 16) + 1))).bind fun u12 =>
      b2 (fX9_does u12 x1 x2 x3 x4 x5 x6 x7) fun v14 u13 =>
      some (v14, u13)
  else
    some (v2, u1)
section
variable {p : Program} {l : Launch} {e : Env} {s : State} {m : MethodId} {args : Array Value} {below : List Frame} {meth : Method} {c : Code} {H : Heap} {locs : List Loc} {g : GP} {ls : Array Slot} {A : Nat → Prop} {ad : Nat → Nat} {u : ST}
set_option maxRecDepth 100000 in
set_option maxHeartbeats 4000000 in
theorem mX9_edit {r0 : Int32} {u0 : ST} {x1 : Int32} {x2 : Int32} {x3 : Int32} {x4 : Int32} {x5 : Int32} {x6 : Int32} {x7 : Int64} (hf : fX9_edit u x1 x2 x3 x4 x5 x6 x7 = some (r0, u0)) : MWi l yX9_edit cX9_edit 10 (some .int) 5 122 0 0 [.ref (ad 0), .int x1, .int x2, .int x3, .int x4, .int x5, .int x6, .long x7] g (mW g ad) u r0 u0 := by
  refine entW (Qc := fun A => va_Qi (fun r v => r = r0 ∧ v = u0) (BW g A (mW g ad)) A) (by decide) (Nat.le_of_ble_eq_true rfl) ?_
  intro p e s m below meth c ls A C hP hD hS hA hZ hl
  have hl : lv_has ls 10 [(0, .ref (ad 0)), (1, .int x1), (2, .int x2), (3, .int x3), (4, .int x4), (5, .int x5), (6, .int x6), (7, .long x7)] := hl
  rw [fX9_edit] at hf
  refine lv_aload_n C.1 C.2.1 dX9_edit_0 rfl (lv_at hl 0 rfl) ?_
  refine lv_iload_n C.1 C.2.1 dX9_edit_1 rfl (lv_at hl 1 rfl) ?_
  refine lv_iload_n C.1 C.2.1 dX9_edit_2 rfl (lv_at hl 2 rfl) ?_
  refine lv_iload_n C.1 C.2.1 dX9_edit_3 rfl (lv_at hl 3 rfl) ?_
  refine lv_iload C.1 C.2.1 dX9_edit_4 (lv_at hl 4 rfl) ?_
  refine lv_iload C.1 C.2.1 dX9_edit_6 (lv_at hl 5 rfl) ?_
  refine lv_iload C.1 C.2.1 dX9_edit_8 (lv_at hl 6 rfl) ?_
  obtain ⟨v2, u1, hu1, hf⟩ := b2_some hf
  refine cWi (As := [.int x1, .int x2, .int x3, .int x4, .int x5, .int x6]) (rest := []) (mc := 0) (ms := 0) C (mX9_refusal hu1) vX9_refusal wM_X9_228 ⟨Nat.le_of_ble_eq_true rfl, Nat.le_of_ble_eq_true rfl⟩ hP hD hS hA hZ (rcm_X9 C hP) hl.1 rfl rfl (Nat.le_of_ble_eq_true rfl) dX9_edit_10 ⟨Nat.le_of_ble_eq_true rfl, Nat.le_of_ble_eq_true rfl⟩ (fun H locs hP hD hS => ?_)
  refine lv_istore (lv' := [(9, .int v2), (0, .ref (ad 0)), (1, .int x1), (2, .int x2), (3, .int x3), (4, .int x4), (5, .int x5), (6, .int x6), (7, .long x7)]) C.1 C.2.1 dX9_edit_13 hl (by decide) rfl (fun ls hl => ?_)
  refine lv_iload C.1 C.2.1 dX9_edit_15 (lv_at hl 0 rfl) ?_
  refine lv_if_ge (tgt := 23) C.1 C.2.1 dX9_edit_17 (by decide) (fun c3 => ?_) (fun c3 => ?_)
  · rw [if_pos c3] at hf
    refine lv_aload_n C.1 C.2.1 dX9_edit_23 rfl (lv_at hl 1 rfl) ?_
    refine gtm_X9_edits C hP wF_X9_232 dX9_edit_24 ?_
    refine lv_bipush (v := 120) C.1 C.2.1 dX9_edit_27 (by decide) ?_
    refine lv_icmp_ne (tgt := 35) C.1 C.2.1 dX9_edit_29 (by decide) (fun c4 => ?_) (fun c4 => ?_)
    · rw [if_neg c4] at hf
      refine lv_aload_n C.1 C.2.1 dX9_edit_35 rfl (lv_at hl 1 rfl) ?_
      refine gtm_X9_eWhat C hP wF_X9_57 dX9_edit_36 ?_
      refine lv_aload_n C.1 C.2.1 dX9_edit_39 rfl (lv_at hl 1 rfl) ?_
      refine gtm_X9_edits C hP wF_X9_232 dX9_edit_40 ?_
      refine lv_iload_n C.1 C.2.1 dX9_edit_43 rfl (lv_at hl 2 rfl) ?_
      obtain ⟨u5, hu5, hf⟩ := Option.bind_eq_some_iff.mp hf
      refine stm_17 C hP hD hS hu5 dX9_edit_44 (fun H locs hP hD hS => ?_)
      refine lv_aload_n C.1 C.2.1 dX9_edit_45 rfl (lv_at hl 1 rfl) ?_
      refine gtm_X9_eA C hP wF_X9_60 dX9_edit_46 ?_
      refine lv_aload_n C.1 C.2.1 dX9_edit_49 rfl (lv_at hl 1 rfl) ?_
      refine gtm_X9_edits C hP wF_X9_232 dX9_edit_50 ?_
      refine lv_iload_n C.1 C.2.1 dX9_edit_53 rfl (lv_at hl 3 rfl) ?_
      obtain ⟨u6, hu6, hf⟩ := Option.bind_eq_some_iff.mp hf
      refine stm_18 C hP hD hS hu6 dX9_edit_54 (fun H locs hP hD hS => ?_)
      refine lv_aload_n C.1 C.2.1 dX9_edit_55 rfl (lv_at hl 1 rfl) ?_
      refine gtm_X9_eB C hP wF_X9_63 dX9_edit_56 ?_
      refine lv_aload_n C.1 C.2.1 dX9_edit_59 rfl (lv_at hl 1 rfl) ?_
      refine gtm_X9_edits C hP wF_X9_232 dX9_edit_60 ?_
      refine lv_iload_n C.1 C.2.1 dX9_edit_63 rfl (lv_at hl 4 rfl) ?_
      obtain ⟨u7, hu7, hf⟩ := Option.bind_eq_some_iff.mp hf
      refine stm_19 C hP hD hS hu7 dX9_edit_64 (fun H locs hP hD hS => ?_)
      refine lv_aload_n C.1 C.2.1 dX9_edit_65 rfl (lv_at hl 1 rfl) ?_
      refine gtm_X9_eC C hP wF_X9_66 dX9_edit_66 ?_
      refine lv_aload_n C.1 C.2.1 dX9_edit_69 rfl (lv_at hl 1 rfl) ?_
      refine gtm_X9_edits C hP wF_X9_232 dX9_edit_70 ?_
      refine lv_iload C.1 C.2.1 dX9_edit_73 (lv_at hl 5 rfl) ?_
      obtain ⟨u8, hu8, hf⟩ := Option.bind_eq_some_iff.mp hf
      refine stm_20 C hP hD hS hu8 dX9_edit_75 (fun H locs hP hD hS => ?_)
      refine lv_aload_n C.1 C.2.1 dX9_edit_76 rfl (lv_at hl 1 rfl) ?_
      refine gtm_X9_eD C hP wF_X9_69 dX9_edit_77 ?_
      refine lv_aload_n C.1 C.2.1 dX9_edit_80 rfl (lv_at hl 1 rfl) ?_
      refine gtm_X9_edits C hP wF_X9_232 dX9_edit_81 ?_
      refine lv_iload C.1 C.2.1 dX9_edit_84 (lv_at hl 6 rfl) ?_
      obtain ⟨u9, hu9, hf⟩ := Option.bind_eq_some_iff.mp hf
      refine stm_21 C hP hD hS hu9 dX9_edit_86 (fun H locs hP hD hS => ?_)
      refine lv_aload_n C.1 C.2.1 dX9_edit_87 rfl (lv_at hl 1 rfl) ?_
      refine gtm_X9_eE C hP wF_X9_72 dX9_edit_88 ?_
      refine lv_aload_n C.1 C.2.1 dX9_edit_91 rfl (lv_at hl 1 rfl) ?_
      refine gtm_X9_edits C hP wF_X9_232 dX9_edit_92 ?_
      refine lv_iload C.1 C.2.1 dX9_edit_95 (lv_at hl 7 rfl) ?_
      obtain ⟨u10, hu10, hf⟩ := Option.bind_eq_some_iff.mp hf
      refine stm_22 C hP hD hS hu10 dX9_edit_97 (fun H locs hP hD hS => ?_)
      refine lv_aload_n C.1 C.2.1 dX9_edit_98 rfl (lv_at hl 1 rfl) ?_
      refine gtm_X9_eV C hP wF_X9_75 dX9_edit_99 ?_
      refine lv_aload_n C.1 C.2.1 dX9_edit_102 rfl (lv_at hl 1 rfl) ?_
      refine gtm_X9_edits C hP wF_X9_232 dX9_edit_103 ?_
      refine lv_lload C.1 C.2.1 dX9_edit_106 (lv_at hl 8 rfl) ?_
      obtain ⟨u11, hu11, hf⟩ := Option.bind_eq_some_iff.mp hf
      refine stm_23 C hP hD hS hu11 dX9_edit_108 (fun H locs hP hD hS => ?_)
      refine lv_aload_n C.1 C.2.1 dX9_edit_109 rfl (lv_at hl 1 rfl) ?_
      refine lv_dup C.1 C.2.1 dX9_edit_110 rfl ?_
      refine gtm_X9_edits C hP wF_X9_232 dX9_edit_111 ?_
      refine lv_iconst (v := 1) C.1 C.2.1 dX9_edit_114 (by decide) ?_
      refine lv_iadd C.1 C.2.1 dX9_edit_115 ?_
      obtain ⟨u12, hu12, hf⟩ := Option.bind_eq_some_iff.mp hf
      refine ptm_X9_edits C hP hD hS wF_X9_232 dX9_edit_116 (fun H locs hP hD hS => ?_)
      rw [Option.some.inj hu12] at hP hD
      refine lv_aload_n C.1 C.2.1 dX9_edit_119 rfl (lv_at hl 1 rfl) ?_
      refine lv_iload_n C.1 C.2.1 dX9_edit_120 rfl (lv_at hl 2 rfl) ?_
      refine lv_iload_n C.1 C.2.1 dX9_edit_121 rfl (lv_at hl 3 rfl) ?_
      refine lv_iload_n C.1 C.2.1 dX9_edit_122 rfl (lv_at hl 4 rfl) ?_
      refine lv_iload C.1 C.2.1 dX9_edit_123 (lv_at hl 5 rfl) ?_
      refine lv_iload C.1 C.2.1 dX9_edit_125 (lv_at hl 6 rfl) ?_
      refine lv_iload C.1 C.2.1 dX9_edit_127 (lv_at hl 7 rfl) ?_
      refine lv_lload C.1 C.2.1 dX9_edit_129 (lv_at hl 8 rfl) ?_
      obtain ⟨v14, u13, hu13, hf⟩ := b2_some hf
      refine cWi (As := [.int x1, .int x2, .int x3, .int x4, .int x5, .int x6, .long x7]) (rest := []) (mc := 0) (ms := 0) C (mX9_does hu13) vX9_does wM_X9_235 ⟨Nat.le_of_ble_eq_true rfl, Nat.le_of_ble_eq_true rfl⟩ hP hD hS hA hZ (rcm_X9 C hP) hl.1 rfl rfl (Nat.le_of_ble_eq_true rfl) dX9_edit_131 ⟨Nat.le_of_ble_eq_true rfl, Nat.le_of_ble_eq_true rfl⟩ (fun H locs hP hD hS => ?_)
      exact endWi C hP hD hS (Nat.le_refl _) (Nat.le_refl _) hf dX9_edit_134
    · rw [if_pos c4] at hf
      refine lv_bipush (v := -3) C.1 C.2.1 dX9_edit_32 (by decide) ?_
      exact endWi C hP hD hS (Nat.le_refl _) (Nat.le_refl _) hf dX9_edit_34
  · rw [if_neg c3] at hf
    refine lv_iload C.1 C.2.1 dX9_edit_20 (lv_at hl 0 rfl) ?_
    exact endWi C hP hD hS (Nat.le_refl _) (Nat.le_refl _) hf dX9_edit_22
end
theorem vX9_edit : YV yX9_edit cX9_edit 10 (some .int) 7 := ⟨⟨wK_X9_edit, wZ_X9, by decide +kernel⟩, wI_X9_edit, wV_X9_edit⟩
def fX9_type_L11 (u : ST) (x2 : Int32) (x3 : Int32) (y1 : Int32) (y2 : Int32) : Option (Int32 × ST) :=
  b2 (fX9_edit u y1 y2 x2 x3 0 0 0) fun v3 u2 =>
  some (v3, u2)
def fX9_type (u : ST) (x1 : Int32) (x2 : Int32) (x3 : Int32) : Option (Int32 × ST) :=
  if x1 = 0 then
    fX9_type_L11 u x2 x3 0 0
  else
    fX9_type_L11 u x2 x3 0 1
section
variable {p : Program} {l : Launch} {e : Env} {s : State} {m : MethodId} {args : Array Value} {below : List Frame} {meth : Method} {c : Code} {H : Heap} {locs : List Loc} {g : GP} {ls : Array Slot} {A : Nat → Prop} {ad : Nat → Nat} {u : ST}
set_option maxRecDepth 100000 in
set_option maxHeartbeats 4000000 in
theorem bX9_type_L11 {r0 : Int32} {u0 : ST} {x2 : Int32} {x3 : Int32} {y1 : Int32} {y2 : Int32} (C : Cx p s m args meth c cX9_type 4 RX9 (some .int) g) (hA : ∀ q, s.heap.size ≤ q → A q) (hZ : SF A s) (hP : va_P g.1 vwCl (mW g ad u) H) (hD : va_D A (mW g ad u)) (hS : va_S A s.heap H locs) (hl : lv_has ls 4 [(2, .int x2), (3, .int x3)]) (hf : fX9_type_L11 u x2 x3 y1 y2 = some (r0, u0)) : W p l e (rmW 6 151 0 0) s m args below meth c H locs 0 0 (MQ below (va_Qi (fun r v => r = r0 ∧ v = u0) (BW g A (mW g ad)) A) args s 0 0 A) (F0 m 11 ls [.int y2, .int y1, .ref (ad 0)]) := by
  rw [fX9_type_L11] at hf
  refine lv_iload_n C.1 C.2.1 dX9_type_11 rfl (lv_at hl 0 rfl) ?_
  refine lv_iload_n C.1 C.2.1 dX9_type_12 rfl (lv_at hl 1 rfl) ?_
  refine lv_iconst (v := 0) C.1 C.2.1 dX9_type_13 (by decide) ?_
  refine lv_iconst (v := 0) C.1 C.2.1 dX9_type_14 (by decide) ?_
  refine lv_lconst (v := 0) C.1 C.2.1 dX9_type_15 (by decide) ?_
  obtain ⟨v3, u2, hu2, hf⟩ := b2_some hf
  refine cWi (As := [.int y1, .int y2, .int x2, .int x3, .int 0, .int 0, .long 0]) (rest := []) (mc := 0) (ms := 0) C (mX9_edit hu2) vX9_edit wM_X9_239 ⟨Nat.le_of_ble_eq_true rfl, Nat.le_of_ble_eq_true rfl⟩ hP hD hS hA hZ (rcm_X9 C hP) hl.1 rfl rfl (Nat.le_of_ble_eq_true rfl) dX9_type_16 ⟨Nat.le_of_ble_eq_true rfl, Nat.le_of_ble_eq_true rfl⟩ (fun H locs hP hD hS => ?_)
  exact endWi C hP hD hS (Nat.le_refl _) (Nat.le_refl _) hf dX9_type_19
set_option maxRecDepth 100000 in
set_option maxHeartbeats 4000000 in
theorem mX9_type {r0 : Int32} {u0 : ST} {x1 : Int32} {x2 : Int32} {x3 : Int32} (hf : fX9_type u x1 x2 x3 = some (r0, u0)) : MWi l yX9_type cX9_type 4 (some .int) 6 151 0 0 [.ref (ad 0), .int x1, .int x2, .int x3] g (mW g ad) u r0 u0 := by
  refine entW (Qc := fun A => va_Qi (fun r v => r = r0 ∧ v = u0) (BW g A (mW g ad)) A) (by decide) (Nat.le_of_ble_eq_true rfl) ?_
  intro p e s m below meth c ls A C hP hD hS hA hZ hl
  have hl : lv_has ls 4 [(0, .ref (ad 0)), (1, .int x1), (2, .int x2), (3, .int x3)] := hl
  rw [fX9_type] at hf
  refine lv_aload_n C.1 C.2.1 dX9_type_0 rfl (lv_at hl 0 rfl) ?_
  refine lv_iconst (v := 0) C.1 C.2.1 dX9_type_1 (by decide) ?_
  refine lv_iload_n C.1 C.2.1 dX9_type_2 rfl (lv_at hl 1 rfl) ?_
  refine lv_if_eq (tgt := 10) C.1 C.2.1 dX9_type_3 (by decide) (fun c1 => ?_) (fun c1 => ?_)
  · rw [if_pos c1] at hf
    refine lv_iconst (v := 0) C.1 C.2.1 dX9_type_10 (by decide) ?_
    exact bX9_type_L11 C hA hZ hP hD hS (lv_sub hl [2, 3] rfl) hf
  · rw [if_neg c1] at hf
    refine lv_iconst (v := 1) C.1 C.2.1 dX9_type_6 (by decide) ?_
    refine lv_goto (tgt := 11) C.1 C.2.1 dX9_type_7 (by decide) ?_
    exact bX9_type_L11 C hA hZ hP hD hS (lv_sub hl [2, 3] rfl) hf
end
theorem vX9_type : YV yX9_type cX9_type 4 (some .int) 3 := ⟨⟨wK_X9_type, wZ_X9, by decide +kernel⟩, wI_X9_type, wV_X9_type⟩
def fX9_above (u : ST) (x1 : Int32) (x2 : Int32) : Option (Int32 × ST) :=
  b2 (fX9_edit u 1 x1 x2 0 0 0 0) fun v2 u1 =>
  some (v2, u1)
section
variable {p : Program} {l : Launch} {e : Env} {s : State} {m : MethodId} {args : Array Value} {below : List Frame} {meth : Method} {c : Code} {H : Heap} {locs : List Loc} {g : GP} {ls : Array Slot} {A : Nat → Prop} {ad : Nat → Nat} {u : ST}
set_option maxRecDepth 100000 in
set_option maxHeartbeats 4000000 in
theorem mX9_above {r0 : Int32} {u0 : ST} {x1 : Int32} {x2 : Int32} (hf : fX9_above u x1 x2 = some (r0, u0)) : MWi l yX9_above cX9_above 3 (some .int) 6 151 0 0 [.ref (ad 0), .int x1, .int x2] g (mW g ad) u r0 u0 := by
  refine entW (Qc := fun A => va_Qi (fun r v => r = r0 ∧ v = u0) (BW g A (mW g ad)) A) (by decide) (Nat.le_of_ble_eq_true rfl) ?_
  intro p e s m below meth c ls A C hP hD hS hA hZ hl
  have hl : lv_has ls 3 [(0, .ref (ad 0)), (1, .int x1), (2, .int x2)] := hl
  rw [fX9_above] at hf
  refine lv_aload_n C.1 C.2.1 dX9_above_0 rfl (lv_at hl 0 rfl) ?_
  refine lv_iconst (v := 1) C.1 C.2.1 dX9_above_1 (by decide) ?_
  refine lv_iload_n C.1 C.2.1 dX9_above_2 rfl (lv_at hl 1 rfl) ?_
  refine lv_iload_n C.1 C.2.1 dX9_above_3 rfl (lv_at hl 2 rfl) ?_
  refine lv_iconst (v := 0) C.1 C.2.1 dX9_above_4 (by decide) ?_
  refine lv_iconst (v := 0) C.1 C.2.1 dX9_above_5 (by decide) ?_
  refine lv_iconst (v := 0) C.1 C.2.1 dX9_above_6 (by decide) ?_
  refine lv_lconst (v := 0) C.1 C.2.1 dX9_above_7 (by decide) ?_
  obtain ⟨v2, u1, hu1, hf⟩ := b2_some hf
  refine cWi (As := [.int 1, .int x1, .int x2, .int 0, .int 0, .int 0, .long 0]) (rest := []) (mc := 0) (ms := 0) C (mX9_edit hu1) vX9_edit wM_X9_239 ⟨Nat.le_of_ble_eq_true rfl, Nat.le_of_ble_eq_true rfl⟩ hP hD hS hA hZ (rcm_X9 C hP) hl.1 rfl rfl (Nat.le_of_ble_eq_true rfl) dX9_above_8 ⟨Nat.le_of_ble_eq_true rfl, Nat.le_of_ble_eq_true rfl⟩ (fun H locs hP hD hS => ?_)
  exact endWi C hP hD hS (Nat.le_refl _) (Nat.le_refl _) hf dX9_above_11
end
theorem vX9_above : YV yX9_above cX9_above 3 (some .int) 2 := ⟨⟨wK_X9_above, wZ_X9, by decide +kernel⟩, wI_X9_above, wV_X9_above⟩
def fX9_face (u : ST) (x1 : Int32) (x2 : Int32) : Option (Int32 × ST) :=
  b2 (fX9_edit u 2 x1 x2 0 0 0 0) fun v2 u1 =>
  some (v2, u1)
section
variable {p : Program} {l : Launch} {e : Env} {s : State} {m : MethodId} {args : Array Value} {below : List Frame} {meth : Method} {c : Code} {H : Heap} {locs : List Loc} {g : GP} {ls : Array Slot} {A : Nat → Prop} {ad : Nat → Nat} {u : ST}
set_option maxRecDepth 100000 in
set_option maxHeartbeats 4000000 in
theorem mX9_face {r0 : Int32} {u0 : ST} {x1 : Int32} {x2 : Int32} (hf : fX9_face u x1 x2 = some (r0, u0)) : MWi l yX9_face cX9_face 3 (some .int) 6 151 0 0 [.ref (ad 0), .int x1, .int x2] g (mW g ad) u r0 u0 := by
  refine entW (Qc := fun A => va_Qi (fun r v => r = r0 ∧ v = u0) (BW g A (mW g ad)) A) (by decide) (Nat.le_of_ble_eq_true rfl) ?_
  intro p e s m below meth c ls A C hP hD hS hA hZ hl
  have hl : lv_has ls 3 [(0, .ref (ad 0)), (1, .int x1), (2, .int x2)] := hl
  rw [fX9_face] at hf
  refine lv_aload_n C.1 C.2.1 dX9_face_0 rfl (lv_at hl 0 rfl) ?_
  refine lv_iconst (v := 2) C.1 C.2.1 dX9_face_1 (by decide) ?_
  refine lv_iload_n C.1 C.2.1 dX9_face_2 rfl (lv_at hl 1 rfl) ?_
  refine lv_iload_n C.1 C.2.1 dX9_face_3 rfl (lv_at hl 2 rfl) ?_
  refine lv_iconst (v := 0) C.1 C.2.1 dX9_face_4 (by decide) ?_
  refine lv_iconst (v := 0) C.1 C.2.1 dX9_face_5 (by decide) ?_
  refine lv_iconst (v := 0) C.1 C.2.1 dX9_face_6 (by decide) ?_
  refine lv_lconst (v := 0) C.1 C.2.1 dX9_face_7 (by decide) ?_
  obtain ⟨v2, u1, hu1, hf⟩ := b2_some hf
  refine cWi (As := [.int 2, .int x1, .int x2, .int 0, .int 0, .int 0, .long 0]) (rest := []) (mc := 0) (ms := 0) C (mX9_edit hu1) vX9_edit wM_X9_239 ⟨Nat.le_of_ble_eq_true rfl, Nat.le_of_ble_eq_true rfl⟩ hP hD hS hA hZ (rcm_X9 C hP) hl.1 rfl rfl (Nat.le_of_ble_eq_true rfl) dX9_face_8 ⟨Nat.le_of_ble_eq_true rfl, Nat.le_of_ble_eq_true rfl⟩ (fun H locs hP hD hS => ?_)
  exact endWi C hP hD hS (Nat.le_refl _) (Nat.le_refl _) hf dX9_face_11
end
theorem vX9_face : YV yX9_face cX9_face 3 (some .int) 2 := ⟨⟨wK_X9_face, wZ_X9, by decide +kernel⟩, wI_X9_face, wV_X9_face⟩
def fX9_unface (u : ST) (x1 : Int32) (x2 : Int32) : Option (Int32 × ST) :=
  b2 (fX9_edit u 3 x1 x2 0 0 0 0) fun v2 u1 =>
  some (v2, u1)
section
variable {p : Program} {l : Launch} {e : Env} {s : State} {m : MethodId} {args : Array Value} {below : List Frame} {meth : Method} {c : Code} {H : Heap} {locs : List Loc} {g : GP} {ls : Array Slot} {A : Nat → Prop} {ad : Nat → Nat} {u : ST}
set_option maxRecDepth 100000 in
set_option maxHeartbeats 4000000 in
theorem mX9_unface {r0 : Int32} {u0 : ST} {x1 : Int32} {x2 : Int32} (hf : fX9_unface u x1 x2 = some (r0, u0)) : MWi l yX9_unface cX9_unface 3 (some .int) 6 151 0 0 [.ref (ad 0), .int x1, .int x2] g (mW g ad) u r0 u0 := by
  refine entW (Qc := fun A => va_Qi (fun r v => r = r0 ∧ v = u0) (BW g A (mW g ad)) A) (by decide) (Nat.le_of_ble_eq_true rfl) ?_
  intro p e s m below meth c ls A C hP hD hS hA hZ hl
  have hl : lv_has ls 3 [(0, .ref (ad 0)), (1, .int x1), (2, .int x2)] := hl
  rw [fX9_unface] at hf
  refine lv_aload_n C.1 C.2.1 dX9_unface_0 rfl (lv_at hl 0 rfl) ?_
  refine lv_iconst (v := 3) C.1 C.2.1 dX9_unface_1 (by decide) ?_
  refine lv_iload_n C.1 C.2.1 dX9_unface_2 rfl (lv_at hl 1 rfl) ?_
  refine lv_iload_n C.1 C.2.1 dX9_unface_3 rfl (lv_at hl 2 rfl) ?_
  refine lv_iconst (v := 0) C.1 C.2.1 dX9_unface_4 (by decide) ?_
  refine lv_iconst (v := 0) C.1 C.2.1 dX9_unface_5 (by decide) ?_
  refine lv_iconst (v := 0) C.1 C.2.1 dX9_unface_6 (by decide) ?_
  refine lv_lconst (v := 0) C.1 C.2.1 dX9_unface_7 (by decide) ?_
  obtain ⟨v2, u1, hu1, hf⟩ := b2_some hf
  refine cWi (As := [.int 3, .int x1, .int x2, .int 0, .int 0, .int 0, .long 0]) (rest := []) (mc := 0) (ms := 0) C (mX9_edit hu1) vX9_edit wM_X9_239 ⟨Nat.le_of_ble_eq_true rfl, Nat.le_of_ble_eq_true rfl⟩ hP hD hS hA hZ (rcm_X9 C hP) hl.1 rfl rfl (Nat.le_of_ble_eq_true rfl) dX9_unface_8 ⟨Nat.le_of_ble_eq_true rfl, Nat.le_of_ble_eq_true rfl⟩ (fun H locs hP hD hS => ?_)
  exact endWi C hP hD hS (Nat.le_refl _) (Nat.le_refl _) hf dX9_unface_11
end
theorem vX9_unface : YV yX9_unface cX9_unface 3 (some .int) 2 := ⟨⟨wK_X9_unface, wZ_X9, by decide +kernel⟩, wI_X9_unface, wV_X9_unface⟩
def fX9_marks (u : ST) (x1 : Int32) (x2 : Int32) : Option (Int32 × ST) :=
  b2 (fX9_edit u 4 x1 x2 0 0 0 0) fun v2 u1 =>
  some (v2, u1)
section
variable {p : Program} {l : Launch} {e : Env} {s : State} {m : MethodId} {args : Array Value} {below : List Frame} {meth : Method} {c : Code} {H : Heap} {locs : List Loc} {g : GP} {ls : Array Slot} {A : Nat → Prop} {ad : Nat → Nat} {u : ST}
set_option maxRecDepth 100000 in
set_option maxHeartbeats 4000000 in
theorem mX9_marks {r0 : Int32} {u0 : ST} {x1 : Int32} {x2 : Int32} (hf : fX9_marks u x1 x2 = some (r0, u0)) : MWi l yX9_marks cX9_marks 3 (some .int) 6 151 0 0 [.ref (ad 0), .int x1, .int x2] g (mW g ad) u r0 u0 := by
  refine entW (Qc := fun A => va_Qi (fun r v => r = r0 ∧ v = u0) (BW g A (mW g ad)) A) (by decide) (Nat.le_of_ble_eq_true rfl) ?_
  intro p e s m below meth c ls A C hP hD hS hA hZ hl
  have hl : lv_has ls 3 [(0, .ref (ad 0)), (1, .int x1), (2, .int x2)] := hl
  rw [fX9_marks] at hf
  refine lv_aload_n C.1 C.2.1 dX9_marks_0 rfl (lv_at hl 0 rfl) ?_
  refine lv_iconst (v := 4) C.1 C.2.1 dX9_marks_1 (by decide) ?_
  refine lv_iload_n C.1 C.2.1 dX9_marks_2 rfl (lv_at hl 1 rfl) ?_
  refine lv_iload_n C.1 C.2.1 dX9_marks_3 rfl (lv_at hl 2 rfl) ?_
  refine lv_iconst (v := 0) C.1 C.2.1 dX9_marks_4 (by decide) ?_
  refine lv_iconst (v := 0) C.1 C.2.1 dX9_marks_5 (by decide) ?_
  refine lv_iconst (v := 0) C.1 C.2.1 dX9_marks_6 (by decide) ?_
  refine lv_lconst (v := 0) C.1 C.2.1 dX9_marks_7 (by decide) ?_
  obtain ⟨v2, u1, hu1, hf⟩ := b2_some hf
  refine cWi (As := [.int 4, .int x1, .int x2, .int 0, .int 0, .int 0, .long 0]) (rest := []) (mc := 0) (ms := 0) C (mX9_edit hu1) vX9_edit wM_X9_239 ⟨Nat.le_of_ble_eq_true rfl, Nat.le_of_ble_eq_true rfl⟩ hP hD hS hA hZ (rcm_X9 C hP) hl.1 rfl rfl (Nat.le_of_ble_eq_true rfl) dX9_marks_8 ⟨Nat.le_of_ble_eq_true rfl, Nat.le_of_ble_eq_true rfl⟩ (fun H locs hP hD hS => ?_)
  exact endWi C hP hD hS (Nat.le_refl _) (Nat.le_refl _) hf dX9_marks_11
end
theorem vX9_marks : YV yX9_marks cX9_marks 3 (some .int) 2 := ⟨⟨wK_X9_marks, wZ_X9, by decide +kernel⟩, wI_X9_marks, wV_X9_marks⟩
def fX9_field (u : ST) (x1 : Int32) (x2 : Int32) (x3 : Int32) (x4 : Int32) (x5 : Int64) : Option (Int32 × ST) :=
  b2 (fX9_edit u 5 x1 x2 x3 x4 0 x5) fun v2 u1 =>
  some (v2, u1)
section
variable {p : Program} {l : Launch} {e : Env} {s : State} {m : MethodId} {args : Array Value} {below : List Frame} {meth : Method} {c : Code} {H : Heap} {locs : List Loc} {g : GP} {ls : Array Slot} {A : Nat → Prop} {ad : Nat → Nat} {u : ST}
set_option maxRecDepth 100000 in
set_option maxHeartbeats 4000000 in
theorem mX9_field {r0 : Int32} {u0 : ST} {x1 : Int32} {x2 : Int32} {x3 : Int32} {x4 : Int32} {x5 : Int64} (hf : fX9_field u x1 x2 x3 x4 x5 = some (r0, u0)) : MWi l yX9_field cX9_field 7 (some .int) 6 151 0 0 [.ref (ad 0), .int x1, .int x2, .int x3, .int x4, .long x5] g (mW g ad) u r0 u0 := by
  refine entW (Qc := fun A => va_Qi (fun r v => r = r0 ∧ v = u0) (BW g A (mW g ad)) A) (by decide) (Nat.le_of_ble_eq_true rfl) ?_
  intro p e s m below meth c ls A C hP hD hS hA hZ hl
  have hl : lv_has ls 7 [(0, .ref (ad 0)), (1, .int x1), (2, .int x2), (3, .int x3), (4, .int x4), (5, .long x5)] := hl
  rw [fX9_field] at hf
  refine lv_aload_n C.1 C.2.1 dX9_field_0 rfl (lv_at hl 0 rfl) ?_
  refine lv_iconst (v := 5) C.1 C.2.1 dX9_field_1 (by decide) ?_
  refine lv_iload_n C.1 C.2.1 dX9_field_2 rfl (lv_at hl 1 rfl) ?_
  refine lv_iload_n C.1 C.2.1 dX9_field_3 rfl (lv_at hl 2 rfl) ?_
  refine lv_iload_n C.1 C.2.1 dX9_field_4 rfl (lv_at hl 3 rfl) ?_
  refine lv_iload C.1 C.2.1 dX9_field_5 (lv_at hl 4 rfl) ?_
  refine lv_iconst (v := 0) C.1 C.2.1 dX9_field_7 (by decide) ?_
  refine lv_lload C.1 C.2.1 dX9_field_8 (lv_at hl 5 rfl) ?_
  obtain ⟨v2, u1, hu1, hf⟩ := b2_some hf
  refine cWi (As := [.int 5, .int x1, .int x2, .int x3, .int x4, .int 0, .long x5]) (rest := []) (mc := 0) (ms := 0) C (mX9_edit hu1) vX9_edit wM_X9_239 ⟨Nat.le_of_ble_eq_true rfl, Nat.le_of_ble_eq_true rfl⟩ hP hD hS hA hZ (rcm_X9 C hP) hl.1 rfl rfl (Nat.le_of_ble_eq_true rfl) dX9_field_10 ⟨Nat.le_of_ble_eq_true rfl, Nat.le_of_ble_eq_true rfl⟩ (fun H locs hP hD hS => ?_)
  exact endWi C hP hD hS (Nat.le_refl _) (Nat.le_refl _) hf dX9_field_13
end
theorem vX9_field : YV yX9_field cX9_field 7 (some .int) 5 := ⟨⟨wK_X9_field, wZ_X9, by decide +kernel⟩, wI_X9_field, wV_X9_field⟩
def fX9_method (u : ST) (x1 : Int32) (x2 : Int32) (x3 : Int32) (x4 : Int32) (x5 : Int32) (x6 : Int32) : Option (Int32 × ST) :=
  b2 (fX9_edit u 6 x1 x2 x3 x4 x5 ((x6 : Int32).toInt64)) fun v2 u1 =>
  some (v2, u1)
section
variable {p : Program} {l : Launch} {e : Env} {s : State} {m : MethodId} {args : Array Value} {below : List Frame} {meth : Method} {c : Code} {H : Heap} {locs : List Loc} {g : GP} {ls : Array Slot} {A : Nat → Prop} {ad : Nat → Nat} {u : ST}
set_option maxRecDepth 100000 in
set_option maxHeartbeats 4000000 in
theorem mX9_method {r0 : Int32} {u0 : ST} {x1 : Int32} {x2 : Int32} {x3 : Int32} {x4 : Int32} {x5 : Int32} {x6 : Int32} (hf : fX9_method u x1 x2 x3 x4 x5 x6 = some (r0, u0)) : MWi l yX9_method cX9_method 7 (some .int) 6 151 0 0 [.ref (ad 0), .int x1, .int x2, .int x3, .int x4, .int x5, .int x6] g (mW g ad) u r0 u0 := by
  refine entW (Qc := fun A => va_Qi (fun r v => r = r0 ∧ v = u0) (BW g A (mW g ad)) A) (by decide) (Nat.le_of_ble_eq_true rfl) ?_
  intro p e s m below meth c ls A C hP hD hS hA hZ hl
  have hl : lv_has ls 7 [(0, .ref (ad 0)), (1, .int x1), (2, .int x2), (3, .int x3), (4, .int x4), (5, .int x5), (6, .int x6)] := hl
  rw [fX9_method] at hf
  refine lv_aload_n C.1 C.2.1 dX9_method_0 rfl (lv_at hl 0 rfl) ?_
  refine lv_bipush (v := 6) C.1 C.2.1 dX9_method_1 (by decide) ?_
  refine lv_iload_n C.1 C.2.1 dX9_method_3 rfl (lv_at hl 1 rfl) ?_
  refine lv_iload_n C.1 C.2.1 dX9_method_4 rfl (lv_at hl 2 rfl) ?_
  refine lv_iload_n C.1 C.2.1 dX9_method_5 rfl (lv_at hl 3 rfl) ?_
  refine lv_iload C.1 C.2.1 dX9_method_6 (lv_at hl 4 rfl) ?_
  refine lv_iload C.1 C.2.1 dX9_method_8 (lv_at hl 5 rfl) ?_
  refine lv_iload C.1 C.2.1 dX9_method_10 (lv_at hl 6 rfl) ?_
  refine lv_i2l C.1 C.2.1 dX9_method_12 rfl ?_
  obtain ⟨v2, u1, hu1, hf⟩ := b2_some hf
  refine cWi (As := [.int 6, .int x1, .int x2, .int x3, .int x4, .int x5, .long ((x6 : Int32).toInt64)]) (rest := []) (mc := 0) (ms := 0) C (mX9_edit hu1) vX9_edit wM_X9_239 ⟨Nat.le_of_ble_eq_true rfl, Nat.le_of_ble_eq_true rfl⟩ hP hD hS hA hZ (rcm_X9 C hP) hl.1 rfl rfl (Nat.le_of_ble_eq_true rfl) dX9_method_13 ⟨Nat.le_of_ble_eq_true rfl, Nat.le_of_ble_eq_true rfl⟩ (fun H locs hP hD hS => ?_)
  exact endWi C hP hD hS (Nat.le_refl _) (Nat.le_refl _) hf dX9_method_16
end
theorem vX9_method : YV yX9_method cX9_method 7 (some .int) 6 := ⟨⟨wK_X9_method, wZ_X9, by decide +kernel⟩, wI_X9_method, wV_X9_method⟩
def fX9_drop (u : ST) (x1 : Int32) : Option (Int32 × ST) :=
  b2 (fX9_edit u 7 x1 0 0 0 0 0) fun v2 u1 =>
  some (v2, u1)
section
variable {p : Program} {l : Launch} {e : Env} {s : State} {m : MethodId} {args : Array Value} {below : List Frame} {meth : Method} {c : Code} {H : Heap} {locs : List Loc} {g : GP} {ls : Array Slot} {A : Nat → Prop} {ad : Nat → Nat} {u : ST}
set_option maxRecDepth 100000 in
set_option maxHeartbeats 4000000 in
theorem mX9_drop {r0 : Int32} {u0 : ST} {x1 : Int32} (hf : fX9_drop u x1 = some (r0, u0)) : MWi l yX9_drop cX9_drop 2 (some .int) 6 151 0 0 [.ref (ad 0), .int x1] g (mW g ad) u r0 u0 := by
  refine entW (Qc := fun A => va_Qi (fun r v => r = r0 ∧ v = u0) (BW g A (mW g ad)) A) (by decide) (Nat.le_of_ble_eq_true rfl) ?_
  intro p e s m below meth c ls A C hP hD hS hA hZ hl
  have hl : lv_has ls 2 [(0, .ref (ad 0)), (1, .int x1)] := hl
  rw [fX9_drop] at hf
  refine lv_aload_n C.1 C.2.1 dX9_drop_0 rfl (lv_at hl 0 rfl) ?_
  refine lv_bipush (v := 7) C.1 C.2.1 dX9_drop_1 (by decide) ?_
  refine lv_iload_n C.1 C.2.1 dX9_drop_3 rfl (lv_at hl 1 rfl) ?_
  refine lv_iconst (v := 0) C.1 C.2.1 dX9_drop_4 (by decide) ?_
  refine lv_iconst (v := 0) C.1 C.2.1 dX9_drop_5 (by decide) ?_
  refine lv_iconst (v := 0) C.1 C.2.1 dX9_drop_6 (by decide) ?_
  refine lv_iconst (v := 0) C.1 C.2.1 dX9_drop_7 (by decide) ?_
  refine lv_lconst (v := 0) C.1 C.2.1 dX9_drop_8 (by decide) ?_
  obtain ⟨v2, u1, hu1, hf⟩ := b2_some hf
  refine cWi (As := [.int 7, .int x1, .int 0, .int 0, .int 0, .int 0, .long 0]) (rest := []) (mc := 0) (ms := 0) C (mX9_edit hu1) vX9_edit wM_X9_239 ⟨Nat.le_of_ble_eq_true rfl, Nat.le_of_ble_eq_true rfl⟩ hP hD hS hA hZ (rcm_X9 C hP) hl.1 rfl rfl (Nat.le_of_ble_eq_true rfl) dX9_drop_9 ⟨Nat.le_of_ble_eq_true rfl, Nat.le_of_ble_eq_true rfl⟩ (fun H locs hP hD hS => ?_)
  exact endWi C hP hD hS (Nat.le_refl _) (Nat.le_refl _) hf dX9_drop_12
end
theorem vX9_drop : YV yX9_drop cX9_drop 2 (some .int) 1 := ⟨⟨wK_X9_drop, wZ_X9, by decide +kernel⟩, wI_X9_drop, wV_X9_drop⟩
def fX9_mark (u : ST) (x1 : Int32) (x2 : Int32) : Option (Int32 × ST) :=
  b2 (fX9_edit u 8 x1 x2 0 0 0 0) fun v2 u1 =>
  some (v2, u1)
section
variable {p : Program} {l : Launch} {e : Env} {s : State} {m : MethodId} {args : Array Value} {below : List Frame} {meth : Method} {c : Code} {H : Heap} {locs : List Loc} {g : GP} {ls : Array Slot} {A : Nat → Prop} {ad : Nat → Nat} {u : ST}
set_option maxRecDepth 100000 in
set_option maxHeartbeats 4000000 in
theorem mX9_mark {r0 : Int32} {u0 : ST} {x1 : Int32} {x2 : Int32} (hf : fX9_mark u x1 x2 = some (r0, u0)) : MWi l yX9_mark cX9_mark 3 (some .int) 6 151 0 0 [.ref (ad 0), .int x1, .int x2] g (mW g ad) u r0 u0 := by
  refine entW (Qc := fun A => va_Qi (fun r v => r = r0 ∧ v = u0) (BW g A (mW g ad)) A) (by decide) (Nat.le_of_ble_eq_true rfl) ?_
  intro p e s m below meth c ls A C hP hD hS hA hZ hl
  have hl : lv_has ls 3 [(0, .ref (ad 0)), (1, .int x1), (2, .int x2)] := hl
  rw [fX9_mark] at hf
  refine lv_aload_n C.1 C.2.1 dX9_mark_0 rfl (lv_at hl 0 rfl) ?_
  refine lv_bipush (v := 8) C.1 C.2.1 dX9_mark_1 (by decide) ?_
  refine lv_iload_n C.1 C.2.1 dX9_mark_3 rfl (lv_at hl 1 rfl) ?_
  refine lv_iload_n C.1 C.2.1 dX9_mark_4 rfl (lv_at hl 2 rfl) ?_
  refine lv_iconst (v := 0) C.1 C.2.1 dX9_mark_5 (by decide) ?_
  refine lv_iconst (v := 0) C.1 C.2.1 dX9_mark_6 (by decide) ?_
  refine lv_iconst (v := 0) C.1 C.2.1 dX9_mark_7 (by decide) ?_
  refine lv_lconst (v := 0) C.1 C.2.1 dX9_mark_8 (by decide) ?_
  obtain ⟨v2, u1, hu1, hf⟩ := b2_some hf
  refine cWi (As := [.int 8, .int x1, .int x2, .int 0, .int 0, .int 0, .long 0]) (rest := []) (mc := 0) (ms := 0) C (mX9_edit hu1) vX9_edit wM_X9_239 ⟨Nat.le_of_ble_eq_true rfl, Nat.le_of_ble_eq_true rfl⟩ hP hD hS hA hZ (rcm_X9 C hP) hl.1 rfl rfl (Nat.le_of_ble_eq_true rfl) dX9_mark_9 ⟨Nat.le_of_ble_eq_true rfl, Nat.le_of_ble_eq_true rfl⟩ (fun H locs hP hD hS => ?_)
  exact endWi C hP hD hS (Nat.le_refl _) (Nat.le_refl _) hf dX9_mark_12
end
theorem vX9_mark : YV yX9_mark cX9_mark 3 (some .int) 2 := ⟨⟨wK_X9_mark, wZ_X9, by decide +kernel⟩, wI_X9_mark, wV_X9_mark⟩
def fX9_set (u : ST) (x1 : Int32) (x2 : Int64) : Option (Int32 × ST) :=
  b2 (fX9_edit u 9 x1 0 0 0 0 x2) fun v2 u1 =>
  some (v2, u1)
section
variable {p : Program} {l : Launch} {e : Env} {s : State} {m : MethodId} {args : Array Value} {below : List Frame} {meth : Method} {c : Code} {H : Heap} {locs : List Loc} {g : GP} {ls : Array Slot} {A : Nat → Prop} {ad : Nat → Nat} {u : ST}
set_option maxRecDepth 100000 in
set_option maxHeartbeats 4000000 in
theorem mX9_set {r0 : Int32} {u0 : ST} {x1 : Int32} {x2 : Int64} (hf : fX9_set u x1 x2 = some (r0, u0)) : MWi l yX9_set cX9_set 4 (some .int) 6 151 0 0 [.ref (ad 0), .int x1, .long x2] g (mW g ad) u r0 u0 := by
  refine entW (Qc := fun A => va_Qi (fun r v => r = r0 ∧ v = u0) (BW g A (mW g ad)) A) (by decide) (Nat.le_of_ble_eq_true rfl) ?_
  intro p e s m below meth c ls A C hP hD hS hA hZ hl
  have hl : lv_has ls 4 [(0, .ref (ad 0)), (1, .int x1), (2, .long x2)] := hl
  rw [fX9_set] at hf
  refine lv_aload_n C.1 C.2.1 dX9_set_0 rfl (lv_at hl 0 rfl) ?_
  refine lv_bipush (v := 9) C.1 C.2.1 dX9_set_1 (by decide) ?_
  refine lv_iload_n C.1 C.2.1 dX9_set_3 rfl (lv_at hl 1 rfl) ?_
  refine lv_iconst (v := 0) C.1 C.2.1 dX9_set_4 (by decide) ?_
  refine lv_iconst (v := 0) C.1 C.2.1 dX9_set_5 (by decide) ?_
  refine lv_iconst (v := 0) C.1 C.2.1 dX9_set_6 (by decide) ?_
  refine lv_iconst (v := 0) C.1 C.2.1 dX9_set_7 (by decide) ?_
  refine lv_lload_n C.1 C.2.1 dX9_set_8 rfl (lv_at hl 2 rfl) ?_
  obtain ⟨v2, u1, hu1, hf⟩ := b2_some hf
  refine cWi (As := [.int 9, .int x1, .int 0, .int 0, .int 0, .int 0, .long x2]) (rest := []) (mc := 0) (ms := 0) C (mX9_edit hu1) vX9_edit wM_X9_239 ⟨Nat.le_of_ble_eq_true rfl, Nat.le_of_ble_eq_true rfl⟩ hP hD hS hA hZ (rcm_X9 C hP) hl.1 rfl rfl (Nat.le_of_ble_eq_true rfl) dX9_set_9 ⟨Nat.le_of_ble_eq_true rfl, Nat.le_of_ble_eq_true rfl⟩ (fun H locs hP hD hS => ?_)
  exact endWi C hP hD hS (Nat.le_refl _) (Nat.le_refl _) hf dX9_set_12
end
theorem vX9_set : YV yX9_set cX9_set 4 (some .int) 2 := ⟨⟨wK_X9_set, wZ_X9, by decide +kernel⟩, wI_X9_set, wV_X9_set⟩
def fX9_retype (u : ST) (x1 : Int32) (x2 : Int32) (x3 : Int64) : Option (Int32 × ST) :=
  b2 (fX9_edit u 10 x1 x2 0 0 0 x3) fun v2 u1 =>
  some (v2, u1)
section
variable {p : Program} {l : Launch} {e : Env} {s : State} {m : MethodId} {args : Array Value} {below : List Frame} {meth : Method} {c : Code} {H : Heap} {locs : List Loc} {g : GP} {ls : Array Slot} {A : Nat → Prop} {ad : Nat → Nat} {u : ST}
set_option maxRecDepth 100000 in
set_option maxHeartbeats 4000000 in
theorem mX9_retype {r0 : Int32} {u0 : ST} {x1 : Int32} {x2 : Int32} {x3 : Int64} (hf : fX9_retype u x1 x2 x3 = some (r0, u0)) : MWi l yX9_retype cX9_retype 5 (some .int) 6 151 0 0 [.ref (ad 0), .int x1, .int x2, .long x3] g (mW g ad) u r0 u0 := by
  refine entW (Qc := fun A => va_Qi (fun r v => r = r0 ∧ v = u0) (BW g A (mW g ad)) A) (by decide) (Nat.le_of_ble_eq_true rfl) ?_
  intro p e s m below meth c ls A C hP hD hS hA hZ hl
  have hl : lv_has ls 5 [(0, .ref (ad 0)), (1, .int x1), (2, .int x2), (3, .long x3)] := hl
  rw [fX9_retype] at hf
  refine lv_aload_n C.1 C.2.1 dX9_retype_0 rfl (lv_at hl 0 rfl) ?_
  refine lv_bipush (v := 10) C.1 C.2.1 dX9_retype_1 (by decide) ?_
  refine lv_iload_n C.1 C.2.1 dX9_retype_3 rfl (lv_at hl 1 rfl) ?_
  refine lv_iload_n C.1 C.2.1 dX9_retype_4 rfl (lv_at hl 2 rfl) ?_
  refine lv_iconst (v := 0) C.1 C.2.1 dX9_retype_5 (by decide) ?_
  refine lv_iconst (v := 0) C.1 C.2.1 dX9_retype_6 (by decide) ?_
  refine lv_iconst (v := 0) C.1 C.2.1 dX9_retype_7 (by decide) ?_
  refine lv_lload_n C.1 C.2.1 dX9_retype_8 rfl (lv_at hl 3 rfl) ?_
  obtain ⟨v2, u1, hu1, hf⟩ := b2_some hf
  refine cWi (As := [.int 10, .int x1, .int x2, .int 0, .int 0, .int 0, .long x3]) (rest := []) (mc := 0) (ms := 0) C (mX9_edit hu1) vX9_edit wM_X9_239 ⟨Nat.le_of_ble_eq_true rfl, Nat.le_of_ble_eq_true rfl⟩ hP hD hS hA hZ (rcm_X9 C hP) hl.1 rfl rfl (Nat.le_of_ble_eq_true rfl) dX9_retype_9 ⟨Nat.le_of_ble_eq_true rfl, Nat.le_of_ble_eq_true rfl⟩ (fun H locs hP hD hS => ?_)
  exact endWi C hP hD hS (Nat.le_refl _) (Nat.le_refl _) hf dX9_retype_12
end
theorem vX9_retype : YV yX9_retype cX9_retype 5 (some .int) 3 := ⟨⟨wK_X9_retype, wZ_X9, by decide +kernel⟩, wI_X9_retype, wV_X9_retype⟩
def fX9_move (u : ST) (x1 : Int32) (x2 : Int32) : Option (Int32 × ST) :=
  b2 (fX9_edit u 11 x1 x2 0 0 0 0) fun v2 u1 =>
  some (v2, u1)
section
variable {p : Program} {l : Launch} {e : Env} {s : State} {m : MethodId} {args : Array Value} {below : List Frame} {meth : Method} {c : Code} {H : Heap} {locs : List Loc} {g : GP} {ls : Array Slot} {A : Nat → Prop} {ad : Nat → Nat} {u : ST}
set_option maxRecDepth 100000 in
set_option maxHeartbeats 4000000 in
theorem mX9_move {r0 : Int32} {u0 : ST} {x1 : Int32} {x2 : Int32} (hf : fX9_move u x1 x2 = some (r0, u0)) : MWi l yX9_move cX9_move 3 (some .int) 6 151 0 0 [.ref (ad 0), .int x1, .int x2] g (mW g ad) u r0 u0 := by
  refine entW (Qc := fun A => va_Qi (fun r v => r = r0 ∧ v = u0) (BW g A (mW g ad)) A) (by decide) (Nat.le_of_ble_eq_true rfl) ?_
  intro p e s m below meth c ls A C hP hD hS hA hZ hl
  have hl : lv_has ls 3 [(0, .ref (ad 0)), (1, .int x1), (2, .int x2)] := hl
  rw [fX9_move] at hf
  refine lv_aload_n C.1 C.2.1 dX9_move_0 rfl (lv_at hl 0 rfl) ?_
  refine lv_bipush (v := 11) C.1 C.2.1 dX9_move_1 (by decide) ?_
  refine lv_iload_n C.1 C.2.1 dX9_move_3 rfl (lv_at hl 1 rfl) ?_
  refine lv_iload_n C.1 C.2.1 dX9_move_4 rfl (lv_at hl 2 rfl) ?_
  refine lv_iconst (v := 0) C.1 C.2.1 dX9_move_5 (by decide) ?_
  refine lv_iconst (v := 0) C.1 C.2.1 dX9_move_6 (by decide) ?_
  refine lv_iconst (v := 0) C.1 C.2.1 dX9_move_7 (by decide) ?_
  refine lv_lconst (v := 0) C.1 C.2.1 dX9_move_8 (by decide) ?_
  obtain ⟨v2, u1, hu1, hf⟩ := b2_some hf
  refine cWi (As := [.int 11, .int x1, .int x2, .int 0, .int 0, .int 0, .long 0]) (rest := []) (mc := 0) (ms := 0) C (mX9_edit hu1) vX9_edit wM_X9_239 ⟨Nat.le_of_ble_eq_true rfl, Nat.le_of_ble_eq_true rfl⟩ hP hD hS hA hZ (rcm_X9 C hP) hl.1 rfl rfl (Nat.le_of_ble_eq_true rfl) dX9_move_9 ⟨Nat.le_of_ble_eq_true rfl, Nat.le_of_ble_eq_true rfl⟩ (fun H locs hP hD hS => ?_)
  exact endWi C hP hD hS (Nat.le_refl _) (Nat.le_refl _) hf dX9_move_12
end
theorem vX9_move : YV yX9_move cX9_move 3 (some .int) 2 := ⟨⟨wK_X9_move, wZ_X9, by decide +kernel⟩, wI_X9_move, wV_X9_move⟩
def fX9_nothing_L7 : Nat → ST → Int32 → Option ST
  | 0, _, _ => none
  | n + 1, u, x1 =>
    if 60 ≤ x1 then
      some u
    else
      (stZ u 6 60 x1 0).bind fun u3 =>
      fX9_nothing_L7 n u3 (x1 + 1)
def fX9_nothing (u : ST) : Option ST :=
  (some (uI u 0 0)).bind fun u1 =>
  fX9_nothing_L7 5000 u1 0
section
variable {p : Program} {l : Launch} {e : Env} {s : State} {m : MethodId} {args : Array Value} {below : List Frame} {meth : Method} {c : Code} {H : Heap} {locs : List Loc} {g : GP} {ls : Array Slot} {A : Nat → Prop} {ad : Nat → Nat} {u : ST}
set_option maxRecDepth 100000 in
set_option maxHeartbeats 4000000 in
theorem bX9_nothing_L7 {u0 : ST} (C : Cx p s m args meth c cX9_nothing 2 RX9 none g) (hA : ∀ q, s.heap.size ≤ q → A q) (hZ : SF A s) : ∀ (n : Nat), ∀ (u : ST) (x1 : Int32) (H : Heap) (locs : List Loc), va_P g.1 vwCl (mW g ad u) H → va_D A (mW g ad u) → va_S A s.heap H locs → ∀ (ls : Array Slot), lv_has ls 2 [(0, .ref (ad 0)), (1, .int x1)] → fX9_nothing_L7 n u x1 = some u0 → W p l e (rmW 0 0 0 0) s m args below meth c H locs 0 0 (MQ below (va_Qv (fun v => v = u0) (BW g A (mW g ad)) A) args s 0 0 A) (F0 m 7 ls []) := by
  intro n
  induction n with
  | zero =>
    intro u x1 H locs hP hD hS ls hl hf
    exact absurd hf (by simp [fX9_nothing_L7])
  | succ n ih =>
    intro u x1 H locs hP hD hS ls hl hf
    rw [fX9_nothing_L7] at hf
    refine lv_iload_n C.1 C.2.1 dX9_nothing_7 rfl (lv_at hl 1 rfl) ?_
    refine lv_bipush (v := 60) C.1 C.2.1 dX9_nothing_8 (by decide) ?_
    refine lv_icmp_ge (tgt := 26) C.1 C.2.1 dX9_nothing_10 (by decide) (fun c2 => ?_) (fun c2 => ?_)
    · rw [if_pos c2] at hf
      exact endWv C hP hD hS (Nat.le_refl _) (Nat.le_refl _) hf dX9_nothing_26
    · rw [if_neg c2] at hf
      refine lv_aload_n C.1 C.2.1 dX9_nothing_13 rfl (lv_at hl 0 rfl) ?_
      refine gtm_X9_isMember C hP wF_X9_26 dX9_nothing_14 ?_
      refine lv_iload_n C.1 C.2.1 dX9_nothing_17 rfl (lv_at hl 1 rfl) ?_
      refine lv_iconst (v := 0) C.1 C.2.1 dX9_nothing_18 (by decide) ?_
      obtain ⟨u3, hu3, hf⟩ := Option.bind_eq_some_iff.mp hf
      refine stm_6 C hP hD hS hu3 dX9_nothing_19 (fun H locs hP hD hS => ?_)
      refine lv_iinc (v := (x1 + 1)) (lv' := [(1, .int (x1 + 1)), (0, .ref (ad 0))]) C.1 C.2.1 dX9_nothing_20 hl (k := 1) rfl rfl (by decide) rfl (fun ls hl => ?_)
      refine lv_goto (tgt := 7) C.1 C.2.1 dX9_nothing_23 (by decide) ?_
      exact ih u3 (x1 + 1) _ _ hP hD hS _ (lv_sub hl [1, 0] rfl) hf
set_option maxRecDepth 100000 in
set_option maxHeartbeats 4000000 in
theorem mX9_nothing {u0 : ST} (hf : fX9_nothing u = some u0) : MWv l yX9_nothing cX9_nothing 2 none 0 0 0 0 [.ref (ad 0)] g (mW g ad) u u0 := by
  refine entW (Qc := fun A => va_Qv (fun v => v = u0) (BW g A (mW g ad)) A) (by decide) (Nat.le_of_ble_eq_true rfl) ?_
  intro p e s m below meth c ls A C hP hD hS hA hZ hl
  have hl : lv_has ls 2 [(0, .ref (ad 0))] := hl
  rw [fX9_nothing] at hf
  refine lv_aload_n C.1 C.2.1 dX9_nothing_0 rfl (lv_at hl 0 rfl) ?_
  refine lv_iconst (v := 0) C.1 C.2.1 dX9_nothing_1 (by decide) ?_
  obtain ⟨u1, hu1, hf⟩ := Option.bind_eq_some_iff.mp hf
  refine ptm_X9_types C hP hD hS wF_X9_129 dX9_nothing_2 (fun H locs hP hD hS => ?_)
  rw [Option.some.inj hu1] at hP hD
  refine lv_iconst (v := 0) C.1 C.2.1 dX9_nothing_5 (by decide) ?_
  refine lv_istore_n (lv' := [(1, .int 0), (0, .ref (ad 0))]) C.1 C.2.1 dX9_nothing_6 rfl hl (by decide) rfl (fun ls hl => ?_)
  exact bX9_nothing_L7 C hA hZ 5000 u1 0 _ _ hP hD hS _ (lv_sub hl [1, 0] rfl) hf
end
theorem vX9_nothing : YV yX9_nothing cX9_nothing 2 none 0 := ⟨⟨wK_X9_nothing, wZ_X9, by decide +kernel⟩, wI_X9_nothing, wV_X9_nothing⟩
def fX9_doAgain_L2 : Nat → ST → Int32 → Int32 → Option ST
  | 0, _, _, _ => none
  | n + 1, u, x2, x3 =>
    if x2 ≤ x3 then
      some u
    else
      (rdI u 17 120 x3).bind fun v2 =>
      (rdI u 18 120 x3).bind fun v3 =>
      (rdI u 19 120 x3).bind fun v4 =>
      (rdI u 20 120 x3).bind fun v5 =>
      (rdI u 21 120 x3).bind fun v6 =>
      (rdI u 22 120 x3).bind fun v7 =>
      (rdL u 23 120 x3).bind fun v8 =>
      b2 (fX9_does u v2 v3 v4 v5 v6 v7 v8) fun v10 u9 =>
      fX9_doAgain_L2 n u9 x2 (x3 + 1)
def fX9_doAgain (u : ST) (x1 : Int32) (x2 : Int32) : Option ST :=
  fX9_doAgain_L2 5000 u x2 x1
section
variable {p : Program} {l : Launch} {e : Env} {s : State} {m : MethodId} {args : Array Value} {below : List Frame} {meth : Method} {c : Code} {H : Heap} {locs : List Loc} {g : GP} {ls : Array Slot} {A : Nat → Prop} {ad : Nat → Nat} {u : ST}
set_option maxRecDepth 100000 in
set_option maxHeartbeats 4000000 in
theorem bX9_doAgain_L2 {u0 : ST} (C : Cx p s m args meth c cX9_doAgain 5 RX9 none g) (hA : ∀ q, s.heap.size ≤ q → A q) (hZ : SF A s) : ∀ (n : Nat), ∀ (u : ST) (x2 : Int32) (x3 : Int32) (H : Heap) (locs : List Loc), va_P g.1 vwCl (mW g ad u) H → va_D A (mW g ad u) → va_S A s.heap H locs → ∀ (ls : Array Slot), lv_has ls 5 [(0, .ref (ad 0)), (2, .int x2), (3, .int x3)] → fX9_doAgain_L2 n u x2 x3 = some u0 → W p l e (rmW 5 122 0 0) s m args below meth c H locs 0 0 (MQ below (va_Qv (fun v => v = u0) (BW g A (mW g ad)) A) args s 0 0 A) (F0 m 2 ls []) := by
  intro n
  induction n with
  | zero =>
    intro u x2 x3 H locs hP hD hS ls hl hf
    exact absurd hf (by simp [fX9_doAgain_L2])
  | succ n ih =>
    intro u x2 x3 H locs hP hD hS ls hl hf
    rw [fX9_doAgain_L2] at hf
    refine lv_iload_n C.1 C.2.1 dX9_doAgain_2 rfl (lv_at hl 2 rfl) ?_
    refine lv_iload_n C.1 C.2.1 dX9_doAgain_3 rfl (lv_at hl 1 rfl) ?_
    refine lv_icmp_ge (tgt := 61) C.1 C.2.1 dX9_doAgain_4 (by decide) (fun c1 => ?_) (fun c1 => ?_)
    · rw [if_pos c1] at hf
      exact endWv C hP hD hS (Nat.le_refl _) (Nat.le_refl _) hf dX9_doAgain_61
    · rw [if_neg c1] at hf
      refine lv_aload_n C.1 C.2.1 dX9_doAgain_7 rfl (lv_at hl 0 rfl) ?_
      refine lv_aload_n C.1 C.2.1 dX9_doAgain_8 rfl (lv_at hl 0 rfl) ?_
      refine gtm_X9_eWhat C hP wF_X9_57 dX9_doAgain_9 ?_
      refine lv_iload_n C.1 C.2.1 dX9_doAgain_12 rfl (lv_at hl 2 rfl) ?_
      obtain ⟨v2, hv2, hf⟩ := Option.bind_eq_some_iff.mp hf
      refine ldm_17 C hP hv2 dX9_doAgain_13 ?_
      refine lv_aload_n C.1 C.2.1 dX9_doAgain_14 rfl (lv_at hl 0 rfl) ?_
      refine gtm_X9_eA C hP wF_X9_60 dX9_doAgain_15 ?_
      refine lv_iload_n C.1 C.2.1 dX9_doAgain_18 rfl (lv_at hl 2 rfl) ?_
      obtain ⟨v3, hv3, hf⟩ := Option.bind_eq_some_iff.mp hf
      refine ldm_18 C hP hv3 dX9_doAgain_19 ?_
      refine lv_aload_n C.1 C.2.1 dX9_doAgain_20 rfl (lv_at hl 0 rfl) ?_
      refine gtm_X9_eB C hP wF_X9_63 dX9_doAgain_21 ?_
      refine lv_iload_n C.1 C.2.1 dX9_doAgain_24 rfl (lv_at hl 2 rfl) ?_
      obtain ⟨v4, hv4, hf⟩ := Option.bind_eq_some_iff.mp hf
      refine ldm_19 C hP hv4 dX9_doAgain_25 ?_
      refine lv_aload_n C.1 C.2.1 dX9_doAgain_26 rfl (lv_at hl 0 rfl) ?_
      refine gtm_X9_eC C hP wF_X9_66 dX9_doAgain_27 ?_
      refine lv_iload_n C.1 C.2.1 dX9_doAgain_30 rfl (lv_at hl 2 rfl) ?_
      obtain ⟨v5, hv5, hf⟩ := Option.bind_eq_some_iff.mp hf
      refine ldm_20 C hP hv5 dX9_doAgain_31 ?_
      refine lv_aload_n C.1 C.2.1 dX9_doAgain_32 rfl (lv_at hl 0 rfl) ?_
      refine gtm_X9_eD C hP wF_X9_69 dX9_doAgain_33 ?_
      refine lv_iload_n C.1 C.2.1 dX9_doAgain_36 rfl (lv_at hl 2 rfl) ?_
      obtain ⟨v6, hv6, hf⟩ := Option.bind_eq_some_iff.mp hf
      refine ldm_21 C hP hv6 dX9_doAgain_37 ?_
      refine lv_aload_n C.1 C.2.1 dX9_doAgain_38 rfl (lv_at hl 0 rfl) ?_
      refine gtm_X9_eE C hP wF_X9_72 dX9_doAgain_39 ?_
      refine lv_iload_n C.1 C.2.1 dX9_doAgain_42 rfl (lv_at hl 2 rfl) ?_
      obtain ⟨v7, hv7, hf⟩ := Option.bind_eq_some_iff.mp hf
      refine ldm_22 C hP hv7 dX9_doAgain_43 ?_
      refine lv_aload_n C.1 C.2.1 dX9_doAgain_44 rfl (lv_at hl 0 rfl) ?_
      refine gtm_X9_eV C hP wF_X9_75 dX9_doAgain_45 ?_
      refine lv_iload_n C.1 C.2.1 dX9_doAgain_48 rfl (lv_at hl 2 rfl) ?_
      obtain ⟨v8, hv8, hf⟩ := Option.bind_eq_some_iff.mp hf
      refine ldm_23 C hP hv8 dX9_doAgain_49 ?_
      obtain ⟨v10, u9, hu9, hf⟩ := b2_some hf
      refine cWi (As := [.int v2, .int v3, .int v4, .int v5, .int v6, .int v7, .long v8]) (rest := []) (mc := 0) (ms := 0) C (mX9_does hu9) vX9_does wM_X9_235 ⟨Nat.le_of_ble_eq_true rfl, Nat.le_of_ble_eq_true rfl⟩ hP hD hS hA hZ (rcm_X9 C hP) hl.1 rfl rfl (Nat.le_of_ble_eq_true rfl) dX9_doAgain_50 ⟨Nat.le_of_ble_eq_true rfl, Nat.le_of_ble_eq_true rfl⟩ (fun H locs hP hD hS => ?_)
      refine lv_istore (lv' := [(4, .int v10), (0, .ref (ad 0)), (2, .int x2), (3, .int x3)]) C.1 C.2.1 dX9_doAgain_53 hl (by decide) rfl (fun ls hl => ?_)
      refine lv_iinc (v := (x3 + 1)) (lv' := [(3, .int (x3 + 1)), (4, .int v10), (0, .ref (ad 0)), (2, .int x2)]) C.1 C.2.1 dX9_doAgain_55 hl (k := 3) rfl rfl (by decide) rfl (fun ls hl => ?_)
      refine lv_goto (tgt := 2) C.1 C.2.1 dX9_doAgain_58 (by decide) ?_
      exact ih u9 x2 (x3 + 1) _ _ hP hD hS _ (lv_sub hl [2, 3, 0] rfl) hf
set_option maxRecDepth 100000 in
set_option maxHeartbeats 4000000 in
theorem mX9_doAgain {u0 : ST} {x1 : Int32} {x2 : Int32} (hf : fX9_doAgain u x1 x2 = some u0) : MWv l yX9_doAgain cX9_doAgain 5 none 5 122 0 0 [.ref (ad 0), .int x1, .int x2] g (mW g ad) u u0 := by
  refine entW (Qc := fun A => va_Qv (fun v => v = u0) (BW g A (mW g ad)) A) (by decide) (Nat.le_of_ble_eq_true rfl) ?_
  intro p e s m below meth c ls A C hP hD hS hA hZ hl
  have hl : lv_has ls 5 [(0, .ref (ad 0)), (1, .int x1), (2, .int x2)] := hl
  rw [fX9_doAgain] at hf
  refine lv_iload_n C.1 C.2.1 dX9_doAgain_0 rfl (lv_at hl 1 rfl) ?_
  refine lv_istore_n (lv' := [(3, .int x1), (0, .ref (ad 0)), (1, .int x1), (2, .int x2)]) C.1 C.2.1 dX9_doAgain_1 rfl hl (by decide) rfl (fun ls hl => ?_)
  exact bX9_doAgain_L2 C hA hZ 5000 u x2 x1 _ _ hP hD hS _ (lv_sub hl [1, 3, 0] rfl) hf
end
theorem vX9_doAgain : YV yX9_doAgain cX9_doAgain 5 none 2 := ⟨⟨wK_X9_doAgain, wZ_X9, by decide +kernel⟩, wI_X9_doAgain, wV_X9_doAgain⟩
def fX9_undo (u : ST) : Option (Int32 × ST) :=
  if (sI u 16) = 0 then
    some ((-2), u)
  else
    (some (uI u 16 ((sI u 16) - 1))).bind fun u2 =>
    (fX9_nothing u2).bind fun u3 =>
    (fX9_doAgain u3 0 (sI u3 16)).bind fun u4 =>
    some ((sI u4 16), u4)
section
variable {p : Program} {l : Launch} {e : Env} {s : State} {m : MethodId} {args : Array Value} {below : List Frame} {meth : Method} {c : Code} {H : Heap} {locs : List Loc} {g : GP} {ls : Array Slot} {A : Nat → Prop} {ad : Nat → Nat} {u : ST}
set_option maxRecDepth 100000 in
set_option maxHeartbeats 4000000 in
theorem mX9_undo {r0 : Int32} {u0 : ST} (hf : fX9_undo u = some (r0, u0)) : MWi l yX9_undo cX9_undo 1 (some .int) 6 146 0 0 [.ref (ad 0)] g (mW g ad) u r0 u0 := by
  refine entW (Qc := fun A => va_Qi (fun r v => r = r0 ∧ v = u0) (BW g A (mW g ad)) A) (by decide) (Nat.le_of_ble_eq_true rfl) ?_
  intro p e s m below meth c ls A C hP hD hS hA hZ hl
  have hl : lv_has ls 1 [(0, .ref (ad 0))] := hl
  rw [fX9_undo] at hf
  refine lv_aload_n C.1 C.2.1 dX9_undo_0 rfl (lv_at hl 0 rfl) ?_
  refine gtm_X9_edits C hP wF_X9_232 dX9_undo_1 ?_
  refine lv_if_ne (tgt := 10) C.1 C.2.1 dX9_undo_4 (by decide) (fun c1 => ?_) (fun c1 => ?_)
  · rw [if_neg c1] at hf
    refine lv_aload_n C.1 C.2.1 dX9_undo_10 rfl (lv_at hl 0 rfl) ?_
    refine lv_dup C.1 C.2.1 dX9_undo_11 rfl ?_
    refine gtm_X9_edits C hP wF_X9_232 dX9_undo_12 ?_
    refine lv_iconst (v := 1) C.1 C.2.1 dX9_undo_15 (by decide) ?_
    refine lv_isub C.1 C.2.1 dX9_undo_16 ?_
    obtain ⟨u2, hu2, hf⟩ := Option.bind_eq_some_iff.mp hf
    refine ptm_X9_edits C hP hD hS wF_X9_232 dX9_undo_17 (fun H locs hP hD hS => ?_)
    rw [Option.some.inj hu2] at hP hD
    refine lv_aload_n C.1 C.2.1 dX9_undo_20 rfl (lv_at hl 0 rfl) ?_
    obtain ⟨u3, hu3, hf⟩ := Option.bind_eq_some_iff.mp hf
    refine cWv (As := []) (rest := []) (mc := 0) (ms := 0) C (mX9_nothing hu3) vX9_nothing wM_X9_242 ⟨Nat.le_of_ble_eq_true rfl, Nat.le_of_ble_eq_true rfl⟩ hP hD hS hA hZ (rcm_X9 C hP) hl.1 rfl rfl (Nat.le_of_ble_eq_true rfl) dX9_undo_21 ⟨Nat.le_of_ble_eq_true rfl, Nat.le_of_ble_eq_true rfl⟩ (fun H locs hP hD hS => ?_)
    refine lv_aload_n C.1 C.2.1 dX9_undo_24 rfl (lv_at hl 0 rfl) ?_
    refine lv_iconst (v := 0) C.1 C.2.1 dX9_undo_25 (by decide) ?_
    refine lv_aload_n C.1 C.2.1 dX9_undo_26 rfl (lv_at hl 0 rfl) ?_
    refine gtm_X9_edits C hP wF_X9_232 dX9_undo_27 ?_
    obtain ⟨u4, hu4, hf⟩ := Option.bind_eq_some_iff.mp hf
    refine cWv (As := [.int 0, .int (sI u3 16)]) (rest := []) (mc := 0) (ms := 0) C (mX9_doAgain hu4) vX9_doAgain wM_X9_245 ⟨Nat.le_of_ble_eq_true rfl, Nat.le_of_ble_eq_true rfl⟩ hP hD hS hA hZ (rcm_X9 C hP) hl.1 rfl rfl (Nat.le_of_ble_eq_true rfl) dX9_undo_30 ⟨Nat.le_of_ble_eq_true rfl, Nat.le_of_ble_eq_true rfl⟩ (fun H locs hP hD hS => ?_)
    refine lv_aload_n C.1 C.2.1 dX9_undo_33 rfl (lv_at hl 0 rfl) ?_
    refine gtm_X9_edits C hP wF_X9_232 dX9_undo_34 ?_
    exact endWi C hP hD hS (Nat.le_refl _) (Nat.le_refl _) hf dX9_undo_37
  · rw [if_pos c1] at hf
    refine lv_bipush (v := -2) C.1 C.2.1 dX9_undo_7 (by decide) ?_
    exact endWi C hP hD hS (Nat.le_refl _) (Nat.le_refl _) hf dX9_undo_9
end
theorem vX9_undo : YV yX9_undo cX9_undo 1 (some .int) 0 := ⟨⟨wK_X9_undo, wZ_X9, by decide +kernel⟩, wI_X9_undo, wV_X9_undo⟩
def fX9_chainOf_L4 : Nat → ST → Int32 → Int32 → Option (Int32 × ST)
  | 0, _, _, _ => none
  | n + 1, u, x2, x3 =>
    if x3 < 0 then
      some (x2, u)
    else
      (stI u 27 12 x2 x3).bind fun u2 =>
      (rdI u2 2 12 x3).bind fun v3 =>
      fX9_chainOf_L4 n u2 (x2 + 1) v3
def fX9_chainOf (u : ST) (x1 : Int32) : Option (Int32 × ST) :=
  fX9_chainOf_L4 5000 u 0 x1
section
variable {p : Program} {l : Launch} {e : Env} {s : State} {m : MethodId} {args : Array Value} {below : List Frame} {meth : Method} {c : Code} {H : Heap} {locs : List Loc} {g : GP} {ls : Array Slot} {A : Nat → Prop} {ad : Nat → Nat} {u : ST}
set_option maxRecDepth 100000 in
set_option maxHeartbeats 4000000 in
theorem bX9_chainOf_L4 {r0 : Int32} {u0 : ST} (C : Cx p s m args meth c cX9_chainOf 4 RX9 (some .int) g) (hA : ∀ q, s.heap.size ≤ q → A q) (hZ : SF A s) : ∀ (n : Nat), ∀ (u : ST) (x2 : Int32) (x3 : Int32) (H : Heap) (locs : List Loc), va_P g.1 vwCl (mW g ad u) H → va_D A (mW g ad u) → va_S A s.heap H locs → ∀ (ls : Array Slot), lv_has ls 4 [(0, .ref (ad 0)), (2, .int x2), (3, .int x3)] → fX9_chainOf_L4 n u x2 x3 = some (r0, u0) → W p l e (rmW 0 0 0 0) s m args below meth c H locs 0 0 (MQ below (va_Qi (fun r v => r = r0 ∧ v = u0) (BW g A (mW g ad)) A) args s 0 0 A) (F0 m 4 ls []) := by
  intro n
  induction n with
  | zero =>
    intro u x2 x3 H locs hP hD hS ls hl hf
    exact absurd hf (by simp [fX9_chainOf_L4])
  | succ n ih =>
    intro u x2 x3 H locs hP hD hS ls hl hf
    rw [fX9_chainOf_L4] at hf
    refine lv_iload_n C.1 C.2.1 dX9_chainOf_4 rfl (lv_at hl 2 rfl) ?_
    refine lv_if_lt (tgt := 28) C.1 C.2.1 dX9_chainOf_5 (by decide) (fun c1 => ?_) (fun c1 => ?_)
    · rw [if_pos c1] at hf
      refine lv_iload_n C.1 C.2.1 dX9_chainOf_28 rfl (lv_at hl 1 rfl) ?_
      exact endWi C hP hD hS (Nat.le_refl _) (Nat.le_refl _) hf dX9_chainOf_29
    · rw [if_neg c1] at hf
      refine lv_aload_n C.1 C.2.1 dX9_chainOf_8 rfl (lv_at hl 0 rfl) ?_
      refine gtm_X9_chain C hP wF_X9_84 dX9_chainOf_9 ?_
      refine lv_iload_n C.1 C.2.1 dX9_chainOf_12 rfl (lv_at hl 1 rfl) ?_
      refine lv_iload_n C.1 C.2.1 dX9_chainOf_13 rfl (lv_at hl 2 rfl) ?_
      obtain ⟨u2, hu2, hf⟩ := Option.bind_eq_some_iff.mp hf
      refine stm_27 C hP hD hS hu2 dX9_chainOf_14 (fun H locs hP hD hS => ?_)
      refine lv_iinc (v := (x2 + 1)) (lv' := [(2, .int (x2 + 1)), (0, .ref (ad 0)), (3, .int x3)]) C.1 C.2.1 dX9_chainOf_15 hl (k := 1) rfl rfl (by decide) rfl (fun ls hl => ?_)
      refine lv_aload_n C.1 C.2.1 dX9_chainOf_18 rfl (lv_at hl 1 rfl) ?_
      refine gtm_X9_over C hP wF_X9_13 dX9_chainOf_19 ?_
      refine lv_iload_n C.1 C.2.1 dX9_chainOf_22 rfl (lv_at hl 2 rfl) ?_
      obtain ⟨v3, hv3, hf⟩ := Option.bind_eq_some_iff.mp hf
      refine ldm_2 C hP hv3 dX9_chainOf_23 ?_
      refine lv_istore_n (lv' := [(3, .int v3), (2, .int (x2 + 1)), (0, .ref (ad 0))]) C.1 C.2.1 dX9_chainOf_24 rfl hl (by decide) rfl (fun ls hl => ?_)
      refine lv_goto (tgt := 4) C.1 C.2.1 dX9_chainOf_25 (by decide) ?_
      exact ih u2 (x2 + 1) v3 _ _ hP hD hS _ (lv_sub hl [2, 1, 0] rfl) hf
set_option maxRecDepth 100000 in
set_option maxHeartbeats 4000000 in
theorem mX9_chainOf {r0 : Int32} {u0 : ST} {x1 : Int32} (hf : fX9_chainOf u x1 = some (r0, u0)) : MWi l yX9_chainOf cX9_chainOf 4 (some .int) 0 0 0 0 [.ref (ad 0), .int x1] g (mW g ad) u r0 u0 := by
  refine entW (Qc := fun A => va_Qi (fun r v => r = r0 ∧ v = u0) (BW g A (mW g ad)) A) (by decide) (Nat.le_of_ble_eq_true rfl) ?_
  intro p e s m below meth c ls A C hP hD hS hA hZ hl
  have hl : lv_has ls 4 [(0, .ref (ad 0)), (1, .int x1)] := hl
  rw [fX9_chainOf] at hf
  refine lv_iconst (v := 0) C.1 C.2.1 dX9_chainOf_0 (by decide) ?_
  refine lv_istore_n (lv' := [(2, .int 0), (0, .ref (ad 0)), (1, .int x1)]) C.1 C.2.1 dX9_chainOf_1 rfl hl (by decide) rfl (fun ls hl => ?_)
  refine lv_iload_n C.1 C.2.1 dX9_chainOf_2 rfl (lv_at hl 2 rfl) ?_
  refine lv_istore_n (lv' := [(3, .int x1), (2, .int 0), (0, .ref (ad 0)), (1, .int x1)]) C.1 C.2.1 dX9_chainOf_3 rfl hl (by decide) rfl (fun ls hl => ?_)
  exact bX9_chainOf_L4 C hA hZ 5000 u 0 x1 _ _ hP hD hS _ (lv_sub hl [2, 1, 0] rfl) hf
end
theorem vX9_chainOf : YV yX9_chainOf cX9_chainOf 4 (some .int) 1 := ⟨⟨wK_X9_chainOf, wZ_X9, by decide +kernel⟩, wI_X9_chainOf, wV_X9_chainOf⟩
def fX9_select_L347 (K277 : ST → Int32 → Int32 → Int32 → Int32 → Int32 → Int32 → Int32 → Option (Int32 × ST)) (u : ST) (x2 : Int32) (x3 : Int32) (x4 : Int32) (x8 : Int32) (x9 : Int32) (x10 : Int32) (x11 : Int32) : Option (Int32 × ST) :=
  K277 u x2 x3 x4 x8 x9 x10 (x11 + 1)
def fX9_select_L277 : Nat → ST → Int32 → Int32 → Int32 → Int32 → Int32 → Int32 → Int32 → Option (Int32 × ST)
  | 0, _, _, _, _, _, _, _, _ => none
  | n + 1, u, x2, x3, x4, x8, x9, x10, x11 =>
    if (sI u 0) ≤ x11 then
      if x9 < 0 then
        some (x10, u)
      else
        some (x9, u)
    else
      if ((x8 >>> (x11 &&& 31)) &&& 1) = 1 then
        (fX9_ownOf u x11 1 x2 x3 x4).bind fun v11 =>
        (rdI u 10 60 v11).bind fun v12 =>
        if (v12 &&& 8) = 0 then
          if x9 = (-2) then
            fX9_select_L347 (fX9_select_L277 n) u x2 x3 x4 x8 v11 x10 x11
          else
            some ((-4), u)
        else
          fX9_select_L347 (fX9_select_L277 n) u x2 x3 x4 x8 x9 v11 x11
      else
        fX9_select_L347 (fX9_select_L277 n) u x2 x3 x4 x8 x9 x10 x11
def fX9_select_L252 (K177 : ST → Int32 → Int32 → Int32 → Int32 → Int32 → Int32 → Int32 → Option (Int32 × ST)) (u : ST) (x2 : Int32) (x3 : Int32) (x4 : Int32) (x7 : Int32) (x9 : Int32) (x10 : Int32) (y0 : Int32) : Option (Int32 × ST) :=
  K177 u x2 x3 x4 x7 y0 x9 (x10 + 1)
def fX9_select_L231 (K177 : ST → Int32 → Int32 → Int32 → Int32 → Int32 → Int32 → Int32 → Option (Int32 × ST)) (u : ST) (x2 : Int32) (x3 : Int32) (x4 : Int32) (x7 : Int32) (x8 : Int32) (x9 : Int32) (x10 : Int32) (y0 : Int32) : Option (Int32 × ST) :=
  if y0 = 0 then
    fX9_select_L252 K177 u x2 x3 x4 x7 x9 x10 x8
  else
    fX9_select_L252 K177 u x2 x3 x4 x7 x9 x10 (x8 &&& ((1 <<< (x9 &&& 31)) ^^^ (-1)))
def fX9_select_L230 (K177 : ST → Int32 → Int32 → Int32 → Int32 → Int32 → Int32 → Int32 → Option (Int32 × ST)) (u : ST) (x2 : Int32) (x3 : Int32) (x4 : Int32) (x7 : Int32) (x8 : Int32) (x9 : Int32) (x10 : Int32) : Option (Int32 × ST) :=
  fX9_select_L231 K177 u x2 x3 x4 x7 x8 x9 x10 0
def fX9_select_L177 (K165 : ST → Int32 → Int32 → Int32 → Int32 → Int32 → Int32 → Option (Int32 × ST)) : Nat → ST → Int32 → Int32 → Int32 → Int32 → Int32 → Int32 → Int32 → Option (Int32 × ST)
  | 0, _, _, _, _, _, _, _, _ => none
  | n + 1, u, x2, x3, x4, x7, x8, x9, x10 =>
    if (sI u 0) ≤ x10 then
      K165 u x2 x3 x4 x7 x8 (x9 + 1)
    else
      if x9 = x10 then
        fX9_select_L230 (fX9_select_L177 K165 n) u x2 x3 x4 x7 x8 x9 x10
      else
        if ((x7 >>> (x9 &&& 31)) &&& 1) = 1 then
          if ((x7 >>> (x10 &&& 31)) &&& 1) = 1 then
            b2 (fX9_isBelow u x10 x9) fun v21 u20 =>
            if v21 = 0 then
              fX9_select_L230 (fX9_select_L177 K165 n) u20 x2 x3 x4 x7 x8 x9 x10
            else
              fX9_select_L231 (fX9_select_L177 K165 n) u20 x2 x3 x4 x7 x8 x9 x10 1
          else
            fX9_select_L230 (fX9_select_L177 K165 n) u x2 x3 x4 x7 x8 x9 x10
        else
          fX9_select_L230 (fX9_select_L177 K165 n) u x2 x3 x4 x7 x8 x9 x10
def fX9_select_L165 : Nat → ST → Int32 → Int32 → Int32 → Int32 → Int32 → Int32 → Option (Int32 × ST)
  | 0, _, _, _, _, _, _, _ => none
  | n + 1, u, x2, x3, x4, x7, x8, x9 =>
    if (sI u 0) ≤ x9 then
      fX9_select_L277 5000 u x2 x3 x4 x8 (-2) (-2) 0
    else
      fX9_select_L177 (fX9_select_L165 n) 5000 u x2 x3 x4 x7 x8 x9 0
def fX9_select_L149 (K74 : ST → Int32 → Int32 → Int32 → Int32 → Int32 → Int32 → Option (Int32 × ST)) (u : ST) (x2 : Int32) (x3 : Int32) (x4 : Int32) (x6 : Int32) (x8 : Int32) (y0 : Int32) (y1 : Int32) : Option (Int32 × ST) :=
  K74 u x2 x3 x4 x6 (y0 ||| y1) (x8 + 1)
def fX9_select_L148 (K74 : ST → Int32 → Int32 → Int32 → Int32 → Int32 → Int32 → Option (Int32 × ST)) (u : ST) (x2 : Int32) (x3 : Int32) (x4 : Int32) (x6 : Int32) (x8 : Int32) (y0 : Int32) : Option (Int32 × ST) :=
  fX9_select_L149 K74 u x2 x3 x4 x6 x8 y0 0
def fX9_select_L120 (K74 : ST → Int32 → Int32 → Int32 → Int32 → Int32 → Int32 → Option (Int32 × ST)) (u : ST) (x2 : Int32) (x3 : Int32) (x4 : Int32) (x6 : Int32) (x7 : Int32) (x8 : Int32) (y0 : Int32) : Option (Int32 × ST) :=
  if y0 < 0 then
    fX9_select_L148 K74 u x2 x3 x4 x6 x8 x7
  else
    (rdI u 10 60 y0).bind fun v25 =>
    if (v25 &&& 5) = 0 then
      fX9_select_L149 K74 u x2 x3 x4 x6 x8 x7 (1 <<< (x8 &&& 31))
    else
      fX9_select_L148 K74 u x2 x3 x4 x6 x8 x7
def fX9_select_L118 (K74 : ST → Int32 → Int32 → Int32 → Int32 → Int32 → Int32 → Option (Int32 × ST)) (u : ST) (x2 : Int32) (x3 : Int32) (x4 : Int32) (x6 : Int32) (x7 : Int32) (x8 : Int32) : Option (Int32 × ST) :=
  fX9_select_L120 K74 u x2 x3 x4 x6 x7 x8 (-2)
def fX9_select_L74 : Nat → ST → Int32 → Int32 → Int32 → Int32 → Int32 → Int32 → Option (Int32 × ST)
  | 0, _, _, _, _, _, _, _ => none
  | n + 1, u, x2, x3, x4, x6, x7, x8 =>
    if (sI u 0) ≤ x8 then
      fX9_select_L165 5000 u x2 x3 x4 x7 x7 0
    else
      if ((x6 >>> (x8 &&& 31)) &&& 1) = 1 then
        (rdI u 1 12 x8).bind fun v27 =>
        if v27 = 0 then
          fX9_select_L118 (fX9_select_L74 n) u x2 x3 x4 x6 x7 x8
        else
          (fX9_ownOf u x8 1 x2 x3 x4).bind fun v29 =>
          fX9_select_L120 (fX9_select_L74 n) u x2 x3 x4 x6 x7 x8 v29
      else
        fX9_select_L118 (fX9_select_L74 n) u x2 x3 x4 x6 x7 x8
def fX9_select_L55 (K10 : ST → Int32 → Int32 → Int32 → Int32 → Int32 → Int32 → Option (Int32 × ST)) (u : ST) (x1 : Int32) (x2 : Int32) (x3 : Int32) (x4 : Int32) (x5 : Int32) (x6 : Int32) : Option (Int32 × ST) :=
  K10 u x1 x2 x3 x4 x5 (x6 + 1)
def fX9_select_L10 : Nat → ST → Int32 → Int32 → Int32 → Int32 → Int32 → Int32 → Option (Int32 × ST)
  | 0, _, _, _, _, _, _, _ => none
  | n + 1, u, x1, x2, x3, x4, x5, x6 =>
    if x5 ≤ x6 then
      b2 (fX9_ups u x1) fun v5 u4 =>
      fX9_select_L74 5000 u4 x2 x3 x4 v5 0 0
    else
      (rdI u 27 12 x6).bind fun v30 =>
      (fX9_ownOf u v30 1 x2 x3 x4).bind fun v31 =>
      if v31 < 0 then
        fX9_select_L55 (fX9_select_L10 n) u x1 x2 x3 x4 x5 x6
      else
        (rdI u 10 60 v31).bind fun v33 =>
        if (v33 &&& 5) = 0 then
          some (v31, u)
        else
          fX9_select_L55 (fX9_select_L10 n) u x1 x2 x3 x4 x5 x6
def fX9_select (u : ST) (x1 : Int32) (x2 : Int32) (x3 : Int32) (x4 : Int32) : Option (Int32 × ST) :=
  b2 (fX9_chainOf u x1) fun v2 u1 =>
  fX9_select_L10 5000 u1 x1 x2 x3 x4 v2 0
section
variable {p : Program} {l : Launch} {e : Env} {s : State} {m : MethodId} {args : Array Value} {below : List Frame} {meth : Method} {c : Code} {H : Heap} {locs : List Loc} {g : GP} {ls : Array Slot} {A : Nat → Prop} {ad : Nat → Nat} {u : ST}
set_option maxRecDepth 100000 in
set_option maxHeartbeats 4000000 in
theorem bX9_select_L347 {r0 : Int32} {u0 : ST} {K277 : ST → Int32 → Int32 → Int32 → Int32 → Int32 → Int32 → Int32 → Option (Int32 × ST)} {x2 : Int32} {x3 : Int32} {x4 : Int32} {x8 : Int32} {x9 : Int32} {x10 : Int32} {x11 : Int32} (C : Cx p s m args meth c cX9_select 13 RX9 (some .int) g) (hA : ∀ q, s.heap.size ≤ q → A q) (hZ : SF A s) (hK277 : ∀ (u : ST) (x2 : Int32) (x3 : Int32) (x4 : Int32) (x8 : Int32) (x9 : Int32) (x10 : Int32) (x11 : Int32) (H : Heap) (locs : List Loc), va_P g.1 vwCl (mW g ad u) H → va_D A (mW g ad u) → va_S A s.heap H locs → ∀ (ls : Array Slot), lv_has ls 13 [(0, .ref (ad 0)), (2, .int x2), (3, .int x3), (4, .int x4), (8, .int x8), (9, .int x9), (10, .int x10), (11, .int x11)] → K277 u x2 x3 x4 x8 x9 x10 x11 = some (r0, u0) → W p l e (rmW 2 49 0 0) s m args below meth c H locs 0 0 (MQ below (va_Qi (fun r v => r = r0 ∧ v = u0) (BW g A (mW g ad)) A) args s 0 0 A) (F0 m 277 ls [])) (hP : va_P g.1 vwCl (mW g ad u) H) (hD : va_D A (mW g ad u)) (hS : va_S A s.heap H locs) (hl : lv_has ls 13 [(0, .ref (ad 0)), (2, .int x2), (3, .int x3), (4, .int x4), (8, .int x8), (9, .int x9), (10, .int x10), (11, .int x11)]) (hf : fX9_select_L347 K277 u x2 x3 x4 x8 x9 x10 x11 = some (r0, u0)) : W p l e (rmW 2 49 0 0) s m args below meth c H locs 0 0 (MQ below (va_Qi (fun r v => r = r0 ∧ v = u0) (BW g A (mW g ad)) A) args s 0 0 A) (F0 m 347 ls []) := by
  rw [fX9_select_L347] at hf
  refine lv_iinc (v := (x11 + 1)) (lv' := [(11, .int (x11 + 1)), (0, .ref (ad 0)), (2, .int x2), (3, .int x3), (4, .int x4), (8, .int x8), (9, .int x9), (10, .int x10)]) C.1 C.2.1 dX9_select_347 hl (k := 7) rfl rfl (by decide) rfl (fun ls hl => ?_)
  refine lv_goto (tgt := 277) C.1 C.2.1 dX9_select_350 (by decide) ?_
  exact hK277 u x2 x3 x4 x8 x9 x10 (x11 + 1) _ _ hP hD hS _ (lv_sub hl [1, 2, 3, 4, 5, 6, 7, 0] rfl) hf
set_option maxRecDepth 100000 in
set_option maxHeartbeats 4000000 in
theorem bX9_select_L277 {r0 : Int32} {u0 : ST} (C : Cx p s m args meth c cX9_select 13 RX9 (some .int) g) (hA : ∀ q, s.heap.size ≤ q → A q) (hZ : SF A s) : ∀ (n : Nat), ∀ (u : ST) (x2 : Int32) (x3 : Int32) (x4 : Int32) (x8 : Int32) (x9 : Int32) (x10 : Int32) (x11 : Int32) (H : Heap) (locs : List Loc), va_P g.1 vwCl (mW g ad u) H → va_D A (mW g ad u) → va_S A s.heap H locs → ∀ (ls : Array Slot), lv_has ls 13 [(0, .ref (ad 0)), (2, .int x2), (3, .int x3), (4, .int x4), (8, .int x8), (9, .int x9), (10, .int x10), (11, .int x11)] → fX9_select_L277 n u x2 x3 x4 x8 x9 x10 x11 = some (r0, u0) → W p l e (rmW 2 49 0 0) s m args below meth c H locs 0 0 (MQ below (va_Qi (fun r v => r = r0 ∧ v = u0) (BW g A (mW g ad)) A) args s 0 0 A) (F0 m 277 ls []) := by
  intro n
  induction n with
  | zero =>
    intro u x2 x3 x4 x8 x9 x10 x11 H locs hP hD hS ls hl hf
    exact absurd hf (by simp [fX9_select_L277])
  | succ n ih =>
    intro u x2 x3 x4 x8 x9 x10 x11 H locs hP hD hS ls hl hf
    rw [fX9_select_L277] at hf
    refine lv_iload C.1 C.2.1 dX9_select_277 (lv_at hl 7 rfl) ?_
    refine lv_aload_n C.1 C.2.1 dX9_select_279 rfl (lv_at hl 0 rfl) ?_
    refine gtm_X9_types C hP wF_X9_129 dX9_select_280 ?_
    refine lv_icmp_ge (tgt := 353) C.1 C.2.1 dX9_select_283 (by decide) (fun c8 => ?_) (fun c8 => ?_)
    · rw [if_pos c8] at hf
      refine lv_iload C.1 C.2.1 dX9_select_353 (lv_at hl 5 rfl) ?_
      refine lv_if_lt (tgt := 363) C.1 C.2.1 dX9_select_355 (by decide) (fun c9 => ?_) (fun c9 => ?_)
      · rw [if_pos c9] at hf
        refine lv_iload C.1 C.2.1 dX9_select_363 (lv_at hl 6 rfl) ?_
        exact endWi C hP hD hS (Nat.le_refl _) (Nat.le_refl _) hf dX9_select_365
      · rw [if_neg c9] at hf
        refine lv_iload C.1 C.2.1 dX9_select_358 (lv_at hl 5 rfl) ?_
        refine lv_goto (tgt := 365) C.1 C.2.1 dX9_select_360 (by decide) ?_
        exact endWi C hP hD hS (Nat.le_refl _) (Nat.le_refl _) hf dX9_select_365
    · rw [if_neg c8] at hf
      refine lv_iload C.1 C.2.1 dX9_select_286 (lv_at hl 4 rfl) ?_
      refine lv_iload C.1 C.2.1 dX9_select_288 (lv_at hl 7 rfl) ?_
      refine lv_ishr C.1 C.2.1 dX9_select_290 ?_
      refine lv_iconst (v := 1) C.1 C.2.1 dX9_select_291 (by decide) ?_
      refine lv_iand C.1 C.2.1 dX9_select_292 ?_
      refine lv_iconst (v := 1) C.1 C.2.1 dX9_select_293 (by decide) ?_
      refine lv_icmp_ne (tgt := 347) C.1 C.2.1 dX9_select_294 (by decide) (fun c10 => ?_) (fun c10 => ?_)
      · rw [if_neg c10] at hf
        exact bX9_select_L347 C hA hZ ih hP hD hS (lv_sub hl [0, 1, 2, 3, 4, 5, 6, 7] rfl) hf
      · rw [if_pos c10] at hf
        refine lv_aload_n C.1 C.2.1 dX9_select_297 rfl (lv_at hl 0 rfl) ?_
        refine lv_iload C.1 C.2.1 dX9_select_298 (lv_at hl 7 rfl) ?_
        refine lv_iconst (v := 1) C.1 C.2.1 dX9_select_300 (by decide) ?_
        refine lv_iload_n C.1 C.2.1 dX9_select_301 rfl (lv_at hl 1 rfl) ?_
        refine lv_iload_n C.1 C.2.1 dX9_select_302 rfl (lv_at hl 2 rfl) ?_
        refine lv_iload C.1 C.2.1 dX9_select_303 (lv_at hl 3 rfl) ?_
        obtain ⟨v11, hv11, hf⟩ := Option.bind_eq_some_iff.mp hf
        refine cRi (As := [.int x11, .int 1, .int x2, .int x3, .int x4]) (rest := []) C (mX9_ownOf hv11) vX9_ownOf wM_X9_147 ⟨Nat.le_of_ble_eq_true rfl, Nat.le_of_ble_eq_true rfl⟩ hP (rcm_X9 C hP) (fun U hU hW => SF.go hZ hS hU hW (fun _ h => h.elim)) hl.1 rfl rfl (Nat.le_of_ble_eq_true rfl) dX9_select_305 ⟨Nat.le_of_ble_eq_true rfl, Nat.le_of_ble_eq_true rfl⟩ ?_
        refine lv_istore (lv' := [(12, .int v11), (0, .ref (ad 0)), (2, .int x2), (3, .int x3), (4, .int x4), (8, .int x8), (9, .int x9), (10, .int x10), (11, .int x11)]) C.1 C.2.1 dX9_select_308 hl (by decide) rfl (fun ls hl => ?_)
        refine lv_aload_n C.1 C.2.1 dX9_select_310 rfl (lv_at hl 1 rfl) ?_
        refine gtm_X9_mMarks C hP wF_X9_38 dX9_select_311 ?_
        refine lv_iload C.1 C.2.1 dX9_select_314 (lv_at hl 0 rfl) ?_
        obtain ⟨v12, hv12, hf⟩ := Option.bind_eq_some_iff.mp hf
        refine ldm_10 C hP hv12 dX9_select_316 ?_
        refine lv_bipush (v := 8) C.1 C.2.1 dX9_select_317 (by decide) ?_
        refine lv_iand C.1 C.2.1 dX9_select_319 ?_
        refine lv_if_eq (tgt := 330) C.1 C.2.1 dX9_select_320 (by decide) (fun c13 => ?_) (fun c13 => ?_)
        · rw [if_pos c13] at hf
          refine lv_iload C.1 C.2.1 dX9_select_330 (lv_at hl 6 rfl) ?_
          refine lv_bipush (v := -2) C.1 C.2.1 dX9_select_332 (by decide) ?_
          refine lv_icmp_ne (tgt := 344) C.1 C.2.1 dX9_select_334 (by decide) (fun c14 => ?_) (fun c14 => ?_)
          · rw [if_neg c14] at hf
            refine lv_bipush (v := -4) C.1 C.2.1 dX9_select_344 (by decide) ?_
            exact endWi C hP hD hS (Nat.le_refl _) (Nat.le_refl _) hf dX9_select_346
          · rw [if_pos c14] at hf
            refine lv_iload C.1 C.2.1 dX9_select_337 (lv_at hl 0 rfl) ?_
            refine lv_istore (lv' := [(9, .int v11), (12, .int v11), (0, .ref (ad 0)), (2, .int x2), (3, .int x3), (4, .int x4), (8, .int x8), (10, .int x10), (11, .int x11)]) C.1 C.2.1 dX9_select_339 hl (by decide) rfl (fun ls hl => ?_)
            refine lv_goto (tgt := 347) C.1 C.2.1 dX9_select_341 (by decide) ?_
            exact bX9_select_L347 C hA hZ ih hP hD hS (lv_sub hl [2, 3, 4, 5, 6, 0, 7, 8] rfl) hf
        · rw [if_neg c13] at hf
          refine lv_iload C.1 C.2.1 dX9_select_323 (lv_at hl 0 rfl) ?_
          refine lv_istore (lv' := [(10, .int v11), (12, .int v11), (0, .ref (ad 0)), (2, .int x2), (3, .int x3), (4, .int x4), (8, .int x8), (9, .int x9), (11, .int x11)]) C.1 C.2.1 dX9_select_325 hl (by decide) rfl (fun ls hl => ?_)
          refine lv_goto (tgt := 347) C.1 C.2.1 dX9_select_327 (by decide) ?_
          exact bX9_select_L347 C hA hZ ih hP hD hS (lv_sub hl [2, 3, 4, 5, 6, 7, 0, 8] rfl) hf
set_option maxRecDepth 100000 in
set_option maxHeartbeats 4000000 in
theorem bX9_select_L252 {r0 : Int32} {u0 : ST} {K177 : ST → Int32 → Int32 → Int32 → Int32 → Int32 → Int32 → Int32 → Option (Int32 × ST)} {x2 : Int32} {x3 : Int32} {x4 : Int32} {x7 : Int32} {x9 : Int32} {x10 : Int32} {y0 : Int32} (C : Cx p s m args meth c cX9_select 13 RX9 (some .int) g) (hA : ∀ q, s.heap.size ≤ q → A q) (hZ : SF A s) (hK177 : ∀ (u : ST) (x2 : Int32) (x3 : Int32) (x4 : Int32) (x7 : Int32) (x8 : Int32) (x9 : Int32) (x10 : Int32) (H : Heap) (locs : List Loc), va_P g.1 vwCl (mW g ad u) H → va_D A (mW g ad u) → va_S A s.heap H locs → ∀ (ls : Array Slot), lv_has ls 13 [(0, .ref (ad 0)), (2, .int x2), (3, .int x3), (4, .int x4), (7, .int x7), (8, .int x8), (9, .int x9), (10, .int x10)] → K177 u x2 x3 x4 x7 x8 x9 x10 = some (r0, u0) → W p l e (rmW 2 49 0 0) s m args below meth c H locs 0 0 (MQ below (va_Qi (fun r v => r = r0 ∧ v = u0) (BW g A (mW g ad)) A) args s 0 0 A) (F0 m 177 ls [])) (hP : va_P g.1 vwCl (mW g ad u) H) (hD : va_D A (mW g ad u)) (hS : va_S A s.heap H locs) (hl : lv_has ls 13 [(0, .ref (ad 0)), (2, .int x2), (3, .int x3), (4, .int x4), (7, .int x7), (9, .int x9), (10, .int x10)]) (hf : fX9_select_L252 K177 u x2 x3 x4 x7 x9 x10 y0 = some (r0, u0)) : W p l e (rmW 2 49 0 0) s m args below meth c H locs 0 0 (MQ below (va_Qi (fun r v => r = r0 ∧ v = u0) (BW g A (mW g ad)) A) args s 0 0 A) (F0 m 252 ls [.int y0]) := by
  rw [fX9_select_L252] at hf
  refine lv_istore (lv' := [(8, .int y0), (0, .ref (ad 0)), (2, .int x2), (3, .int x3), (4, .int x4), (7, .int x7), (9, .int x9), (10, .int x10)]) C.1 C.2.1 dX9_select_252 hl (by decide) rfl (fun ls hl => ?_)
  refine lv_iinc (v := (x10 + 1)) (lv' := [(10, .int (x10 + 1)), (8, .int y0), (0, .ref (ad 0)), (2, .int x2), (3, .int x3), (4, .int x4), (7, .int x7), (9, .int x9)]) C.1 C.2.1 dX9_select_254 hl (k := 7) rfl rfl (by decide) rfl (fun ls hl => ?_)
  refine lv_goto (tgt := 177) C.1 C.2.1 dX9_select_257 (by decide) ?_
  exact hK177 u x2 x3 x4 x7 y0 x9 (x10 + 1) _ _ hP hD hS _ (lv_sub hl [2, 3, 4, 5, 6, 1, 7, 0] rfl) hf
set_option maxRecDepth 100000 in
set_option maxHeartbeats 4000000 in
theorem bX9_select_L231 {r0 : Int32} {u0 : ST} {K177 : ST → Int32 → Int32 → Int32 → Int32 → Int32 → Int32 → Int32 → Option (Int32 × ST)} {x2 : Int32} {x3 : Int32} {x4 : Int32} {x7 : Int32} {x8 : Int32} {x9 : Int32} {x10 : Int32} {y0 : Int32} (C : Cx p s m args meth c cX9_select 13 RX9 (some .int) g) (hA : ∀ q, s.heap.size ≤ q → A q) (hZ : SF A s) (hK177 : ∀ (u : ST) (x2 : Int32) (x3 : Int32) (x4 : Int32) (x7 : Int32) (x8 : Int32) (x9 : Int32) (x10 : Int32) (H : Heap) (locs : List Loc), va_P g.1 vwCl (mW g ad u) H → va_D A (mW g ad u) → va_S A s.heap H locs → ∀ (ls : Array Slot), lv_has ls 13 [(0, .ref (ad 0)), (2, .int x2), (3, .int x3), (4, .int x4), (7, .int x7), (8, .int x8), (9, .int x9), (10, .int x10)] → K177 u x2 x3 x4 x7 x8 x9 x10 = some (r0, u0) → W p l e (rmW 2 49 0 0) s m args below meth c H locs 0 0 (MQ below (va_Qi (fun r v => r = r0 ∧ v = u0) (BW g A (mW g ad)) A) args s 0 0 A) (F0 m 177 ls [])) (hP : va_P g.1 vwCl (mW g ad u) H) (hD : va_D A (mW g ad u)) (hS : va_S A s.heap H locs) (hl : lv_has ls 13 [(0, .ref (ad 0)), (2, .int x2), (3, .int x3), (4, .int x4), (7, .int x7), (8, .int x8), (9, .int x9), (10, .int x10)]) (hf : fX9_select_L231 K177 u x2 x3 x4 x7 x8 x9 x10 y0 = some (r0, u0)) : W p l e (rmW 2 49 0 0) s m args below meth c H locs 0 0 (MQ below (va_Qi (fun r v => r = r0 ∧ v = u0) (BW g A (mW g ad)) A) args s 0 0 A) (F0 m 231 ls [.int y0]) := by
  rw [fX9_select_L231] at hf
  refine lv_istore (lv' := [(11, .int y0), (0, .ref (ad 0)), (2, .int x2), (3, .int x3), (4, .int x4), (7, .int x7), (8, .int x8), (9, .int x9), (10, .int x10)]) C.1 C.2.1 dX9_select_231 hl (by decide) rfl (fun ls hl => ?_)
  refine lv_iload C.1 C.2.1 dX9_select_233 (lv_at hl 0 rfl) ?_
  refine lv_if_eq (tgt := 250) C.1 C.2.1 dX9_select_235 (by decide) (fun c17 => ?_) (fun c17 => ?_)
  · rw [if_pos c17] at hf
    refine lv_iload C.1 C.2.1 dX9_select_250 (lv_at hl 6 rfl) ?_
    exact bX9_select_L252 C hA hZ hK177 hP hD hS (lv_sub hl [1, 2, 3, 4, 5, 7, 8] rfl) hf
  · rw [if_neg c17] at hf
    refine lv_iload C.1 C.2.1 dX9_select_238 (lv_at hl 6 rfl) ?_
    refine lv_iconst (v := 1) C.1 C.2.1 dX9_select_240 (by decide) ?_
    refine lv_iload C.1 C.2.1 dX9_select_241 (lv_at hl 7 rfl) ?_
    refine lv_ishl C.1 C.2.1 dX9_select_243 ?_
    refine lv_iconst (v := -1) C.1 C.2.1 dX9_select_244 (by decide) ?_
    refine lv_ixor C.1 C.2.1 dX9_select_245 ?_
    refine lv_iand C.1 C.2.1 dX9_select_246 ?_
    refine lv_goto (tgt := 252) C.1 C.2.1 dX9_select_247 (by decide) ?_
    exact bX9_select_L252 C hA hZ hK177 hP hD hS (lv_sub hl [1, 2, 3, 4, 5, 7, 8] rfl) hf
set_option maxRecDepth 100000 in
set_option maxHeartbeats 4000000 in
theorem bX9_select_L230 {r0 : Int32} {u0 : ST} {K177 : ST → Int32 → Int32 → Int32 → Int32 → Int32 → Int32 → Int32 → Option (Int32 × ST)} {x2 : Int32} {x3 : Int32} {x4 : Int32} {x7 : Int32} {x8 : Int32} {x9 : Int32} {x10 : Int32} (C : Cx p s m args meth c cX9_select 13 RX9 (some .int) g) (hA : ∀ q, s.heap.size ≤ q → A q) (hZ : SF A s) (hK177 : ∀ (u : ST) (x2 : Int32) (x3 : Int32) (x4 : Int32) (x7 : Int32) (x8 : Int32) (x9 : Int32) (x10 : Int32) (H : Heap) (locs : List Loc), va_P g.1 vwCl (mW g ad u) H → va_D A (mW g ad u) → va_S A s.heap H locs → ∀ (ls : Array Slot), lv_has ls 13 [(0, .ref (ad 0)), (2, .int x2), (3, .int x3), (4, .int x4), (7, .int x7), (8, .int x8), (9, .int x9), (10, .int x10)] → K177 u x2 x3 x4 x7 x8 x9 x10 = some (r0, u0) → W p l e (rmW 2 49 0 0) s m args below meth c H locs 0 0 (MQ below (va_Qi (fun r v => r = r0 ∧ v = u0) (BW g A (mW g ad)) A) args s 0 0 A) (F0 m 177 ls [])) (hP : va_P g.1 vwCl (mW g ad u) H) (hD : va_D A (mW g ad u)) (hS : va_S A s.heap H locs) (hl : lv_has ls 13 [(0, .ref (ad 0)), (2, .int x2), (3, .int x3), (4, .int x4), (7, .int x7), (8, .int x8), (9, .int x9), (10, .int x10)]) (hf : fX9_select_L230 K177 u x2 x3 x4 x7 x8 x9 x10 = some (r0, u0)) : W p l e (rmW 2 49 0 0) s m args below meth c H locs 0 0 (MQ below (va_Qi (fun r v => r = r0 ∧ v = u0) (BW g A (mW g ad)) A) args s 0 0 A) (F0 m 230 ls []) := by
  rw [fX9_select_L230] at hf
  refine lv_iconst (v := 0) C.1 C.2.1 dX9_select_230 (by decide) ?_
  exact bX9_select_L231 C hA hZ hK177 hP hD hS (lv_sub hl [0, 1, 2, 3, 4, 5, 6, 7] rfl) hf
set_option maxRecDepth 100000 in
set_option maxHeartbeats 4000000 in
theorem bX9_select_L177 {r0 : Int32} {u0 : ST} {K165 : ST → Int32 → Int32 → Int32 → Int32 → Int32 → Int32 → Option (Int32 × ST)} (C : Cx p s m args meth c cX9_select 13 RX9 (some .int) g) (hA : ∀ q, s.heap.size ≤ q → A q) (hZ : SF A s) (hK165 : ∀ (u : ST) (x2 : Int32) (x3 : Int32) (x4 : Int32) (x7 : Int32) (x8 : Int32) (x9 : Int32) (H : Heap) (locs : List Loc), va_P g.1 vwCl (mW g ad u) H → va_D A (mW g ad u) → va_S A s.heap H locs → ∀ (ls : Array Slot), lv_has ls 13 [(0, .ref (ad 0)), (2, .int x2), (3, .int x3), (4, .int x4), (7, .int x7), (8, .int x8), (9, .int x9)] → K165 u x2 x3 x4 x7 x8 x9 = some (r0, u0) → W p l e (rmW 2 49 0 0) s m args below meth c H locs 0 0 (MQ below (va_Qi (fun r v => r = r0 ∧ v = u0) (BW g A (mW g ad)) A) args s 0 0 A) (F0 m 165 ls [])) : ∀ (n : Nat), ∀ (u : ST) (x2 : Int32) (x3 : Int32) (x4 : Int32) (x7 : Int32) (x8 : Int32) (x9 : Int32) (x10 : Int32) (H : Heap) (locs : List Loc), va_P g.1 vwCl (mW g ad u) H → va_D A (mW g ad u) → va_S A s.heap H locs → ∀ (ls : Array Slot), lv_has ls 13 [(0, .ref (ad 0)), (2, .int x2), (3, .int x3), (4, .int x4), (7, .int x7), (8, .int x8), (9, .int x9), (10, .int x10)] → fX9_select_L177 K165 n u x2 x3 x4 x7 x8 x9 x10 = some (r0, u0) → W p l e (rmW 2 49 0 0) s m args below meth c H locs 0 0 (MQ below (va_Qi (fun r v => r = r0 ∧ v = u0) (BW g A (mW g ad)) A) args s 0 0 A) (F0 m 177 ls []) := by
  intro n
  induction n with
  | zero =>
    intro u x2 x3 x4 x7 x8 x9 x10 H locs hP hD hS ls hl hf
    exact absurd hf (by simp [fX9_select_L177])
  | succ n ih =>
    intro u x2 x3 x4 x7 x8 x9 x10 H locs hP hD hS ls hl hf
    rw [fX9_select_L177] at hf
    refine lv_iload C.1 C.2.1 dX9_select_177 (lv_at hl 7 rfl) ?_
    refine lv_aload_n C.1 C.2.1 dX9_select_179 rfl (lv_at hl 0 rfl) ?_
    refine gtm_X9_types C hP wF_X9_129 dX9_select_180 ?_
    refine lv_icmp_ge (tgt := 260) C.1 C.2.1 dX9_select_183 (by decide) (fun c15 => ?_) (fun c15 => ?_)
    · rw [if_pos c15] at hf
      refine lv_iinc (v := (x9 + 1)) (lv' := [(9, .int (x9 + 1)), (0, .ref (ad 0)), (2, .int x2), (3, .int x3), (4, .int x4), (7, .int x7), (8, .int x8), (10, .int x10)]) C.1 C.2.1 dX9_select_260 hl (k := 6) rfl rfl (by decide) rfl (fun ls hl => ?_)
      refine lv_goto (tgt := 165) C.1 C.2.1 dX9_select_263 (by decide) ?_
      exact hK165 u x2 x3 x4 x7 x8 (x9 + 1) _ _ hP hD hS _ (lv_sub hl [1, 2, 3, 4, 5, 6, 0] rfl) hf
    · rw [if_neg c15] at hf
      refine lv_iload C.1 C.2.1 dX9_select_186 (lv_at hl 6 rfl) ?_
      refine lv_iload C.1 C.2.1 dX9_select_188 (lv_at hl 7 rfl) ?_
      refine lv_icmp_eq (tgt := 230) C.1 C.2.1 dX9_select_190 (by decide) (fun c16 => ?_) (fun c16 => ?_)
      · rw [if_pos c16] at hf
        exact bX9_select_L230 C hA hZ ih hP hD hS (lv_sub hl [0, 1, 2, 3, 4, 5, 6, 7] rfl) hf
      · rw [if_neg c16] at hf
        refine lv_iload C.1 C.2.1 dX9_select_193 (lv_at hl 4 rfl) ?_
        refine lv_iload C.1 C.2.1 dX9_select_195 (lv_at hl 6 rfl) ?_
        refine lv_ishr C.1 C.2.1 dX9_select_197 ?_
        refine lv_iconst (v := 1) C.1 C.2.1 dX9_select_198 (by decide) ?_
        refine lv_iand C.1 C.2.1 dX9_select_199 ?_
        refine lv_iconst (v := 1) C.1 C.2.1 dX9_select_200 (by decide) ?_
        refine lv_icmp_ne (tgt := 230) C.1 C.2.1 dX9_select_201 (by decide) (fun c18 => ?_) (fun c18 => ?_)
        · rw [if_neg c18] at hf
          exact bX9_select_L230 C hA hZ ih hP hD hS (lv_sub hl [0, 1, 2, 3, 4, 5, 6, 7] rfl) hf
        · rw [if_pos c18] at hf
          refine lv_iload C.1 C.2.1 dX9_select_204 (lv_at hl 4 rfl) ?_
          refine lv_iload C.1 C.2.1 dX9_select_206 (lv_at hl 7 rfl) ?_
          refine lv_ishr C.1 C.2.1 dX9_select_208 ?_
          refine lv_iconst (v := 1) C.1 C.2.1 dX9_select_209 (by decide) ?_
          refine lv_iand C.1 C.2.1 dX9_select_210 ?_
          refine lv_iconst (v := 1) C.1 C.2.1 dX9_select_211 (by decide) ?_
          refine lv_icmp_ne (tgt := 230) C.1 C.2.1 dX9_select_212 (by decide) (fun c19 => ?_) (fun c19 => ?_)
          · rw [if_neg c19] at hf
            exact bX9_select_L230 C hA hZ ih hP hD hS (lv_sub hl [0, 1, 2, 3, 4, 5, 6, 7] rfl) hf
          · rw [if_pos c19] at hf
            refine lv_aload_n C.1 C.2.1 dX9_select_215 rfl (lv_at hl 0 rfl) ?_
            refine lv_iload C.1 C.2.1 dX9_select_216 (lv_at hl 7 rfl) ?_
            refine lv_iload C.1 C.2.1 dX9_select_218 (lv_at hl 6 rfl) ?_
            obtain ⟨v21, u20, hu20, hf⟩ := b2_some hf
            refine cWi (As := [.int x10, .int x9]) (rest := []) (mc := 0) (ms := 0) C (mX9_isBelow hu20) vX9_isBelow wM_X9_182 ⟨Nat.le_of_ble_eq_true rfl, Nat.le_of_ble_eq_true rfl⟩ hP hD hS hA hZ (rcm_X9 C hP) hl.1 rfl rfl (Nat.le_of_ble_eq_true rfl) dX9_select_220 ⟨Nat.le_of_ble_eq_true rfl, Nat.le_of_ble_eq_true rfl⟩ (fun H locs hP hD hS => ?_)
            refine lv_if_eq (tgt := 230) C.1 C.2.1 dX9_select_223 (by decide) (fun c22 => ?_) (fun c22 => ?_)
            · rw [if_pos c22] at hf
              exact bX9_select_L230 C hA hZ ih hP hD hS (lv_sub hl [0, 1, 2, 3, 4, 5, 6, 7] rfl) hf
            · rw [if_neg c22] at hf
              refine lv_iconst (v := 1) C.1 C.2.1 dX9_select_226 (by decide) ?_
              refine lv_goto (tgt := 231) C.1 C.2.1 dX9_select_227 (by decide) ?_
              exact bX9_select_L231 C hA hZ ih hP hD hS (lv_sub hl [0, 1, 2, 3, 4, 5, 6, 7] rfl) hf
set_option maxRecDepth 100000 in
set_option maxHeartbeats 4000000 in
theorem bX9_select_L165 {r0 : Int32} {u0 : ST} (C : Cx p s m args meth c cX9_select 13 RX9 (some .int) g) (hA : ∀ q, s.heap.size ≤ q → A q) (hZ : SF A s) : ∀ (n : Nat), ∀ (u : ST) (x2 : Int32) (x3 : Int32) (x4 : Int32) (x7 : Int32) (x8 : Int32) (x9 : Int32) (H : Heap) (locs : List Loc), va_P g.1 vwCl (mW g ad u) H → va_D A (mW g ad u) → va_S A s.heap H locs → ∀ (ls : Array Slot), lv_has ls 13 [(0, .ref (ad 0)), (2, .int x2), (3, .int x3), (4, .int x4), (7, .int x7), (8, .int x8), (9, .int x9)] → fX9_select_L165 n u x2 x3 x4 x7 x8 x9 = some (r0, u0) → W p l e (rmW 2 49 0 0) s m args below meth c H locs 0 0 (MQ below (va_Qi (fun r v => r = r0 ∧ v = u0) (BW g A (mW g ad)) A) args s 0 0 A) (F0 m 165 ls []) := by
  intro n
  induction n with
  | zero =>
    intro u x2 x3 x4 x7 x8 x9 H locs hP hD hS ls hl hf
    exact absurd hf (by simp [fX9_select_L165])
  | succ n ih =>
    intro u x2 x3 x4 x7 x8 x9 H locs hP hD hS ls hl hf
    rw [fX9_select_L165] at hf
    refine lv_iload C.1 C.2.1 dX9_select_165 (lv_at hl 6 rfl) ?_
    refine lv_aload_n C.1 C.2.1 dX9_select_167 rfl (lv_at hl 0 rfl) ?_
    refine gtm_X9_types C hP wF_X9_129 dX9_select_168 ?_
    refine lv_icmp_ge (tgt := 266) C.1 C.2.1 dX9_select_171 (by decide) (fun c7 => ?_) (fun c7 => ?_)
    · rw [if_pos c7] at hf
      refine lv_bipush (v := -2) C.1 C.2.1 dX9_select_266 (by decide) ?_
      refine lv_istore (lv' := [(9, .int (-2)), (0, .ref (ad 0)), (2, .int x2), (3, .int x3), (4, .int x4), (7, .int x7), (8, .int x8)]) C.1 C.2.1 dX9_select_268 hl (by decide) rfl (fun ls hl => ?_)
      refine lv_bipush (v := -2) C.1 C.2.1 dX9_select_270 (by decide) ?_
      refine lv_istore (lv' := [(10, .int (-2)), (9, .int (-2)), (0, .ref (ad 0)), (2, .int x2), (3, .int x3), (4, .int x4), (7, .int x7), (8, .int x8)]) C.1 C.2.1 dX9_select_272 hl (by decide) rfl (fun ls hl => ?_)
      refine lv_iconst (v := 0) C.1 C.2.1 dX9_select_274 (by decide) ?_
      refine lv_istore (lv' := [(11, .int 0), (10, .int (-2)), (9, .int (-2)), (0, .ref (ad 0)), (2, .int x2), (3, .int x3), (4, .int x4), (7, .int x7), (8, .int x8)]) C.1 C.2.1 dX9_select_275 hl (by decide) rfl (fun ls hl => ?_)
      exact bX9_select_L277 C hA hZ 5000 u x2 x3 x4 x8 (-2) (-2) 0 _ _ hP hD hS _ (lv_sub hl [3, 4, 5, 6, 8, 2, 1, 0] rfl) hf
    · rw [if_neg c7] at hf
      refine lv_iconst (v := 0) C.1 C.2.1 dX9_select_174 (by decide) ?_
      refine lv_istore (lv' := [(10, .int 0), (0, .ref (ad 0)), (2, .int x2), (3, .int x3), (4, .int x4), (7, .int x7), (8, .int x8), (9, .int x9)]) C.1 C.2.1 dX9_select_175 hl (by decide) rfl (fun ls hl => ?_)
      exact bX9_select_L177 C hA hZ ih 5000 u x2 x3 x4 x7 x8 x9 0 _ _ hP hD hS _ (lv_sub hl [1, 2, 3, 4, 5, 6, 7, 0] rfl) hf
set_option maxRecDepth 100000 in
set_option maxHeartbeats 4000000 in
theorem bX9_select_L149 {r0 : Int32} {u0 : ST} {K74 : ST → Int32 → Int32 → Int32 → Int32 → Int32 → Int32 → Option (Int32 × ST)} {x2 : Int32} {x3 : Int32} {x4 : Int32} {x6 : Int32} {x8 : Int32} {y0 : Int32} {y1 : Int32} (C : Cx p s m args meth c cX9_select 13 RX9 (some .int) g) (hA : ∀ q, s.heap.size ≤ q → A q) (hZ : SF A s) (hK74 : ∀ (u : ST) (x2 : Int32) (x3 : Int32) (x4 : Int32) (x6 : Int32) (x7 : Int32) (x8 : Int32) (H : Heap) (locs : List Loc), va_P g.1 vwCl (mW g ad u) H → va_D A (mW g ad u) → va_S A s.heap H locs → ∀ (ls : Array Slot), lv_has ls 13 [(0, .ref (ad 0)), (2, .int x2), (3, .int x3), (4, .int x4), (6, .int x6), (7, .int x7), (8, .int x8)] → K74 u x2 x3 x4 x6 x7 x8 = some (r0, u0) → W p l e (rmW 2 49 0 0) s m args below meth c H locs 0 0 (MQ below (va_Qi (fun r v => r = r0 ∧ v = u0) (BW g A (mW g ad)) A) args s 0 0 A) (F0 m 74 ls [])) (hP : va_P g.1 vwCl (mW g ad u) H) (hD : va_D A (mW g ad u)) (hS : va_S A s.heap H locs) (hl : lv_has ls 13 [(0, .ref (ad 0)), (2, .int x2), (3, .int x3), (4, .int x4), (6, .int x6), (8, .int x8)]) (hf : fX9_select_L149 K74 u x2 x3 x4 x6 x8 y0 y1 = some (r0, u0)) : W p l e (rmW 2 49 0 0) s m args below meth c H locs 0 0 (MQ below (va_Qi (fun r v => r = r0 ∧ v = u0) (BW g A (mW g ad)) A) args s 0 0 A) (F0 m 149 ls [.int y1, .int y0]) := by
  rw [fX9_select_L149] at hf
  refine lv_ior C.1 C.2.1 dX9_select_149 ?_
  refine lv_istore (lv' := [(7, .int (y0 ||| y1)), (0, .ref (ad 0)), (2, .int x2), (3, .int x3), (4, .int x4), (6, .int x6), (8, .int x8)]) C.1 C.2.1 dX9_select_150 hl (by decide) rfl (fun ls hl => ?_)
  refine lv_iinc (v := (x8 + 1)) (lv' := [(8, .int (x8 + 1)), (7, .int (y0 ||| y1)), (0, .ref (ad 0)), (2, .int x2), (3, .int x3), (4, .int x4), (6, .int x6)]) C.1 C.2.1 dX9_select_152 hl (k := 6) rfl rfl (by decide) rfl (fun ls hl => ?_)
  refine lv_goto (tgt := 74) C.1 C.2.1 dX9_select_155 (by decide) ?_
  exact hK74 u x2 x3 x4 x6 (y0 ||| y1) (x8 + 1) _ _ hP hD hS _ (lv_sub hl [2, 3, 4, 5, 6, 1, 0] rfl) hf
set_option maxRecDepth 100000 in
set_option maxHeartbeats 4000000 in
theorem bX9_select_L148 {r0 : Int32} {u0 : ST} {K74 : ST → Int32 → Int32 → Int32 → Int32 → Int32 → Int32 → Option (Int32 × ST)} {x2 : Int32} {x3 : Int32} {x4 : Int32} {x6 : Int32} {x8 : Int32} {y0 : Int32} (C : Cx p s m args meth c cX9_select 13 RX9 (some .int) g) (hA : ∀ q, s.heap.size ≤ q → A q) (hZ : SF A s) (hK74 : ∀ (u : ST) (x2 : Int32) (x3 : Int32) (x4 : Int32) (x6 : Int32) (x7 : Int32) (x8 : Int32) (H : Heap) (locs : List Loc), va_P g.1 vwCl (mW g ad u) H → va_D A (mW g ad u) → va_S A s.heap H locs → ∀ (ls : Array Slot), lv_has ls 13 [(0, .ref (ad 0)), (2, .int x2), (3, .int x3), (4, .int x4), (6, .int x6), (7, .int x7), (8, .int x8)] → K74 u x2 x3 x4 x6 x7 x8 = some (r0, u0) → W p l e (rmW 2 49 0 0) s m args below meth c H locs 0 0 (MQ below (va_Qi (fun r v => r = r0 ∧ v = u0) (BW g A (mW g ad)) A) args s 0 0 A) (F0 m 74 ls [])) (hP : va_P g.1 vwCl (mW g ad u) H) (hD : va_D A (mW g ad u)) (hS : va_S A s.heap H locs) (hl : lv_has ls 13 [(0, .ref (ad 0)), (2, .int x2), (3, .int x3), (4, .int x4), (6, .int x6), (8, .int x8)]) (hf : fX9_select_L148 K74 u x2 x3 x4 x6 x8 y0 = some (r0, u0)) : W p l e (rmW 2 49 0 0) s m args below meth c H locs 0 0 (MQ below (va_Qi (fun r v => r = r0 ∧ v = u0) (BW g A (mW g ad)) A) args s 0 0 A) (F0 m 148 ls [.int y0]) := by
  rw [fX9_select_L148] at hf
  refine lv_iconst (v := 0) C.1 C.2.1 dX9_select_148 (by decide) ?_
  exact bX9_select_L149 C hA hZ hK74 hP hD hS (lv_sub hl [0, 1, 2, 3, 4, 5] rfl) hf
set_option maxRecDepth 100000 in
set_option maxHeartbeats 4000000 in
theorem bX9_select_L120 {r0 : Int32} {u0 : ST} {K74 : ST → Int32 → Int32 → Int32 → Int32 → Int32 → Int32 → Option (Int32 × ST)} {x2 : Int32} {x3 : Int32} {x4 : Int32} {x6 : Int32} {x7 : Int32} {x8 : Int32} {y0 : Int32} (C : Cx p s m args meth c cX9_select 13 RX9 (some .int) g) (hA : ∀ q, s.heap.size ≤ q → A q) (hZ : SF A s) (hK74 : ∀ (u : ST) (x2 : Int32) (x3 : Int32) (x4 : Int32) (x6 : Int32) (x7 : Int32) (x8 : Int32) (H : Heap) (locs : List Loc), va_P g.1 vwCl (mW g ad u) H → va_D A (mW g ad u) → va_S A s.heap H locs → ∀ (ls : Array Slot), lv_has ls 13 [(0, .ref (ad 0)), (2, .int x2), (3, .int x3), (4, .int x4), (6, .int x6), (7, .int x7), (8, .int x8)] → K74 u x2 x3 x4 x6 x7 x8 = some (r0, u0) → W p l e (rmW 2 49 0 0) s m args below meth c H locs 0 0 (MQ below (va_Qi (fun r v => r = r0 ∧ v = u0) (BW g A (mW g ad)) A) args s 0 0 A) (F0 m 74 ls [])) (hP : va_P g.1 vwCl (mW g ad u) H) (hD : va_D A (mW g ad u)) (hS : va_S A s.heap H locs) (hl : lv_has ls 13 [(0, .ref (ad 0)), (2, .int x2), (3, .int x3), (4, .int x4), (6, .int x6), (7, .int x7), (8, .int x8)]) (hf : fX9_select_L120 K74 u x2 x3 x4 x6 x7 x8 y0 = some (r0, u0)) : W p l e (rmW 2 49 0 0) s m args below meth c H locs 0 0 (MQ below (va_Qi (fun r v => r = r0 ∧ v = u0) (BW g A (mW g ad)) A) args s 0 0 A) (F0 m 120 ls [.int y0]) := by
  rw [fX9_select_L120] at hf
  refine lv_istore (lv' := [(9, .int y0), (0, .ref (ad 0)), (2, .int x2), (3, .int x3), (4, .int x4), (6, .int x6), (7, .int x7), (8, .int x8)]) C.1 C.2.1 dX9_select_120 hl (by decide) rfl (fun ls hl => ?_)
  refine lv_iload C.1 C.2.1 dX9_select_122 (lv_at hl 6 rfl) ?_
  refine lv_iload C.1 C.2.1 dX9_select_124 (lv_at hl 0 rfl) ?_
  refine lv_if_lt (tgt := 148) C.1 C.2.1 dX9_select_126 (by decide) (fun c24 => ?_) (fun c24 => ?_)
  · rw [if_pos c24] at hf
    exact bX9_select_L148 C hA hZ hK74 hP hD hS (lv_sub hl [1, 2, 3, 4, 5, 7] rfl) hf
  · rw [if_neg c24] at hf
    refine lv_aload_n C.1 C.2.1 dX9_select_129 rfl (lv_at hl 1 rfl) ?_
    refine gtm_X9_mMarks C hP wF_X9_38 dX9_select_130 ?_
    refine lv_iload C.1 C.2.1 dX9_select_133 (lv_at hl 0 rfl) ?_
    obtain ⟨v25, hv25, hf⟩ := Option.bind_eq_some_iff.mp hf
    refine ldm_10 C hP hv25 dX9_select_135 ?_
    refine lv_iconst (v := 5) C.1 C.2.1 dX9_select_136 (by decide) ?_
    refine lv_iand C.1 C.2.1 dX9_select_137 ?_
    refine lv_if_ne (tgt := 148) C.1 C.2.1 dX9_select_138 (by decide) (fun c26 => ?_) (fun c26 => ?_)
    · rw [if_neg c26] at hf
      exact bX9_select_L148 C hA hZ hK74 hP hD hS (lv_sub hl [1, 2, 3, 4, 5, 7] rfl) hf
    · rw [if_pos c26] at hf
      refine lv_iconst (v := 1) C.1 C.2.1 dX9_select_141 (by decide) ?_
      refine lv_iload C.1 C.2.1 dX9_select_142 (lv_at hl 7 rfl) ?_
      refine lv_ishl C.1 C.2.1 dX9_select_144 ?_
      refine lv_goto (tgt := 149) C.1 C.2.1 dX9_select_145 (by decide) ?_
      exact bX9_select_L149 C hA hZ hK74 hP hD hS (lv_sub hl [1, 2, 3, 4, 5, 7] rfl) hf
set_option maxRecDepth 100000 in
set_option maxHeartbeats 4000000 in
theorem bX9_select_L118 {r0 : Int32} {u0 : ST} {K74 : ST → Int32 → Int32 → Int32 → Int32 → Int32 → Int32 → Option (Int32 × ST)} {x2 : Int32} {x3 : Int32} {x4 : Int32} {x6 : Int32} {x7 : Int32} {x8 : Int32} (C : Cx p s m args meth c cX9_select 13 RX9 (some .int) g) (hA : ∀ q, s.heap.size ≤ q → A q) (hZ : SF A s) (hK74 : ∀ (u : ST) (x2 : Int32) (x3 : Int32) (x4 : Int32) (x6 : Int32) (x7 : Int32) (x8 : Int32) (H : Heap) (locs : List Loc), va_P g.1 vwCl (mW g ad u) H → va_D A (mW g ad u) → va_S A s.heap H locs → ∀ (ls : Array Slot), lv_has ls 13 [(0, .ref (ad 0)), (2, .int x2), (3, .int x3), (4, .int x4), (6, .int x6), (7, .int x7), (8, .int x8)] → K74 u x2 x3 x4 x6 x7 x8 = some (r0, u0) → W p l e (rmW 2 49 0 0) s m args below meth c H locs 0 0 (MQ below (va_Qi (fun r v => r = r0 ∧ v = u0) (BW g A (mW g ad)) A) args s 0 0 A) (F0 m 74 ls [])) (hP : va_P g.1 vwCl (mW g ad u) H) (hD : va_D A (mW g ad u)) (hS : va_S A s.heap H locs) (hl : lv_has ls 13 [(0, .ref (ad 0)), (2, .int x2), (3, .int x3), (4, .int x4), (6, .int x6), (7, .int x7), (8, .int x8)]) (hf : fX9_select_L118 K74 u x2 x3 x4 x6 x7 x8 = some (r0, u0)) : W p l e (rmW 2 49 0 0) s m args below meth c H locs 0 0 (MQ below (va_Qi (fun r v => r = r0 ∧ v = u0) (BW g A (mW g ad)) A) args s 0 0 A) (F0 m 118 ls []) := by
  rw [fX9_select_L118] at hf
  refine lv_bipush (v := -2) C.1 C.2.1 dX9_select_118 (by decide) ?_
  exact bX9_select_L120 C hA hZ hK74 hP hD hS (lv_sub hl [0, 1, 2, 3, 4, 5, 6] rfl) hf
set_option maxRecDepth 100000 in
set_option maxHeartbeats 4000000 in
theorem bX9_select_L74 {r0 : Int32} {u0 : ST} (C : Cx p s m args meth c cX9_select 13 RX9 (some .int) g) (hA : ∀ q, s.heap.size ≤ q → A q) (hZ : SF A s) : ∀ (n : Nat), ∀ (u : ST) (x2 : Int32) (x3 : Int32) (x4 : Int32) (x6 : Int32) (x7 : Int32) (x8 : Int32) (H : Heap) (locs : List Loc), va_P g.1 vwCl (mW g ad u) H → va_D A (mW g ad u) → va_S A s.heap H locs → ∀ (ls : Array Slot), lv_has ls 13 [(0, .ref (ad 0)), (2, .int x2), (3, .int x3), (4, .int x4), (6, .int x6), (7, .int x7), (8, .int x8)] → fX9_select_L74 n u x2 x3 x4 x6 x7 x8 = some (r0, u0) → W p l e (rmW 2 49 0 0) s m args below meth c H locs 0 0 (MQ below (va_Qi (fun r v => r = r0 ∧ v = u0) (BW g A (mW g ad)) A) args s 0 0 A) (F0 m 74 ls []) := by
  intro n
  induction n with
  | zero =>
    intro u x2 x3 x4 x6 x7 x8 H locs hP hD hS ls hl hf
    exact absurd hf (by simp [fX9_select_L74])
  | succ n ih =>
    intro u x2 x3 x4 x6 x7 x8 H locs hP hD hS ls hl hf
    rw [fX9_select_L74] at hf
    refine lv_iload C.1 C.2.1 dX9_select_74 (lv_at hl 6 rfl) ?_
    refine lv_aload_n C.1 C.2.1 dX9_select_76 rfl (lv_at hl 0 rfl) ?_
    refine gtm_X9_types C hP wF_X9_129 dX9_select_77 ?_
    refine lv_icmp_ge (tgt := 158) C.1 C.2.1 dX9_select_80 (by decide) (fun c6 => ?_) (fun c6 => ?_)
    · rw [if_pos c6] at hf
      refine lv_iload C.1 C.2.1 dX9_select_158 (lv_at hl 5 rfl) ?_
      refine lv_istore (lv' := [(8, .int x7), (0, .ref (ad 0)), (2, .int x2), (3, .int x3), (4, .int x4), (6, .int x6), (7, .int x7)]) C.1 C.2.1 dX9_select_160 hl (by decide) rfl (fun ls hl => ?_)
      refine lv_iconst (v := 0) C.1 C.2.1 dX9_select_162 (by decide) ?_
      refine lv_istore (lv' := [(9, .int 0), (8, .int x7), (0, .ref (ad 0)), (2, .int x2), (3, .int x3), (4, .int x4), (6, .int x6), (7, .int x7)]) C.1 C.2.1 dX9_select_163 hl (by decide) rfl (fun ls hl => ?_)
      exact bX9_select_L165 C hA hZ 5000 u x2 x3 x4 x7 x7 0 _ _ hP hD hS _ (lv_sub hl [2, 3, 4, 5, 7, 1, 0] rfl) hf
    · rw [if_neg c6] at hf
      refine lv_iload C.1 C.2.1 dX9_select_83 (lv_at hl 4 rfl) ?_
      refine lv_iload C.1 C.2.1 dX9_select_85 (lv_at hl 6 rfl) ?_
      refine lv_ishr C.1 C.2.1 dX9_select_87 ?_
      refine lv_iconst (v := 1) C.1 C.2.1 dX9_select_88 (by decide) ?_
      refine lv_iand C.1 C.2.1 dX9_select_89 ?_
      refine lv_iconst (v := 1) C.1 C.2.1 dX9_select_90 (by decide) ?_
      refine lv_icmp_ne (tgt := 118) C.1 C.2.1 dX9_select_91 (by decide) (fun c23 => ?_) (fun c23 => ?_)
      · rw [if_neg c23] at hf
        exact bX9_select_L118 C hA hZ ih hP hD hS (lv_sub hl [0, 1, 2, 3, 4, 5, 6] rfl) hf
      · rw [if_pos c23] at hf
        refine lv_aload_n C.1 C.2.1 dX9_select_94 rfl (lv_at hl 0 rfl) ?_
        refine gtm_X9_isFace C hP wF_X9_7 dX9_select_95 ?_
        refine lv_iload C.1 C.2.1 dX9_select_98 (lv_at hl 6 rfl) ?_
        obtain ⟨v27, hv27, hf⟩ := Option.bind_eq_some_iff.mp hf
        refine ldm_1 C hP hv27 dX9_select_100 ?_
        refine lv_if_eq (tgt := 118) C.1 C.2.1 dX9_select_101 (by decide) (fun c28 => ?_) (fun c28 => ?_)
        · rw [if_pos c28] at hf
          exact bX9_select_L118 C hA hZ ih hP hD hS (lv_sub hl [0, 1, 2, 3, 4, 5, 6] rfl) hf
        · rw [if_neg c28] at hf
          refine lv_aload_n C.1 C.2.1 dX9_select_104 rfl (lv_at hl 0 rfl) ?_
          refine lv_iload C.1 C.2.1 dX9_select_105 (lv_at hl 6 rfl) ?_
          refine lv_iconst (v := 1) C.1 C.2.1 dX9_select_107 (by decide) ?_
          refine lv_iload_n C.1 C.2.1 dX9_select_108 rfl (lv_at hl 1 rfl) ?_
          refine lv_iload_n C.1 C.2.1 dX9_select_109 rfl (lv_at hl 2 rfl) ?_
          refine lv_iload C.1 C.2.1 dX9_select_110 (lv_at hl 3 rfl) ?_
          obtain ⟨v29, hv29, hf⟩ := Option.bind_eq_some_iff.mp hf
          refine cRi (As := [.int x8, .int 1, .int x2, .int x3, .int x4]) (rest := []) C (mX9_ownOf hv29) vX9_ownOf wM_X9_147 ⟨Nat.le_of_ble_eq_true rfl, Nat.le_of_ble_eq_true rfl⟩ hP (rcm_X9 C hP) (fun U hU hW => SF.go hZ hS hU hW (fun _ h => h.elim)) hl.1 rfl rfl (Nat.le_of_ble_eq_true rfl) dX9_select_112 ⟨Nat.le_of_ble_eq_true rfl, Nat.le_of_ble_eq_true rfl⟩ ?_
          refine lv_goto (tgt := 120) C.1 C.2.1 dX9_select_115 (by decide) ?_
          exact bX9_select_L120 C hA hZ ih hP hD hS (lv_sub hl [0, 1, 2, 3, 4, 5, 6] rfl) hf
set_option maxRecDepth 100000 in
set_option maxHeartbeats 4000000 in
theorem bX9_select_L55 {r0 : Int32} {u0 : ST} {K10 : ST → Int32 → Int32 → Int32 → Int32 → Int32 → Int32 → Option (Int32 × ST)} {x1 : Int32} {x2 : Int32} {x3 : Int32} {x4 : Int32} {x5 : Int32} {x6 : Int32} (C : Cx p s m args meth c cX9_select 13 RX9 (some .int) g) (hA : ∀ q, s.heap.size ≤ q → A q) (hZ : SF A s) (hK10 : ∀ (u : ST) (x1 : Int32) (x2 : Int32) (x3 : Int32) (x4 : Int32) (x5 : Int32) (x6 : Int32) (H : Heap) (locs : List Loc), va_P g.1 vwCl (mW g ad u) H → va_D A (mW g ad u) → va_S A s.heap H locs → ∀ (ls : Array Slot), lv_has ls 13 [(0, .ref (ad 0)), (1, .int x1), (2, .int x2), (3, .int x3), (4, .int x4), (5, .int x5), (6, .int x6)] → K10 u x1 x2 x3 x4 x5 x6 = some (r0, u0) → W p l e (rmW 2 49 0 0) s m args below meth c H locs 0 0 (MQ below (va_Qi (fun r v => r = r0 ∧ v = u0) (BW g A (mW g ad)) A) args s 0 0 A) (F0 m 10 ls [])) (hP : va_P g.1 vwCl (mW g ad u) H) (hD : va_D A (mW g ad u)) (hS : va_S A s.heap H locs) (hl : lv_has ls 13 [(0, .ref (ad 0)), (1, .int x1), (2, .int x2), (3, .int x3), (4, .int x4), (5, .int x5), (6, .int x6)]) (hf : fX9_select_L55 K10 u x1 x2 x3 x4 x5 x6 = some (r0, u0)) : W p l e (rmW 2 49 0 0) s m args below meth c H locs 0 0 (MQ below (va_Qi (fun r v => r = r0 ∧ v = u0) (BW g A (mW g ad)) A) args s 0 0 A) (F0 m 55 ls []) := by
  rw [fX9_select_L55] at hf
  refine lv_iinc (v := (x6 + 1)) (lv' := [(6, .int (x6 + 1)), (0, .ref (ad 0)), (1, .int x1), (2, .int x2), (3, .int x3), (4, .int x4), (5, .int x5)]) C.1 C.2.1 dX9_select_55 hl (k := 6) rfl rfl (by decide) rfl (fun ls hl => ?_)
  refine lv_goto (tgt := 10) C.1 C.2.1 dX9_select_58 (by decide) ?_
  exact hK10 u x1 x2 x3 x4 x5 (x6 + 1) _ _ hP hD hS _ (lv_sub hl [1, 2, 3, 4, 5, 6, 0] rfl) hf
set_option maxRecDepth 100000 in
set_option maxHeartbeats 4000000 in
theorem bX9_select_L10 {r0 : Int32} {u0 : ST} (C : Cx p s m args meth c cX9_select 13 RX9 (some .int) g) (hA : ∀ q, s.heap.size ≤ q → A q) (hZ : SF A s) : ∀ (n : Nat), ∀ (u : ST) (x1 : Int32) (x2 : Int32) (x3 : Int32) (x4 : Int32) (x5 : Int32) (x6 : Int32) (H : Heap) (locs : List Loc), va_P g.1 vwCl (mW g ad u) H → va_D A (mW g ad u) → va_S A s.heap H locs → ∀ (ls : Array Slot), lv_has ls 13 [(0, .ref (ad 0)), (1, .int x1), (2, .int x2), (3, .int x3), (4, .int x4), (5, .int x5), (6, .int x6)] → fX9_select_L10 n u x1 x2 x3 x4 x5 x6 = some (r0, u0) → W p l e (rmW 2 49 0 0) s m args below meth c H locs 0 0 (MQ below (va_Qi (fun r v => r = r0 ∧ v = u0) (BW g A (mW g ad)) A) args s 0 0 A) (F0 m 10 ls []) := by
  intro n
  induction n with
  | zero =>
    intro u x1 x2 x3 x4 x5 x6 H locs hP hD hS ls hl hf
    exact absurd hf (by simp [fX9_select_L10])
  | succ n ih =>
    intro u x1 x2 x3 x4 x5 x6 H locs hP hD hS ls hl hf
    rw [fX9_select_L10] at hf
    refine lv_iload C.1 C.2.1 dX9_select_10 (lv_at hl 6 rfl) ?_
    refine lv_iload C.1 C.2.1 dX9_select_12 (lv_at hl 5 rfl) ?_
    refine lv_icmp_ge (tgt := 61) C.1 C.2.1 dX9_select_14 (by decide) (fun c3 => ?_) (fun c3 => ?_)
    · rw [if_pos c3] at hf
      refine lv_aload_n C.1 C.2.1 dX9_select_61 rfl (lv_at hl 0 rfl) ?_
      refine lv_iload_n C.1 C.2.1 dX9_select_62 rfl (lv_at hl 1 rfl) ?_
      obtain ⟨v5, u4, hu4, hf⟩ := b2_some hf
      refine cWi (As := [.int x1]) (rest := []) (mc := 0) (ms := 0) C (mX9_ups hu4) vX9_ups wM_X9_143 ⟨Nat.le_of_ble_eq_true rfl, Nat.le_of_ble_eq_true rfl⟩ hP hD hS hA hZ (rcm_X9 C hP) hl.1 rfl rfl (Nat.le_of_ble_eq_true rfl) dX9_select_63 ⟨Nat.le_of_ble_eq_true rfl, Nat.le_of_ble_eq_true rfl⟩ (fun H locs hP hD hS => ?_)
      refine lv_istore (lv' := [(6, .int v5), (0, .ref (ad 0)), (1, .int x1), (2, .int x2), (3, .int x3), (4, .int x4), (5, .int x5)]) C.1 C.2.1 dX9_select_66 hl (by decide) rfl (fun ls hl => ?_)
      refine lv_iconst (v := 0) C.1 C.2.1 dX9_select_68 (by decide) ?_
      refine lv_istore (lv' := [(7, .int 0), (6, .int v5), (0, .ref (ad 0)), (1, .int x1), (2, .int x2), (3, .int x3), (4, .int x4), (5, .int x5)]) C.1 C.2.1 dX9_select_69 hl (by decide) rfl (fun ls hl => ?_)
      refine lv_iconst (v := 0) C.1 C.2.1 dX9_select_71 (by decide) ?_
      refine lv_istore (lv' := [(8, .int 0), (7, .int 0), (6, .int v5), (0, .ref (ad 0)), (1, .int x1), (2, .int x2), (3, .int x3), (4, .int x4), (5, .int x5)]) C.1 C.2.1 dX9_select_72 hl (by decide) rfl (fun ls hl => ?_)
      exact bX9_select_L74 C hA hZ 5000 u4 x2 x3 x4 v5 0 0 _ _ hP hD hS _ (lv_sub hl [3, 5, 6, 7, 2, 1, 0] rfl) hf
    · rw [if_neg c3] at hf
      refine lv_aload_n C.1 C.2.1 dX9_select_17 rfl (lv_at hl 0 rfl) ?_
      refine lv_aload_n C.1 C.2.1 dX9_select_18 rfl (lv_at hl 0 rfl) ?_
      refine gtm_X9_chain C hP wF_X9_84 dX9_select_19 ?_
      refine lv_iload C.1 C.2.1 dX9_select_22 (lv_at hl 6 rfl) ?_
      obtain ⟨v30, hv30, hf⟩ := Option.bind_eq_some_iff.mp hf
      refine ldm_27 C hP hv30 dX9_select_24 ?_
      refine lv_iconst (v := 1) C.1 C.2.1 dX9_select_25 (by decide) ?_
      refine lv_iload_n C.1 C.2.1 dX9_select_26 rfl (lv_at hl 2 rfl) ?_
      refine lv_iload_n C.1 C.2.1 dX9_select_27 rfl (lv_at hl 3 rfl) ?_
      refine lv_iload C.1 C.2.1 dX9_select_28 (lv_at hl 4 rfl) ?_
      obtain ⟨v31, hv31, hf⟩ := Option.bind_eq_some_iff.mp hf
      refine cRi (As := [.int v30, .int 1, .int x2, .int x3, .int x4]) (rest := []) C (mX9_ownOf hv31) vX9_ownOf wM_X9_147 ⟨Nat.le_of_ble_eq_true rfl, Nat.le_of_ble_eq_true rfl⟩ hP (rcm_X9 C hP) (fun U hU hW => SF.go hZ hS hU hW (fun _ h => h.elim)) hl.1 rfl rfl (Nat.le_of_ble_eq_true rfl) dX9_select_30 ⟨Nat.le_of_ble_eq_true rfl, Nat.le_of_ble_eq_true rfl⟩ ?_
      refine lv_istore (lv' := [(7, .int v31), (0, .ref (ad 0)), (1, .int x1), (2, .int x2), (3, .int x3), (4, .int x4), (5, .int x5), (6, .int x6)]) C.1 C.2.1 dX9_select_33 hl (by decide) rfl (fun ls hl => ?_)
      refine lv_iload C.1 C.2.1 dX9_select_35 (lv_at hl 0 rfl) ?_
      refine lv_if_lt (tgt := 55) C.1 C.2.1 dX9_select_37 (by decide) (fun c32 => ?_) (fun c32 => ?_)
      · rw [if_pos c32] at hf
        exact bX9_select_L55 C hA hZ ih hP hD hS (lv_sub hl [1, 2, 3, 4, 5, 6, 7] rfl) hf
      · rw [if_neg c32] at hf
        refine lv_aload_n C.1 C.2.1 dX9_select_40 rfl (lv_at hl 1 rfl) ?_
        refine gtm_X9_mMarks C hP wF_X9_38 dX9_select_41 ?_
        refine lv_iload C.1 C.2.1 dX9_select_44 (lv_at hl 0 rfl) ?_
        obtain ⟨v33, hv33, hf⟩ := Option.bind_eq_some_iff.mp hf
        refine ldm_10 C hP hv33 dX9_select_46 ?_
        refine lv_iconst (v := 5) C.1 C.2.1 dX9_select_47 (by decide) ?_
        refine lv_iand C.1 C.2.1 dX9_select_48 ?_
        refine lv_if_ne (tgt := 55) C.1 C.2.1 dX9_select_49 (by decide) (fun c34 => ?_) (fun c34 => ?_)
        · rw [if_neg c34] at hf
          exact bX9_select_L55 C hA hZ ih hP hD hS (lv_sub hl [1, 2, 3, 4, 5, 6, 7] rfl) hf
        · rw [if_pos c34] at hf
          refine lv_iload C.1 C.2.1 dX9_select_52 (lv_at hl 0 rfl) ?_
          exact endWi C hP hD hS (Nat.le_refl _) (Nat.le_refl _) hf dX9_select_54
set_option maxRecDepth 100000 in
set_option maxHeartbeats 4000000 in
theorem mX9_select {r0 : Int32} {u0 : ST} {x1 : Int32} {x2 : Int32} {x3 : Int32} {x4 : Int32} (hf : fX9_select u x1 x2 x3 x4 = some (r0, u0)) : MWi l yX9_select cX9_select 13 (some .int) 2 49 0 0 [.ref (ad 0), .int x1, .int x2, .int x3, .int x4] g (mW g ad) u r0 u0 := by
  refine entW (Qc := fun A => va_Qi (fun r v => r = r0 ∧ v = u0) (BW g A (mW g ad)) A) (by decide) (Nat.le_of_ble_eq_true rfl) ?_
  intro p e s m below meth c ls A C hP hD hS hA hZ hl
  have hl : lv_has ls 13 [(0, .ref (ad 0)), (1, .int x1), (2, .int x2), (3, .int x3), (4, .int x4)] := hl
  rw [fX9_select] at hf
  refine lv_aload_n C.1 C.2.1 dX9_select_0 rfl (lv_at hl 0 rfl) ?_
  refine lv_iload_n C.1 C.2.1 dX9_select_1 rfl (lv_at hl 1 rfl) ?_
  obtain ⟨v2, u1, hu1, hf⟩ := b2_some hf
  refine cWi (As := [.int x1]) (rest := []) (mc := 0) (ms := 0) C (mX9_chainOf hu1) vX9_chainOf wM_X9_256 ⟨Nat.le_of_ble_eq_true rfl, Nat.le_of_ble_eq_true rfl⟩ hP hD hS hA hZ (rcm_X9 C hP) hl.1 rfl rfl (Nat.le_of_ble_eq_true rfl) dX9_select_2 ⟨Nat.le_of_ble_eq_true rfl, Nat.le_of_ble_eq_true rfl⟩ (fun H locs hP hD hS => ?_)
  refine lv_istore (lv' := [(5, .int v2), (0, .ref (ad 0)), (1, .int x1), (2, .int x2), (3, .int x3), (4, .int x4)]) C.1 C.2.1 dX9_select_5 hl (by decide) rfl (fun ls hl => ?_)
  refine lv_iconst (v := 0) C.1 C.2.1 dX9_select_7 (by decide) ?_
  refine lv_istore (lv' := [(6, .int 0), (5, .int v2), (0, .ref (ad 0)), (1, .int x1), (2, .int x2), (3, .int x3), (4, .int x4)]) C.1 C.2.1 dX9_select_8 hl (by decide) rfl (fun ls hl => ?_)
  exact bX9_select_L10 C hA hZ 5000 u1 x1 x2 x3 x4 v2 0 _ _ hP hD hS _ (lv_sub hl [2, 3, 4, 5, 6, 1, 0] rfl) hf
end
theorem vX9_select : YV yX9_select cX9_select 13 (some .int) 4 := ⟨⟨wK_X9_select, wZ_X9, by decide +kernel⟩, wI_X9_select, wV_X9_select⟩
def fX9_selected (u : ST) (x1 : Int32) (x2 : Int32) : Option (Int32 × ST) :=
  (fX9_isClass u x1).bind fun v1 =>
  if v1 = 0 then
    some ((-1), u)
  else
    (fX9_isHere u x2).bind fun v3 =>
    if v3 = 0 then
      some ((-1), u)
    else
      (rdI u 7 60 x2).bind fun v5 =>
      if v5 = 0 then
        some ((-1), u)
      else
        (rdI u 9 60 x2).bind fun v7 =>
        (rdI u 12 60 x2).bind fun v8 =>
        (rdI u 13 60 x2).bind fun v9 =>
        b2 (fX9_select u x1 v7 v8 v9) fun v11 u10 =>
        if v11 < 0 then
          some (v11, u10)
        else
          (rdI u10 10 60 v11).bind fun v13 =>
          if (v13 &&& 8) = 0 then
            some (v11, u10)
          else
            some ((-2), u10)
section
variable {p : Program} {l : Launch} {e : Env} {s : State} {m : MethodId} {args : Array Value} {below : List Frame} {meth : Method} {c : Code} {H : Heap} {locs : List Loc} {g : GP} {ls : Array Slot} {A : Nat → Prop} {ad : Nat → Nat} {u : ST}
set_option maxRecDepth 100000 in
set_option maxHeartbeats 4000000 in
theorem mX9_selected {r0 : Int32} {u0 : ST} {x1 : Int32} {x2 : Int32} (hf : fX9_selected u x1 x2 = some (r0, u0)) : MWi l yX9_selected cX9_selected 4 (some .int) 3 81 0 0 [.ref (ad 0), .int x1, .int x2] g (mW g ad) u r0 u0 := by
  refine entW (Qc := fun A => va_Qi (fun r v => r = r0 ∧ v = u0) (BW g A (mW g ad)) A) (by decide) (Nat.le_of_ble_eq_true rfl) ?_
  intro p e s m below meth c ls A C hP hD hS hA hZ hl
  have hl : lv_has ls 4 [(0, .ref (ad 0)), (1, .int x1), (2, .int x2)] := hl
  rw [fX9_selected] at hf
  refine lv_aload_n C.1 C.2.1 dX9_selected_0 rfl (lv_at hl 0 rfl) ?_
  refine lv_iload_n C.1 C.2.1 dX9_selected_1 rfl (lv_at hl 1 rfl) ?_
  obtain ⟨v1, hv1, hf⟩ := Option.bind_eq_some_iff.mp hf
  refine cRi (As := [.int x1]) (rest := []) C (mX9_isClass hv1) vX9_isClass wM_X9_177 ⟨Nat.le_of_ble_eq_true rfl, Nat.le_of_ble_eq_true rfl⟩ hP (rcm_X9 C hP) (fun U hU hW => SF.go hZ hS hU hW (fun _ h => h.elim)) hl.1 rfl rfl (Nat.le_of_ble_eq_true rfl) dX9_selected_2 ⟨Nat.le_of_ble_eq_true rfl, Nat.le_of_ble_eq_true rfl⟩ ?_
  refine lv_if_eq (tgt := 25) C.1 C.2.1 dX9_selected_5 (by decide) (fun c2 => ?_) (fun c2 => ?_)
  · rw [if_pos c2] at hf
    refine lv_iconst (v := -1) C.1 C.2.1 dX9_selected_25 (by decide) ?_
    exact endWi C hP hD hS (Nat.le_refl _) (Nat.le_refl _) hf dX9_selected_26
  · rw [if_neg c2] at hf
    refine lv_aload_n C.1 C.2.1 dX9_selected_8 rfl (lv_at hl 0 rfl) ?_
    refine lv_iload_n C.1 C.2.1 dX9_selected_9 rfl (lv_at hl 2 rfl) ?_
    obtain ⟨v3, hv3, hf⟩ := Option.bind_eq_some_iff.mp hf
    refine cRi (As := [.int x2]) (rest := []) C (mX9_isHere hv3) vX9_isHere wM_X9_210 ⟨Nat.le_of_ble_eq_true rfl, Nat.le_of_ble_eq_true rfl⟩ hP (rcm_X9 C hP) (fun U hU hW => SF.go hZ hS hU hW (fun _ h => h.elim)) hl.1 rfl rfl (Nat.le_of_ble_eq_true rfl) dX9_selected_10 ⟨Nat.le_of_ble_eq_true rfl, Nat.le_of_ble_eq_true rfl⟩ ?_
    refine lv_if_eq (tgt := 25) C.1 C.2.1 dX9_selected_13 (by decide) (fun c4 => ?_) (fun c4 => ?_)
    · rw [if_pos c4] at hf
      refine lv_iconst (v := -1) C.1 C.2.1 dX9_selected_25 (by decide) ?_
      exact endWi C hP hD hS (Nat.le_refl _) (Nat.le_refl _) hf dX9_selected_26
    · rw [if_neg c4] at hf
      refine lv_aload_n C.1 C.2.1 dX9_selected_16 rfl (lv_at hl 0 rfl) ?_
      refine gtm_X9_isMethod C hP wF_X9_29 dX9_selected_17 ?_
      refine lv_iload_n C.1 C.2.1 dX9_selected_20 rfl (lv_at hl 2 rfl) ?_
      obtain ⟨v5, hv5, hf⟩ := Option.bind_eq_some_iff.mp hf
      refine ldm_7 C hP hv5 dX9_selected_21 ?_
      refine lv_if_ne (tgt := 27) C.1 C.2.1 dX9_selected_22 (by decide) (fun c6 => ?_) (fun c6 => ?_)
      · rw [if_neg c6] at hf
        refine lv_aload_n C.1 C.2.1 dX9_selected_27 rfl (lv_at hl 0 rfl) ?_
        refine lv_iload_n C.1 C.2.1 dX9_selected_28 rfl (lv_at hl 1 rfl) ?_
        refine lv_aload_n C.1 C.2.1 dX9_selected_29 rfl (lv_at hl 0 rfl) ?_
        refine gtm_X9_mName C hP wF_X9_35 dX9_selected_30 ?_
        refine lv_iload_n C.1 C.2.1 dX9_selected_33 rfl (lv_at hl 2 rfl) ?_
        obtain ⟨v7, hv7, hf⟩ := Option.bind_eq_some_iff.mp hf
        refine ldm_9 C hP hv7 dX9_selected_34 ?_
        refine lv_aload_n C.1 C.2.1 dX9_selected_35 rfl (lv_at hl 0 rfl) ?_
        refine gtm_X9_mFirst C hP wF_X9_44 dX9_selected_36 ?_
        refine lv_iload_n C.1 C.2.1 dX9_selected_39 rfl (lv_at hl 2 rfl) ?_
        obtain ⟨v8, hv8, hf⟩ := Option.bind_eq_some_iff.mp hf
        refine ldm_12 C hP hv8 dX9_selected_40 ?_
        refine lv_aload_n C.1 C.2.1 dX9_selected_41 rfl (lv_at hl 0 rfl) ?_
        refine gtm_X9_mSecond C hP wF_X9_47 dX9_selected_42 ?_
        refine lv_iload_n C.1 C.2.1 dX9_selected_45 rfl (lv_at hl 2 rfl) ?_
        obtain ⟨v9, hv9, hf⟩ := Option.bind_eq_some_iff.mp hf
        refine ldm_13 C hP hv9 dX9_selected_46 ?_
        obtain ⟨v11, u10, hu10, hf⟩ := b2_some hf
        refine cWi (As := [.int x1, .int v7, .int v8, .int v9]) (rest := []) (mc := 0) (ms := 0) C (mX9_select hu10) vX9_select wM_X9_262 ⟨Nat.le_of_ble_eq_true rfl, Nat.le_of_ble_eq_true rfl⟩ hP hD hS hA hZ (rcm_X9 C hP) hl.1 rfl rfl (Nat.le_of_ble_eq_true rfl) dX9_selected_47 ⟨Nat.le_of_ble_eq_true rfl, Nat.le_of_ble_eq_true rfl⟩ (fun H locs hP hD hS => ?_)
        refine lv_istore_n (lv' := [(3, .int v11), (0, .ref (ad 0)), (1, .int x1), (2, .int x2)]) C.1 C.2.1 dX9_selected_50 rfl hl (by decide) rfl (fun ls hl => ?_)
        refine lv_iload_n C.1 C.2.1 dX9_selected_51 rfl (lv_at hl 0 rfl) ?_
        refine lv_if_lt (tgt := 72) C.1 C.2.1 dX9_selected_52 (by decide) (fun c12 => ?_) (fun c12 => ?_)
        · rw [if_pos c12] at hf
          refine lv_iload_n C.1 C.2.1 dX9_selected_72 rfl (lv_at hl 0 rfl) ?_
          exact endWi C hP hD hS (Nat.le_refl _) (Nat.le_refl _) hf dX9_selected_73
        · rw [if_neg c12] at hf
          refine lv_aload_n C.1 C.2.1 dX9_selected_55 rfl (lv_at hl 1 rfl) ?_
          refine gtm_X9_mMarks C hP wF_X9_38 dX9_selected_56 ?_
          refine lv_iload_n C.1 C.2.1 dX9_selected_59 rfl (lv_at hl 0 rfl) ?_
          obtain ⟨v13, hv13, hf⟩ := Option.bind_eq_some_iff.mp hf
          refine ldm_10 C hP hv13 dX9_selected_60 ?_
          refine lv_bipush (v := 8) C.1 C.2.1 dX9_selected_61 (by decide) ?_
          refine lv_iand C.1 C.2.1 dX9_selected_63 ?_
          refine lv_if_eq (tgt := 72) C.1 C.2.1 dX9_selected_64 (by decide) (fun c14 => ?_) (fun c14 => ?_)
          · rw [if_pos c14] at hf
            refine lv_iload_n C.1 C.2.1 dX9_selected_72 rfl (lv_at hl 0 rfl) ?_
            exact endWi C hP hD hS (Nat.le_refl _) (Nat.le_refl _) hf dX9_selected_73
          · rw [if_neg c14] at hf
            refine lv_bipush (v := -2) C.1 C.2.1 dX9_selected_67 (by decide) ?_
            refine lv_goto (tgt := 73) C.1 C.2.1 dX9_selected_69 (by decide) ?_
            exact endWi C hP hD hS (Nat.le_refl _) (Nat.le_refl _) hf dX9_selected_73
      · rw [if_pos c6] at hf
        refine lv_iconst (v := -1) C.1 C.2.1 dX9_selected_25 (by decide) ?_
        exact endWi C hP hD hS (Nat.le_refl _) (Nat.le_refl _) hf dX9_selected_26
end
theorem vX9_selected : YV yX9_selected cX9_selected 4 (some .int) 2 := ⟨⟨wK_X9_selected, wZ_X9, by decide +kernel⟩, wI_X9_selected, wV_X9_selected⟩
def fX9_faceRow_L53 (K9 : ST → Int32 → Option ST) : Nat → ST → Int32 → Int32 → Int32 → Option ST
  | 0, _, _, _, _ => none
  | n + 1, u, x2, x3, x4 =>
    if x4 < 0 then
      K9 u x2
    else
      (rdI u 5 36 ((3 * x3) + x4)).bind fun v8 =>
      (stI u 26 4096 x2 v8).bind fun u9 =>
      fX9_faceRow_L53 K9 n u9 (x2 + 1) x3 (x4 + (-1))
def fX9_faceRow_L9 : Nat → ST → Int32 → Option ST
  | 0, _, _ => none
  | n + 1, u, x2 =>
    if x2 ≤ 0 then
      some u
    else
      (rdI u 26 4096 (x2 + (-1))).bind fun v3 =>
      (stI u 24 4096 (sI u 25) v3).bind fun u4 =>
      (some (uI u4 25 ((sI u4 25) + 1))).bind fun u5 =>
      (rdI u5 4 12 v3).bind fun v6 =>
      fX9_faceRow_L53 (fX9_faceRow_L9 n) 5000 u5 (x2 + (-1)) v3 (v6 - 1)
def fX9_faceRow (u : ST) (x1 : Int32) : Option ST :=
  (stI u 26 4096 0 x1).bind fun u1 =>
  fX9_faceRow_L9 5000 u1 1
section
variable {p : Program} {l : Launch} {e : Env} {s : State} {m : MethodId} {args : Array Value} {below : List Frame} {meth : Method} {c : Code} {H : Heap} {locs : List Loc} {g : GP} {ls : Array Slot} {A : Nat → Prop} {ad : Nat → Nat} {u : ST}
set_option maxRecDepth 100000 in
set_option maxHeartbeats 4000000 in
theorem bX9_faceRow_L53 {u0 : ST} {K9 : ST → Int32 → Option ST} (C : Cx p s m args meth c cX9_faceRow 5 RX9 none g) (hA : ∀ q, s.heap.size ≤ q → A q) (hZ : SF A s) (hK9 : ∀ (u : ST) (x2 : Int32) (H : Heap) (locs : List Loc), va_P g.1 vwCl (mW g ad u) H → va_D A (mW g ad u) → va_S A s.heap H locs → ∀ (ls : Array Slot), lv_has ls 5 [(0, .ref (ad 0)), (2, .int x2)] → K9 u x2 = some u0 → W p l e (rmW 0 0 0 0) s m args below meth c H locs 0 0 (MQ below (va_Qv (fun v => v = u0) (BW g A (mW g ad)) A) args s 0 0 A) (F0 m 9 ls [])) : ∀ (n : Nat), ∀ (u : ST) (x2 : Int32) (x3 : Int32) (x4 : Int32) (H : Heap) (locs : List Loc), va_P g.1 vwCl (mW g ad u) H → va_D A (mW g ad u) → va_S A s.heap H locs → ∀ (ls : Array Slot), lv_has ls 5 [(0, .ref (ad 0)), (2, .int x2), (3, .int x3), (4, .int x4)] → fX9_faceRow_L53 K9 n u x2 x3 x4 = some u0 → W p l e (rmW 0 0 0 0) s m args below meth c H locs 0 0 (MQ below (va_Qv (fun v => v = u0) (BW g A (mW g ad)) A) args s 0 0 A) (F0 m 53 ls []) := by
  intro n
  induction n with
  | zero =>
    intro u x2 x3 x4 H locs hP hD hS ls hl hf
    exact absurd hf (by simp [fX9_faceRow_L53])
  | succ n ih =>
    intro u x2 x3 x4 H locs hP hD hS ls hl hf
    rw [fX9_faceRow_L53] at hf
    refine lv_iload C.1 C.2.1 dX9_faceRow_53 (lv_at hl 3 rfl) ?_
    refine lv_if_lt (tgt := 84) C.1 C.2.1 dX9_faceRow_55 (by decide) (fun c7 => ?_) (fun c7 => ?_)
    · rw [if_pos c7] at hf
      refine lv_goto (tgt := 9) C.1 C.2.1 dX9_faceRow_84 (by decide) ?_
      exact hK9 u x2 _ _ hP hD hS _ (lv_sub hl [0, 1] rfl) hf
    · rw [if_neg c7] at hf
      refine lv_aload_n C.1 C.2.1 dX9_faceRow_58 rfl (lv_at hl 0 rfl) ?_
      refine gtm_X9_pile C hP wF_X9_81 dX9_faceRow_59 ?_
      refine lv_iload_n C.1 C.2.1 dX9_faceRow_62 rfl (lv_at hl 1 rfl) ?_
      refine lv_aload_n C.1 C.2.1 dX9_faceRow_63 rfl (lv_at hl 0 rfl) ?_
      refine gtm_X9_faces C hP wF_X9_23 dX9_faceRow_64 ?_
      refine lv_iconst (v := 3) C.1 C.2.1 dX9_faceRow_67 (by decide) ?_
      refine lv_iload_n C.1 C.2.1 dX9_faceRow_68 rfl (lv_at hl 2 rfl) ?_
      refine lv_imul C.1 C.2.1 dX9_faceRow_69 ?_
      refine lv_iload C.1 C.2.1 dX9_faceRow_70 (lv_at hl 3 rfl) ?_
      refine lv_iadd C.1 C.2.1 dX9_faceRow_72 ?_
      obtain ⟨v8, hv8, hf⟩ := Option.bind_eq_some_iff.mp hf
      refine ldm_5 C hP hv8 dX9_faceRow_73 ?_
      obtain ⟨u9, hu9, hf⟩ := Option.bind_eq_some_iff.mp hf
      refine stm_26 C hP hD hS hu9 dX9_faceRow_74 (fun H locs hP hD hS => ?_)
      refine lv_iinc (v := (x2 + 1)) (lv' := [(2, .int (x2 + 1)), (0, .ref (ad 0)), (3, .int x3), (4, .int x4)]) C.1 C.2.1 dX9_faceRow_75 hl (k := 1) rfl rfl (by decide) rfl (fun ls hl => ?_)
      refine lv_iinc (v := (x4 + (-1))) (lv' := [(4, .int (x4 + (-1))), (2, .int (x2 + 1)), (0, .ref (ad 0)), (3, .int x3)]) C.1 C.2.1 dX9_faceRow_78 hl (k := 3) rfl rfl (by decide) rfl (fun ls hl => ?_)
      refine lv_goto (tgt := 53) C.1 C.2.1 dX9_faceRow_81 (by decide) ?_
      exact ih u9 (x2 + 1) x3 (x4 + (-1)) _ _ hP hD hS _ (lv_sub hl [2, 1, 3, 0] rfl) hf
set_option maxRecDepth 100000 in
set_option maxHeartbeats 4000000 in
theorem bX9_faceRow_L9 {u0 : ST} (C : Cx p s m args meth c cX9_faceRow 5 RX9 none g) (hA : ∀ q, s.heap.size ≤ q → A q) (hZ : SF A s) : ∀ (n : Nat), ∀ (u : ST) (x2 : Int32) (H : Heap) (locs : List Loc), va_P g.1 vwCl (mW g ad u) H → va_D A (mW g ad u) → va_S A s.heap H locs → ∀ (ls : Array Slot), lv_has ls 5 [(0, .ref (ad 0)), (2, .int x2)] → fX9_faceRow_L9 n u x2 = some u0 → W p l e (rmW 0 0 0 0) s m args below meth c H locs 0 0 (MQ below (va_Qv (fun v => v = u0) (BW g A (mW g ad)) A) args s 0 0 A) (F0 m 9 ls []) := by
  intro n
  induction n with
  | zero =>
    intro u x2 H locs hP hD hS ls hl hf
    exact absurd hf (by simp [fX9_faceRow_L9])
  | succ n ih =>
    intro u x2 H locs hP hD hS ls hl hf
    rw [fX9_faceRow_L9] at hf
    refine lv_iload_n C.1 C.2.1 dX9_faceRow_9 rfl (lv_at hl 1 rfl) ?_
    refine lv_if_le (tgt := 87) C.1 C.2.1 dX9_faceRow_10 (by decide) (fun c2 => ?_) (fun c2 => ?_)
    · rw [if_pos c2] at hf
      exact endWv C hP hD hS (Nat.le_refl _) (Nat.le_refl _) hf dX9_faceRow_87
    · rw [if_neg c2] at hf
      refine lv_iinc (v := (x2 + (-1))) (lv' := [(2, .int (x2 + (-1))), (0, .ref (ad 0))]) C.1 C.2.1 dX9_faceRow_13 hl (k := 1) rfl rfl (by decide) rfl (fun ls hl => ?_)
      refine lv_aload_n C.1 C.2.1 dX9_faceRow_16 rfl (lv_at hl 1 rfl) ?_
      refine gtm_X9_pile C hP wF_X9_81 dX9_faceRow_17 ?_
      refine lv_iload_n C.1 C.2.1 dX9_faceRow_20 rfl (lv_at hl 0 rfl) ?_
      obtain ⟨v3, hv3, hf⟩ := Option.bind_eq_some_iff.mp hf
      refine ldm_26 C hP hv3 dX9_faceRow_21 ?_
      refine lv_istore_n (lv' := [(3, .int v3), (2, .int (x2 + (-1))), (0, .ref (ad 0))]) C.1 C.2.1 dX9_faceRow_22 rfl hl (by decide) rfl (fun ls hl => ?_)
      refine lv_aload_n C.1 C.2.1 dX9_faceRow_23 rfl (lv_at hl 2 rfl) ?_
      refine gtm_X9_row C hP wF_X9_78 dX9_faceRow_24 ?_
      refine lv_aload_n C.1 C.2.1 dX9_faceRow_27 rfl (lv_at hl 2 rfl) ?_
      refine gtm_X9_rows C hP wF_X9_249 dX9_faceRow_28 ?_
      refine lv_iload_n C.1 C.2.1 dX9_faceRow_31 rfl (lv_at hl 0 rfl) ?_
      obtain ⟨u4, hu4, hf⟩ := Option.bind_eq_some_iff.mp hf
      refine stm_24 C hP hD hS hu4 dX9_faceRow_32 (fun H locs hP hD hS => ?_)
      refine lv_aload_n C.1 C.2.1 dX9_faceRow_33 rfl (lv_at hl 2 rfl) ?_
      refine lv_dup C.1 C.2.1 dX9_faceRow_34 rfl ?_
      refine gtm_X9_rows C hP wF_X9_249 dX9_faceRow_35 ?_
      refine lv_iconst (v := 1) C.1 C.2.1 dX9_faceRow_38 (by decide) ?_
      refine lv_iadd C.1 C.2.1 dX9_faceRow_39 ?_
      obtain ⟨u5, hu5, hf⟩ := Option.bind_eq_some_iff.mp hf
      refine ptm_X9_rows C hP hD hS wF_X9_249 dX9_faceRow_40 (fun H locs hP hD hS => ?_)
      rw [Option.some.inj hu5] at hP hD
      refine lv_aload_n C.1 C.2.1 dX9_faceRow_43 rfl (lv_at hl 2 rfl) ?_
      refine gtm_X9_faceMany C hP wF_X9_20 dX9_faceRow_44 ?_
      refine lv_iload_n C.1 C.2.1 dX9_faceRow_47 rfl (lv_at hl 0 rfl) ?_
      obtain ⟨v6, hv6, hf⟩ := Option.bind_eq_some_iff.mp hf
      refine ldm_4 C hP hv6 dX9_faceRow_48 ?_
      refine lv_iconst (v := 1) C.1 C.2.1 dX9_faceRow_49 (by decide) ?_
      refine lv_isub C.1 C.2.1 dX9_faceRow_50 ?_
      refine lv_istore (lv' := [(4, .int (v6 - 1)), (3, .int v3), (2, .int (x2 + (-1))), (0, .ref (ad 0))]) C.1 C.2.1 dX9_faceRow_51 hl (by decide) rfl (fun ls hl => ?_)
      exact bX9_faceRow_L53 C hA hZ ih 5000 u5 (x2 + (-1)) v3 (v6 - 1) _ _ hP hD hS _ (lv_sub hl [3, 2, 1, 0] rfl) hf
set_option maxRecDepth 100000 in
set_option maxHeartbeats 4000000 in
theorem mX9_faceRow {u0 : ST} {x1 : Int32} (hf : fX9_faceRow u x1 = some u0) : MWv l yX9_faceRow cX9_faceRow 5 none 0 0 0 0 [.ref (ad 0), .int x1] g (mW g ad) u u0 := by
  refine entW (Qc := fun A => va_Qv (fun v => v = u0) (BW g A (mW g ad)) A) (by decide) (Nat.le_of_ble_eq_true rfl) ?_
  intro p e s m below meth c ls A C hP hD hS hA hZ hl
  have hl : lv_has ls 5 [(0, .ref (ad 0)), (1, .int x1)] := hl
  rw [fX9_faceRow] at hf
  refine lv_iconst (v := 1) C.1 C.2.1 dX9_faceRow_0 (by decide) ?_
  refine lv_istore_n (lv' := [(2, .int 1), (0, .ref (ad 0)), (1, .int x1)]) C.1 C.2.1 dX9_faceRow_1 rfl hl (by decide) rfl (fun ls hl => ?_)
  refine lv_aload_n C.1 C.2.1 dX9_faceRow_2 rfl (lv_at hl 1 rfl) ?_
  refine gtm_X9_pile C hP wF_X9_81 dX9_faceRow_3 ?_
  refine lv_iconst (v := 0) C.1 C.2.1 dX9_faceRow_6 (by decide) ?_
  refine lv_iload_n C.1 C.2.1 dX9_faceRow_7 rfl (lv_at hl 2 rfl) ?_
  obtain ⟨u1, hu1, hf⟩ := Option.bind_eq_some_iff.mp hf
  refine stm_26 C hP hD hS hu1 dX9_faceRow_8 (fun H locs hP hD hS => ?_)
  exact bX9_faceRow_L9 C hA hZ 5000 u1 1 _ _ hP hD hS _ (lv_sub hl [1, 0] rfl) hf
end
theorem vX9_faceRow : YV yX9_faceRow cX9_faceRow 5 none 1 := ⟨⟨wK_X9_faceRow, wZ_X9, by decide +kernel⟩, wI_X9_faceRow, wV_X9_faceRow⟩
def fX9_facesOf_L2 : Nat → ST → Int32 → Int32 → Option ST
  | 0, _, _, _ => none
  | n + 1, u, x1, x2 =>
    (rdI u 4 12 x1).bind fun v1 =>
    if v1 ≤ x2 then
      some u
    else
      (rdI u 5 36 ((3 * x1) + x2)).bind fun v3 =>
      (fX9_faceRow u v3).bind fun u4 =>
      fX9_facesOf_L2 n u4 x1 (x2 + 1)
def fX9_facesOf (u : ST) (x1 : Int32) : Option ST :=
  fX9_facesOf_L2 5000 u x1 0
section
variable {p : Program} {l : Launch} {e : Env} {s : State} {m : MethodId} {args : Array Value} {below : List Frame} {meth : Method} {c : Code} {H : Heap} {locs : List Loc} {g : GP} {ls : Array Slot} {A : Nat → Prop} {ad : Nat → Nat} {u : ST}
set_option maxRecDepth 100000 in
set_option maxHeartbeats 4000000 in
theorem bX9_facesOf_L2 {u0 : ST} (C : Cx p s m args meth c cX9_facesOf 3 RX9 none g) (hA : ∀ q, s.heap.size ≤ q → A q) (hZ : SF A s) : ∀ (n : Nat), ∀ (u : ST) (x1 : Int32) (x2 : Int32) (H : Heap) (locs : List Loc), va_P g.1 vwCl (mW g ad u) H → va_D A (mW g ad u) → va_S A s.heap H locs → ∀ (ls : Array Slot), lv_has ls 3 [(0, .ref (ad 0)), (1, .int x1), (2, .int x2)] → fX9_facesOf_L2 n u x1 x2 = some u0 → W p l e (rmW 1 24 0 0) s m args below meth c H locs 0 0 (MQ below (va_Qv (fun v => v = u0) (BW g A (mW g ad)) A) args s 0 0 A) (F0 m 2 ls []) := by
  intro n
  induction n with
  | zero =>
    intro u x1 x2 H locs hP hD hS ls hl hf
    exact absurd hf (by simp [fX9_facesOf_L2])
  | succ n ih =>
    intro u x1 x2 H locs hP hD hS ls hl hf
    rw [fX9_facesOf_L2] at hf
    refine lv_iload_n C.1 C.2.1 dX9_facesOf_2 rfl (lv_at hl 2 rfl) ?_
    refine lv_aload_n C.1 C.2.1 dX9_facesOf_3 rfl (lv_at hl 0 rfl) ?_
    refine gtm_X9_faceMany C hP wF_X9_20 dX9_facesOf_4 ?_
    refine lv_iload_n C.1 C.2.1 dX9_facesOf_7 rfl (lv_at hl 1 rfl) ?_
    obtain ⟨v1, hv1, hf⟩ := Option.bind_eq_some_iff.mp hf
    refine ldm_4 C hP hv1 dX9_facesOf_8 ?_
    refine lv_icmp_ge (tgt := 32) C.1 C.2.1 dX9_facesOf_9 (by decide) (fun c2 => ?_) (fun c2 => ?_)
    · rw [if_pos c2] at hf
      exact endWv C hP hD hS (Nat.le_refl _) (Nat.le_refl _) hf dX9_facesOf_32
    · rw [if_neg c2] at hf
      refine lv_aload_n C.1 C.2.1 dX9_facesOf_12 rfl (lv_at hl 0 rfl) ?_
      refine lv_aload_n C.1 C.2.1 dX9_facesOf_13 rfl (lv_at hl 0 rfl) ?_
      refine gtm_X9_faces C hP wF_X9_23 dX9_facesOf_14 ?_
      refine lv_iconst (v := 3) C.1 C.2.1 dX9_facesOf_17 (by decide) ?_
      refine lv_iload_n C.1 C.2.1 dX9_facesOf_18 rfl (lv_at hl 1 rfl) ?_
      refine lv_imul C.1 C.2.1 dX9_facesOf_19 ?_
      refine lv_iload_n C.1 C.2.1 dX9_facesOf_20 rfl (lv_at hl 2 rfl) ?_
      refine lv_iadd C.1 C.2.1 dX9_facesOf_21 ?_
      obtain ⟨v3, hv3, hf⟩ := Option.bind_eq_some_iff.mp hf
      refine ldm_5 C hP hv3 dX9_facesOf_22 ?_
      obtain ⟨u4, hu4, hf⟩ := Option.bind_eq_some_iff.mp hf
      refine cWv (As := [.int v3]) (rest := []) (mc := 0) (ms := 0) C (mX9_faceRow hu4) vX9_faceRow wM_X9_252 ⟨Nat.le_of_ble_eq_true rfl, Nat.le_of_ble_eq_true rfl⟩ hP hD hS hA hZ (rcm_X9 C hP) hl.1 rfl rfl (Nat.le_of_ble_eq_true rfl) dX9_facesOf_23 ⟨Nat.le_of_ble_eq_true rfl, Nat.le_of_ble_eq_true rfl⟩ (fun H locs hP hD hS => ?_)
      refine lv_iinc (v := (x2 + 1)) (lv' := [(2, .int (x2 + 1)), (0, .ref (ad 0)), (1, .int x1)]) C.1 C.2.1 dX9_facesOf_26 hl (k := 2) rfl rfl (by decide) rfl (fun ls hl => ?_)
      refine lv_goto (tgt := 2) C.1 C.2.1 dX9_facesOf_29 (by decide) ?_
      exact ih u4 x1 (x2 + 1) _ _ hP hD hS _ (lv_sub hl [1, 2, 0] rfl) hf
set_option maxRecDepth 100000 in
set_option maxHeartbeats 4000000 in
theorem mX9_facesOf {u0 : ST} {x1 : Int32} (hf : fX9_facesOf u x1 = some u0) : MWv l yX9_facesOf cX9_facesOf 3 none 1 24 0 0 [.ref (ad 0), .int x1] g (mW g ad) u u0 := by
  refine entW (Qc := fun A => va_Qv (fun v => v = u0) (BW g A (mW g ad)) A) (by decide) (Nat.le_of_ble_eq_true rfl) ?_
  intro p e s m below meth c ls A C hP hD hS hA hZ hl
  have hl : lv_has ls 3 [(0, .ref (ad 0)), (1, .int x1)] := hl
  rw [fX9_facesOf] at hf
  refine lv_iconst (v := 0) C.1 C.2.1 dX9_facesOf_0 (by decide) ?_
  refine lv_istore_n (lv' := [(2, .int 0), (0, .ref (ad 0)), (1, .int x1)]) C.1 C.2.1 dX9_facesOf_1 rfl hl (by decide) rfl (fun ls hl => ?_)
  exact bX9_facesOf_L2 C hA hZ 5000 u x1 0 _ _ hP hD hS _ (lv_sub hl [1, 2, 0] rfl) hf
end
theorem vX9_facesOf : YV yX9_facesOf cX9_facesOf 3 none 1 := ⟨⟨wK_X9_facesOf, wZ_X9, by decide +kernel⟩, wI_X9_facesOf, wV_X9_facesOf⟩
def fX9_lookForField_L101 (K49 : ST → Int32 → Int32 → Int32 → Int32 → Int32 → Option (Int32 × ST)) (u : ST) (x2 : Int32) (x3 : Int32) (x4 : Int32) (x5 : Int32) (x6 : Int32) : Option (Int32 × ST) :=
  K49 u x2 x3 x4 x5 (x6 + 1)
def fX9_lookForField_L49 (K10 : ST → Int32 → Int32 → Int32 → Int32 → Option (Int32 × ST)) : Nat → ST → Int32 → Int32 → Int32 → Int32 → Int32 → Option (Int32 × ST)
  | 0, _, _, _, _, _, _ => none
  | n + 1, u, x2, x3, x4, x5, x6 =>
    if (sI u 25) ≤ x6 then
      K10 u x2 x3 x4 (x5 + 1)
    else
      (rdI u 24 4096 x6).bind fun v10 =>
      (fX9_ownOf u v10 0 x2 (-2) (-2)).bind fun v11 =>
      if v11 < 0 then
        fX9_lookForField_L101 (fX9_lookForField_L49 K10 n) u x2 x3 x4 x5 x6
      else
        if x3 = 0 then
          some (v11, u)
        else
          (rdI u 10 60 v11).bind fun v14 =>
          if (v14 &&& 4) = 0 then
            some (v11, u)
          else
            fX9_lookForField_L101 (fX9_lookForField_L49 K10 n) u x2 x3 x4 x5 x6
def fX9_lookForField_L10 : Nat → ST → Int32 → Int32 → Int32 → Int32 → Option (Int32 × ST)
  | 0, _, _, _, _, _ => none
  | n + 1, u, x2, x3, x4, x5 =>
    if x4 ≤ x5 then
      some ((-2), u)
    else
      (some (uI u 25 1)).bind fun u4 =>
      (rdI u4 27 12 x5).bind fun v5 =>
      (stI u4 24 4096 0 v5).bind fun u6 =>
      (rdI u6 27 12 x5).bind fun v7 =>
      (fX9_facesOf u6 v7).bind fun u8 =>
      fX9_lookForField_L49 (fX9_lookForField_L10 n) 5000 u8 x2 x3 x4 x5 0
def fX9_lookForField (u : ST) (x1 : Int32) (x2 : Int32) (x3 : Int32) : Option (Int32 × ST) :=
  b2 (fX9_chainOf u x1) fun v2 u1 =>
  fX9_lookForField_L10 5000 u1 x2 x3 v2 0
section
variable {p : Program} {l : Launch} {e : Env} {s : State} {m : MethodId} {args : Array Value} {below : List Frame} {meth : Method} {c : Code} {H : Heap} {locs : List Loc} {g : GP} {ls : Array Slot} {A : Nat → Prop} {ad : Nat → Nat} {u : ST}
set_option maxRecDepth 100000 in
set_option maxHeartbeats 4000000 in
theorem bX9_lookForField_L101 {r0 : Int32} {u0 : ST} {K49 : ST → Int32 → Int32 → Int32 → Int32 → Int32 → Option (Int32 × ST)} {x2 : Int32} {x3 : Int32} {x4 : Int32} {x5 : Int32} {x6 : Int32} (C : Cx p s m args meth c cX9_lookForField 8 RX9 (some .int) g) (hA : ∀ q, s.heap.size ≤ q → A q) (hZ : SF A s) (hK49 : ∀ (u : ST) (x2 : Int32) (x3 : Int32) (x4 : Int32) (x5 : Int32) (x6 : Int32) (H : Heap) (locs : List Loc), va_P g.1 vwCl (mW g ad u) H → va_D A (mW g ad u) → va_S A s.heap H locs → ∀ (ls : Array Slot), lv_has ls 8 [(0, .ref (ad 0)), (2, .int x2), (3, .int x3), (4, .int x4), (5, .int x5), (6, .int x6)] → K49 u x2 x3 x4 x5 x6 = some (r0, u0) → W p l e (rmW 2 46 0 0) s m args below meth c H locs 0 0 (MQ below (va_Qi (fun r v => r = r0 ∧ v = u0) (BW g A (mW g ad)) A) args s 0 0 A) (F0 m 49 ls [])) (hP : va_P g.1 vwCl (mW g ad u) H) (hD : va_D A (mW g ad u)) (hS : va_S A s.heap H locs) (hl : lv_has ls 8 [(0, .ref (ad 0)), (2, .int x2), (3, .int x3), (4, .int x4), (5, .int x5), (6, .int x6)]) (hf : fX9_lookForField_L101 K49 u x2 x3 x4 x5 x6 = some (r0, u0)) : W p l e (rmW 2 46 0 0) s m args below meth c H locs 0 0 (MQ below (va_Qi (fun r v => r = r0 ∧ v = u0) (BW g A (mW g ad)) A) args s 0 0 A) (F0 m 101 ls []) := by
  rw [fX9_lookForField_L101] at hf
  refine lv_iinc (v := (x6 + 1)) (lv' := [(6, .int (x6 + 1)), (0, .ref (ad 0)), (2, .int x2), (3, .int x3), (4, .int x4), (5, .int x5)]) C.1 C.2.1 dX9_lookForField_101 hl (k := 5) rfl rfl (by decide) rfl (fun ls hl => ?_)
  refine lv_goto (tgt := 49) C.1 C.2.1 dX9_lookForField_104 (by decide) ?_
  exact hK49 u x2 x3 x4 x5 (x6 + 1) _ _ hP hD hS _ (lv_sub hl [1, 2, 3, 4, 5, 0] rfl) hf
set_option maxRecDepth 100000 in
set_option maxHeartbeats 4000000 in
theorem bX9_lookForField_L49 {r0 : Int32} {u0 : ST} {K10 : ST → Int32 → Int32 → Int32 → Int32 → Option (Int32 × ST)} (C : Cx p s m args meth c cX9_lookForField 8 RX9 (some .int) g) (hA : ∀ q, s.heap.size ≤ q → A q) (hZ : SF A s) (hK10 : ∀ (u : ST) (x2 : Int32) (x3 : Int32) (x4 : Int32) (x5 : Int32) (H : Heap) (locs : List Loc), va_P g.1 vwCl (mW g ad u) H → va_D A (mW g ad u) → va_S A s.heap H locs → ∀ (ls : Array Slot), lv_has ls 8 [(0, .ref (ad 0)), (2, .int x2), (3, .int x3), (4, .int x4), (5, .int x5)] → K10 u x2 x3 x4 x5 = some (r0, u0) → W p l e (rmW 2 46 0 0) s m args below meth c H locs 0 0 (MQ below (va_Qi (fun r v => r = r0 ∧ v = u0) (BW g A (mW g ad)) A) args s 0 0 A) (F0 m 10 ls [])) : ∀ (n : Nat), ∀ (u : ST) (x2 : Int32) (x3 : Int32) (x4 : Int32) (x5 : Int32) (x6 : Int32) (H : Heap) (locs : List Loc), va_P g.1 vwCl (mW g ad u) H → va_D A (mW g ad u) → va_S A s.heap H locs → ∀ (ls : Array Slot), lv_has ls 8 [(0, .ref (ad 0)), (2, .int x2), (3, .int x3), (4, .int x4), (5, .int x5), (6, .int x6)] → fX9_lookForField_L49 K10 n u x2 x3 x4 x5 x6 = some (r0, u0) → W p l e (rmW 2 46 0 0) s m args below meth c H locs 0 0 (MQ below (va_Qi (fun r v => r = r0 ∧ v = u0) (BW g A (mW g ad)) A) args s 0 0 A) (F0 m 49 ls []) := by
  intro n
  induction n with
  | zero =>
    intro u x2 x3 x4 x5 x6 H locs hP hD hS ls hl hf
    exact absurd hf (by simp [fX9_lookForField_L49])
  | succ n ih =>
    intro u x2 x3 x4 x5 x6 H locs hP hD hS ls hl hf
    rw [fX9_lookForField_L49] at hf
    refine lv_iload C.1 C.2.1 dX9_lookForField_49 (lv_at hl 5 rfl) ?_
    refine lv_aload_n C.1 C.2.1 dX9_lookForField_51 rfl (lv_at hl 0 rfl) ?_
    refine gtm_X9_rows C hP wF_X9_249 dX9_lookForField_52 ?_
    refine lv_icmp_ge (tgt := 107) C.1 C.2.1 dX9_lookForField_55 (by decide) (fun c9 => ?_) (fun c9 => ?_)
    · rw [if_pos c9] at hf
      refine lv_iinc (v := (x5 + 1)) (lv' := [(5, .int (x5 + 1)), (0, .ref (ad 0)), (2, .int x2), (3, .int x3), (4, .int x4), (6, .int x6)]) C.1 C.2.1 dX9_lookForField_107 hl (k := 4) rfl rfl (by decide) rfl (fun ls hl => ?_)
      refine lv_goto (tgt := 10) C.1 C.2.1 dX9_lookForField_110 (by decide) ?_
      exact hK10 u x2 x3 x4 (x5 + 1) _ _ hP hD hS _ (lv_sub hl [1, 2, 3, 4, 0] rfl) hf
    · rw [if_neg c9] at hf
      refine lv_aload_n C.1 C.2.1 dX9_lookForField_58 rfl (lv_at hl 0 rfl) ?_
      refine lv_aload_n C.1 C.2.1 dX9_lookForField_59 rfl (lv_at hl 0 rfl) ?_
      refine gtm_X9_row C hP wF_X9_78 dX9_lookForField_60 ?_
      refine lv_iload C.1 C.2.1 dX9_lookForField_63 (lv_at hl 5 rfl) ?_
      obtain ⟨v10, hv10, hf⟩ := Option.bind_eq_some_iff.mp hf
      refine ldm_24 C hP hv10 dX9_lookForField_65 ?_
      refine lv_iconst (v := 0) C.1 C.2.1 dX9_lookForField_66 (by decide) ?_
      refine lv_iload_n C.1 C.2.1 dX9_lookForField_67 rfl (lv_at hl 1 rfl) ?_
      refine lv_bipush (v := -2) C.1 C.2.1 dX9_lookForField_68 (by decide) ?_
      refine lv_bipush (v := -2) C.1 C.2.1 dX9_lookForField_70 (by decide) ?_
      obtain ⟨v11, hv11, hf⟩ := Option.bind_eq_some_iff.mp hf
      refine cRi (As := [.int v10, .int 0, .int x2, .int (-2), .int (-2)]) (rest := []) C (mX9_ownOf hv11) vX9_ownOf wM_X9_147 ⟨Nat.le_of_ble_eq_true rfl, Nat.le_of_ble_eq_true rfl⟩ hP (rcm_X9 C hP) (fun U hU hW => SF.go hZ hS hU hW (fun _ h => h.elim)) hl.1 rfl rfl (Nat.le_of_ble_eq_true rfl) dX9_lookForField_72 ⟨Nat.le_of_ble_eq_true rfl, Nat.le_of_ble_eq_true rfl⟩ ?_
      refine lv_istore (lv' := [(7, .int v11), (0, .ref (ad 0)), (2, .int x2), (3, .int x3), (4, .int x4), (5, .int x5), (6, .int x6)]) C.1 C.2.1 dX9_lookForField_75 hl (by decide) rfl (fun ls hl => ?_)
      refine lv_iload C.1 C.2.1 dX9_lookForField_77 (lv_at hl 0 rfl) ?_
      refine lv_if_lt (tgt := 101) C.1 C.2.1 dX9_lookForField_79 (by decide) (fun c12 => ?_) (fun c12 => ?_)
      · rw [if_pos c12] at hf
        exact bX9_lookForField_L101 C hA hZ ih hP hD hS (lv_sub hl [1, 2, 3, 4, 5, 6] rfl) hf
      · rw [if_neg c12] at hf
        refine lv_iload_n C.1 C.2.1 dX9_lookForField_82 rfl (lv_at hl 3 rfl) ?_
        refine lv_if_eq (tgt := 98) C.1 C.2.1 dX9_lookForField_83 (by decide) (fun c13 => ?_) (fun c13 => ?_)
        · rw [if_pos c13] at hf
          refine lv_iload C.1 C.2.1 dX9_lookForField_98 (lv_at hl 0 rfl) ?_
          exact endWi C hP hD hS (Nat.le_refl _) (Nat.le_refl _) hf dX9_lookForField_100
        · rw [if_neg c13] at hf
          refine lv_aload_n C.1 C.2.1 dX9_lookForField_86 rfl (lv_at hl 1 rfl) ?_
          refine gtm_X9_mMarks C hP wF_X9_38 dX9_lookForField_87 ?_
          refine lv_iload C.1 C.2.1 dX9_lookForField_90 (lv_at hl 0 rfl) ?_
          obtain ⟨v14, hv14, hf⟩ := Option.bind_eq_some_iff.mp hf
          refine ldm_10 C hP hv14 dX9_lookForField_92 ?_
          refine lv_iconst (v := 4) C.1 C.2.1 dX9_lookForField_93 (by decide) ?_
          refine lv_iand C.1 C.2.1 dX9_lookForField_94 ?_
          refine lv_if_ne (tgt := 101) C.1 C.2.1 dX9_lookForField_95 (by decide) (fun c15 => ?_) (fun c15 => ?_)
          · rw [if_neg c15] at hf
            exact bX9_lookForField_L101 C hA hZ ih hP hD hS (lv_sub hl [1, 2, 3, 4, 5, 6] rfl) hf
          · rw [if_pos c15] at hf
            refine lv_iload C.1 C.2.1 dX9_lookForField_98 (lv_at hl 0 rfl) ?_
            exact endWi C hP hD hS (Nat.le_refl _) (Nat.le_refl _) hf dX9_lookForField_100
set_option maxRecDepth 100000 in
set_option maxHeartbeats 4000000 in
theorem bX9_lookForField_L10 {r0 : Int32} {u0 : ST} (C : Cx p s m args meth c cX9_lookForField 8 RX9 (some .int) g) (hA : ∀ q, s.heap.size ≤ q → A q) (hZ : SF A s) : ∀ (n : Nat), ∀ (u : ST) (x2 : Int32) (x3 : Int32) (x4 : Int32) (x5 : Int32) (H : Heap) (locs : List Loc), va_P g.1 vwCl (mW g ad u) H → va_D A (mW g ad u) → va_S A s.heap H locs → ∀ (ls : Array Slot), lv_has ls 8 [(0, .ref (ad 0)), (2, .int x2), (3, .int x3), (4, .int x4), (5, .int x5)] → fX9_lookForField_L10 n u x2 x3 x4 x5 = some (r0, u0) → W p l e (rmW 2 46 0 0) s m args below meth c H locs 0 0 (MQ below (va_Qi (fun r v => r = r0 ∧ v = u0) (BW g A (mW g ad)) A) args s 0 0 A) (F0 m 10 ls []) := by
  intro n
  induction n with
  | zero =>
    intro u x2 x3 x4 x5 H locs hP hD hS ls hl hf
    exact absurd hf (by simp [fX9_lookForField_L10])
  | succ n ih =>
    intro u x2 x3 x4 x5 H locs hP hD hS ls hl hf
    rw [fX9_lookForField_L10] at hf
    refine lv_iload C.1 C.2.1 dX9_lookForField_10 (lv_at hl 4 rfl) ?_
    refine lv_iload C.1 C.2.1 dX9_lookForField_12 (lv_at hl 3 rfl) ?_
    refine lv_icmp_ge (tgt := 113) C.1 C.2.1 dX9_lookForField_14 (by decide) (fun c3 => ?_) (fun c3 => ?_)
    · rw [if_pos c3] at hf
      refine lv_bipush (v := -2) C.1 C.2.1 dX9_lookForField_113 (by decide) ?_
      exact endWi C hP hD hS (Nat.le_refl _) (Nat.le_refl _) hf dX9_lookForField_115
    · rw [if_neg c3] at hf
      refine lv_aload_n C.1 C.2.1 dX9_lookForField_17 rfl (lv_at hl 0 rfl) ?_
      refine lv_iconst (v := 1) C.1 C.2.1 dX9_lookForField_18 (by decide) ?_
      obtain ⟨u4, hu4, hf⟩ := Option.bind_eq_some_iff.mp hf
      refine ptm_X9_rows C hP hD hS wF_X9_249 dX9_lookForField_19 (fun H locs hP hD hS => ?_)
      rw [Option.some.inj hu4] at hP hD
      refine lv_aload_n C.1 C.2.1 dX9_lookForField_22 rfl (lv_at hl 0 rfl) ?_
      refine gtm_X9_row C hP wF_X9_78 dX9_lookForField_23 ?_
      refine lv_iconst (v := 0) C.1 C.2.1 dX9_lookForField_26 (by decide) ?_
      refine lv_aload_n C.1 C.2.1 dX9_lookForField_27 rfl (lv_at hl 0 rfl) ?_
      refine gtm_X9_chain C hP wF_X9_84 dX9_lookForField_28 ?_
      refine lv_iload C.1 C.2.1 dX9_lookForField_31 (lv_at hl 4 rfl) ?_
      obtain ⟨v5, hv5, hf⟩ := Option.bind_eq_some_iff.mp hf
      refine ldm_27 C hP hv5 dX9_lookForField_33 ?_
      obtain ⟨u6, hu6, hf⟩ := Option.bind_eq_some_iff.mp hf
      refine stm_24 C hP hD hS hu6 dX9_lookForField_34 (fun H locs hP hD hS => ?_)
      refine lv_aload_n C.1 C.2.1 dX9_lookForField_35 rfl (lv_at hl 0 rfl) ?_
      refine lv_aload_n C.1 C.2.1 dX9_lookForField_36 rfl (lv_at hl 0 rfl) ?_
      refine gtm_X9_chain C hP wF_X9_84 dX9_lookForField_37 ?_
      refine lv_iload C.1 C.2.1 dX9_lookForField_40 (lv_at hl 4 rfl) ?_
      obtain ⟨v7, hv7, hf⟩ := Option.bind_eq_some_iff.mp hf
      refine ldm_27 C hP hv7 dX9_lookForField_42 ?_
      obtain ⟨u8, hu8, hf⟩ := Option.bind_eq_some_iff.mp hf
      refine cWv (As := [.int v7]) (rest := []) (mc := 0) (ms := 0) C (mX9_facesOf hu8) vX9_facesOf wM_X9_259 ⟨Nat.le_of_ble_eq_true rfl, Nat.le_of_ble_eq_true rfl⟩ hP hD hS hA hZ (rcm_X9 C hP) hl.1 rfl rfl (Nat.le_of_ble_eq_true rfl) dX9_lookForField_43 ⟨Nat.le_of_ble_eq_true rfl, Nat.le_of_ble_eq_true rfl⟩ (fun H locs hP hD hS => ?_)
      refine lv_iconst (v := 0) C.1 C.2.1 dX9_lookForField_46 (by decide) ?_
      refine lv_istore (lv' := [(6, .int 0), (0, .ref (ad 0)), (2, .int x2), (3, .int x3), (4, .int x4), (5, .int x5)]) C.1 C.2.1 dX9_lookForField_47 hl (by decide) rfl (fun ls hl => ?_)
      exact bX9_lookForField_L49 C hA hZ ih 5000 u8 x2 x3 x4 x5 0 _ _ hP hD hS _ (lv_sub hl [1, 2, 3, 4, 5, 0] rfl) hf
set_option maxRecDepth 100000 in
set_option maxHeartbeats 4000000 in
theorem mX9_lookForField {r0 : Int32} {u0 : ST} {x1 : Int32} {x2 : Int32} {x3 : Int32} (hf : fX9_lookForField u x1 x2 x3 = some (r0, u0)) : MWi l yX9_lookForField cX9_lookForField 8 (some .int) 2 46 0 0 [.ref (ad 0), .int x1, .int x2, .int x3] g (mW g ad) u r0 u0 := by
  refine entW (Qc := fun A => va_Qi (fun r v => r = r0 ∧ v = u0) (BW g A (mW g ad)) A) (by decide) (Nat.le_of_ble_eq_true rfl) ?_
  intro p e s m below meth c ls A C hP hD hS hA hZ hl
  have hl : lv_has ls 8 [(0, .ref (ad 0)), (1, .int x1), (2, .int x2), (3, .int x3)] := hl
  rw [fX9_lookForField] at hf
  refine lv_aload_n C.1 C.2.1 dX9_lookForField_0 rfl (lv_at hl 0 rfl) ?_
  refine lv_iload_n C.1 C.2.1 dX9_lookForField_1 rfl (lv_at hl 1 rfl) ?_
  obtain ⟨v2, u1, hu1, hf⟩ := b2_some hf
  refine cWi (As := [.int x1]) (rest := []) (mc := 0) (ms := 0) C (mX9_chainOf hu1) vX9_chainOf wM_X9_256 ⟨Nat.le_of_ble_eq_true rfl, Nat.le_of_ble_eq_true rfl⟩ hP hD hS hA hZ (rcm_X9 C hP) hl.1 rfl rfl (Nat.le_of_ble_eq_true rfl) dX9_lookForField_2 ⟨Nat.le_of_ble_eq_true rfl, Nat.le_of_ble_eq_true rfl⟩ (fun H locs hP hD hS => ?_)
  refine lv_istore (lv' := [(4, .int v2), (0, .ref (ad 0)), (1, .int x1), (2, .int x2), (3, .int x3)]) C.1 C.2.1 dX9_lookForField_5 hl (by decide) rfl (fun ls hl => ?_)
  refine lv_iconst (v := 0) C.1 C.2.1 dX9_lookForField_7 (by decide) ?_
  refine lv_istore (lv' := [(5, .int 0), (4, .int v2), (0, .ref (ad 0)), (1, .int x1), (2, .int x2), (3, .int x3)]) C.1 C.2.1 dX9_lookForField_8 hl (by decide) rfl (fun ls hl => ?_)
  exact bX9_lookForField_L10 C hA hZ 5000 u1 x2 x3 v2 0 _ _ hP hD hS _ (lv_sub hl [2, 4, 5, 1, 0] rfl) hf
end
theorem vX9_lookForField : YV yX9_lookForField cX9_lookForField 8 (some .int) 3 := ⟨⟨wK_X9_lookForField, wZ_X9, by decide +kernel⟩, wI_X9_lookForField, wV_X9_lookForField⟩
def fX9_comes (u : ST) (x0 : Int32) (x1 : Int64) (x3 : Int32) : Option Int64 :=
  if x0 = 7 then
    ck (!vn_snl2d x1) <|
    some (FP.d2l (x1.toUInt64))
  else
    if x0 = 6 then
      ck (!vn_sni2f ((x1 : Int64).toInt32)) <|
      if x3 = 6 then
        some (FP.f2l (((x1 : Int64).toInt32).toUInt32))
      else
        ck (nn64 (FP.f2d (((x1 : Int64).toInt32).toUInt32))) <|
        some (FP.d2l (FP.f2d (((x1 : Int64).toInt32).toUInt32)))
    else
      if x3 = 6 then
        some (FP.f2l (FP.l2f x1))
      else
        if x3 = 7 then
          some (FP.d2l (FP.l2d x1))
        else
          some x1
section
variable {p : Program} {l : Launch} {e : Env} {s : State} {m : MethodId} {args : Array Value} {below : List Frame} {meth : Method} {c : Code} {H : Heap} {locs : List Loc} {g : GP} {ls : Array Slot} {A : Nat → Prop} {ad : Nat → Nat} {u : ST}
set_option maxRecDepth 100000 in
set_option maxHeartbeats 4000000 in
theorem mX9_comes {r0 : Int64} {x0 : Int32} {x1 : Int64} {x3 : Int32} (hf : fX9_comes u x0 x1 x3 = some r0) : MRl l yX9_comes cX9_comes 5 (some .long) 1 23 [.int x0, .long x1, .int x3] g (mW g ad u) r0 := by
  refine entR (by decide) (Nat.le_of_ble_eq_true rfl) ?_
  intro p e s m below meth c ls C hP hZ hl
  have hl : lv_has ls 5 [(0, .int x0), (1, .long x1), (3, .int x3)] := hl
  rw [fX9_comes] at hf
  refine lv_iload_n C.1 C.2.1 dX9_comes_0 rfl (lv_at hl 0 rfl) ?_
  refine lv_bipush (v := 7) C.1 C.2.1 dX9_comes_1 (by decide) ?_
  refine lv_icmp_ne (tgt := 12) C.1 C.2.1 dX9_comes_3 (by decide) (fun c1 => ?_) (fun c1 => ?_)
  · rw [if_neg c1] at hf
    refine lv_iload_n C.1 C.2.1 dX9_comes_12 rfl (lv_at hl 0 rfl) ?_
    refine lv_bipush (v := 6) C.1 C.2.1 dX9_comes_13 (by decide) ?_
    refine lv_icmp_ne (tgt := 42) C.1 C.2.1 dX9_comes_15 (by decide) (fun c2 => ?_) (fun c2 => ?_)
    · rw [if_neg c2] at hf
      refine lv_iload_n C.1 C.2.1 dX9_comes_42 rfl (lv_at hl 2 rfl) ?_
      refine lv_bipush (v := 6) C.1 C.2.1 dX9_comes_43 (by decide) ?_
      refine lv_icmp_ne (tgt := 54) C.1 C.2.1 dX9_comes_45 (by decide) (fun c3 => ?_) (fun c3 => ?_)
      · rw [if_neg c3] at hf
        refine lv_iload_n C.1 C.2.1 dX9_comes_54 rfl (lv_at hl 2 rfl) ?_
        refine lv_bipush (v := 7) C.1 C.2.1 dX9_comes_55 (by decide) ?_
        refine lv_icmp_ne (tgt := 66) C.1 C.2.1 dX9_comes_57 (by decide) (fun c4 => ?_) (fun c4 => ?_)
        · rw [if_neg c4] at hf
          refine lv_lload_n C.1 C.2.1 dX9_comes_66 rfl (lv_at hl 1 rfl) ?_
          exact endRl C hf dX9_comes_67
        · rw [if_pos c4] at hf
          refine lv_lload_n C.1 C.2.1 dX9_comes_60 rfl (lv_at hl 1 rfl) ?_
          refine lv_l2d C.1 C.2.1 dX9_comes_61 ?_
          refine lv_d2l C.1 C.2.1 dX9_comes_62 ?_
          refine lv_goto (tgt := 67) C.1 C.2.1 dX9_comes_63 (by decide) ?_
          exact endRl C hf dX9_comes_67
      · rw [if_pos c3] at hf
        refine lv_lload_n C.1 C.2.1 dX9_comes_48 rfl (lv_at hl 1 rfl) ?_
        refine lv_l2f C.1 C.2.1 dX9_comes_49 ?_
        refine lv_f2l C.1 C.2.1 dX9_comes_50 ?_
        refine lv_goto (tgt := 67) C.1 C.2.1 dX9_comes_51 (by decide) ?_
        exact endRl C hf dX9_comes_67
    · rw [if_pos c2] at hf
      refine lv_lload_n C.1 C.2.1 dX9_comes_18 rfl (lv_at hl 1 rfl) ?_
      refine lv_l2i C.1 C.2.1 dX9_comes_19 rfl ?_
      obtain ⟨hsn, hf⟩ := ck_some hf
      refine vn_i2f C.1 C.2.1 (C.2.2.1.trans hl.1.symm) C.2.2.2.1 (C.2.2.2.2.1 _ wM_X9_169) (C.2.2.2.2.1 _ wNat_intBitsToFloat) (C.2.2.2.2.1 _ wS_java_lang_Float_intBitsToFloat__I_F) (C.2.2.2.2.1 _ wZ_JF) (by simpa using hsn) (Nat.le_of_ble_eq_true rfl) (Nat.le_of_ble_eq_true rfl) dX9_comes_20 ?_
      refine lv_fstore (lv' := [(4, .float (((x1 : Int64).toInt32).toUInt32)), (0, .int x0), (1, .long x1), (3, .int x3)]) C.1 C.2.1 dX9_comes_23 hl (by decide) rfl (fun ls hl => ?_)
      refine lv_iload_n C.1 C.2.1 dX9_comes_25 rfl (lv_at hl 3 rfl) ?_
      refine lv_bipush (v := 6) C.1 C.2.1 dX9_comes_26 (by decide) ?_
      refine lv_icmp_ne (tgt := 37) C.1 C.2.1 dX9_comes_28 (by decide) (fun c5 => ?_) (fun c5 => ?_)
      · rw [if_neg c5] at hf
        refine lv_fload C.1 C.2.1 dX9_comes_37 (lv_at hl 0 rfl) ?_
        obtain ⟨hne, hf⟩ := ck_some hf
        refine lv_f2d C.1 C.2.1 dX9_comes_39 (nn64_n hne) ?_
        refine lv_d2l C.1 C.2.1 dX9_comes_40 ?_
        exact endRl C hf dX9_comes_41
      · rw [if_pos c5] at hf
        refine lv_fload C.1 C.2.1 dX9_comes_31 (lv_at hl 0 rfl) ?_
        refine lv_f2l C.1 C.2.1 dX9_comes_33 ?_
        refine lv_goto (tgt := 41) C.1 C.2.1 dX9_comes_34 (by decide) ?_
        exact endRl C hf dX9_comes_41
  · rw [if_pos c1] at hf
    refine lv_lload_n C.1 C.2.1 dX9_comes_6 rfl (lv_at hl 1 rfl) ?_
    obtain ⟨hsn, hf⟩ := ck_some hf
    refine vn_l2d C.1 C.2.1 (C.2.2.1.trans hl.1.symm) C.2.2.2.1 (C.2.2.2.2.1 _ wM_X9_165) (C.2.2.2.2.1 _ wNat_longBitsToDouble) (C.2.2.2.2.1 _ wS_java_lang_Double_longBitsToDouble__J_D) (C.2.2.2.2.1 _ wZ_JD) (by simpa using hsn) (Nat.le_of_ble_eq_true rfl) (Nat.le_of_ble_eq_true rfl) dX9_comes_7 ?_
    refine lv_d2l C.1 C.2.1 dX9_comes_10 ?_
    exact endRl C hf dX9_comes_11
end
theorem vX9_comes : YS yX9_comes cX9_comes 5 (some .long) 3 := ⟨⟨wK_X9_comes, wZ_X9, by decide +kernel⟩, wS_X9_comes⟩
def fX9_isUnder_L12 (u : ST) (x1 : Int32) (x2 : Int32) : Option (Int32 × ST) :=
  if x1 = x2 then
    some (1, u)
  else
    some (0, u)
def fX9_isUnder (u : ST) (x1 : Int32) (x2 : Int32) : Option (Int32 × ST) :=
  if x1 = (-2) then
    fX9_isUnder_L12 u x1 x2
  else
    if x2 = (-2) then
      fX9_isUnder_L12 u x1 x2
    else
      b2 (fX9_isBelow u x1 x2) fun v5 u4 =>
      ck (isB v5) (some (v5, u4))
section
variable {p : Program} {l : Launch} {e : Env} {s : State} {m : MethodId} {args : Array Value} {below : List Frame} {meth : Method} {c : Code} {H : Heap} {locs : List Loc} {g : GP} {ls : Array Slot} {A : Nat → Prop} {ad : Nat → Nat} {u : ST}
set_option maxRecDepth 100000 in
set_option maxHeartbeats 4000000 in
theorem bX9_isUnder_L12 {r0 : Int32} {u0 : ST} {x1 : Int32} {x2 : Int32} (C : Cx p s m args meth c cX9_isUnder 3 RX9 (some .boolean) g) (hA : ∀ q, s.heap.size ≤ q → A q) (hZ : SF A s) (hP : va_P g.1 vwCl (mW g ad u) H) (hD : va_D A (mW g ad u)) (hS : va_S A s.heap H locs) (hl : lv_has ls 3 [(1, .int x1), (2, .int x2)]) (hf : fX9_isUnder_L12 u x1 x2 = some (r0, u0)) : W p l e (rmW 2 49 0 0) s m args below meth c H locs 0 0 (MQ below (va_Qi (fun r v => r = r0 ∧ v = u0) (BW g A (mW g ad)) A) args s 0 0 A) (F0 m 12 ls []) := by
  rw [fX9_isUnder_L12] at hf
  refine lv_iload_n C.1 C.2.1 dX9_isUnder_12 rfl (lv_at hl 0 rfl) ?_
  refine lv_iload_n C.1 C.2.1 dX9_isUnder_13 rfl (lv_at hl 1 rfl) ?_
  refine lv_icmp_ne (tgt := 21) C.1 C.2.1 dX9_isUnder_14 (by decide) (fun c2 => ?_) (fun c2 => ?_)
  · rw [if_neg c2] at hf
    refine lv_iconst (v := 0) C.1 C.2.1 dX9_isUnder_21 (by decide) ?_
    refine lv_goto (tgt := 31) C.1 C.2.1 dX9_isUnder_22 (by decide) ?_
    exact endWz C rfl hP hD hS (Nat.le_refl _) (Nat.le_refl _) hf dX9_isUnder_31
  · rw [if_pos c2] at hf
    refine lv_iconst (v := 1) C.1 C.2.1 dX9_isUnder_17 (by decide) ?_
    refine lv_goto (tgt := 31) C.1 C.2.1 dX9_isUnder_18 (by decide) ?_
    exact endWz C rfl hP hD hS (Nat.le_refl _) (Nat.le_refl _) hf dX9_isUnder_31
set_option maxRecDepth 100000 in
set_option maxHeartbeats 4000000 in
theorem mX9_isUnder {r0 : Int32} {u0 : ST} {x1 : Int32} {x2 : Int32} (hf : fX9_isUnder u x1 x2 = some (r0, u0)) : MWi l yX9_isUnder cX9_isUnder 3 (some .boolean) 2 49 0 0 [.ref (ad 0), .int x1, .int x2] g (mW g ad) u r0 u0 := by
  refine entW (Qc := fun A => va_Qi (fun r v => r = r0 ∧ v = u0) (BW g A (mW g ad)) A) (by decide) (Nat.le_of_ble_eq_true rfl) ?_
  intro p e s m below meth c ls A C hP hD hS hA hZ hl
  have hl : lv_has ls 3 [(0, .ref (ad 0)), (1, .int x1), (2, .int x2)] := hl
  rw [fX9_isUnder] at hf
  refine lv_iload_n C.1 C.2.1 dX9_isUnder_0 rfl (lv_at hl 1 rfl) ?_
  refine lv_bipush (v := -2) C.1 C.2.1 dX9_isUnder_1 (by decide) ?_
  refine lv_icmp_eq (tgt := 12) C.1 C.2.1 dX9_isUnder_3 (by decide) (fun c1 => ?_) (fun c1 => ?_)
  · rw [if_pos c1] at hf
    exact bX9_isUnder_L12 C hA hZ hP hD hS (lv_sub hl [1, 2] rfl) hf
  · rw [if_neg c1] at hf
    refine lv_iload_n C.1 C.2.1 dX9_isUnder_6 rfl (lv_at hl 2 rfl) ?_
    refine lv_bipush (v := -2) C.1 C.2.1 dX9_isUnder_7 (by decide) ?_
    refine lv_icmp_ne (tgt := 25) C.1 C.2.1 dX9_isUnder_9 (by decide) (fun c3 => ?_) (fun c3 => ?_)
    · rw [if_neg c3] at hf
      refine lv_aload_n C.1 C.2.1 dX9_isUnder_25 rfl (lv_at hl 0 rfl) ?_
      refine lv_iload_n C.1 C.2.1 dX9_isUnder_26 rfl (lv_at hl 1 rfl) ?_
      refine lv_iload_n C.1 C.2.1 dX9_isUnder_27 rfl (lv_at hl 2 rfl) ?_
      obtain ⟨v5, u4, hu4, hf⟩ := b2_some hf
      refine cWi (As := [.int x1, .int x2]) (rest := []) (mc := 0) (ms := 0) C (mX9_isBelow hu4) vX9_isBelow wM_X9_182 ⟨Nat.le_of_ble_eq_true rfl, Nat.le_of_ble_eq_true rfl⟩ hP hD hS hA hZ (rcm_X9 C hP) hl.1 rfl rfl (Nat.le_of_ble_eq_true rfl) dX9_isUnder_28 ⟨Nat.le_of_ble_eq_true rfl, Nat.le_of_ble_eq_true rfl⟩ (fun H locs hP hD hS => ?_)
      obtain ⟨hB, hf⟩ := ck_some hf
      exact endWz C hB hP hD hS (Nat.le_refl _) (Nat.le_refl _) hf dX9_isUnder_31
    · rw [if_pos c3] at hf
      exact bX9_isUnder_L12 C hA hZ hP hD hS (lv_sub hl [1, 2] rfl) hf
end
theorem vX9_isUnder : YV yX9_isUnder cX9_isUnder 3 (some .boolean) 2 := ⟨⟨wK_X9_isUnder, wZ_X9, by decide +kernel⟩, wI_X9_isUnder, wV_X9_isUnder⟩
def fX9_lookForMethod_L79 (K55 : ST → Int32 → Int32 → Int32 → Int32 → Option (Int32 × ST)) : Nat → ST → Int32 → Int32 → Int32 → Int32 → Int32 → Option (Int32 × ST)
  | 0, _, _, _, _, _, _ => none
  | n + 1, u, x2, x3, x4, x6, x7 =>
    if (sI u 25) ≤ x7 then
      K55 u x2 x3 x4 (x6 + (-1))
    else
      (rdI u 24 4096 x7).bind fun v9 =>
      (fX9_ownOf u v9 1 x2 x3 x4).bind fun v10 =>
      if v10 < 0 then
        fX9_lookForMethod_L79 K55 n u x2 x3 x4 x6 (x7 + 1)
      else
        some (v10, u)
def fX9_lookForMethod_L55 : Nat → ST → Int32 → Int32 → Int32 → Int32 → Option (Int32 × ST)
  | 0, _, _, _, _, _ => none
  | n + 1, u, x2, x3, x4, x6 =>
    if x6 < 0 then
      some ((-2), u)
    else
      (some (uI u 25 0)).bind fun u5 =>
      (rdI u5 27 12 x6).bind fun v6 =>
      (fX9_facesOf u5 v6).bind fun u7 =>
      fX9_lookForMethod_L79 (fX9_lookForMethod_L55 n) 5000 u7 x2 x3 x4 x6 0
def fX9_lookForMethod_L10 : Nat → ST → Int32 → Int32 → Int32 → Int32 → Int32 → Option (Int32 × ST)
  | 0, _, _, _, _, _, _ => none
  | n + 1, u, x2, x3, x4, x5, x6 =>
    if x5 ≤ x6 then
      fX9_lookForMethod_L55 5000 u x2 x3 x4 (x5 - 1)
    else
      (rdI u 27 12 x6).bind fun v12 =>
      (fX9_ownOf u v12 1 x2 x3 x4).bind fun v13 =>
      if v13 < 0 then
        fX9_lookForMethod_L10 n u x2 x3 x4 x5 (x6 + 1)
      else
        some (v13, u)
def fX9_lookForMethod (u : ST) (x1 : Int32) (x2 : Int32) (x3 : Int32) (x4 : Int32) : Option (Int32 × ST) :=
  b2 (fX9_chainOf u x1) fun v2 u1 =>
  fX9_lookForMethod_L10 5000 u1 x2 x3 x4 v2 0
section
variable {p : Program} {l : Launch} {e : Env} {s : State} {m : MethodId} {args : Array Value} {below : List Frame} {meth : Method} {c : Code} {H : Heap} {locs : List Loc} {g : GP} {ls : Array Slot} {A : Nat → Prop} {ad : Nat → Nat} {u : ST}
set_option maxRecDepth 100000 in
set_option maxHeartbeats 4000000 in
theorem bX9_lookForMethod_L79 {r0 : Int32} {u0 : ST} {K55 : ST → Int32 → Int32 → Int32 → Int32 → Option (Int32 × ST)} (C : Cx p s m args meth c cX9_lookForMethod 9 RX9 (some .int) g) (hA : ∀ q, s.heap.size ≤ q → A q) (hZ : SF A s) (hK55 : ∀ (u : ST) (x2 : Int32) (x3 : Int32) (x4 : Int32) (x6 : Int32) (H : Heap) (locs : List Loc), va_P g.1 vwCl (mW g ad u) H → va_D A (mW g ad u) → va_S A s.heap H locs → ∀ (ls : Array Slot), lv_has ls 9 [(0, .ref (ad 0)), (2, .int x2), (3, .int x3), (4, .int x4), (6, .int x6)] → K55 u x2 x3 x4 x6 = some (r0, u0) → W p l e (rmW 2 46 0 0) s m args below meth c H locs 0 0 (MQ below (va_Qi (fun r v => r = r0 ∧ v = u0) (BW g A (mW g ad)) A) args s 0 0 A) (F0 m 55 ls [])) : ∀ (n : Nat), ∀ (u : ST) (x2 : Int32) (x3 : Int32) (x4 : Int32) (x6 : Int32) (x7 : Int32) (H : Heap) (locs : List Loc), va_P g.1 vwCl (mW g ad u) H → va_D A (mW g ad u) → va_S A s.heap H locs → ∀ (ls : Array Slot), lv_has ls 9 [(0, .ref (ad 0)), (2, .int x2), (3, .int x3), (4, .int x4), (6, .int x6), (7, .int x7)] → fX9_lookForMethod_L79 K55 n u x2 x3 x4 x6 x7 = some (r0, u0) → W p l e (rmW 2 46 0 0) s m args below meth c H locs 0 0 (MQ below (va_Qi (fun r v => r = r0 ∧ v = u0) (BW g A (mW g ad)) A) args s 0 0 A) (F0 m 79 ls []) := by
  intro n
  induction n with
  | zero =>
    intro u x2 x3 x4 x6 x7 H locs hP hD hS ls hl hf
    exact absurd hf (by simp [fX9_lookForMethod_L79])
  | succ n ih =>
    intro u x2 x3 x4 x6 x7 H locs hP hD hS ls hl hf
    rw [fX9_lookForMethod_L79] at hf
    refine lv_iload C.1 C.2.1 dX9_lookForMethod_79 (lv_at hl 5 rfl) ?_
    refine lv_aload_n C.1 C.2.1 dX9_lookForMethod_81 rfl (lv_at hl 0 rfl) ?_
    refine gtm_X9_rows C hP wF_X9_249 dX9_lookForMethod_82 ?_
    refine lv_icmp_ge (tgt := 120) C.1 C.2.1 dX9_lookForMethod_85 (by decide) (fun c8 => ?_) (fun c8 => ?_)
    · rw [if_pos c8] at hf
      refine lv_iinc (v := (x6 + (-1))) (lv' := [(6, .int (x6 + (-1))), (0, .ref (ad 0)), (2, .int x2), (3, .int x3), (4, .int x4), (7, .int x7)]) C.1 C.2.1 dX9_lookForMethod_120 hl (k := 4) rfl rfl (by decide) rfl (fun ls hl => ?_)
      refine lv_goto (tgt := 55) C.1 C.2.1 dX9_lookForMethod_123 (by decide) ?_
      exact hK55 u x2 x3 x4 (x6 + (-1)) _ _ hP hD hS _ (lv_sub hl [1, 2, 3, 4, 0] rfl) hf
    · rw [if_neg c8] at hf
      refine lv_aload_n C.1 C.2.1 dX9_lookForMethod_88 rfl (lv_at hl 0 rfl) ?_
      refine lv_aload_n C.1 C.2.1 dX9_lookForMethod_89 rfl (lv_at hl 0 rfl) ?_
      refine gtm_X9_row C hP wF_X9_78 dX9_lookForMethod_90 ?_
      refine lv_iload C.1 C.2.1 dX9_lookForMethod_93 (lv_at hl 5 rfl) ?_
      obtain ⟨v9, hv9, hf⟩ := Option.bind_eq_some_iff.mp hf
      refine ldm_24 C hP hv9 dX9_lookForMethod_95 ?_
      refine lv_iconst (v := 1) C.1 C.2.1 dX9_lookForMethod_96 (by decide) ?_
      refine lv_iload_n C.1 C.2.1 dX9_lookForMethod_97 rfl (lv_at hl 1 rfl) ?_
      refine lv_iload_n C.1 C.2.1 dX9_lookForMethod_98 rfl (lv_at hl 2 rfl) ?_
      refine lv_iload C.1 C.2.1 dX9_lookForMethod_99 (lv_at hl 3 rfl) ?_
      obtain ⟨v10, hv10, hf⟩ := Option.bind_eq_some_iff.mp hf
      refine cRi (As := [.int v9, .int 1, .int x2, .int x3, .int x4]) (rest := []) C (mX9_ownOf hv10) vX9_ownOf wM_X9_147 ⟨Nat.le_of_ble_eq_true rfl, Nat.le_of_ble_eq_true rfl⟩ hP (rcm_X9 C hP) (fun U hU hW => SF.go hZ hS hU hW (fun _ h => h.elim)) hl.1 rfl rfl (Nat.le_of_ble_eq_true rfl) dX9_lookForMethod_101 ⟨Nat.le_of_ble_eq_true rfl, Nat.le_of_ble_eq_true rfl⟩ ?_
      refine lv_istore (lv' := [(8, .int v10), (0, .ref (ad 0)), (2, .int x2), (3, .int x3), (4, .int x4), (6, .int x6), (7, .int x7)]) C.1 C.2.1 dX9_lookForMethod_104 hl (by decide) rfl (fun ls hl => ?_)
      refine lv_iload C.1 C.2.1 dX9_lookForMethod_106 (lv_at hl 0 rfl) ?_
      refine lv_if_lt (tgt := 114) C.1 C.2.1 dX9_lookForMethod_108 (by decide) (fun c11 => ?_) (fun c11 => ?_)
      · rw [if_pos c11] at hf
        refine lv_iinc (v := (x7 + 1)) (lv' := [(7, .int (x7 + 1)), (8, .int v10), (0, .ref (ad 0)), (2, .int x2), (3, .int x3), (4, .int x4), (6, .int x6)]) C.1 C.2.1 dX9_lookForMethod_114 hl (k := 6) rfl rfl (by decide) rfl (fun ls hl => ?_)
        refine lv_goto (tgt := 79) C.1 C.2.1 dX9_lookForMethod_117 (by decide) ?_
        exact ih u x2 x3 x4 x6 (x7 + 1) _ _ hP hD hS _ (lv_sub hl [2, 3, 4, 5, 6, 0] rfl) hf
      · rw [if_neg c11] at hf
        refine lv_iload C.1 C.2.1 dX9_lookForMethod_111 (lv_at hl 0 rfl) ?_
        exact endWi C hP hD hS (Nat.le_refl _) (Nat.le_refl _) hf dX9_lookForMethod_113
set_option maxRecDepth 100000 in
set_option maxHeartbeats 4000000 in
theorem bX9_lookForMethod_L55 {r0 : Int32} {u0 : ST} (C : Cx p s m args meth c cX9_lookForMethod 9 RX9 (some .int) g) (hA : ∀ q, s.heap.size ≤ q → A q) (hZ : SF A s) : ∀ (n : Nat), ∀ (u : ST) (x2 : Int32) (x3 : Int32) (x4 : Int32) (x6 : Int32) (H : Heap) (locs : List Loc), va_P g.1 vwCl (mW g ad u) H → va_D A (mW g ad u) → va_S A s.heap H locs → ∀ (ls : Array Slot), lv_has ls 9 [(0, .ref (ad 0)), (2, .int x2), (3, .int x3), (4, .int x4), (6, .int x6)] → fX9_lookForMethod_L55 n u x2 x3 x4 x6 = some (r0, u0) → W p l e (rmW 2 46 0 0) s m args below meth c H locs 0 0 (MQ below (va_Qi (fun r v => r = r0 ∧ v = u0) (BW g A (mW g ad)) A) args s 0 0 A) (F0 m 55 ls []) := by
  intro n
  induction n with
  | zero =>
    intro u x2 x3 x4 x6 H locs hP hD hS ls hl hf
    exact absurd hf (by simp [fX9_lookForMethod_L55])
  | succ n ih =>
    intro u x2 x3 x4 x6 H locs hP hD hS ls hl hf
    rw [fX9_lookForMethod_L55] at hf
    refine lv_iload C.1 C.2.1 dX9_lookForMethod_55 (lv_at hl 4 rfl) ?_
    refine lv_if_lt (tgt := 126) C.1 C.2.1 dX9_lookForMethod_57 (by decide) (fun c4 => ?_) (fun c4 => ?_)
    · rw [if_pos c4] at hf
      refine lv_bipush (v := -2) C.1 C.2.1 dX9_lookForMethod_126 (by decide) ?_
      exact endWi C hP hD hS (Nat.le_refl _) (Nat.le_refl _) hf dX9_lookForMethod_128
    · rw [if_neg c4] at hf
      refine lv_aload_n C.1 C.2.1 dX9_lookForMethod_60 rfl (lv_at hl 0 rfl) ?_
      refine lv_iconst (v := 0) C.1 C.2.1 dX9_lookForMethod_61 (by decide) ?_
      obtain ⟨u5, hu5, hf⟩ := Option.bind_eq_some_iff.mp hf
      refine ptm_X9_rows C hP hD hS wF_X9_249 dX9_lookForMethod_62 (fun H locs hP hD hS => ?_)
      rw [Option.some.inj hu5] at hP hD
      refine lv_aload_n C.1 C.2.1 dX9_lookForMethod_65 rfl (lv_at hl 0 rfl) ?_
      refine lv_aload_n C.1 C.2.1 dX9_lookForMethod_66 rfl (lv_at hl 0 rfl) ?_
      refine gtm_X9_chain C hP wF_X9_84 dX9_lookForMethod_67 ?_
      refine lv_iload C.1 C.2.1 dX9_lookForMethod_70 (lv_at hl 4 rfl) ?_
      obtain ⟨v6, hv6, hf⟩ := Option.bind_eq_some_iff.mp hf
      refine ldm_27 C hP hv6 dX9_lookForMethod_72 ?_
      obtain ⟨u7, hu7, hf⟩ := Option.bind_eq_some_iff.mp hf
      refine cWv (As := [.int v6]) (rest := []) (mc := 0) (ms := 0) C (mX9_facesOf hu7) vX9_facesOf wM_X9_259 ⟨Nat.le_of_ble_eq_true rfl, Nat.le_of_ble_eq_true rfl⟩ hP hD hS hA hZ (rcm_X9 C hP) hl.1 rfl rfl (Nat.le_of_ble_eq_true rfl) dX9_lookForMethod_73 ⟨Nat.le_of_ble_eq_true rfl, Nat.le_of_ble_eq_true rfl⟩ (fun H locs hP hD hS => ?_)
      refine lv_iconst (v := 0) C.1 C.2.1 dX9_lookForMethod_76 (by decide) ?_
      refine lv_istore (lv' := [(7, .int 0), (0, .ref (ad 0)), (2, .int x2), (3, .int x3), (4, .int x4), (6, .int x6)]) C.1 C.2.1 dX9_lookForMethod_77 hl (by decide) rfl (fun ls hl => ?_)
      exact bX9_lookForMethod_L79 C hA hZ ih 5000 u7 x2 x3 x4 x6 0 _ _ hP hD hS _ (lv_sub hl [1, 2, 3, 4, 5, 0] rfl) hf
set_option maxRecDepth 100000 in
set_option maxHeartbeats 4000000 in
theorem bX9_lookForMethod_L10 {r0 : Int32} {u0 : ST} (C : Cx p s m args meth c cX9_lookForMethod 9 RX9 (some .int) g) (hA : ∀ q, s.heap.size ≤ q → A q) (hZ : SF A s) : ∀ (n : Nat), ∀ (u : ST) (x2 : Int32) (x3 : Int32) (x4 : Int32) (x5 : Int32) (x6 : Int32) (H : Heap) (locs : List Loc), va_P g.1 vwCl (mW g ad u) H → va_D A (mW g ad u) → va_S A s.heap H locs → ∀ (ls : Array Slot), lv_has ls 9 [(0, .ref (ad 0)), (2, .int x2), (3, .int x3), (4, .int x4), (5, .int x5), (6, .int x6)] → fX9_lookForMethod_L10 n u x2 x3 x4 x5 x6 = some (r0, u0) → W p l e (rmW 2 46 0 0) s m args below meth c H locs 0 0 (MQ below (va_Qi (fun r v => r = r0 ∧ v = u0) (BW g A (mW g ad)) A) args s 0 0 A) (F0 m 10 ls []) := by
  intro n
  induction n with
  | zero =>
    intro u x2 x3 x4 x5 x6 H locs hP hD hS ls hl hf
    exact absurd hf (by simp [fX9_lookForMethod_L10])
  | succ n ih =>
    intro u x2 x3 x4 x5 x6 H locs hP hD hS ls hl hf
    rw [fX9_lookForMethod_L10] at hf
    refine lv_iload C.1 C.2.1 dX9_lookForMethod_10 (lv_at hl 5 rfl) ?_
    refine lv_iload C.1 C.2.1 dX9_lookForMethod_12 (lv_at hl 4 rfl) ?_
    refine lv_icmp_ge (tgt := 49) C.1 C.2.1 dX9_lookForMethod_14 (by decide) (fun c3 => ?_) (fun c3 => ?_)
    · rw [if_pos c3] at hf
      refine lv_iload C.1 C.2.1 dX9_lookForMethod_49 (lv_at hl 4 rfl) ?_
      refine lv_iconst (v := 1) C.1 C.2.1 dX9_lookForMethod_51 (by decide) ?_
      refine lv_isub C.1 C.2.1 dX9_lookForMethod_52 ?_
      refine lv_istore (lv' := [(6, .int (x5 - 1)), (0, .ref (ad 0)), (2, .int x2), (3, .int x3), (4, .int x4), (5, .int x5)]) C.1 C.2.1 dX9_lookForMethod_53 hl (by decide) rfl (fun ls hl => ?_)
      exact bX9_lookForMethod_L55 C hA hZ 5000 u x2 x3 x4 (x5 - 1) _ _ hP hD hS _ (lv_sub hl [1, 2, 3, 4, 0] rfl) hf
    · rw [if_neg c3] at hf
      refine lv_aload_n C.1 C.2.1 dX9_lookForMethod_17 rfl (lv_at hl 0 rfl) ?_
      refine lv_aload_n C.1 C.2.1 dX9_lookForMethod_18 rfl (lv_at hl 0 rfl) ?_
      refine gtm_X9_chain C hP wF_X9_84 dX9_lookForMethod_19 ?_
      refine lv_iload C.1 C.2.1 dX9_lookForMethod_22 (lv_at hl 5 rfl) ?_
      obtain ⟨v12, hv12, hf⟩ := Option.bind_eq_some_iff.mp hf
      refine ldm_27 C hP hv12 dX9_lookForMethod_24 ?_
      refine lv_iconst (v := 1) C.1 C.2.1 dX9_lookForMethod_25 (by decide) ?_
      refine lv_iload_n C.1 C.2.1 dX9_lookForMethod_26 rfl (lv_at hl 1 rfl) ?_
      refine lv_iload_n C.1 C.2.1 dX9_lookForMethod_27 rfl (lv_at hl 2 rfl) ?_
      refine lv_iload C.1 C.2.1 dX9_lookForMethod_28 (lv_at hl 3 rfl) ?_
      obtain ⟨v13, hv13, hf⟩ := Option.bind_eq_some_iff.mp hf
      refine cRi (As := [.int v12, .int 1, .int x2, .int x3, .int x4]) (rest := []) C (mX9_ownOf hv13) vX9_ownOf wM_X9_147 ⟨Nat.le_of_ble_eq_true rfl, Nat.le_of_ble_eq_true rfl⟩ hP (rcm_X9 C hP) (fun U hU hW => SF.go hZ hS hU hW (fun _ h => h.elim)) hl.1 rfl rfl (Nat.le_of_ble_eq_true rfl) dX9_lookForMethod_30 ⟨Nat.le_of_ble_eq_true rfl, Nat.le_of_ble_eq_true rfl⟩ ?_
      refine lv_istore (lv' := [(7, .int v13), (0, .ref (ad 0)), (2, .int x2), (3, .int x3), (4, .int x4), (5, .int x5), (6, .int x6)]) C.1 C.2.1 dX9_lookForMethod_33 hl (by decide) rfl (fun ls hl => ?_)
      refine lv_iload C.1 C.2.1 dX9_lookForMethod_35 (lv_at hl 0 rfl) ?_
      refine lv_if_lt (tgt := 43) C.1 C.2.1 dX9_lookForMethod_37 (by decide) (fun c14 => ?_) (fun c14 => ?_)
      · rw [if_pos c14] at hf
        refine lv_iinc (v := (x6 + 1)) (lv' := [(6, .int (x6 + 1)), (7, .int v13), (0, .ref (ad 0)), (2, .int x2), (3, .int x3), (4, .int x4), (5, .int x5)]) C.1 C.2.1 dX9_lookForMethod_43 hl (k := 6) rfl rfl (by decide) rfl (fun ls hl => ?_)
        refine lv_goto (tgt := 10) C.1 C.2.1 dX9_lookForMethod_46 (by decide) ?_
        exact ih u x2 x3 x4 x5 (x6 + 1) _ _ hP hD hS _ (lv_sub hl [2, 3, 4, 5, 6, 0] rfl) hf
      · rw [if_neg c14] at hf
        refine lv_iload C.1 C.2.1 dX9_lookForMethod_40 (lv_at hl 0 rfl) ?_
        exact endWi C hP hD hS (Nat.le_refl _) (Nat.le_refl _) hf dX9_lookForMethod_42
set_option maxRecDepth 100000 in
set_option maxHeartbeats 4000000 in
theorem mX9_lookForMethod {r0 : Int32} {u0 : ST} {x1 : Int32} {x2 : Int32} {x3 : Int32} {x4 : Int32} (hf : fX9_lookForMethod u x1 x2 x3 x4 = some (r0, u0)) : MWi l yX9_lookForMethod cX9_lookForMethod 9 (some .int) 2 46 0 0 [.ref (ad 0), .int x1, .int x2, .int x3, .int x4] g (mW g ad) u r0 u0 := by
  refine entW (Qc := fun A => va_Qi (fun r v => r = r0 ∧ v = u0) (BW g A (mW g ad)) A) (by decide) (Nat.le_of_ble_eq_true rfl) ?_
  intro p e s m below meth c ls A C hP hD hS hA hZ hl
  have hl : lv_has ls 9 [(0, .ref (ad 0)), (1, .int x1), (2, .int x2), (3, .int x3), (4, .int x4)] := hl
  rw [fX9_lookForMethod] at hf
  refine lv_aload_n C.1 C.2.1 dX9_lookForMethod_0 rfl (lv_at hl 0 rfl) ?_
  refine lv_iload_n C.1 C.2.1 dX9_lookForMethod_1 rfl (lv_at hl 1 rfl) ?_
  obtain ⟨v2, u1, hu1, hf⟩ := b2_some hf
  refine cWi (As := [.int x1]) (rest := []) (mc := 0) (ms := 0) C (mX9_chainOf hu1) vX9_chainOf wM_X9_256 ⟨Nat.le_of_ble_eq_true rfl, Nat.le_of_ble_eq_true rfl⟩ hP hD hS hA hZ (rcm_X9 C hP) hl.1 rfl rfl (Nat.le_of_ble_eq_true rfl) dX9_lookForMethod_2 ⟨Nat.le_of_ble_eq_true rfl, Nat.le_of_ble_eq_true rfl⟩ (fun H locs hP hD hS => ?_)
  refine lv_istore (lv' := [(5, .int v2), (0, .ref (ad 0)), (1, .int x1), (2, .int x2), (3, .int x3), (4, .int x4)]) C.1 C.2.1 dX9_lookForMethod_5 hl (by decide) rfl (fun ls hl => ?_)
  refine lv_iconst (v := 0) C.1 C.2.1 dX9_lookForMethod_7 (by decide) ?_
  refine lv_istore (lv' := [(6, .int 0), (5, .int v2), (0, .ref (ad 0)), (1, .int x1), (2, .int x2), (3, .int x3), (4, .int x4)]) C.1 C.2.1 dX9_lookForMethod_8 hl (by decide) rfl (fun ls hl => ?_)
  exact bX9_lookForMethod_L10 C hA hZ 5000 u1 x2 x3 x4 v2 0 _ _ hP hD hS _ (lv_sub hl [2, 4, 5, 6, 1, 0] rfl) hf
end
theorem vX9_lookForMethod : YV yX9_lookForMethod cX9_lookForMethod 9 (some .int) 4 := ⟨⟨wK_X9_lookForMethod, wZ_X9, by decide +kernel⟩, wI_X9_lookForMethod, wV_X9_lookForMethod⟩
def fX9_makingCall_L324 (u : ST) (y1 : Int32) (y2 : Int32) : Option (Int32 × ST) :=
  (stZ u 38 25 y1 y2).bind fun u15 =>
  some (0, u15)
def fX9_makingCall_L259 (K163 : ST → Int32 → Int32 → Int32 → Option (Int32 × ST)) (u : ST) (x1 : Int32) (x2 : Int32) (x7 : Int32) (x8 : Int32) : Option (Int32 × ST) :=
  if x8 = 0 then
    K163 u x1 x2 (x7 + 1)
  else
    (rdI u 1 12 x2).bind fun v7 =>
    (stZ u 39 25 x1 v7).bind fun u8 =>
    (rdI u8 12 60 x7).bind fun v9 =>
    (stI u8 34 25 x1 v9).bind fun u10 =>
    (rdI u10 13 60 x7).bind fun v11 =>
    (stI u10 35 25 x1 v11).bind fun u12 =>
    (rdI u12 10 60 x7).bind fun v13 =>
    if (v13 &&& 1) = 0 then
      fX9_makingCall_L324 u12 x1 0
    else
      fX9_makingCall_L324 u12 x1 1
def fX9_makingCall_L251 (K182 : ST → Int32 → Int32 → Int32 → Int32 → Int32 → Option (Int32 × ST)) (u : ST) (x1 : Int32) (x2 : Int32) (x7 : Int32) (x9 : Int32) (y0 : Int32) : Option (Int32 × ST) :=
  K182 u x1 x2 x7 y0 (x9 + 1)
def fX9_makingCall_L246 (K182 : ST → Int32 → Int32 → Int32 → Int32 → Int32 → Option (Int32 × ST)) (u : ST) (x1 : Int32) (x2 : Int32) (x7 : Int32) (x9 : Int32) : Option (Int32 × ST) :=
  fX9_makingCall_L251 K182 u x1 x2 x7 x9 1
def fX9_makingCall_L250 (K182 : ST → Int32 → Int32 → Int32 → Int32 → Int32 → Option (Int32 × ST)) (u : ST) (x1 : Int32) (x2 : Int32) (x7 : Int32) (x9 : Int32) : Option (Int32 × ST) :=
  fX9_makingCall_L251 K182 u x1 x2 x7 x9 0
def fX9_makingCall_L182 (K163 : ST → Int32 → Int32 → Int32 → Option (Int32 × ST)) : Nat → ST → Int32 → Int32 → Int32 → Int32 → Int32 → Option (Int32 × ST)
  | 0, _, _, _, _, _, _ => none
  | n + 1, u, x1, x2, x7, x8, x9 =>
    if 60 ≤ x9 then
      fX9_makingCall_L259 K163 u x1 x2 x7 x8
    else
      if x8 = 0 then
        fX9_makingCall_L259 K163 u x1 x2 x7 x8
      else
        (rdI u 42 60 x9).bind fun v17 =>
        if v17 = 0 then
          fX9_makingCall_L246 (fX9_makingCall_L182 K163 n) u x1 x2 x7 x9
        else
          (rdI u 12 60 x7).bind fun v19 =>
          (rdI u 12 60 x9).bind fun v20 =>
          b2 (fX9_isUnder u v19 v20) fun v22 u21 =>
          if v22 = 0 then
            fX9_makingCall_L250 (fX9_makingCall_L182 K163 n) u21 x1 x2 x7 x9
          else
            (rdI u21 13 60 x7).bind fun v24 =>
            (rdI u21 13 60 x9).bind fun v25 =>
            b2 (fX9_isUnder u21 v24 v25) fun v27 u26 =>
            if v27 = 0 then
              fX9_makingCall_L250 (fX9_makingCall_L182 K163 n) u26 x1 x2 x7 x9
            else
              fX9_makingCall_L246 (fX9_makingCall_L182 K163 n) u26 x1 x2 x7 x9
def fX9_makingCall_L163 : Nat → ST → Int32 → Int32 → Int32 → Option (Int32 × ST)
  | 0, _, _, _, _ => none
  | n + 1, u, x1, x2, x7 =>
    if 60 ≤ x7 then
      some (2, u)
    else
      (rdI u 42 60 x7).bind fun v4 =>
      fX9_makingCall_L182 (fX9_makingCall_L163 n) 5000 u x1 x2 x7 v4 0
def fX9_makingCall_L143 (K7 : ST → Int32 → Int32 → Int32 → Int32 → Int32 → Int32 → Int32 → Option (Int32 × ST)) (u : ST) (x1 : Int32) (x2 : Int32) (x3 : Int32) (x4 : Int32) (x5 : Int32) (x7 : Int32) (y0 : Int32) : Option (Int32 × ST) :=
  K7 u x1 x2 x3 x4 x5 y0 (x7 + 1)
def fX9_makingCall_L125 (K7 : ST → Int32 → Int32 → Int32 → Int32 → Int32 → Int32 → Int32 → Option (Int32 × ST)) (u : ST) (x1 : Int32) (x2 : Int32) (x3 : Int32) (x4 : Int32) (x5 : Int32) (x6 : Int32) (x7 : Int32) (y1 : Int32) (y2 : Int32) : Option (Int32 × ST) :=
  (stZ u 42 60 y1 y2).bind fun u31 =>
  (rdI u31 42 60 x7).bind fun v32 =>
  if v32 = 0 then
    fX9_makingCall_L143 K7 u31 x1 x2 x3 x4 x5 x7 x6
  else
    fX9_makingCall_L143 K7 u31 x1 x2 x3 x4 x5 x7 x7
def fX9_makingCall_L124 (K7 : ST → Int32 → Int32 → Int32 → Int32 → Int32 → Int32 → Int32 → Option (Int32 × ST)) (u : ST) (x1 : Int32) (x2 : Int32) (x3 : Int32) (x4 : Int32) (x5 : Int32) (x6 : Int32) (x7 : Int32) (y1 : Int32) : Option (Int32 × ST) :=
  fX9_makingCall_L125 K7 u x1 x2 x3 x4 x5 x6 x7 y1 0
def fX9_makingCall_L7 : Nat → ST → Int32 → Int32 → Int32 → Int32 → Int32 → Int32 → Int32 → Option (Int32 × ST)
  | 0, _, _, _, _, _, _, _, _ => none
  | n + 1, u, x1, x2, x3, x4, x5, x6, x7 =>
    if 60 ≤ x7 then
      if x6 = (-2) then
        some (1, u)
      else
        fX9_makingCall_L163 5000 u x1 x2 0
    else
      (rdI u 6 60 x7).bind fun v29 =>
      if v29 = 0 then
        fX9_makingCall_L124 (fX9_makingCall_L7 n) u x1 x2 x3 x4 x5 x6 x7 x7
      else
        (rdI u 7 60 x7).bind fun v34 =>
        if v34 = 0 then
          fX9_makingCall_L124 (fX9_makingCall_L7 n) u x1 x2 x3 x4 x5 x6 x7 x7
        else
          (rdI u 9 60 x7).bind fun v36 =>
          if v36 = x3 then
            (rdI u 10 60 x7).bind fun v38 =>
            if (v38 &&& 4) = 0 then
              (rdI u 12 60 x7).bind fun v40 =>
              b2 (fX9_isUnder u x4 v40) fun v42 u41 =>
              if v42 = 0 then
                fX9_makingCall_L124 (fX9_makingCall_L7 n) u41 x1 x2 x3 x4 x5 x6 x7 x7
              else
                (rdI u41 13 60 x7).bind fun v44 =>
                b2 (fX9_isUnder u41 x5 v44) fun v46 u45 =>
                if v46 = 0 then
                  fX9_makingCall_L124 (fX9_makingCall_L7 n) u45 x1 x2 x3 x4 x5 x6 x7 x7
                else
                  (rdI u45 12 60 x7).bind fun v48 =>
                  (rdI u45 13 60 x7).bind fun v49 =>
                  b2 (fX9_lookForMethod u45 x2 x3 v48 v49) fun v51 u50 =>
                  if v51 = x7 then
                    fX9_makingCall_L125 (fX9_makingCall_L7 n) u50 x1 x2 x3 x4 x5 x6 x7 x7 1
                  else
                    fX9_makingCall_L124 (fX9_makingCall_L7 n) u50 x1 x2 x3 x4 x5 x6 x7 x7
            else
              fX9_makingCall_L124 (fX9_makingCall_L7 n) u x1 x2 x3 x4 x5 x6 x7 x7
          else
            fX9_makingCall_L124 (fX9_makingCall_L7 n) u x1 x2 x3 x4 x5 x6 x7 x7
def fX9_makingCall (u : ST) (x1 : Int32) (x2 : Int32) (x3 : Int32) (x4 : Int32) (x5 : Int32) : Option (Int32 × ST) :=
  fX9_makingCall_L7 5000 u x1 x2 x3 x4 x5 (-2) 0
section
variable {p : Program} {l : Launch} {e : Env} {s : State} {m : MethodId} {args : Array Value} {below : List Frame} {meth : Method} {c : Code} {H : Heap} {locs : List Loc} {g : GP} {ls : Array Slot} {A : Nat → Prop} {ad : Nat → Nat} {u : ST}
set_option maxRecDepth 100000 in
set_option maxHeartbeats 4000000 in
theorem bX9_makingCall_L324 {r0 : Int32} {u0 : ST} {y1 : Int32} {y2 : Int32} (C : Cx p s m args meth c cX9_makingCall 10 RX9 (some .int) g) (hA : ∀ q, s.heap.size ≤ q → A q) (hZ : SF A s) (hP : va_P g.1 vwCl (mW g ad u) H) (hD : va_D A (mW g ad u)) (hS : va_S A s.heap H locs) (hl : lv_has ls 10 []) (hf : fX9_makingCall_L324 u y1 y2 = some (r0, u0)) : W p l e (rmW 3 74 0 0) s m args below meth c H locs 0 0 (MQ below (va_Qi (fun r v => r = r0 ∧ v = u0) (BW g A (mW g ad)) A) args s 0 0 A) (F0 m 324 ls [.int y2, .int y1, .ref (ad 38)]) := by
  rw [fX9_makingCall_L324] at hf
  obtain ⟨u15, hu15, hf⟩ := Option.bind_eq_some_iff.mp hf
  refine stm_38 C hP hD hS hu15 dX9_makingCall_324 (fun H locs hP hD hS => ?_)
  refine lv_iconst (v := 0) C.1 C.2.1 dX9_makingCall_325 (by decide) ?_
  exact endWi C hP hD hS (Nat.le_refl _) (Nat.le_refl _) hf dX9_makingCall_326
set_option maxRecDepth 100000 in
set_option maxHeartbeats 4000000 in
theorem bX9_makingCall_L259 {r0 : Int32} {u0 : ST} {K163 : ST → Int32 → Int32 → Int32 → Option (Int32 × ST)} {x1 : Int32} {x2 : Int32} {x7 : Int32} {x8 : Int32} (C : Cx p s m args meth c cX9_makingCall 10 RX9 (some .int) g) (hA : ∀ q, s.heap.size ≤ q → A q) (hZ : SF A s) (hK163 : ∀ (u : ST) (x1 : Int32) (x2 : Int32) (x7 : Int32) (H : Heap) (locs : List Loc), va_P g.1 vwCl (mW g ad u) H → va_D A (mW g ad u) → va_S A s.heap H locs → ∀ (ls : Array Slot), lv_has ls 10 [(0, .ref (ad 0)), (1, .int x1), (2, .int x2), (7, .int x7)] → K163 u x1 x2 x7 = some (r0, u0) → W p l e (rmW 3 74 0 0) s m args below meth c H locs 0 0 (MQ below (va_Qi (fun r v => r = r0 ∧ v = u0) (BW g A (mW g ad)) A) args s 0 0 A) (F0 m 163 ls [])) (hP : va_P g.1 vwCl (mW g ad u) H) (hD : va_D A (mW g ad u)) (hS : va_S A s.heap H locs) (hl : lv_has ls 10 [(0, .ref (ad 0)), (1, .int x1), (2, .int x2), (7, .int x7), (8, .int x8)]) (hf : fX9_makingCall_L259 K163 u x1 x2 x7 x8 = some (r0, u0)) : W p l e (rmW 3 74 0 0) s m args below meth c H locs 0 0 (MQ below (va_Qi (fun r v => r = r0 ∧ v = u0) (BW g A (mW g ad)) A) args s 0 0 A) (F0 m 259 ls []) := by
  rw [fX9_makingCall_L259] at hf
  refine lv_iload C.1 C.2.1 dX9_makingCall_259 (lv_at hl 4 rfl) ?_
  refine lv_if_eq (tgt := 327) C.1 C.2.1 dX9_makingCall_261 (by decide) (fun c6 => ?_) (fun c6 => ?_)
  · rw [if_pos c6] at hf
    refine lv_iinc (v := (x7 + 1)) (lv' := [(7, .int (x7 + 1)), (0, .ref (ad 0)), (1, .int x1), (2, .int x2), (8, .int x8)]) C.1 C.2.1 dX9_makingCall_327 hl (k := 3) rfl rfl (by decide) rfl (fun ls hl => ?_)
    refine lv_goto (tgt := 163) C.1 C.2.1 dX9_makingCall_330 (by decide) ?_
    exact hK163 u x1 x2 (x7 + 1) _ _ hP hD hS _ (lv_sub hl [1, 2, 3, 0] rfl) hf
  · rw [if_neg c6] at hf
    refine lv_aload_n C.1 C.2.1 dX9_makingCall_264 rfl (lv_at hl 0 rfl) ?_
    refine gtm_X9_cFace C hP wF_X9_117 dX9_makingCall_265 ?_
    refine lv_iload_n C.1 C.2.1 dX9_makingCall_268 rfl (lv_at hl 1 rfl) ?_
    refine lv_aload_n C.1 C.2.1 dX9_makingCall_269 rfl (lv_at hl 0 rfl) ?_
    refine gtm_X9_isFace C hP wF_X9_7 dX9_makingCall_270 ?_
    refine lv_iload_n C.1 C.2.1 dX9_makingCall_273 rfl (lv_at hl 2 rfl) ?_
    obtain ⟨v7, hv7, hf⟩ := Option.bind_eq_some_iff.mp hf
    refine ldm_1 C hP hv7 dX9_makingCall_274 ?_
    obtain ⟨u8, hu8, hf⟩ := Option.bind_eq_some_iff.mp hf
    refine stm_39 C hP hD hS hu8 dX9_makingCall_275 (fun H locs hP hD hS => ?_)
    refine lv_aload_n C.1 C.2.1 dX9_makingCall_276 rfl (lv_at hl 0 rfl) ?_
    refine gtm_X9_cFirst C hP wF_X9_102 dX9_makingCall_277 ?_
    refine lv_iload_n C.1 C.2.1 dX9_makingCall_280 rfl (lv_at hl 1 rfl) ?_
    refine lv_aload_n C.1 C.2.1 dX9_makingCall_281 rfl (lv_at hl 0 rfl) ?_
    refine gtm_X9_mFirst C hP wF_X9_44 dX9_makingCall_282 ?_
    refine lv_iload C.1 C.2.1 dX9_makingCall_285 (lv_at hl 3 rfl) ?_
    obtain ⟨v9, hv9, hf⟩ := Option.bind_eq_some_iff.mp hf
    refine ldm_12 C hP hv9 dX9_makingCall_287 ?_
    obtain ⟨u10, hu10, hf⟩ := Option.bind_eq_some_iff.mp hf
    refine stm_34 C hP hD hS hu10 dX9_makingCall_288 (fun H locs hP hD hS => ?_)
    refine lv_aload_n C.1 C.2.1 dX9_makingCall_289 rfl (lv_at hl 0 rfl) ?_
    refine gtm_X9_cSecond C hP wF_X9_105 dX9_makingCall_290 ?_
    refine lv_iload_n C.1 C.2.1 dX9_makingCall_293 rfl (lv_at hl 1 rfl) ?_
    refine lv_aload_n C.1 C.2.1 dX9_makingCall_294 rfl (lv_at hl 0 rfl) ?_
    refine gtm_X9_mSecond C hP wF_X9_47 dX9_makingCall_295 ?_
    refine lv_iload C.1 C.2.1 dX9_makingCall_298 (lv_at hl 3 rfl) ?_
    obtain ⟨v11, hv11, hf⟩ := Option.bind_eq_some_iff.mp hf
    refine ldm_13 C hP hv11 dX9_makingCall_300 ?_
    obtain ⟨u12, hu12, hf⟩ := Option.bind_eq_some_iff.mp hf
    refine stm_35 C hP hD hS hu12 dX9_makingCall_301 (fun H locs hP hD hS => ?_)
    refine lv_aload_n C.1 C.2.1 dX9_makingCall_302 rfl (lv_at hl 0 rfl) ?_
    refine gtm_X9_cStatic C hP wF_X9_114 dX9_makingCall_303 ?_
    refine lv_iload_n C.1 C.2.1 dX9_makingCall_306 rfl (lv_at hl 1 rfl) ?_
    refine lv_aload_n C.1 C.2.1 dX9_makingCall_307 rfl (lv_at hl 0 rfl) ?_
    refine gtm_X9_mMarks C hP wF_X9_38 dX9_makingCall_308 ?_
    refine lv_iload C.1 C.2.1 dX9_makingCall_311 (lv_at hl 3 rfl) ?_
    obtain ⟨v13, hv13, hf⟩ := Option.bind_eq_some_iff.mp hf
    refine ldm_10 C hP hv13 dX9_makingCall_313 ?_
    refine lv_iconst (v := 1) C.1 C.2.1 dX9_makingCall_314 (by decide) ?_
    refine lv_iand C.1 C.2.1 dX9_makingCall_315 ?_
    refine lv_if_eq (tgt := 323) C.1 C.2.1 dX9_makingCall_316 (by decide) (fun c14 => ?_) (fun c14 => ?_)
    · rw [if_pos c14] at hf
      refine lv_iconst (v := 0) C.1 C.2.1 dX9_makingCall_323 (by decide) ?_
      exact bX9_makingCall_L324 C hA hZ hP hD hS (lv_sub hl [] rfl) hf
    · rw [if_neg c14] at hf
      refine lv_iconst (v := 1) C.1 C.2.1 dX9_makingCall_319 (by decide) ?_
      refine lv_goto (tgt := 324) C.1 C.2.1 dX9_makingCall_320 (by decide) ?_
      exact bX9_makingCall_L324 C hA hZ hP hD hS (lv_sub hl [] rfl) hf
set_option maxRecDepth 100000 in
set_option maxHeartbeats 4000000 in
theorem bX9_makingCall_L251 {r0 : Int32} {u0 : ST} {K182 : ST → Int32 → Int32 → Int32 → Int32 → Int32 → Option (Int32 × ST)} {x1 : Int32} {x2 : Int32} {x7 : Int32} {x9 : Int32} {y0 : Int32} (C : Cx p s m args meth c cX9_makingCall 10 RX9 (some .int) g) (hA : ∀ q, s.heap.size ≤ q → A q) (hZ : SF A s) (hK182 : ∀ (u : ST) (x1 : Int32) (x2 : Int32) (x7 : Int32) (x8 : Int32) (x9 : Int32) (H : Heap) (locs : List Loc), va_P g.1 vwCl (mW g ad u) H → va_D A (mW g ad u) → va_S A s.heap H locs → ∀ (ls : Array Slot), lv_has ls 10 [(0, .ref (ad 0)), (1, .int x1), (2, .int x2), (7, .int x7), (8, .int x8), (9, .int x9)] → K182 u x1 x2 x7 x8 x9 = some (r0, u0) → W p l e (rmW 3 74 0 0) s m args below meth c H locs 0 0 (MQ below (va_Qi (fun r v => r = r0 ∧ v = u0) (BW g A (mW g ad)) A) args s 0 0 A) (F0 m 182 ls [])) (hP : va_P g.1 vwCl (mW g ad u) H) (hD : va_D A (mW g ad u)) (hS : va_S A s.heap H locs) (hl : lv_has ls 10 [(0, .ref (ad 0)), (1, .int x1), (2, .int x2), (7, .int x7), (9, .int x9)]) (hf : fX9_makingCall_L251 K182 u x1 x2 x7 x9 y0 = some (r0, u0)) : W p l e (rmW 3 74 0 0) s m args below meth c H locs 0 0 (MQ below (va_Qi (fun r v => r = r0 ∧ v = u0) (BW g A (mW g ad)) A) args s 0 0 A) (F0 m 251 ls [.int y0]) := by
  rw [fX9_makingCall_L251] at hf
  refine lv_istore (lv' := [(8, .int y0), (0, .ref (ad 0)), (1, .int x1), (2, .int x2), (7, .int x7), (9, .int x9)]) C.1 C.2.1 dX9_makingCall_251 hl (by decide) rfl (fun ls hl => ?_)
  refine lv_iinc (v := (x9 + 1)) (lv' := [(9, .int (x9 + 1)), (8, .int y0), (0, .ref (ad 0)), (1, .int x1), (2, .int x2), (7, .int x7)]) C.1 C.2.1 dX9_makingCall_253 hl (k := 5) rfl rfl (by decide) rfl (fun ls hl => ?_)
  refine lv_goto (tgt := 182) C.1 C.2.1 dX9_makingCall_256 (by decide) ?_
  exact hK182 u x1 x2 x7 y0 (x9 + 1) _ _ hP hD hS _ (lv_sub hl [2, 3, 4, 5, 1, 0] rfl) hf
set_option maxRecDepth 100000 in
set_option maxHeartbeats 4000000 in
theorem bX9_makingCall_L246 {r0 : Int32} {u0 : ST} {K182 : ST → Int32 → Int32 → Int32 → Int32 → Int32 → Option (Int32 × ST)} {x1 : Int32} {x2 : Int32} {x7 : Int32} {x9 : Int32} (C : Cx p s m args meth c cX9_makingCall 10 RX9 (some .int) g) (hA : ∀ q, s.heap.size ≤ q → A q) (hZ : SF A s) (hK182 : ∀ (u : ST) (x1 : Int32) (x2 : Int32) (x7 : Int32) (x8 : Int32) (x9 : Int32) (H : Heap) (locs : List Loc), va_P g.1 vwCl (mW g ad u) H → va_D A (mW g ad u) → va_S A s.heap H locs → ∀ (ls : Array Slot), lv_has ls 10 [(0, .ref (ad 0)), (1, .int x1), (2, .int x2), (7, .int x7), (8, .int x8), (9, .int x9)] → K182 u x1 x2 x7 x8 x9 = some (r0, u0) → W p l e (rmW 3 74 0 0) s m args below meth c H locs 0 0 (MQ below (va_Qi (fun r v => r = r0 ∧ v = u0) (BW g A (mW g ad)) A) args s 0 0 A) (F0 m 182 ls [])) (hP : va_P g.1 vwCl (mW g ad u) H) (hD : va_D A (mW g ad u)) (hS : va_S A s.heap H locs) (hl : lv_has ls 10 [(0, .ref (ad 0)), (1, .int x1), (2, .int x2), (7, .int x7), (9, .int x9)]) (hf : fX9_makingCall_L246 K182 u x1 x2 x7 x9 = some (r0, u0)) : W p l e (rmW 3 74 0 0) s m args below meth c H locs 0 0 (MQ below (va_Qi (fun r v => r = r0 ∧ v = u0) (BW g A (mW g ad)) A) args s 0 0 A) (F0 m 246 ls []) := by
  rw [fX9_makingCall_L246] at hf
  refine lv_iconst (v := 1) C.1 C.2.1 dX9_makingCall_246 (by decide) ?_
  refine lv_goto (tgt := 251) C.1 C.2.1 dX9_makingCall_247 (by decide) ?_
  exact bX9_makingCall_L251 C hA hZ hK182 hP hD hS (lv_sub hl [0, 1, 2, 3, 4] rfl) hf
set_option maxRecDepth 100000 in
set_option maxHeartbeats 4000000 in
theorem bX9_makingCall_L250 {r0 : Int32} {u0 : ST} {K182 : ST → Int32 → Int32 → Int32 → Int32 → Int32 → Option (Int32 × ST)} {x1 : Int32} {x2 : Int32} {x7 : Int32} {x9 : Int32} (C : Cx p s m args meth c cX9_makingCall 10 RX9 (some .int) g) (hA : ∀ q, s.heap.size ≤ q → A q) (hZ : SF A s) (hK182 : ∀ (u : ST) (x1 : Int32) (x2 : Int32) (x7 : Int32) (x8 : Int32) (x9 : Int32) (H : Heap) (locs : List Loc), va_P g.1 vwCl (mW g ad u) H → va_D A (mW g ad u) → va_S A s.heap H locs → ∀ (ls : Array Slot), lv_has ls 10 [(0, .ref (ad 0)), (1, .int x1), (2, .int x2), (7, .int x7), (8, .int x8), (9, .int x9)] → K182 u x1 x2 x7 x8 x9 = some (r0, u0) → W p l e (rmW 3 74 0 0) s m args below meth c H locs 0 0 (MQ below (va_Qi (fun r v => r = r0 ∧ v = u0) (BW g A (mW g ad)) A) args s 0 0 A) (F0 m 182 ls [])) (hP : va_P g.1 vwCl (mW g ad u) H) (hD : va_D A (mW g ad u)) (hS : va_S A s.heap H locs) (hl : lv_has ls 10 [(0, .ref (ad 0)), (1, .int x1), (2, .int x2), (7, .int x7), (9, .int x9)]) (hf : fX9_makingCall_L250 K182 u x1 x2 x7 x9 = some (r0, u0)) : W p l e (rmW 3 74 0 0) s m args below meth c H locs 0 0 (MQ below (va_Qi (fun r v => r = r0 ∧ v = u0) (BW g A (mW g ad)) A) args s 0 0 A) (F0 m 250 ls []) := by
  rw [fX9_makingCall_L250] at hf
  refine lv_iconst (v := 0) C.1 C.2.1 dX9_makingCall_250 (by decide) ?_
  exact bX9_makingCall_L251 C hA hZ hK182 hP hD hS (lv_sub hl [0, 1, 2, 3, 4] rfl) hf
set_option maxRecDepth 100000 in
set_option maxHeartbeats 4000000 in
theorem bX9_makingCall_L182 {r0 : Int32} {u0 : ST} {K163 : ST → Int32 → Int32 → Int32 → Option (Int32 × ST)} (C : Cx p s m args meth c cX9_makingCall 10 RX9 (some .int) g) (hA : ∀ q, s.heap.size ≤ q → A q) (hZ : SF A s) (hK163 : ∀ (u : ST) (x1 : Int32) (x2 : Int32) (x7 : Int32) (H : Heap) (locs : List Loc), va_P g.1 vwCl (mW g ad u) H → va_D A (mW g ad u) → va_S A s.heap H locs → ∀ (ls : Array Slot), lv_has ls 10 [(0, .ref (ad 0)), (1, .int x1), (2, .int x2), (7, .int x7)] → K163 u x1 x2 x7 = some (r0, u0) → W p l e (rmW 3 74 0 0) s m args below meth c H locs 0 0 (MQ below (va_Qi (fun r v => r = r0 ∧ v = u0) (BW g A (mW g ad)) A) args s 0 0 A) (F0 m 163 ls [])) : ∀ (n : Nat), ∀ (u : ST) (x1 : Int32) (x2 : Int32) (x7 : Int32) (x8 : Int32) (x9 : Int32) (H : Heap) (locs : List Loc), va_P g.1 vwCl (mW g ad u) H → va_D A (mW g ad u) → va_S A s.heap H locs → ∀ (ls : Array Slot), lv_has ls 10 [(0, .ref (ad 0)), (1, .int x1), (2, .int x2), (7, .int x7), (8, .int x8), (9, .int x9)] → fX9_makingCall_L182 K163 n u x1 x2 x7 x8 x9 = some (r0, u0) → W p l e (rmW 3 74 0 0) s m args below meth c H locs 0 0 (MQ below (va_Qi (fun r v => r = r0 ∧ v = u0) (BW g A (mW g ad)) A) args s 0 0 A) (F0 m 182 ls []) := by
  intro n
  induction n with
  | zero =>
    intro u x1 x2 x7 x8 x9 H locs hP hD hS ls hl hf
    exact absurd hf (by simp [fX9_makingCall_L182])
  | succ n ih =>
    intro u x1 x2 x7 x8 x9 H locs hP hD hS ls hl hf
    rw [fX9_makingCall_L182] at hf
    refine lv_iload C.1 C.2.1 dX9_makingCall_182 (lv_at hl 5 rfl) ?_
    refine lv_bipush (v := 60) C.1 C.2.1 dX9_makingCall_184 (by decide) ?_
    refine lv_icmp_ge (tgt := 259) C.1 C.2.1 dX9_makingCall_186 (by decide) (fun c5 => ?_) (fun c5 => ?_)
    · rw [if_pos c5] at hf
      exact bX9_makingCall_L259 C hA hZ hK163 hP hD hS (lv_sub hl [0, 1, 2, 3, 4] rfl) hf
    · rw [if_neg c5] at hf
      refine lv_iload C.1 C.2.1 dX9_makingCall_189 (lv_at hl 4 rfl) ?_
      refine lv_if_eq (tgt := 259) C.1 C.2.1 dX9_makingCall_191 (by decide) (fun c16 => ?_) (fun c16 => ?_)
      · rw [if_pos c16] at hf
        exact bX9_makingCall_L259 C hA hZ hK163 hP hD hS (lv_sub hl [0, 1, 2, 3, 4] rfl) hf
      · rw [if_neg c16] at hf
        refine lv_aload_n C.1 C.2.1 dX9_makingCall_194 rfl (lv_at hl 0 rfl) ?_
        refine gtm_X9_fits C hP wF_X9_126 dX9_makingCall_195 ?_
        refine lv_iload C.1 C.2.1 dX9_makingCall_198 (lv_at hl 5 rfl) ?_
        obtain ⟨v17, hv17, hf⟩ := Option.bind_eq_some_iff.mp hf
        refine ldm_42 C hP hv17 dX9_makingCall_200 ?_
        refine lv_if_eq (tgt := 246) C.1 C.2.1 dX9_makingCall_201 (by decide) (fun c18 => ?_) (fun c18 => ?_)
        · rw [if_pos c18] at hf
          exact bX9_makingCall_L246 C hA hZ ih hP hD hS (lv_sub hl [0, 1, 2, 3, 5] rfl) hf
        · rw [if_neg c18] at hf
          refine lv_aload_n C.1 C.2.1 dX9_makingCall_204 rfl (lv_at hl 0 rfl) ?_
          refine lv_aload_n C.1 C.2.1 dX9_makingCall_205 rfl (lv_at hl 0 rfl) ?_
          refine gtm_X9_mFirst C hP wF_X9_44 dX9_makingCall_206 ?_
          refine lv_iload C.1 C.2.1 dX9_makingCall_209 (lv_at hl 3 rfl) ?_
          obtain ⟨v19, hv19, hf⟩ := Option.bind_eq_some_iff.mp hf
          refine ldm_12 C hP hv19 dX9_makingCall_211 ?_
          refine lv_aload_n C.1 C.2.1 dX9_makingCall_212 rfl (lv_at hl 0 rfl) ?_
          refine gtm_X9_mFirst C hP wF_X9_44 dX9_makingCall_213 ?_
          refine lv_iload C.1 C.2.1 dX9_makingCall_216 (lv_at hl 5 rfl) ?_
          obtain ⟨v20, hv20, hf⟩ := Option.bind_eq_some_iff.mp hf
          refine ldm_12 C hP hv20 dX9_makingCall_218 ?_
          obtain ⟨v22, u21, hu21, hf⟩ := b2_some hf
          refine cWi (As := [.int v19, .int v20]) (rest := []) (mc := 0) (ms := 0) C (mX9_isUnder hu21) vX9_isUnder wM_X9_278 ⟨Nat.le_of_ble_eq_true rfl, Nat.le_of_ble_eq_true rfl⟩ hP hD hS hA hZ (rcm_X9 C hP) hl.1 rfl rfl (Nat.le_of_ble_eq_true rfl) dX9_makingCall_219 ⟨Nat.le_of_ble_eq_true rfl, Nat.le_of_ble_eq_true rfl⟩ (fun H locs hP hD hS => ?_)
          refine lv_if_eq (tgt := 250) C.1 C.2.1 dX9_makingCall_222 (by decide) (fun c23 => ?_) (fun c23 => ?_)
          · rw [if_pos c23] at hf
            exact bX9_makingCall_L250 C hA hZ ih hP hD hS (lv_sub hl [0, 1, 2, 3, 5] rfl) hf
          · rw [if_neg c23] at hf
            refine lv_aload_n C.1 C.2.1 dX9_makingCall_225 rfl (lv_at hl 0 rfl) ?_
            refine lv_aload_n C.1 C.2.1 dX9_makingCall_226 rfl (lv_at hl 0 rfl) ?_
            refine gtm_X9_mSecond C hP wF_X9_47 dX9_makingCall_227 ?_
            refine lv_iload C.1 C.2.1 dX9_makingCall_230 (lv_at hl 3 rfl) ?_
            obtain ⟨v24, hv24, hf⟩ := Option.bind_eq_some_iff.mp hf
            refine ldm_13 C hP hv24 dX9_makingCall_232 ?_
            refine lv_aload_n C.1 C.2.1 dX9_makingCall_233 rfl (lv_at hl 0 rfl) ?_
            refine gtm_X9_mSecond C hP wF_X9_47 dX9_makingCall_234 ?_
            refine lv_iload C.1 C.2.1 dX9_makingCall_237 (lv_at hl 5 rfl) ?_
            obtain ⟨v25, hv25, hf⟩ := Option.bind_eq_some_iff.mp hf
            refine ldm_13 C hP hv25 dX9_makingCall_239 ?_
            obtain ⟨v27, u26, hu26, hf⟩ := b2_some hf
            refine cWi (As := [.int v24, .int v25]) (rest := []) (mc := 0) (ms := 0) C (mX9_isUnder hu26) vX9_isUnder wM_X9_278 ⟨Nat.le_of_ble_eq_true rfl, Nat.le_of_ble_eq_true rfl⟩ hP hD hS hA hZ (rcm_X9 C hP) hl.1 rfl rfl (Nat.le_of_ble_eq_true rfl) dX9_makingCall_240 ⟨Nat.le_of_ble_eq_true rfl, Nat.le_of_ble_eq_true rfl⟩ (fun H locs hP hD hS => ?_)
            refine lv_if_eq (tgt := 250) C.1 C.2.1 dX9_makingCall_243 (by decide) (fun c28 => ?_) (fun c28 => ?_)
            · rw [if_pos c28] at hf
              exact bX9_makingCall_L250 C hA hZ ih hP hD hS (lv_sub hl [0, 1, 2, 3, 5] rfl) hf
            · rw [if_neg c28] at hf
              exact bX9_makingCall_L246 C hA hZ ih hP hD hS (lv_sub hl [0, 1, 2, 3, 5] rfl) hf
set_option maxRecDepth 100000 in
set_option maxHeartbeats 4000000 in
theorem bX9_makingCall_L163 {r0 : Int32} {u0 : ST} (C : Cx p s m args meth c cX9_makingCall 10 RX9 (some .int) g) (hA : ∀ q, s.heap.size ≤ q → A q) (hZ : SF A s) : ∀ (n : Nat), ∀ (u : ST) (x1 : Int32) (x2 : Int32) (x7 : Int32) (H : Heap) (locs : List Loc), va_P g.1 vwCl (mW g ad u) H → va_D A (mW g ad u) → va_S A s.heap H locs → ∀ (ls : Array Slot), lv_has ls 10 [(0, .ref (ad 0)), (1, .int x1), (2, .int x2), (7, .int x7)] → fX9_makingCall_L163 n u x1 x2 x7 = some (r0, u0) → W p l e (rmW 3 74 0 0) s m args below meth c H locs 0 0 (MQ below (va_Qi (fun r v => r = r0 ∧ v = u0) (BW g A (mW g ad)) A) args s 0 0 A) (F0 m 163 ls []) := by
  intro n
  induction n with
  | zero =>
    intro u x1 x2 x7 H locs hP hD hS ls hl hf
    exact absurd hf (by simp [fX9_makingCall_L163])
  | succ n ih =>
    intro u x1 x2 x7 H locs hP hD hS ls hl hf
    rw [fX9_makingCall_L163] at hf
    refine lv_iload C.1 C.2.1 dX9_makingCall_163 (lv_at hl 3 rfl) ?_
    refine lv_bipush (v := 60) C.1 C.2.1 dX9_makingCall_165 (by decide) ?_
    refine lv_icmp_ge (tgt := 333) C.1 C.2.1 dX9_makingCall_167 (by decide) (fun c3 => ?_) (fun c3 => ?_)
    · rw [if_pos c3] at hf
      refine lv_iconst (v := 2) C.1 C.2.1 dX9_makingCall_333 (by decide) ?_
      exact endWi C hP hD hS (Nat.le_refl _) (Nat.le_refl _) hf dX9_makingCall_334
    · rw [if_neg c3] at hf
      refine lv_aload_n C.1 C.2.1 dX9_makingCall_170 rfl (lv_at hl 0 rfl) ?_
      refine gtm_X9_fits C hP wF_X9_126 dX9_makingCall_171 ?_
      refine lv_iload C.1 C.2.1 dX9_makingCall_174 (lv_at hl 3 rfl) ?_
      obtain ⟨v4, hv4, hf⟩ := Option.bind_eq_some_iff.mp hf
      refine ldm_42 C hP hv4 dX9_makingCall_176 ?_
      refine lv_istore (lv' := [(8, .int v4), (0, .ref (ad 0)), (1, .int x1), (2, .int x2), (7, .int x7)]) C.1 C.2.1 dX9_makingCall_177 hl (by decide) rfl (fun ls hl => ?_)
      refine lv_iconst (v := 0) C.1 C.2.1 dX9_makingCall_179 (by decide) ?_
      refine lv_istore (lv' := [(9, .int 0), (8, .int v4), (0, .ref (ad 0)), (1, .int x1), (2, .int x2), (7, .int x7)]) C.1 C.2.1 dX9_makingCall_180 hl (by decide) rfl (fun ls hl => ?_)
      exact bX9_makingCall_L182 C hA hZ ih 5000 u x1 x2 x7 v4 0 _ _ hP hD hS _ (lv_sub hl [2, 3, 4, 5, 1, 0] rfl) hf
set_option maxRecDepth 100000 in
set_option maxHeartbeats 4000000 in
theorem bX9_makingCall_L143 {r0 : Int32} {u0 : ST} {K7 : ST → Int32 → Int32 → Int32 → Int32 → Int32 → Int32 → Int32 → Option (Int32 × ST)} {x1 : Int32} {x2 : Int32} {x3 : Int32} {x4 : Int32} {x5 : Int32} {x7 : Int32} {y0 : Int32} (C : Cx p s m args meth c cX9_makingCall 10 RX9 (some .int) g) (hA : ∀ q, s.heap.size ≤ q → A q) (hZ : SF A s) (hK7 : ∀ (u : ST) (x1 : Int32) (x2 : Int32) (x3 : Int32) (x4 : Int32) (x5 : Int32) (x6 : Int32) (x7 : Int32) (H : Heap) (locs : List Loc), va_P g.1 vwCl (mW g ad u) H → va_D A (mW g ad u) → va_S A s.heap H locs → ∀ (ls : Array Slot), lv_has ls 10 [(0, .ref (ad 0)), (1, .int x1), (2, .int x2), (3, .int x3), (4, .int x4), (5, .int x5), (6, .int x6), (7, .int x7)] → K7 u x1 x2 x3 x4 x5 x6 x7 = some (r0, u0) → W p l e (rmW 3 74 0 0) s m args below meth c H locs 0 0 (MQ below (va_Qi (fun r v => r = r0 ∧ v = u0) (BW g A (mW g ad)) A) args s 0 0 A) (F0 m 7 ls [])) (hP : va_P g.1 vwCl (mW g ad u) H) (hD : va_D A (mW g ad u)) (hS : va_S A s.heap H locs) (hl : lv_has ls 10 [(0, .ref (ad 0)), (1, .int x1), (2, .int x2), (3, .int x3), (4, .int x4), (5, .int x5), (7, .int x7)]) (hf : fX9_makingCall_L143 K7 u x1 x2 x3 x4 x5 x7 y0 = some (r0, u0)) : W p l e (rmW 3 74 0 0) s m args below meth c H locs 0 0 (MQ below (va_Qi (fun r v => r = r0 ∧ v = u0) (BW g A (mW g ad)) A) args s 0 0 A) (F0 m 143 ls [.int y0]) := by
  rw [fX9_makingCall_L143] at hf
  refine lv_istore (lv' := [(6, .int y0), (0, .ref (ad 0)), (1, .int x1), (2, .int x2), (3, .int x3), (4, .int x4), (5, .int x5), (7, .int x7)]) C.1 C.2.1 dX9_makingCall_143 hl (by decide) rfl (fun ls hl => ?_)
  refine lv_iinc (v := (x7 + 1)) (lv' := [(7, .int (x7 + 1)), (6, .int y0), (0, .ref (ad 0)), (1, .int x1), (2, .int x2), (3, .int x3), (4, .int x4), (5, .int x5)]) C.1 C.2.1 dX9_makingCall_145 hl (k := 7) rfl rfl (by decide) rfl (fun ls hl => ?_)
  refine lv_goto (tgt := 7) C.1 C.2.1 dX9_makingCall_148 (by decide) ?_
  exact hK7 u x1 x2 x3 x4 x5 y0 (x7 + 1) _ _ hP hD hS _ (lv_sub hl [2, 3, 4, 5, 6, 7, 1, 0] rfl) hf
set_option maxRecDepth 100000 in
set_option maxHeartbeats 4000000 in
theorem bX9_makingCall_L125 {r0 : Int32} {u0 : ST} {K7 : ST → Int32 → Int32 → Int32 → Int32 → Int32 → Int32 → Int32 → Option (Int32 × ST)} {x1 : Int32} {x2 : Int32} {x3 : Int32} {x4 : Int32} {x5 : Int32} {x6 : Int32} {x7 : Int32} {y1 : Int32} {y2 : Int32} (C : Cx p s m args meth c cX9_makingCall 10 RX9 (some .int) g) (hA : ∀ q, s.heap.size ≤ q → A q) (hZ : SF A s) (hK7 : ∀ (u : ST) (x1 : Int32) (x2 : Int32) (x3 : Int32) (x4 : Int32) (x5 : Int32) (x6 : Int32) (x7 : Int32) (H : Heap) (locs : List Loc), va_P g.1 vwCl (mW g ad u) H → va_D A (mW g ad u) → va_S A s.heap H locs → ∀ (ls : Array Slot), lv_has ls 10 [(0, .ref (ad 0)), (1, .int x1), (2, .int x2), (3, .int x3), (4, .int x4), (5, .int x5), (6, .int x6), (7, .int x7)] → K7 u x1 x2 x3 x4 x5 x6 x7 = some (r0, u0) → W p l e (rmW 3 74 0 0) s m args below meth c H locs 0 0 (MQ below (va_Qi (fun r v => r = r0 ∧ v = u0) (BW g A (mW g ad)) A) args s 0 0 A) (F0 m 7 ls [])) (hP : va_P g.1 vwCl (mW g ad u) H) (hD : va_D A (mW g ad u)) (hS : va_S A s.heap H locs) (hl : lv_has ls 10 [(0, .ref (ad 0)), (1, .int x1), (2, .int x2), (3, .int x3), (4, .int x4), (5, .int x5), (6, .int x6), (7, .int x7)]) (hf : fX9_makingCall_L125 K7 u x1 x2 x3 x4 x5 x6 x7 y1 y2 = some (r0, u0)) : W p l e (rmW 3 74 0 0) s m args below meth c H locs 0 0 (MQ below (va_Qi (fun r v => r = r0 ∧ v = u0) (BW g A (mW g ad)) A) args s 0 0 A) (F0 m 125 ls [.int y2, .int y1, .ref (ad 42)]) := by
  rw [fX9_makingCall_L125] at hf
  obtain ⟨u31, hu31, hf⟩ := Option.bind_eq_some_iff.mp hf
  refine stm_42 C hP hD hS hu31 dX9_makingCall_125 (fun H locs hP hD hS => ?_)
  refine lv_aload_n C.1 C.2.1 dX9_makingCall_126 rfl (lv_at hl 0 rfl) ?_
  refine gtm_X9_fits C hP wF_X9_126 dX9_makingCall_127 ?_
  refine lv_iload C.1 C.2.1 dX9_makingCall_130 (lv_at hl 7 rfl) ?_
  obtain ⟨v32, hv32, hf⟩ := Option.bind_eq_some_iff.mp hf
  refine ldm_42 C hP hv32 dX9_makingCall_132 ?_
  refine lv_if_eq (tgt := 141) C.1 C.2.1 dX9_makingCall_133 (by decide) (fun c33 => ?_) (fun c33 => ?_)
  · rw [if_pos c33] at hf
    refine lv_iload C.1 C.2.1 dX9_makingCall_141 (lv_at hl 6 rfl) ?_
    exact bX9_makingCall_L143 C hA hZ hK7 hP hD hS (lv_sub hl [0, 1, 2, 3, 4, 5, 7] rfl) hf
  · rw [if_neg c33] at hf
    refine lv_iload C.1 C.2.1 dX9_makingCall_136 (lv_at hl 7 rfl) ?_
    refine lv_goto (tgt := 143) C.1 C.2.1 dX9_makingCall_138 (by decide) ?_
    exact bX9_makingCall_L143 C hA hZ hK7 hP hD hS (lv_sub hl [0, 1, 2, 3, 4, 5, 7] rfl) hf
set_option maxRecDepth 100000 in
set_option maxHeartbeats 4000000 in
theorem bX9_makingCall_L124 {r0 : Int32} {u0 : ST} {K7 : ST → Int32 → Int32 → Int32 → Int32 → Int32 → Int32 → Int32 → Option (Int32 × ST)} {x1 : Int32} {x2 : Int32} {x3 : Int32} {x4 : Int32} {x5 : Int32} {x6 : Int32} {x7 : Int32} {y1 : Int32} (C : Cx p s m args meth c cX9_makingCall 10 RX9 (some .int) g) (hA : ∀ q, s.heap.size ≤ q → A q) (hZ : SF A s) (hK7 : ∀ (u : ST) (x1 : Int32) (x2 : Int32) (x3 : Int32) (x4 : Int32) (x5 : Int32) (x6 : Int32) (x7 : Int32) (H : Heap) (locs : List Loc), va_P g.1 vwCl (mW g ad u) H → va_D A (mW g ad u) → va_S A s.heap H locs → ∀ (ls : Array Slot), lv_has ls 10 [(0, .ref (ad 0)), (1, .int x1), (2, .int x2), (3, .int x3), (4, .int x4), (5, .int x5), (6, .int x6), (7, .int x7)] → K7 u x1 x2 x3 x4 x5 x6 x7 = some (r0, u0) → W p l e (rmW 3 74 0 0) s m args below meth c H locs 0 0 (MQ below (va_Qi (fun r v => r = r0 ∧ v = u0) (BW g A (mW g ad)) A) args s 0 0 A) (F0 m 7 ls [])) (hP : va_P g.1 vwCl (mW g ad u) H) (hD : va_D A (mW g ad u)) (hS : va_S A s.heap H locs) (hl : lv_has ls 10 [(0, .ref (ad 0)), (1, .int x1), (2, .int x2), (3, .int x3), (4, .int x4), (5, .int x5), (6, .int x6), (7, .int x7)]) (hf : fX9_makingCall_L124 K7 u x1 x2 x3 x4 x5 x6 x7 y1 = some (r0, u0)) : W p l e (rmW 3 74 0 0) s m args below meth c H locs 0 0 (MQ below (va_Qi (fun r v => r = r0 ∧ v = u0) (BW g A (mW g ad)) A) args s 0 0 A) (F0 m 124 ls [.int y1, .ref (ad 42)]) := by
  rw [fX9_makingCall_L124] at hf
  refine lv_iconst (v := 0) C.1 C.2.1 dX9_makingCall_124 (by decide) ?_
  exact bX9_makingCall_L125 C hA hZ hK7 hP hD hS (lv_sub hl [0, 1, 2, 3, 4, 5, 6, 7] rfl) hf
set_option maxRecDepth 100000 in
set_option maxHeartbeats 4000000 in
theorem bX9_makingCall_L7 {r0 : Int32} {u0 : ST} (C : Cx p s m args meth c cX9_makingCall 10 RX9 (some .int) g) (hA : ∀ q, s.heap.size ≤ q → A q) (hZ : SF A s) : ∀ (n : Nat), ∀ (u : ST) (x1 : Int32) (x2 : Int32) (x3 : Int32) (x4 : Int32) (x5 : Int32) (x6 : Int32) (x7 : Int32) (H : Heap) (locs : List Loc), va_P g.1 vwCl (mW g ad u) H → va_D A (mW g ad u) → va_S A s.heap H locs → ∀ (ls : Array Slot), lv_has ls 10 [(0, .ref (ad 0)), (1, .int x1), (2, .int x2), (3, .int x3), (4, .int x4), (5, .int x5), (6, .int x6), (7, .int x7)] → fX9_makingCall_L7 n u x1 x2 x3 x4 x5 x6 x7 = some (r0, u0) → W p l e (rmW 3 74 0 0) s m args below meth c H locs 0 0 (MQ below (va_Qi (fun r v => r = r0 ∧ v = u0) (BW g A (mW g ad)) A) args s 0 0 A) (F0 m 7 ls []) := by
  intro n
  induction n with
  | zero =>
    intro u x1 x2 x3 x4 x5 x6 x7 H locs hP hD hS ls hl hf
    exact absurd hf (by simp [fX9_makingCall_L7])
  | succ n ih =>
    intro u x1 x2 x3 x4 x5 x6 x7 H locs hP hD hS ls hl hf
    rw [fX9_makingCall_L7] at hf
    refine lv_iload C.1 C.2.1 dX9_makingCall_7 (lv_at hl 7 rfl) ?_
    refine lv_bipush (v := 60) C.1 C.2.1 dX9_makingCall_9 (by decide) ?_
    refine lv_icmp_ge (tgt := 151) C.1 C.2.1 dX9_makingCall_11 (by decide) (fun c1 => ?_) (fun c1 => ?_)
    · rw [if_pos c1] at hf
      refine lv_iload C.1 C.2.1 dX9_makingCall_151 (lv_at hl 6 rfl) ?_
      refine lv_bipush (v := -2) C.1 C.2.1 dX9_makingCall_153 (by decide) ?_
      refine lv_icmp_ne (tgt := 160) C.1 C.2.1 dX9_makingCall_155 (by decide) (fun c2 => ?_) (fun c2 => ?_)
      · rw [if_neg c2] at hf
        refine lv_iconst (v := 0) C.1 C.2.1 dX9_makingCall_160 (by decide) ?_
        refine lv_istore (lv' := [(7, .int 0), (0, .ref (ad 0)), (1, .int x1), (2, .int x2), (3, .int x3), (4, .int x4), (5, .int x5), (6, .int x6)]) C.1 C.2.1 dX9_makingCall_161 hl (by decide) rfl (fun ls hl => ?_)
        exact bX9_makingCall_L163 C hA hZ 5000 u x1 x2 0 _ _ hP hD hS _ (lv_sub hl [1, 2, 3, 0] rfl) hf
      · rw [if_pos c2] at hf
        refine lv_iconst (v := 1) C.1 C.2.1 dX9_makingCall_158 (by decide) ?_
        exact endWi C hP hD hS (Nat.le_refl _) (Nat.le_refl _) hf dX9_makingCall_159
    · rw [if_neg c1] at hf
      refine lv_aload_n C.1 C.2.1 dX9_makingCall_14 rfl (lv_at hl 0 rfl) ?_
      refine gtm_X9_fits C hP wF_X9_126 dX9_makingCall_15 ?_
      refine lv_iload C.1 C.2.1 dX9_makingCall_18 (lv_at hl 7 rfl) ?_
      refine lv_aload_n C.1 C.2.1 dX9_makingCall_20 rfl (lv_at hl 0 rfl) ?_
      refine gtm_X9_isMember C hP wF_X9_26 dX9_makingCall_21 ?_
      refine lv_iload C.1 C.2.1 dX9_makingCall_24 (lv_at hl 7 rfl) ?_
      obtain ⟨v29, hv29, hf⟩ := Option.bind_eq_some_iff.mp hf
      refine ldm_6 C hP hv29 dX9_makingCall_26 ?_
      refine lv_if_eq (tgt := 124) C.1 C.2.1 dX9_makingCall_27 (by decide) (fun c30 => ?_) (fun c30 => ?_)
      · rw [if_pos c30] at hf
        exact bX9_makingCall_L124 C hA hZ ih hP hD hS (lv_sub hl [0, 1, 2, 3, 4, 5, 6, 7] rfl) hf
      · rw [if_neg c30] at hf
        refine lv_aload_n C.1 C.2.1 dX9_makingCall_30 rfl (lv_at hl 0 rfl) ?_
        refine gtm_X9_isMethod C hP wF_X9_29 dX9_makingCall_31 ?_
        refine lv_iload C.1 C.2.1 dX9_makingCall_34 (lv_at hl 7 rfl) ?_
        obtain ⟨v34, hv34, hf⟩ := Option.bind_eq_some_iff.mp hf
        refine ldm_7 C hP hv34 dX9_makingCall_36 ?_
        refine lv_if_eq (tgt := 124) C.1 C.2.1 dX9_makingCall_37 (by decide) (fun c35 => ?_) (fun c35 => ?_)
        · rw [if_pos c35] at hf
          exact bX9_makingCall_L124 C hA hZ ih hP hD hS (lv_sub hl [0, 1, 2, 3, 4, 5, 6, 7] rfl) hf
        · rw [if_neg c35] at hf
          refine lv_aload_n C.1 C.2.1 dX9_makingCall_40 rfl (lv_at hl 0 rfl) ?_
          refine gtm_X9_mName C hP wF_X9_35 dX9_makingCall_41 ?_
          refine lv_iload C.1 C.2.1 dX9_makingCall_44 (lv_at hl 7 rfl) ?_
          obtain ⟨v36, hv36, hf⟩ := Option.bind_eq_some_iff.mp hf
          refine ldm_9 C hP hv36 dX9_makingCall_46 ?_
          refine lv_iload_n C.1 C.2.1 dX9_makingCall_47 rfl (lv_at hl 3 rfl) ?_
          refine lv_icmp_ne (tgt := 124) C.1 C.2.1 dX9_makingCall_48 (by decide) (fun c37 => ?_) (fun c37 => ?_)
          · rw [if_neg c37] at hf
            exact bX9_makingCall_L124 C hA hZ ih hP hD hS (lv_sub hl [0, 1, 2, 3, 4, 5, 6, 7] rfl) hf
          · rw [if_pos c37] at hf
            refine lv_aload_n C.1 C.2.1 dX9_makingCall_51 rfl (lv_at hl 0 rfl) ?_
            refine gtm_X9_mMarks C hP wF_X9_38 dX9_makingCall_52 ?_
            refine lv_iload C.1 C.2.1 dX9_makingCall_55 (lv_at hl 7 rfl) ?_
            obtain ⟨v38, hv38, hf⟩ := Option.bind_eq_some_iff.mp hf
            refine ldm_10 C hP hv38 dX9_makingCall_57 ?_
            refine lv_iconst (v := 4) C.1 C.2.1 dX9_makingCall_58 (by decide) ?_
            refine lv_iand C.1 C.2.1 dX9_makingCall_59 ?_
            refine lv_if_ne (tgt := 124) C.1 C.2.1 dX9_makingCall_60 (by decide) (fun c39 => ?_) (fun c39 => ?_)
            · rw [if_neg c39] at hf
              exact bX9_makingCall_L124 C hA hZ ih hP hD hS (lv_sub hl [0, 1, 2, 3, 4, 5, 6, 7] rfl) hf
            · rw [if_pos c39] at hf
              refine lv_aload_n C.1 C.2.1 dX9_makingCall_63 rfl (lv_at hl 0 rfl) ?_
              refine lv_iload C.1 C.2.1 dX9_makingCall_64 (lv_at hl 4 rfl) ?_
              refine lv_aload_n C.1 C.2.1 dX9_makingCall_66 rfl (lv_at hl 0 rfl) ?_
              refine gtm_X9_mFirst C hP wF_X9_44 dX9_makingCall_67 ?_
              refine lv_iload C.1 C.2.1 dX9_makingCall_70 (lv_at hl 7 rfl) ?_
              obtain ⟨v40, hv40, hf⟩ := Option.bind_eq_some_iff.mp hf
              refine ldm_12 C hP hv40 dX9_makingCall_72 ?_
              obtain ⟨v42, u41, hu41, hf⟩ := b2_some hf
              refine cWi (As := [.int x4, .int v40]) (rest := [.int x7, .ref (ad 42)]) (mc := 0) (ms := 0) C (mX9_isUnder hu41) vX9_isUnder wM_X9_278 ⟨Nat.le_of_ble_eq_true rfl, Nat.le_of_ble_eq_true rfl⟩ hP hD hS hA hZ (rcm_X9 C hP) hl.1 rfl rfl (Nat.le_of_ble_eq_true rfl) dX9_makingCall_73 ⟨Nat.le_of_ble_eq_true rfl, Nat.le_of_ble_eq_true rfl⟩ (fun H locs hP hD hS => ?_)
              refine lv_if_eq (tgt := 124) C.1 C.2.1 dX9_makingCall_76 (by decide) (fun c43 => ?_) (fun c43 => ?_)
              · rw [if_pos c43] at hf
                exact bX9_makingCall_L124 C hA hZ ih hP hD hS (lv_sub hl [0, 1, 2, 3, 4, 5, 6, 7] rfl) hf
              · rw [if_neg c43] at hf
                refine lv_aload_n C.1 C.2.1 dX9_makingCall_79 rfl (lv_at hl 0 rfl) ?_
                refine lv_iload C.1 C.2.1 dX9_makingCall_80 (lv_at hl 5 rfl) ?_
                refine lv_aload_n C.1 C.2.1 dX9_makingCall_82 rfl (lv_at hl 0 rfl) ?_
                refine gtm_X9_mSecond C hP wF_X9_47 dX9_makingCall_83 ?_
                refine lv_iload C.1 C.2.1 dX9_makingCall_86 (lv_at hl 7 rfl) ?_
                obtain ⟨v44, hv44, hf⟩ := Option.bind_eq_some_iff.mp hf
                refine ldm_13 C hP hv44 dX9_makingCall_88 ?_
                obtain ⟨v46, u45, hu45, hf⟩ := b2_some hf
                refine cWi (As := [.int x5, .int v44]) (rest := [.int x7, .ref (ad 42)]) (mc := 0) (ms := 0) C (mX9_isUnder hu45) vX9_isUnder wM_X9_278 ⟨Nat.le_of_ble_eq_true rfl, Nat.le_of_ble_eq_true rfl⟩ hP hD hS hA hZ (rcm_X9 C hP) hl.1 rfl rfl (Nat.le_of_ble_eq_true rfl) dX9_makingCall_89 ⟨Nat.le_of_ble_eq_true rfl, Nat.le_of_ble_eq_true rfl⟩ (fun H locs hP hD hS => ?_)
                refine lv_if_eq (tgt := 124) C.1 C.2.1 dX9_makingCall_92 (by decide) (fun c47 => ?_) (fun c47 => ?_)
                · rw [if_pos c47] at hf
                  exact bX9_makingCall_L124 C hA hZ ih hP hD hS (lv_sub hl [0, 1, 2, 3, 4, 5, 6, 7] rfl) hf
                · rw [if_neg c47] at hf
                  refine lv_aload_n C.1 C.2.1 dX9_makingCall_95 rfl (lv_at hl 0 rfl) ?_
                  refine lv_iload_n C.1 C.2.1 dX9_makingCall_96 rfl (lv_at hl 2 rfl) ?_
                  refine lv_iload_n C.1 C.2.1 dX9_makingCall_97 rfl (lv_at hl 3 rfl) ?_
                  refine lv_aload_n C.1 C.2.1 dX9_makingCall_98 rfl (lv_at hl 0 rfl) ?_
                  refine gtm_X9_mFirst C hP wF_X9_44 dX9_makingCall_99 ?_
                  refine lv_iload C.1 C.2.1 dX9_makingCall_102 (lv_at hl 7 rfl) ?_
                  obtain ⟨v48, hv48, hf⟩ := Option.bind_eq_some_iff.mp hf
                  refine ldm_12 C hP hv48 dX9_makingCall_104 ?_
                  refine lv_aload_n C.1 C.2.1 dX9_makingCall_105 rfl (lv_at hl 0 rfl) ?_
                  refine gtm_X9_mSecond C hP wF_X9_47 dX9_makingCall_106 ?_
                  refine lv_iload C.1 C.2.1 dX9_makingCall_109 (lv_at hl 7 rfl) ?_
                  obtain ⟨v49, hv49, hf⟩ := Option.bind_eq_some_iff.mp hf
                  refine ldm_13 C hP hv49 dX9_makingCall_111 ?_
                  obtain ⟨v51, u50, hu50, hf⟩ := b2_some hf
                  refine cWi (As := [.int x2, .int x3, .int v48, .int v49]) (rest := [.int x7, .ref (ad 42)]) (mc := 0) (ms := 0) C (mX9_lookForMethod hu50) vX9_lookForMethod wM_X9_281 ⟨Nat.le_of_ble_eq_true rfl, Nat.le_of_ble_eq_true rfl⟩ hP hD hS hA hZ (rcm_X9 C hP) hl.1 rfl rfl (Nat.le_of_ble_eq_true rfl) dX9_makingCall_112 ⟨Nat.le_of_ble_eq_true rfl, Nat.le_of_ble_eq_true rfl⟩ (fun H locs hP hD hS => ?_)
                  refine lv_iload C.1 C.2.1 dX9_makingCall_115 (lv_at hl 7 rfl) ?_
                  refine lv_icmp_ne (tgt := 124) C.1 C.2.1 dX9_makingCall_117 (by decide) (fun c52 => ?_) (fun c52 => ?_)
                  · rw [if_neg c52] at hf
                    exact bX9_makingCall_L124 C hA hZ ih hP hD hS (lv_sub hl [0, 1, 2, 3, 4, 5, 6, 7] rfl) hf
                  · rw [if_pos c52] at hf
                    refine lv_iconst (v := 1) C.1 C.2.1 dX9_makingCall_120 (by decide) ?_
                    refine lv_goto (tgt := 125) C.1 C.2.1 dX9_makingCall_121 (by decide) ?_
                    exact bX9_makingCall_L125 C hA hZ ih hP hD hS (lv_sub hl [0, 1, 2, 3, 4, 5, 6, 7] rfl) hf
set_option maxRecDepth 100000 in
set_option maxHeartbeats 4000000 in
theorem mX9_makingCall {r0 : Int32} {u0 : ST} {x1 : Int32} {x2 : Int32} {x3 : Int32} {x4 : Int32} {x5 : Int32} (hf : fX9_makingCall u x1 x2 x3 x4 x5 = some (r0, u0)) : MWi l yX9_makingCall cX9_makingCall 10 (some .int) 3 74 0 0 [.ref (ad 0), .int x1, .int x2, .int x3, .int x4, .int x5] g (mW g ad) u r0 u0 := by
  refine entW (Qc := fun A => va_Qi (fun r v => r = r0 ∧ v = u0) (BW g A (mW g ad)) A) (by decide) (Nat.le_of_ble_eq_true rfl) ?_
  intro p e s m below meth c ls A C hP hD hS hA hZ hl
  have hl : lv_has ls 10 [(0, .ref (ad 0)), (1, .int x1), (2, .int x2), (3, .int x3), (4, .int x4), (5, .int x5)] := hl
  rw [fX9_makingCall] at hf
  refine lv_bipush (v := -2) C.1 C.2.1 dX9_makingCall_0 (by decide) ?_
  refine lv_istore (lv' := [(6, .int (-2)), (0, .ref (ad 0)), (1, .int x1), (2, .int x2), (3, .int x3), (4, .int x4), (5, .int x5)]) C.1 C.2.1 dX9_makingCall_2 hl (by decide) rfl (fun ls hl => ?_)
  refine lv_iconst (v := 0) C.1 C.2.1 dX9_makingCall_4 (by decide) ?_
  refine lv_istore (lv' := [(7, .int 0), (6, .int (-2)), (0, .ref (ad 0)), (1, .int x1), (2, .int x2), (3, .int x3), (4, .int x4), (5, .int x5)]) C.1 C.2.1 dX9_makingCall_5 hl (by decide) rfl (fun ls hl => ?_)
  exact bX9_makingCall_L7 C hA hZ 5000 u x1 x2 x3 x4 x5 (-2) 0 _ _ hP hD hS _ (lv_sub hl [2, 3, 4, 5, 6, 7, 1, 0] rfl) hf
end
theorem vX9_makingCall : YV yX9_makingCall cX9_makingCall 10 (some .int) 5 := ⟨⟨wK_X9_makingCall, wZ_X9, by decide +kernel⟩, wI_X9_makingCall, wV_X9_makingCall⟩
def fX9_making_L138 (u : ST) (x1 : Int32) (x7 : Int32) (y1 : Int32) (y2 : Int32) : Option (Int32 × ST) :=
  (stZ u 36 25 y1 y2).bind fun u26 =>
  (rdI u26 11 60 x7).bind fun v27 =>
  (stI u26 40 25 x1 v27).bind fun u28 =>
  (rdI u28 11 60 x7).bind fun v29 =>
  (rdL u28 14 60 x7).bind fun v30 =>
  (rdI u28 11 60 x7).bind fun v31 =>
  (fX9_comes u28 v29 v30 v31).bind fun v32 =>
  (stL u28 37 25 x1 v32).bind fun u33 =>
  some (0, u33)
def fX9_making_L114 (u : ST) (x1 : Int32) (x7 : Int32) (y1 : Int32) (y2 : Int32) : Option (Int32 × ST) :=
  (stZ u 38 25 y1 y2).bind fun u23 =>
  (rdI u23 10 60 x7).bind fun v24 =>
  if (v24 &&& 3) = 3 then
    fX9_making_L138 u23 x1 x7 x1 1
  else
    fX9_making_L138 u23 x1 x7 x1 0
def fX9_making (u : ST) (x1 : Int32) (x2 : Int32) (x3 : Int32) (x4 : Int32) (x5 : Int32) (x6 : Int32) : Option (Int32 × ST) :=
  (stI u 29 25 x1 x2).bind fun u1 =>
  (stI u1 30 25 x1 x3).bind fun u2 =>
  (stI u2 31 25 x1 x4).bind fun u3 =>
  (stI u3 32 25 x1 x5).bind fun u4 =>
  (stI u4 33 25 x1 x6).bind fun u5 =>
  (stI u5 34 25 x1 (-2)).bind fun u6 =>
  (stI u6 35 25 x1 (-2)).bind fun u7 =>
  (stZ u7 36 25 x1 0).bind fun u8 =>
  (stI u8 41 25 x1 (sI u8 16)).bind fun u9 =>
  if x2 = 0 then
    b2 (fX9_lookForField u9 x3 x4 1) fun v19 u18 =>
    if 0 ≤ v19 then
      (rdI u18 10 60 v19).bind fun v21 =>
      if (v21 &&& 1) = 0 then
        fX9_making_L114 u18 x1 v19 x1 0
      else
        fX9_making_L114 u18 x1 v19 x1 1
    else
      some (1, u18)
  else
    if x2 = 1 then
      b2 (fX9_makingCall u9 x1 x3 x4 x5 x6) fun v17 u16 =>
      some (v17, u16)
    else
      (rdI u9 1 12 x3).bind fun v12 =>
      if v12 = 0 then
        (rdI u9 3 12 x3).bind fun v14 =>
        if (v14 &&& 1) = 0 then
          some (0, u9)
        else
          some (3, u9)
      else
        some (3, u9)
section
variable {p : Program} {l : Launch} {e : Env} {s : State} {m : MethodId} {args : Array Value} {below : List Frame} {meth : Method} {c : Code} {H : Heap} {locs : List Loc} {g : GP} {ls : Array Slot} {A : Nat → Prop} {ad : Nat → Nat} {u : ST}
set_option maxRecDepth 100000 in
set_option maxHeartbeats 4000000 in
theorem bX9_making_L138 {r0 : Int32} {u0 : ST} {x1 : Int32} {x7 : Int32} {y1 : Int32} {y2 : Int32} (C : Cx p s m args meth c cX9_making 8 RX9 (some .int) g) (hA : ∀ q, s.heap.size ≤ q → A q) (hZ : SF A s) (hP : va_P g.1 vwCl (mW g ad u) H) (hD : va_D A (mW g ad u)) (hS : va_S A s.heap H locs) (hl : lv_has ls 8 [(0, .ref (ad 0)), (1, .int x1), (7, .int x7)]) (hf : fX9_making_L138 u x1 x7 y1 y2 = some (r0, u0)) : W p l e (rmW 4 103 0 0) s m args below meth c H locs 0 0 (MQ below (va_Qi (fun r v => r = r0 ∧ v = u0) (BW g A (mW g ad)) A) args s 0 0 A) (F0 m 138 ls [.int y2, .int y1, .ref (ad 36)]) := by
  rw [fX9_making_L138] at hf
  obtain ⟨u26, hu26, hf⟩ := Option.bind_eq_some_iff.mp hf
  refine stm_36 C hP hD hS hu26 dX9_making_138 (fun H locs hP hD hS => ?_)
  refine lv_aload_n C.1 C.2.1 dX9_making_139 rfl (lv_at hl 0 rfl) ?_
  refine gtm_X9_cKind C hP wF_X9_120 dX9_making_140 ?_
  refine lv_iload_n C.1 C.2.1 dX9_making_143 rfl (lv_at hl 1 rfl) ?_
  refine lv_aload_n C.1 C.2.1 dX9_making_144 rfl (lv_at hl 0 rfl) ?_
  refine gtm_X9_mKind C hP wF_X9_41 dX9_making_145 ?_
  refine lv_iload C.1 C.2.1 dX9_making_148 (lv_at hl 2 rfl) ?_
  obtain ⟨v27, hv27, hf⟩ := Option.bind_eq_some_iff.mp hf
  refine ldm_11 C hP hv27 dX9_making_150 ?_
  obtain ⟨u28, hu28, hf⟩ := Option.bind_eq_some_iff.mp hf
  refine stm_40 C hP hD hS hu28 dX9_making_151 (fun H locs hP hD hS => ?_)
  refine lv_aload_n C.1 C.2.1 dX9_making_152 rfl (lv_at hl 0 rfl) ?_
  refine gtm_X9_cValue C hP wF_X9_111 dX9_making_153 ?_
  refine lv_iload_n C.1 C.2.1 dX9_making_156 rfl (lv_at hl 1 rfl) ?_
  refine lv_aload_n C.1 C.2.1 dX9_making_157 rfl (lv_at hl 0 rfl) ?_
  refine gtm_X9_mKind C hP wF_X9_41 dX9_making_158 ?_
  refine lv_iload C.1 C.2.1 dX9_making_161 (lv_at hl 2 rfl) ?_
  obtain ⟨v29, hv29, hf⟩ := Option.bind_eq_some_iff.mp hf
  refine ldm_11 C hP hv29 dX9_making_163 ?_
  refine lv_aload_n C.1 C.2.1 dX9_making_164 rfl (lv_at hl 0 rfl) ?_
  refine gtm_X9_mValue C hP wF_X9_50 dX9_making_165 ?_
  refine lv_iload C.1 C.2.1 dX9_making_168 (lv_at hl 2 rfl) ?_
  obtain ⟨v30, hv30, hf⟩ := Option.bind_eq_some_iff.mp hf
  refine ldm_14 C hP hv30 dX9_making_170 ?_
  refine lv_aload_n C.1 C.2.1 dX9_making_171 rfl (lv_at hl 0 rfl) ?_
  refine gtm_X9_mKind C hP wF_X9_41 dX9_making_172 ?_
  refine lv_iload C.1 C.2.1 dX9_making_175 (lv_at hl 2 rfl) ?_
  obtain ⟨v31, hv31, hf⟩ := Option.bind_eq_some_iff.mp hf
  refine ldm_11 C hP hv31 dX9_making_177 ?_
  obtain ⟨v32, hv32, hf⟩ := Option.bind_eq_some_iff.mp hf
  refine cSl (As := [.int v29, .long v30, .int v31]) (rest := [.int x1, .ref (ad 37)]) C (mX9_comes hv32) vX9_comes wM_X9_270 ⟨Nat.le_of_ble_eq_true rfl, Nat.le_of_ble_eq_true rfl⟩ hP (fun U hU hW => SF.go hZ hS hU hW (fun _ h => h.elim)) hl.1 rfl rfl (Nat.le_of_ble_eq_true rfl) dX9_making_178 ⟨Nat.le_of_ble_eq_true rfl, Nat.le_of_ble_eq_true rfl⟩ ?_
  obtain ⟨u33, hu33, hf⟩ := Option.bind_eq_some_iff.mp hf
  refine stm_37 C hP hD hS hu33 dX9_making_181 (fun H locs hP hD hS => ?_)
  refine lv_iconst (v := 0) C.1 C.2.1 dX9_making_182 (by decide) ?_
  exact endWi C hP hD hS (Nat.le_refl _) (Nat.le_refl _) hf dX9_making_183
set_option maxRecDepth 100000 in
set_option maxHeartbeats 4000000 in
theorem bX9_making_L114 {r0 : Int32} {u0 : ST} {x1 : Int32} {x7 : Int32} {y1 : Int32} {y2 : Int32} (C : Cx p s m args meth c cX9_making 8 RX9 (some .int) g) (hA : ∀ q, s.heap.size ≤ q → A q) (hZ : SF A s) (hP : va_P g.1 vwCl (mW g ad u) H) (hD : va_D A (mW g ad u)) (hS : va_S A s.heap H locs) (hl : lv_has ls 8 [(0, .ref (ad 0)), (1, .int x1), (7, .int x7)]) (hf : fX9_making_L114 u x1 x7 y1 y2 = some (r0, u0)) : W p l e (rmW 4 103 0 0) s m args below meth c H locs 0 0 (MQ below (va_Qi (fun r v => r = r0 ∧ v = u0) (BW g A (mW g ad)) A) args s 0 0 A) (F0 m 114 ls [.int y2, .int y1, .ref (ad 38)]) := by
  rw [fX9_making_L114] at hf
  obtain ⟨u23, hu23, hf⟩ := Option.bind_eq_some_iff.mp hf
  refine stm_38 C hP hD hS hu23 dX9_making_114 (fun H locs hP hD hS => ?_)
  refine lv_aload_n C.1 C.2.1 dX9_making_115 rfl (lv_at hl 0 rfl) ?_
  refine gtm_X9_cKeeps C hP wF_X9_108 dX9_making_116 ?_
  refine lv_iload_n C.1 C.2.1 dX9_making_119 rfl (lv_at hl 1 rfl) ?_
  refine lv_aload_n C.1 C.2.1 dX9_making_120 rfl (lv_at hl 0 rfl) ?_
  refine gtm_X9_mMarks C hP wF_X9_38 dX9_making_121 ?_
  refine lv_iload C.1 C.2.1 dX9_making_124 (lv_at hl 2 rfl) ?_
  obtain ⟨v24, hv24, hf⟩ := Option.bind_eq_some_iff.mp hf
  refine ldm_10 C hP hv24 dX9_making_126 ?_
  refine lv_iconst (v := 3) C.1 C.2.1 dX9_making_127 (by decide) ?_
  refine lv_iand C.1 C.2.1 dX9_making_128 ?_
  refine lv_iconst (v := 3) C.1 C.2.1 dX9_making_129 (by decide) ?_
  refine lv_icmp_ne (tgt := 137) C.1 C.2.1 dX9_making_130 (by decide) (fun c25 => ?_) (fun c25 => ?_)
  · rw [if_neg c25] at hf
    refine lv_iconst (v := 0) C.1 C.2.1 dX9_making_137 (by decide) ?_
    exact bX9_making_L138 C hA hZ hP hD hS (lv_sub hl [0, 1, 2] rfl) hf
  · rw [if_pos c25] at hf
    refine lv_iconst (v := 1) C.1 C.2.1 dX9_making_133 (by decide) ?_
    refine lv_goto (tgt := 138) C.1 C.2.1 dX9_making_134 (by decide) ?_
    exact bX9_making_L138 C hA hZ hP hD hS (lv_sub hl [0, 1, 2] rfl) hf
set_option maxRecDepth 100000 in
set_option maxHeartbeats 4000000 in
theorem mX9_making {r0 : Int32} {u0 : ST} {x1 : Int32} {x2 : Int32} {x3 : Int32} {x4 : Int32} {x5 : Int32} {x6 : Int32} (hf : fX9_making u x1 x2 x3 x4 x5 x6 = some (r0, u0)) : MWi l yX9_making cX9_making 8 (some .int) 4 103 0 0 [.ref (ad 0), .int x1, .int x2, .int x3, .int x4, .int x5, .int x6] g (mW g ad) u r0 u0 := by
  refine entW (Qc := fun A => va_Qi (fun r v => r = r0 ∧ v = u0) (BW g A (mW g ad)) A) (by decide) (Nat.le_of_ble_eq_true rfl) ?_
  intro p e s m below meth c ls A C hP hD hS hA hZ hl
  have hl : lv_has ls 8 [(0, .ref (ad 0)), (1, .int x1), (2, .int x2), (3, .int x3), (4, .int x4), (5, .int x5), (6, .int x6)] := hl
  rw [fX9_making] at hf
  refine lv_aload_n C.1 C.2.1 dX9_making_0 rfl (lv_at hl 0 rfl) ?_
  refine gtm_X9_cSort C hP wF_X9_87 dX9_making_1 ?_
  refine lv_iload_n C.1 C.2.1 dX9_making_4 rfl (lv_at hl 1 rfl) ?_
  refine lv_iload_n C.1 C.2.1 dX9_making_5 rfl (lv_at hl 2 rfl) ?_
  obtain ⟨u1, hu1, hf⟩ := Option.bind_eq_some_iff.mp hf
  refine stm_29 C hP hD hS hu1 dX9_making_6 (fun H locs hP hD hS => ?_)
  refine lv_aload_n C.1 C.2.1 dX9_making_7 rfl (lv_at hl 0 rfl) ?_
  refine gtm_X9_cType C hP wF_X9_90 dX9_making_8 ?_
  refine lv_iload_n C.1 C.2.1 dX9_making_11 rfl (lv_at hl 1 rfl) ?_
  refine lv_iload_n C.1 C.2.1 dX9_making_12 rfl (lv_at hl 3 rfl) ?_
  obtain ⟨u2, hu2, hf⟩ := Option.bind_eq_some_iff.mp hf
  refine stm_30 C hP hD hS hu2 dX9_making_13 (fun H locs hP hD hS => ?_)
  refine lv_aload_n C.1 C.2.1 dX9_making_14 rfl (lv_at hl 0 rfl) ?_
  refine gtm_X9_cName C hP wF_X9_93 dX9_making_15 ?_
  refine lv_iload_n C.1 C.2.1 dX9_making_18 rfl (lv_at hl 1 rfl) ?_
  refine lv_iload C.1 C.2.1 dX9_making_19 (lv_at hl 4 rfl) ?_
  obtain ⟨u3, hu3, hf⟩ := Option.bind_eq_some_iff.mp hf
  refine stm_31 C hP hD hS hu3 dX9_making_21 (fun H locs hP hD hS => ?_)
  refine lv_aload_n C.1 C.2.1 dX9_making_22 rfl (lv_at hl 0 rfl) ?_
  refine gtm_X9_cArgument C hP wF_X9_96 dX9_making_23 ?_
  refine lv_iload_n C.1 C.2.1 dX9_making_26 rfl (lv_at hl 1 rfl) ?_
  refine lv_iload C.1 C.2.1 dX9_making_27 (lv_at hl 5 rfl) ?_
  obtain ⟨u4, hu4, hf⟩ := Option.bind_eq_some_iff.mp hf
  refine stm_32 C hP hD hS hu4 dX9_making_29 (fun H locs hP hD hS => ?_)
  refine lv_aload_n C.1 C.2.1 dX9_making_30 rfl (lv_at hl 0 rfl) ?_
  refine gtm_X9_cOther C hP wF_X9_99 dX9_making_31 ?_
  refine lv_iload_n C.1 C.2.1 dX9_making_34 rfl (lv_at hl 1 rfl) ?_
  refine lv_iload C.1 C.2.1 dX9_making_35 (lv_at hl 6 rfl) ?_
  obtain ⟨u5, hu5, hf⟩ := Option.bind_eq_some_iff.mp hf
  refine stm_33 C hP hD hS hu5 dX9_making_37 (fun H locs hP hD hS => ?_)
  refine lv_aload_n C.1 C.2.1 dX9_making_38 rfl (lv_at hl 0 rfl) ?_
  refine gtm_X9_cFirst C hP wF_X9_102 dX9_making_39 ?_
  refine lv_iload_n C.1 C.2.1 dX9_making_42 rfl (lv_at hl 1 rfl) ?_
  refine lv_bipush (v := -2) C.1 C.2.1 dX9_making_43 (by decide) ?_
  obtain ⟨u6, hu6, hf⟩ := Option.bind_eq_some_iff.mp hf
  refine stm_34 C hP hD hS hu6 dX9_making_45 (fun H locs hP hD hS => ?_)
  refine lv_aload_n C.1 C.2.1 dX9_making_46 rfl (lv_at hl 0 rfl) ?_
  refine gtm_X9_cSecond C hP wF_X9_105 dX9_making_47 ?_
  refine lv_iload_n C.1 C.2.1 dX9_making_50 rfl (lv_at hl 1 rfl) ?_
  refine lv_bipush (v := -2) C.1 C.2.1 dX9_making_51 (by decide) ?_
  obtain ⟨u7, hu7, hf⟩ := Option.bind_eq_some_iff.mp hf
  refine stm_35 C hP hD hS hu7 dX9_making_53 (fun H locs hP hD hS => ?_)
  refine lv_aload_n C.1 C.2.1 dX9_making_54 rfl (lv_at hl 0 rfl) ?_
  refine gtm_X9_cKeeps C hP wF_X9_108 dX9_making_55 ?_
  refine lv_iload_n C.1 C.2.1 dX9_making_58 rfl (lv_at hl 1 rfl) ?_
  refine lv_iconst (v := 0) C.1 C.2.1 dX9_making_59 (by decide) ?_
  obtain ⟨u8, hu8, hf⟩ := Option.bind_eq_some_iff.mp hf
  refine stm_36 C hP hD hS hu8 dX9_making_60 (fun H locs hP hD hS => ?_)
  refine lv_aload_n C.1 C.2.1 dX9_making_61 rfl (lv_at hl 0 rfl) ?_
  refine gtm_X9_cEdits C hP wF_X9_123 dX9_making_62 ?_
  refine lv_iload_n C.1 C.2.1 dX9_making_65 rfl (lv_at hl 1 rfl) ?_
  refine lv_aload_n C.1 C.2.1 dX9_making_66 rfl (lv_at hl 0 rfl) ?_
  refine gtm_X9_edits C hP wF_X9_232 dX9_making_67 ?_
  obtain ⟨u9, hu9, hf⟩ := Option.bind_eq_some_iff.mp hf
  refine stm_41 C hP hD hS hu9 dX9_making_70 (fun H locs hP hD hS => ?_)
  refine lv_iload_n C.1 C.2.1 dX9_making_71 rfl (lv_at hl 2 rfl) ?_
  refine lv_if_ne (tgt := 184) C.1 C.2.1 dX9_making_72 (by decide) (fun c10 => ?_) (fun c10 => ?_)
  · rw [if_neg c10] at hf
    refine lv_iload_n C.1 C.2.1 dX9_making_184 rfl (lv_at hl 2 rfl) ?_
    refine lv_iconst (v := 1) C.1 C.2.1 dX9_making_185 (by decide) ?_
    refine lv_icmp_ne (tgt := 202) C.1 C.2.1 dX9_making_186 (by decide) (fun c11 => ?_) (fun c11 => ?_)
    · rw [if_neg c11] at hf
      refine lv_aload_n C.1 C.2.1 dX9_making_202 rfl (lv_at hl 0 rfl) ?_
      refine gtm_X9_isFace C hP wF_X9_7 dX9_making_203 ?_
      refine lv_iload_n C.1 C.2.1 dX9_making_206 rfl (lv_at hl 3 rfl) ?_
      obtain ⟨v12, hv12, hf⟩ := Option.bind_eq_some_iff.mp hf
      refine ldm_1 C hP hv12 dX9_making_207 ?_
      refine lv_if_ne (tgt := 222) C.1 C.2.1 dX9_making_208 (by decide) (fun c13 => ?_) (fun c13 => ?_)
      · rw [if_neg c13] at hf
        refine lv_iconst (v := 3) C.1 C.2.1 dX9_making_222 (by decide) ?_
        refine lv_goto (tgt := 227) C.1 C.2.1 dX9_making_223 (by decide) ?_
        exact endWi C hP hD hS (Nat.le_refl _) (Nat.le_refl _) hf dX9_making_227
      · rw [if_pos c13] at hf
        refine lv_aload_n C.1 C.2.1 dX9_making_211 rfl (lv_at hl 0 rfl) ?_
        refine gtm_X9_tMarks C hP wF_X9_17 dX9_making_212 ?_
        refine lv_iload_n C.1 C.2.1 dX9_making_215 rfl (lv_at hl 3 rfl) ?_
        obtain ⟨v14, hv14, hf⟩ := Option.bind_eq_some_iff.mp hf
        refine ldm_3 C hP hv14 dX9_making_216 ?_
        refine lv_iconst (v := 1) C.1 C.2.1 dX9_making_217 (by decide) ?_
        refine lv_iand C.1 C.2.1 dX9_making_218 ?_
        refine lv_if_eq (tgt := 226) C.1 C.2.1 dX9_making_219 (by decide) (fun c15 => ?_) (fun c15 => ?_)
        · rw [if_pos c15] at hf
          refine lv_iconst (v := 0) C.1 C.2.1 dX9_making_226 (by decide) ?_
          exact endWi C hP hD hS (Nat.le_refl _) (Nat.le_refl _) hf dX9_making_227
        · rw [if_neg c15] at hf
          refine lv_iconst (v := 3) C.1 C.2.1 dX9_making_222 (by decide) ?_
          refine lv_goto (tgt := 227) C.1 C.2.1 dX9_making_223 (by decide) ?_
          exact endWi C hP hD hS (Nat.le_refl _) (Nat.le_refl _) hf dX9_making_227
    · rw [if_pos c11] at hf
      refine lv_aload_n C.1 C.2.1 dX9_making_189 rfl (lv_at hl 0 rfl) ?_
      refine lv_iload_n C.1 C.2.1 dX9_making_190 rfl (lv_at hl 1 rfl) ?_
      refine lv_iload_n C.1 C.2.1 dX9_making_191 rfl (lv_at hl 3 rfl) ?_
      refine lv_iload C.1 C.2.1 dX9_making_192 (lv_at hl 4 rfl) ?_
      refine lv_iload C.1 C.2.1 dX9_making_194 (lv_at hl 5 rfl) ?_
      refine lv_iload C.1 C.2.1 dX9_making_196 (lv_at hl 6 rfl) ?_
      obtain ⟨v17, u16, hu16, hf⟩ := b2_some hf
      refine cWi (As := [.int x1, .int x3, .int x4, .int x5, .int x6]) (rest := []) (mc := 0) (ms := 0) C (mX9_makingCall hu16) vX9_makingCall wM_X9_274 ⟨Nat.le_of_ble_eq_true rfl, Nat.le_of_ble_eq_true rfl⟩ hP hD hS hA hZ (rcm_X9 C hP) hl.1 rfl rfl (Nat.le_of_ble_eq_true rfl) dX9_making_198 ⟨Nat.le_of_ble_eq_true rfl, Nat.le_of_ble_eq_true rfl⟩ (fun H locs hP hD hS => ?_)
      exact endWi C hP hD hS (Nat.le_refl _) (Nat.le_refl _) hf dX9_making_201
  · rw [if_pos c10] at hf
    refine lv_aload_n C.1 C.2.1 dX9_making_75 rfl (lv_at hl 0 rfl) ?_
    refine lv_iload_n C.1 C.2.1 dX9_making_76 rfl (lv_at hl 3 rfl) ?_
    refine lv_iload C.1 C.2.1 dX9_making_77 (lv_at hl 4 rfl) ?_
    refine lv_iconst (v := 1) C.1 C.2.1 dX9_making_79 (by decide) ?_
    obtain ⟨v19, u18, hu18, hf⟩ := b2_some hf
    refine cWi (As := [.int x3, .int x4, .int 1]) (rest := []) (mc := 0) (ms := 0) C (mX9_lookForField hu18) vX9_lookForField wM_X9_266 ⟨Nat.le_of_ble_eq_true rfl, Nat.le_of_ble_eq_true rfl⟩ hP hD hS hA hZ (rcm_X9 C hP) hl.1 rfl rfl (Nat.le_of_ble_eq_true rfl) dX9_making_80 ⟨Nat.le_of_ble_eq_true rfl, Nat.le_of_ble_eq_true rfl⟩ (fun H locs hP hD hS => ?_)
    refine lv_istore (lv' := [(7, .int v19), (0, .ref (ad 0)), (1, .int x1), (2, .int x2), (3, .int x3), (4, .int x4), (5, .int x5), (6, .int x6)]) C.1 C.2.1 dX9_making_83 hl (by decide) rfl (fun ls hl => ?_)
    refine lv_iload C.1 C.2.1 dX9_making_85 (lv_at hl 0 rfl) ?_
    refine lv_if_ge (tgt := 92) C.1 C.2.1 dX9_making_87 (by decide) (fun c20 => ?_) (fun c20 => ?_)
    · rw [if_pos c20] at hf
      refine lv_aload_n C.1 C.2.1 dX9_making_92 rfl (lv_at hl 1 rfl) ?_
      refine gtm_X9_cStatic C hP wF_X9_114 dX9_making_93 ?_
      refine lv_iload_n C.1 C.2.1 dX9_making_96 rfl (lv_at hl 2 rfl) ?_
      refine lv_aload_n C.1 C.2.1 dX9_making_97 rfl (lv_at hl 1 rfl) ?_
      refine gtm_X9_mMarks C hP wF_X9_38 dX9_making_98 ?_
      refine lv_iload C.1 C.2.1 dX9_making_101 (lv_at hl 0 rfl) ?_
      obtain ⟨v21, hv21, hf⟩ := Option.bind_eq_some_iff.mp hf
      refine ldm_10 C hP hv21 dX9_making_103 ?_
      refine lv_iconst (v := 1) C.1 C.2.1 dX9_making_104 (by decide) ?_
      refine lv_iand C.1 C.2.1 dX9_making_105 ?_
      refine lv_if_eq (tgt := 113) C.1 C.2.1 dX9_making_106 (by decide) (fun c22 => ?_) (fun c22 => ?_)
      · rw [if_pos c22] at hf
        refine lv_iconst (v := 0) C.1 C.2.1 dX9_making_113 (by decide) ?_
        exact bX9_making_L114 C hA hZ hP hD hS (lv_sub hl [1, 2, 0] rfl) hf
      · rw [if_neg c22] at hf
        refine lv_iconst (v := 1) C.1 C.2.1 dX9_making_109 (by decide) ?_
        refine lv_goto (tgt := 114) C.1 C.2.1 dX9_making_110 (by decide) ?_
        exact bX9_making_L114 C hA hZ hP hD hS (lv_sub hl [1, 2, 0] rfl) hf
    · rw [if_neg c20] at hf
      refine lv_iconst (v := 1) C.1 C.2.1 dX9_making_90 (by decide) ?_
      exact endWi C hP hD hS (Nat.le_refl _) (Nat.le_refl _) hf dX9_making_91
end
theorem vX9_making : YV yX9_making cX9_making 8 (some .int) 6 := ⟨⟨wK_X9_making, wZ_X9, by decide +kernel⟩, wI_X9_making, wV_X9_making⟩
def fX9_newCaller (u : ST) (x1 : Int32) (x2 : Int32) (x3 : Int32) (x4 : Int32) (x5 : Int32) : Option (Int32 × ST) :=
  if (sI u 28) = 24 then
    some ((-3), u)
  else
    b2 (fX9_making u (sI u 28) x1 x2 x3 x4 x5) fun v3 u2 =>
    if v3 ≤ 0 then
      (some (uI u2 28 ((sI u2 28) + 1))).bind fun u5 =>
      some (((sI u5 28) - 1), u5)
    else
      some (((-10) - v3), u2)
section
variable {p : Program} {l : Launch} {e : Env} {s : State} {m : MethodId} {args : Array Value} {below : List Frame} {meth : Method} {c : Code} {H : Heap} {locs : List Loc} {g : GP} {ls : Array Slot} {A : Nat → Prop} {ad : Nat → Nat} {u : ST}
set_option maxRecDepth 100000 in
set_option maxHeartbeats 4000000 in
theorem mX9_newCaller {r0 : Int32} {u0 : ST} {x1 : Int32} {x2 : Int32} {x3 : Int32} {x4 : Int32} {x5 : Int32} (hf : fX9_newCaller u x1 x2 x3 x4 x5 = some (r0, u0)) : MWi l yX9_newCaller cX9_newCaller 7 (some .int) 5 130 0 0 [.ref (ad 0), .int x1, .int x2, .int x3, .int x4, .int x5] g (mW g ad) u r0 u0 := by
  refine entW (Qc := fun A => va_Qi (fun r v => r = r0 ∧ v = u0) (BW g A (mW g ad)) A) (by decide) (Nat.le_of_ble_eq_true rfl) ?_
  intro p e s m below meth c ls A C hP hD hS hA hZ hl
  have hl : lv_has ls 7 [(0, .ref (ad 0)), (1, .int x1), (2, .int x2), (3, .int x3), (4, .int x4), (5, .int x5)] := hl
  rw [fX9_newCaller] at hf
  refine lv_aload_n C.1 C.2.1 dX9_newCaller_0 rfl (lv_at hl 0 rfl) ?_
  refine gtm_X9_callers C hP wF_X9_284 dX9_newCaller_1 ?_
  refine lv_bipush (v := 24) C.1 C.2.1 dX9_newCaller_4 (by decide) ?_
  refine lv_icmp_ne (tgt := 12) C.1 C.2.1 dX9_newCaller_6 (by decide) (fun c1 => ?_) (fun c1 => ?_)
  · rw [if_neg c1] at hf
    refine lv_aload_n C.1 C.2.1 dX9_newCaller_12 rfl (lv_at hl 0 rfl) ?_
    refine lv_aload_n C.1 C.2.1 dX9_newCaller_13 rfl (lv_at hl 0 rfl) ?_
    refine gtm_X9_callers C hP wF_X9_284 dX9_newCaller_14 ?_
    refine lv_iload_n C.1 C.2.1 dX9_newCaller_17 rfl (lv_at hl 1 rfl) ?_
    refine lv_iload_n C.1 C.2.1 dX9_newCaller_18 rfl (lv_at hl 2 rfl) ?_
    refine lv_iload_n C.1 C.2.1 dX9_newCaller_19 rfl (lv_at hl 3 rfl) ?_
    refine lv_iload C.1 C.2.1 dX9_newCaller_20 (lv_at hl 4 rfl) ?_
    refine lv_iload C.1 C.2.1 dX9_newCaller_22 (lv_at hl 5 rfl) ?_
    obtain ⟨v3, u2, hu2, hf⟩ := b2_some hf
    refine cWi (As := [.int (sI u 28), .int x1, .int x2, .int x3, .int x4, .int x5]) (rest := []) (mc := 0) (ms := 0) C (mX9_making hu2) vX9_making wM_X9_287 ⟨Nat.le_of_ble_eq_true rfl, Nat.le_of_ble_eq_true rfl⟩ hP hD hS hA hZ (rcm_X9 C hP) hl.1 rfl rfl (Nat.le_of_ble_eq_true rfl) dX9_newCaller_24 ⟨Nat.le_of_ble_eq_true rfl, Nat.le_of_ble_eq_true rfl⟩ (fun H locs hP hD hS => ?_)
    refine lv_istore (lv' := [(6, .int v3), (0, .ref (ad 0)), (1, .int x1), (2, .int x2), (3, .int x3), (4, .int x4), (5, .int x5)]) C.1 C.2.1 dX9_newCaller_27 hl (by decide) rfl (fun ls hl => ?_)
    refine lv_iload C.1 C.2.1 dX9_newCaller_29 (lv_at hl 0 rfl) ?_
    refine lv_if_le (tgt := 40) C.1 C.2.1 dX9_newCaller_31 (by decide) (fun c4 => ?_) (fun c4 => ?_)
    · rw [if_pos c4] at hf
      refine lv_aload_n C.1 C.2.1 dX9_newCaller_40 rfl (lv_at hl 1 rfl) ?_
      refine lv_dup C.1 C.2.1 dX9_newCaller_41 rfl ?_
      refine gtm_X9_callers C hP wF_X9_284 dX9_newCaller_42 ?_
      refine lv_iconst (v := 1) C.1 C.2.1 dX9_newCaller_45 (by decide) ?_
      refine lv_iadd C.1 C.2.1 dX9_newCaller_46 ?_
      obtain ⟨u5, hu5, hf⟩ := Option.bind_eq_some_iff.mp hf
      refine ptm_X9_callers C hP hD hS wF_X9_284 dX9_newCaller_47 (fun H locs hP hD hS => ?_)
      rw [Option.some.inj hu5] at hP hD
      refine lv_aload_n C.1 C.2.1 dX9_newCaller_50 rfl (lv_at hl 1 rfl) ?_
      refine gtm_X9_callers C hP wF_X9_284 dX9_newCaller_51 ?_
      refine lv_iconst (v := 1) C.1 C.2.1 dX9_newCaller_54 (by decide) ?_
      refine lv_isub C.1 C.2.1 dX9_newCaller_55 ?_
      exact endWi C hP hD hS (Nat.le_refl _) (Nat.le_refl _) hf dX9_newCaller_56
    · rw [if_neg c4] at hf
      refine lv_bipush (v := -10) C.1 C.2.1 dX9_newCaller_34 (by decide) ?_
      refine lv_iload C.1 C.2.1 dX9_newCaller_36 (lv_at hl 0 rfl) ?_
      refine lv_isub C.1 C.2.1 dX9_newCaller_38 ?_
      exact endWi C hP hD hS (Nat.le_refl _) (Nat.le_refl _) hf dX9_newCaller_39
  · rw [if_pos c1] at hf
    refine lv_bipush (v := -3) C.1 C.2.1 dX9_newCaller_9 (by decide) ?_
    exact endWi C hP hD hS (Nat.le_refl _) (Nat.le_refl _) hf dX9_newCaller_11
end
theorem vX9_newCaller : YV yX9_newCaller cX9_newCaller 7 (some .int) 5 := ⟨⟨wK_X9_newCaller, wZ_X9, by decide +kernel⟩, wI_X9_newCaller, wV_X9_newCaller⟩
def fX9_get (u : ST) (x1 : Int32) (x2 : Int32) : Option (Int32 × ST) :=
  (fX9_isType u x1).bind fun v1 =>
  if v1 = 0 then
    some ((-1), u)
  else
    (fX9_in u ((x2 : Int32).toInt64) 0 9).bind fun v3 =>
    if v3 = 0 then
      some ((-1), u)
    else
      b2 (fX9_newCaller u 0 x1 x2 (-2) (-2)) fun v6 u5 =>
      some (v6, u5)
section
variable {p : Program} {l : Launch} {e : Env} {s : State} {m : MethodId} {args : Array Value} {below : List Frame} {meth : Method} {c : Code} {H : Heap} {locs : List Loc} {g : GP} {ls : Array Slot} {A : Nat → Prop} {ad : Nat → Nat} {u : ST}
set_option maxRecDepth 100000 in
set_option maxHeartbeats 4000000 in
theorem mX9_get {r0 : Int32} {u0 : ST} {x1 : Int32} {x2 : Int32} (hf : fX9_get u x1 x2 = some (r0, u0)) : MWi l yX9_get cX9_get 3 (some .int) 6 156 0 0 [.ref (ad 0), .int x1, .int x2] g (mW g ad) u r0 u0 := by
  refine entW (Qc := fun A => va_Qi (fun r v => r = r0 ∧ v = u0) (BW g A (mW g ad)) A) (by decide) (Nat.le_of_ble_eq_true rfl) ?_
  intro p e s m below meth c ls A C hP hD hS hA hZ hl
  have hl : lv_has ls 3 [(0, .ref (ad 0)), (1, .int x1), (2, .int x2)] := hl
  rw [fX9_get] at hf
  refine lv_aload_n C.1 C.2.1 dX9_get_0 rfl (lv_at hl 0 rfl) ?_
  refine lv_iload_n C.1 C.2.1 dX9_get_1 rfl (lv_at hl 1 rfl) ?_
  obtain ⟨v1, hv1, hf⟩ := Option.bind_eq_some_iff.mp hf
  refine cRi (As := [.int x1]) (rest := []) C (mX9_isType hv1) vX9_isType wM_X9_137 ⟨Nat.le_of_ble_eq_true rfl, Nat.le_of_ble_eq_true rfl⟩ hP (rcm_X9 C hP) (fun U hU hW => SF.go hZ hS hU hW (fun _ h => h.elim)) hl.1 rfl rfl (Nat.le_of_ble_eq_true rfl) dX9_get_2 ⟨Nat.le_of_ble_eq_true rfl, Nat.le_of_ble_eq_true rfl⟩ ?_
  refine lv_if_eq (tgt := 34) C.1 C.2.1 dX9_get_5 (by decide) (fun c2 => ?_) (fun c2 => ?_)
  · rw [if_pos c2] at hf
    refine lv_iconst (v := -1) C.1 C.2.1 dX9_get_34 (by decide) ?_
    exact endWi C hP hD hS (Nat.le_refl _) (Nat.le_refl _) hf dX9_get_35
  · rw [if_neg c2] at hf
    refine lv_iload_n C.1 C.2.1 dX9_get_8 rfl (lv_at hl 2 rfl) ?_
    refine lv_i2l C.1 C.2.1 dX9_get_9 rfl ?_
    refine lv_lconst (v := 0) C.1 C.2.1 dX9_get_10 (by decide) ?_
    refine lv_ldc2 (v := 9) C.1 C.2.1 C.2.2.2.1 (C.2.2.2.2.1 _ wKL_X9_190) dX9_get_11 ?_
    obtain ⟨v3, hv3, hf⟩ := Option.bind_eq_some_iff.mp hf
    refine cSi (As := [.long ((x2 : Int32).toInt64), .long 0, .long 9]) (rest := []) C (mX9_in hv3) vX9_in wM_X9_133 ⟨Nat.le_of_ble_eq_true rfl, Nat.le_of_ble_eq_true rfl⟩ hP (fun U hU hW => SF.go hZ hS hU hW (fun _ h => h.elim)) hl.1 rfl rfl (Nat.le_of_ble_eq_true rfl) dX9_get_14 ⟨Nat.le_of_ble_eq_true rfl, Nat.le_of_ble_eq_true rfl⟩ ?_
    refine lv_if_eq (tgt := 34) C.1 C.2.1 dX9_get_17 (by decide) (fun c4 => ?_) (fun c4 => ?_)
    · rw [if_pos c4] at hf
      refine lv_iconst (v := -1) C.1 C.2.1 dX9_get_34 (by decide) ?_
      exact endWi C hP hD hS (Nat.le_refl _) (Nat.le_refl _) hf dX9_get_35
    · rw [if_neg c4] at hf
      refine lv_aload_n C.1 C.2.1 dX9_get_20 rfl (lv_at hl 0 rfl) ?_
      refine lv_iconst (v := 0) C.1 C.2.1 dX9_get_21 (by decide) ?_
      refine lv_iload_n C.1 C.2.1 dX9_get_22 rfl (lv_at hl 1 rfl) ?_
      refine lv_iload_n C.1 C.2.1 dX9_get_23 rfl (lv_at hl 2 rfl) ?_
      refine lv_bipush (v := -2) C.1 C.2.1 dX9_get_24 (by decide) ?_
      refine lv_bipush (v := -2) C.1 C.2.1 dX9_get_26 (by decide) ?_
      obtain ⟨v6, u5, hu5, hf⟩ := b2_some hf
      refine cWi (As := [.int 0, .int x1, .int x2, .int (-2), .int (-2)]) (rest := []) (mc := 0) (ms := 0) C (mX9_newCaller hu5) vX9_newCaller wM_X9_290 ⟨Nat.le_of_ble_eq_true rfl, Nat.le_of_ble_eq_true rfl⟩ hP hD hS hA hZ (rcm_X9 C hP) hl.1 rfl rfl (Nat.le_of_ble_eq_true rfl) dX9_get_28 ⟨Nat.le_of_ble_eq_true rfl, Nat.le_of_ble_eq_true rfl⟩ (fun H locs hP hD hS => ?_)
      refine lv_goto (tgt := 35) C.1 C.2.1 dX9_get_31 (by decide) ?_
      exact endWi C hP hD hS (Nat.le_refl _) (Nat.le_refl _) hf dX9_get_35
end
theorem vX9_get : YV yX9_get cX9_get 3 (some .int) 2 := ⟨⟨wK_X9_get, wZ_X9, by decide +kernel⟩, wI_X9_get, wV_X9_get⟩
def fX9_call (u : ST) (x1 : Int32) (x2 : Int32) (x3 : Int32) (x4 : Int32) : Option (Int32 × ST) :=
  (fX9_isType u x1).bind fun v1 =>
  if v1 = 0 then
    some ((-1), u)
  else
    (fX9_in u ((x2 : Int32).toInt64) 0 9).bind fun v3 =>
    if v3 = 0 then
      some ((-1), u)
    else
      (fX9_areParameters u x3 x4).bind fun v5 =>
      if v5 = 0 then
        some ((-1), u)
      else
        b2 (fX9_newCaller u 1 x1 x2 x3 x4) fun v8 u7 =>
        some (v8, u7)
section
variable {p : Program} {l : Launch} {e : Env} {s : State} {m : MethodId} {args : Array Value} {below : List Frame} {meth : Method} {c : Code} {H : Heap} {locs : List Loc} {g : GP} {ls : Array Slot} {A : Nat → Prop} {ad : Nat → Nat} {u : ST}
set_option maxRecDepth 100000 in
set_option maxHeartbeats 4000000 in
theorem mX9_call {r0 : Int32} {u0 : ST} {x1 : Int32} {x2 : Int32} {x3 : Int32} {x4 : Int32} (hf : fX9_call u x1 x2 x3 x4 = some (r0, u0)) : MWi l yX9_call cX9_call 5 (some .int) 6 156 0 0 [.ref (ad 0), .int x1, .int x2, .int x3, .int x4] g (mW g ad) u r0 u0 := by
  refine entW (Qc := fun A => va_Qi (fun r v => r = r0 ∧ v = u0) (BW g A (mW g ad)) A) (by decide) (Nat.le_of_ble_eq_true rfl) ?_
  intro p e s m below meth c ls A C hP hD hS hA hZ hl
  have hl : lv_has ls 5 [(0, .ref (ad 0)), (1, .int x1), (2, .int x2), (3, .int x3), (4, .int x4)] := hl
  rw [fX9_call] at hf
  refine lv_aload_n C.1 C.2.1 dX9_call_0 rfl (lv_at hl 0 rfl) ?_
  refine lv_iload_n C.1 C.2.1 dX9_call_1 rfl (lv_at hl 1 rfl) ?_
  obtain ⟨v1, hv1, hf⟩ := Option.bind_eq_some_iff.mp hf
  refine cRi (As := [.int x1]) (rest := []) C (mX9_isType hv1) vX9_isType wM_X9_137 ⟨Nat.le_of_ble_eq_true rfl, Nat.le_of_ble_eq_true rfl⟩ hP (rcm_X9 C hP) (fun U hU hW => SF.go hZ hS hU hW (fun _ h => h.elim)) hl.1 rfl rfl (Nat.le_of_ble_eq_true rfl) dX9_call_2 ⟨Nat.le_of_ble_eq_true rfl, Nat.le_of_ble_eq_true rfl⟩ ?_
  refine lv_if_eq (tgt := 43) C.1 C.2.1 dX9_call_5 (by decide) (fun c2 => ?_) (fun c2 => ?_)
  · rw [if_pos c2] at hf
    refine lv_iconst (v := -1) C.1 C.2.1 dX9_call_43 (by decide) ?_
    exact endWi C hP hD hS (Nat.le_refl _) (Nat.le_refl _) hf dX9_call_44
  · rw [if_neg c2] at hf
    refine lv_iload_n C.1 C.2.1 dX9_call_8 rfl (lv_at hl 2 rfl) ?_
    refine lv_i2l C.1 C.2.1 dX9_call_9 rfl ?_
    refine lv_lconst (v := 0) C.1 C.2.1 dX9_call_10 (by decide) ?_
    refine lv_ldc2 (v := 9) C.1 C.2.1 C.2.2.2.1 (C.2.2.2.2.1 _ wKL_X9_190) dX9_call_11 ?_
    obtain ⟨v3, hv3, hf⟩ := Option.bind_eq_some_iff.mp hf
    refine cSi (As := [.long ((x2 : Int32).toInt64), .long 0, .long 9]) (rest := []) C (mX9_in hv3) vX9_in wM_X9_133 ⟨Nat.le_of_ble_eq_true rfl, Nat.le_of_ble_eq_true rfl⟩ hP (fun U hU hW => SF.go hZ hS hU hW (fun _ h => h.elim)) hl.1 rfl rfl (Nat.le_of_ble_eq_true rfl) dX9_call_14 ⟨Nat.le_of_ble_eq_true rfl, Nat.le_of_ble_eq_true rfl⟩ ?_
    refine lv_if_eq (tgt := 43) C.1 C.2.1 dX9_call_17 (by decide) (fun c4 => ?_) (fun c4 => ?_)
    · rw [if_pos c4] at hf
      refine lv_iconst (v := -1) C.1 C.2.1 dX9_call_43 (by decide) ?_
      exact endWi C hP hD hS (Nat.le_refl _) (Nat.le_refl _) hf dX9_call_44
    · rw [if_neg c4] at hf
      refine lv_aload_n C.1 C.2.1 dX9_call_20 rfl (lv_at hl 0 rfl) ?_
      refine lv_iload_n C.1 C.2.1 dX9_call_21 rfl (lv_at hl 3 rfl) ?_
      refine lv_iload C.1 C.2.1 dX9_call_22 (lv_at hl 4 rfl) ?_
      obtain ⟨v5, hv5, hf⟩ := Option.bind_eq_some_iff.mp hf
      refine cRi (As := [.int x3, .int x4]) (rest := []) C (mX9_areParameters hv5) vX9_areParameters wM_X9_200 ⟨Nat.le_of_ble_eq_true rfl, Nat.le_of_ble_eq_true rfl⟩ hP (rcm_X9 C hP) (fun U hU hW => SF.go hZ hS hU hW (fun _ h => h.elim)) hl.1 rfl rfl (Nat.le_of_ble_eq_true rfl) dX9_call_24 ⟨Nat.le_of_ble_eq_true rfl, Nat.le_of_ble_eq_true rfl⟩ ?_
      refine lv_if_eq (tgt := 43) C.1 C.2.1 dX9_call_27 (by decide) (fun c6 => ?_) (fun c6 => ?_)
      · rw [if_pos c6] at hf
        refine lv_iconst (v := -1) C.1 C.2.1 dX9_call_43 (by decide) ?_
        exact endWi C hP hD hS (Nat.le_refl _) (Nat.le_refl _) hf dX9_call_44
      · rw [if_neg c6] at hf
        refine lv_aload_n C.1 C.2.1 dX9_call_30 rfl (lv_at hl 0 rfl) ?_
        refine lv_iconst (v := 1) C.1 C.2.1 dX9_call_31 (by decide) ?_
        refine lv_iload_n C.1 C.2.1 dX9_call_32 rfl (lv_at hl 1 rfl) ?_
        refine lv_iload_n C.1 C.2.1 dX9_call_33 rfl (lv_at hl 2 rfl) ?_
        refine lv_iload_n C.1 C.2.1 dX9_call_34 rfl (lv_at hl 3 rfl) ?_
        refine lv_iload C.1 C.2.1 dX9_call_35 (lv_at hl 4 rfl) ?_
        obtain ⟨v8, u7, hu7, hf⟩ := b2_some hf
        refine cWi (As := [.int 1, .int x1, .int x2, .int x3, .int x4]) (rest := []) (mc := 0) (ms := 0) C (mX9_newCaller hu7) vX9_newCaller wM_X9_290 ⟨Nat.le_of_ble_eq_true rfl, Nat.le_of_ble_eq_true rfl⟩ hP hD hS hA hZ (rcm_X9 C hP) hl.1 rfl rfl (Nat.le_of_ble_eq_true rfl) dX9_call_37 ⟨Nat.le_of_ble_eq_true rfl, Nat.le_of_ble_eq_true rfl⟩ (fun H locs hP hD hS => ?_)
        refine lv_goto (tgt := 44) C.1 C.2.1 dX9_call_40 (by decide) ?_
        exact endWi C hP hD hS (Nat.le_refl _) (Nat.le_refl _) hf dX9_call_44
end
theorem vX9_call : YV yX9_call cX9_call 5 (some .int) 4 := ⟨⟨wK_X9_call, wZ_X9, by decide +kernel⟩, wI_X9_call, wV_X9_call⟩
def fX9_make (u : ST) (x1 : Int32) : Option (Int32 × ST) :=
  (fX9_isType u x1).bind fun v1 =>
  if v1 = 0 then
    some ((-1), u)
  else
    b2 (fX9_newCaller u 2 x1 (-2) (-2) (-2)) fun v4 u3 =>
    some (v4, u3)
section
variable {p : Program} {l : Launch} {e : Env} {s : State} {m : MethodId} {args : Array Value} {below : List Frame} {meth : Method} {c : Code} {H : Heap} {locs : List Loc} {g : GP} {ls : Array Slot} {A : Nat → Prop} {ad : Nat → Nat} {u : ST}
set_option maxRecDepth 100000 in
set_option maxHeartbeats 4000000 in
theorem mX9_make {r0 : Int32} {u0 : ST} {x1 : Int32} (hf : fX9_make u x1 = some (r0, u0)) : MWi l yX9_make cX9_make 2 (some .int) 6 156 0 0 [.ref (ad 0), .int x1] g (mW g ad) u r0 u0 := by
  refine entW (Qc := fun A => va_Qi (fun r v => r = r0 ∧ v = u0) (BW g A (mW g ad)) A) (by decide) (Nat.le_of_ble_eq_true rfl) ?_
  intro p e s m below meth c ls A C hP hD hS hA hZ hl
  have hl : lv_has ls 2 [(0, .ref (ad 0)), (1, .int x1)] := hl
  rw [fX9_make] at hf
  refine lv_aload_n C.1 C.2.1 dX9_make_0 rfl (lv_at hl 0 rfl) ?_
  refine lv_iload_n C.1 C.2.1 dX9_make_1 rfl (lv_at hl 1 rfl) ?_
  obtain ⟨v1, hv1, hf⟩ := Option.bind_eq_some_iff.mp hf
  refine cRi (As := [.int x1]) (rest := []) C (mX9_isType hv1) vX9_isType wM_X9_137 ⟨Nat.le_of_ble_eq_true rfl, Nat.le_of_ble_eq_true rfl⟩ hP (rcm_X9 C hP) (fun U hU hW => SF.go hZ hS hU hW (fun _ h => h.elim)) hl.1 rfl rfl (Nat.le_of_ble_eq_true rfl) dX9_make_2 ⟨Nat.le_of_ble_eq_true rfl, Nat.le_of_ble_eq_true rfl⟩ ?_
  refine lv_if_eq (tgt := 23) C.1 C.2.1 dX9_make_5 (by decide) (fun c2 => ?_) (fun c2 => ?_)
  · rw [if_pos c2] at hf
    refine lv_iconst (v := -1) C.1 C.2.1 dX9_make_23 (by decide) ?_
    exact endWi C hP hD hS (Nat.le_refl _) (Nat.le_refl _) hf dX9_make_24
  · rw [if_neg c2] at hf
    refine lv_aload_n C.1 C.2.1 dX9_make_8 rfl (lv_at hl 0 rfl) ?_
    refine lv_iconst (v := 2) C.1 C.2.1 dX9_make_9 (by decide) ?_
    refine lv_iload_n C.1 C.2.1 dX9_make_10 rfl (lv_at hl 1 rfl) ?_
    refine lv_bipush (v := -2) C.1 C.2.1 dX9_make_11 (by decide) ?_
    refine lv_bipush (v := -2) C.1 C.2.1 dX9_make_13 (by decide) ?_
    refine lv_bipush (v := -2) C.1 C.2.1 dX9_make_15 (by decide) ?_
    obtain ⟨v4, u3, hu3, hf⟩ := b2_some hf
    refine cWi (As := [.int 2, .int x1, .int (-2), .int (-2), .int (-2)]) (rest := []) (mc := 0) (ms := 0) C (mX9_newCaller hu3) vX9_newCaller wM_X9_290 ⟨Nat.le_of_ble_eq_true rfl, Nat.le_of_ble_eq_true rfl⟩ hP hD hS hA hZ (rcm_X9 C hP) hl.1 rfl rfl (Nat.le_of_ble_eq_true rfl) dX9_make_17 ⟨Nat.le_of_ble_eq_true rfl, Nat.le_of_ble_eq_true rfl⟩ (fun H locs hP hD hS => ?_)
    refine lv_goto (tgt := 24) C.1 C.2.1 dX9_make_20 (by decide) ?_
    exact endWi C hP hD hS (Nat.le_refl _) (Nat.le_refl _) hf dX9_make_24
end
theorem vX9_make : YV yX9_make cX9_make 2 (some .int) 1 := ⟨⟨wK_X9_make, wZ_X9, by decide +kernel⟩, wI_X9_make, wV_X9_make⟩
def fX9_isCaller (u : ST) (x1 : Int32) : Option Int32 :=
  (fX9_in u ((x1 : Int32).toInt64) 0 ((((sI u 28) - 1) : Int32).toInt64)).bind fun v1 =>
  ck (isB v1) (some v1)
section
variable {p : Program} {l : Launch} {e : Env} {s : State} {m : MethodId} {args : Array Value} {below : List Frame} {meth : Method} {c : Code} {H : Heap} {locs : List Loc} {g : GP} {ls : Array Slot} {A : Nat → Prop} {ad : Nat → Nat} {u : ST}
set_option maxRecDepth 100000 in
set_option maxHeartbeats 4000000 in
theorem mX9_isCaller {r0 : Int32} {x1 : Int32} (hf : fX9_isCaller u x1 = some r0) : MRi l yX9_isCaller cX9_isCaller 2 (some .boolean) 1 25 [.ref (ad 0), .int x1] g (mW g ad u) r0 := by
  refine entR (by decide) (Nat.le_of_ble_eq_true rfl) ?_
  intro p e s m below meth c ls C hP hZ hl
  have hl : lv_has ls 2 [(0, .ref (ad 0)), (1, .int x1)] := hl
  rw [fX9_isCaller] at hf
  refine lv_iload_n C.1 C.2.1 dX9_isCaller_0 rfl (lv_at hl 1 rfl) ?_
  refine lv_i2l C.1 C.2.1 dX9_isCaller_1 rfl ?_
  refine lv_lconst (v := 0) C.1 C.2.1 dX9_isCaller_2 (by decide) ?_
  refine lv_aload_n C.1 C.2.1 dX9_isCaller_3 rfl (lv_at hl 0 rfl) ?_
  refine gtm_X9_callers C hP wF_X9_284 dX9_isCaller_4 ?_
  refine lv_iconst (v := 1) C.1 C.2.1 dX9_isCaller_7 (by decide) ?_
  refine lv_isub C.1 C.2.1 dX9_isCaller_8 ?_
  refine lv_i2l C.1 C.2.1 dX9_isCaller_9 rfl ?_
  obtain ⟨v1, hv1, hf⟩ := Option.bind_eq_some_iff.mp hf
  refine cSi (As := [.long ((x1 : Int32).toInt64), .long 0, .long ((((sI u 28) - 1) : Int32).toInt64)]) (rest := []) C (mX9_in hv1) vX9_in wM_X9_133 ⟨Nat.le_of_ble_eq_true rfl, Nat.le_of_ble_eq_true rfl⟩ hP (fun U hU hW => SF.go hZ va_S.rf hU hW (fun _ h => h)) hl.1 rfl rfl (Nat.le_of_ble_eq_true rfl) dX9_isCaller_10 ⟨Nat.le_of_ble_eq_true rfl, Nat.le_of_ble_eq_true rfl⟩ ?_
  obtain ⟨hB, hf⟩ := ck_some hf
  exact endRz C hB hf dX9_isCaller_13
end
theorem vX9_isCaller : YV yX9_isCaller cX9_isCaller 2 (some .boolean) 1 := ⟨⟨wK_X9_isCaller, wZ_X9, by decide +kernel⟩, wI_X9_isCaller, wV_X9_isCaller⟩
def fX9_isGone (u : ST) (x1 : Int32) : Option Int32 :=
  if x1 = (-2) then
    some 0
  else
    (fX9_isType u x1).bind fun v2 =>
    if v2 = 0 then
      some 1
    else
      some 0
section
variable {p : Program} {l : Launch} {e : Env} {s : State} {m : MethodId} {args : Array Value} {below : List Frame} {meth : Method} {c : Code} {H : Heap} {locs : List Loc} {g : GP} {ls : Array Slot} {A : Nat → Prop} {ad : Nat → Nat} {u : ST}
set_option maxRecDepth 100000 in
set_option maxHeartbeats 4000000 in
theorem mX9_isGone {r0 : Int32} {x1 : Int32} (hf : fX9_isGone u x1 = some r0) : MRi l yX9_isGone cX9_isGone 2 (some .boolean) 2 46 [.ref (ad 0), .int x1] g (mW g ad u) r0 := by
  refine entR (by decide) (Nat.le_of_ble_eq_true rfl) ?_
  intro p e s m below meth c ls C hP hZ hl
  have hl : lv_has ls 2 [(0, .ref (ad 0)), (1, .int x1)] := hl
  rw [fX9_isGone] at hf
  refine lv_iload_n C.1 C.2.1 dX9_isGone_0 rfl (lv_at hl 1 rfl) ?_
  refine lv_bipush (v := -2) C.1 C.2.1 dX9_isGone_1 (by decide) ?_
  refine lv_icmp_eq (tgt := 18) C.1 C.2.1 dX9_isGone_3 (by decide) (fun c1 => ?_) (fun c1 => ?_)
  · rw [if_pos c1] at hf
    refine lv_iconst (v := 0) C.1 C.2.1 dX9_isGone_18 (by decide) ?_
    exact endRz C rfl hf dX9_isGone_19
  · rw [if_neg c1] at hf
    refine lv_aload_n C.1 C.2.1 dX9_isGone_6 rfl (lv_at hl 0 rfl) ?_
    refine lv_iload_n C.1 C.2.1 dX9_isGone_7 rfl (lv_at hl 1 rfl) ?_
    obtain ⟨v2, hv2, hf⟩ := Option.bind_eq_some_iff.mp hf
    refine cRi (As := [.int x1]) (rest := []) C (mX9_isType hv2) vX9_isType wM_X9_137 ⟨Nat.le_of_ble_eq_true rfl, Nat.le_of_ble_eq_true rfl⟩ hP (rcm_X9 C hP) (fun U hU hW => SF.go hZ va_S.rf hU hW (fun _ h => h)) hl.1 rfl rfl (Nat.le_of_ble_eq_true rfl) dX9_isGone_8 ⟨Nat.le_of_ble_eq_true rfl, Nat.le_of_ble_eq_true rfl⟩ ?_
    refine lv_if_ne (tgt := 18) C.1 C.2.1 dX9_isGone_11 (by decide) (fun c3 => ?_) (fun c3 => ?_)
    · rw [if_neg c3] at hf
      refine lv_iconst (v := 0) C.1 C.2.1 dX9_isGone_18 (by decide) ?_
      exact endRz C rfl hf dX9_isGone_19
    · rw [if_pos c3] at hf
      refine lv_iconst (v := 1) C.1 C.2.1 dX9_isGone_14 (by decide) ?_
      refine lv_goto (tgt := 19) C.1 C.2.1 dX9_isGone_15 (by decide) ?_
      exact endRz C rfl hf dX9_isGone_19
end
theorem vX9_isGone : YV yX9_isGone cX9_isGone 2 (some .boolean) 1 := ⟨⟨wK_X9_isGone, wZ_X9, by decide +kernel⟩, wI_X9_isGone, wV_X9_isGone⟩
def fX9_isFinalAbove_L56 (u : ST) (K5 : Int32 → Int32 → Int32 → Option Int32) (x2 : Int32) (x3 : Int32) (x4 : Int32) : Option Int32 :=
  K5 x2 x3 (x4 + 1)
def fX9_isFinalAbove_L5 (u : ST) : Nat → Int32 → Int32 → Int32 → Option Int32
  | 0, _, _, _ => none
  | n + 1, x2, x3, x4 =>
    if x2 ≤ x4 then
      some 0
    else
      (rdI u 27 12 x4).bind fun v2 =>
      (fX9_likeIn u v2 x3).bind fun v3 =>
      if v3 < 0 then
        fX9_isFinalAbove_L56 u (fX9_isFinalAbove_L5 u n) x2 x3 x4
      else
        (rdI u 10 60 v3).bind fun v5 =>
        if (v5 &&& 5) = 0 then
          (rdI u 10 60 v3).bind fun v7 =>
          if (v7 &&& 2) = 0 then
            fX9_isFinalAbove_L56 u (fX9_isFinalAbove_L5 u n) x2 x3 x4
          else
            some 1
        else
          fX9_isFinalAbove_L56 u (fX9_isFinalAbove_L5 u n) x2 x3 x4
def fX9_isFinalAbove (u : ST) (x1 : Int32) (x2 : Int32) (x3 : Int32) : Option Int32 :=
  fX9_isFinalAbove_L5 u 5000 x2 x3 (x1 + 1)
section
variable {p : Program} {l : Launch} {e : Env} {s : State} {m : MethodId} {args : Array Value} {below : List Frame} {meth : Method} {c : Code} {H : Heap} {locs : List Loc} {g : GP} {ls : Array Slot} {A : Nat → Prop} {ad : Nat → Nat} {u : ST}
set_option maxRecDepth 100000 in
set_option maxHeartbeats 4000000 in
theorem bX9_isFinalAbove_L56 {r0 : Int32} {K5 : Int32 → Int32 → Int32 → Option Int32} {x2 : Int32} {x3 : Int32} {x4 : Int32} (C : Cx p s m args meth c cX9_isFinalAbove 6 RX9 (some .boolean) g) (hZ : SF (fun _ => False) s) (hK5 : ∀ (x2 : Int32) (x3 : Int32) (x4 : Int32), ∀ (ls : Array Slot), lv_has ls 6 [(0, .ref (ad 0)), (2, .int x2), (3, .int x3), (4, .int x4)] → K5 x2 x3 x4 = some r0 → W p l e (rmR 2 49) s m args below meth c s.heap [] 0 0 (MQ below (vp_Si (fun r => r = r0)) args s 0 0 (fun _ => False)) (F0 m 5 ls [])) (hP : va_P g.1 vwCl (mW g ad u) s.heap) (hl : lv_has ls 6 [(0, .ref (ad 0)), (2, .int x2), (3, .int x3), (4, .int x4)]) (hf : fX9_isFinalAbove_L56 u K5 x2 x3 x4 = some r0) : W p l e (rmR 2 49) s m args below meth c s.heap [] 0 0 (MQ below (vp_Si (fun r => r = r0)) args s 0 0 (fun _ => False)) (F0 m 56 ls []) := by
  rw [fX9_isFinalAbove_L56] at hf
  refine lv_iinc (v := (x4 + 1)) (lv' := [(4, .int (x4 + 1)), (0, .ref (ad 0)), (2, .int x2), (3, .int x3)]) C.1 C.2.1 dX9_isFinalAbove_56 hl (k := 3) rfl rfl (by decide) rfl (fun ls hl => ?_)
  refine lv_goto (tgt := 5) C.1 C.2.1 dX9_isFinalAbove_59 (by decide) ?_
  exact hK5 x2 x3 (x4 + 1) _ (lv_sub hl [1, 2, 3, 0] rfl) hf
set_option maxRecDepth 100000 in
set_option maxHeartbeats 4000000 in
theorem bX9_isFinalAbove_L5 {r0 : Int32} (C : Cx p s m args meth c cX9_isFinalAbove 6 RX9 (some .boolean) g) (hZ : SF (fun _ => False) s) (n : Nat) : ∀ (x2 : Int32) (x3 : Int32) (x4 : Int32), va_P g.1 vwCl (mW g ad u) s.heap → ∀ (ls : Array Slot), lv_has ls 6 [(0, .ref (ad 0)), (2, .int x2), (3, .int x3), (4, .int x4)] → fX9_isFinalAbove_L5 u n x2 x3 x4 = some r0 → W p l e (rmR 2 49) s m args below meth c s.heap [] 0 0 (MQ below (vp_Si (fun r => r = r0)) args s 0 0 (fun _ => False)) (F0 m 5 ls []) := by
  induction n with
  | zero =>
    intro x2 x3 x4 hP ls hl hf
    exact absurd hf (by simp [fX9_isFinalAbove_L5])
  | succ n ih0 =>
    intro x2 x3 x4 hP ls hl hf
    have ih := fun (x2 : Int32) (x3 : Int32) (x4 : Int32) => ih0 x2 x3 x4 hP
    rw [fX9_isFinalAbove_L5] at hf
    refine lv_iload C.1 C.2.1 dX9_isFinalAbove_5 (lv_at hl 3 rfl) ?_
    refine lv_iload_n C.1 C.2.1 dX9_isFinalAbove_7 rfl (lv_at hl 1 rfl) ?_
    refine lv_icmp_ge (tgt := 62) C.1 C.2.1 dX9_isFinalAbove_8 (by decide) (fun c1 => ?_) (fun c1 => ?_)
    · rw [if_pos c1] at hf
      refine lv_iconst (v := 0) C.1 C.2.1 dX9_isFinalAbove_62 (by decide) ?_
      exact endRz C rfl hf dX9_isFinalAbove_63
    · rw [if_neg c1] at hf
      refine lv_aload_n C.1 C.2.1 dX9_isFinalAbove_11 rfl (lv_at hl 0 rfl) ?_
      refine lv_aload_n C.1 C.2.1 dX9_isFinalAbove_12 rfl (lv_at hl 0 rfl) ?_
      refine gtm_X9_chain C hP wF_X9_84 dX9_isFinalAbove_13 ?_
      refine lv_iload C.1 C.2.1 dX9_isFinalAbove_16 (lv_at hl 3 rfl) ?_
      obtain ⟨v2, hv2, hf⟩ := Option.bind_eq_some_iff.mp hf
      refine ldm_27 C hP hv2 dX9_isFinalAbove_18 ?_
      refine lv_iload_n C.1 C.2.1 dX9_isFinalAbove_19 rfl (lv_at hl 2 rfl) ?_
      obtain ⟨v3, hv3, hf⟩ := Option.bind_eq_some_iff.mp hf
      refine cRi (As := [.int v2, .int x3]) (rest := []) C (mX9_likeIn hv3) vX9_likeIn wM_X9_213 ⟨Nat.le_of_ble_eq_true rfl, Nat.le_of_ble_eq_true rfl⟩ hP (rcm_X9 C hP) (fun U hU hW => SF.go hZ va_S.rf hU hW (fun _ h => h)) hl.1 rfl rfl (Nat.le_of_ble_eq_true rfl) dX9_isFinalAbove_20 ⟨Nat.le_of_ble_eq_true rfl, Nat.le_of_ble_eq_true rfl⟩ ?_
      refine lv_istore (lv' := [(5, .int v3), (0, .ref (ad 0)), (2, .int x2), (3, .int x3), (4, .int x4)]) C.1 C.2.1 dX9_isFinalAbove_23 hl (by decide) rfl (fun ls hl => ?_)
      refine lv_iload C.1 C.2.1 dX9_isFinalAbove_25 (lv_at hl 0 rfl) ?_
      refine lv_if_lt (tgt := 56) C.1 C.2.1 dX9_isFinalAbove_27 (by decide) (fun c4 => ?_) (fun c4 => ?_)
      · rw [if_pos c4] at hf
        exact bX9_isFinalAbove_L56 C hZ ih hP (lv_sub hl [1, 2, 3, 4] rfl) hf
      · rw [if_neg c4] at hf
        refine lv_aload_n C.1 C.2.1 dX9_isFinalAbove_30 rfl (lv_at hl 1 rfl) ?_
        refine gtm_X9_mMarks C hP wF_X9_38 dX9_isFinalAbove_31 ?_
        refine lv_iload C.1 C.2.1 dX9_isFinalAbove_34 (lv_at hl 0 rfl) ?_
        obtain ⟨v5, hv5, hf⟩ := Option.bind_eq_some_iff.mp hf
        refine ldm_10 C hP hv5 dX9_isFinalAbove_36 ?_
        refine lv_iconst (v := 5) C.1 C.2.1 dX9_isFinalAbove_37 (by decide) ?_
        refine lv_iand C.1 C.2.1 dX9_isFinalAbove_38 ?_
        refine lv_if_ne (tgt := 56) C.1 C.2.1 dX9_isFinalAbove_39 (by decide) (fun c6 => ?_) (fun c6 => ?_)
        · rw [if_neg c6] at hf
          exact bX9_isFinalAbove_L56 C hZ ih hP (lv_sub hl [1, 2, 3, 4] rfl) hf
        · rw [if_pos c6] at hf
          refine lv_aload_n C.1 C.2.1 dX9_isFinalAbove_42 rfl (lv_at hl 1 rfl) ?_
          refine gtm_X9_mMarks C hP wF_X9_38 dX9_isFinalAbove_43 ?_
          refine lv_iload C.1 C.2.1 dX9_isFinalAbove_46 (lv_at hl 0 rfl) ?_
          obtain ⟨v7, hv7, hf⟩ := Option.bind_eq_some_iff.mp hf
          refine ldm_10 C hP hv7 dX9_isFinalAbove_48 ?_
          refine lv_iconst (v := 2) C.1 C.2.1 dX9_isFinalAbove_49 (by decide) ?_
          refine lv_iand C.1 C.2.1 dX9_isFinalAbove_50 ?_
          refine lv_if_eq (tgt := 56) C.1 C.2.1 dX9_isFinalAbove_51 (by decide) (fun c8 => ?_) (fun c8 => ?_)
          · rw [if_pos c8] at hf
            exact bX9_isFinalAbove_L56 C hZ ih hP (lv_sub hl [1, 2, 3, 4] rfl) hf
          · rw [if_neg c8] at hf
            refine lv_iconst (v := 1) C.1 C.2.1 dX9_isFinalAbove_54 (by decide) ?_
            exact endRz C rfl hf dX9_isFinalAbove_55
set_option maxRecDepth 100000 in
set_option maxHeartbeats 4000000 in
theorem mX9_isFinalAbove {r0 : Int32} {x1 : Int32} {x2 : Int32} {x3 : Int32} (hf : fX9_isFinalAbove u x1 x2 x3 = some r0) : MRi l yX9_isFinalAbove cX9_isFinalAbove 6 (some .boolean) 2 49 [.ref (ad 0), .int x1, .int x2, .int x3] g (mW g ad u) r0 := by
  refine entR (by decide) (Nat.le_of_ble_eq_true rfl) ?_
  intro p e s m below meth c ls C hP hZ hl
  have hl : lv_has ls 6 [(0, .ref (ad 0)), (1, .int x1), (2, .int x2), (3, .int x3)] := hl
  rw [fX9_isFinalAbove] at hf
  refine lv_iload_n C.1 C.2.1 dX9_isFinalAbove_0 rfl (lv_at hl 1 rfl) ?_
  refine lv_iconst (v := 1) C.1 C.2.1 dX9_isFinalAbove_1 (by decide) ?_
  refine lv_iadd C.1 C.2.1 dX9_isFinalAbove_2 ?_
  refine lv_istore (lv' := [(4, .int (x1 + 1)), (0, .ref (ad 0)), (1, .int x1), (2, .int x2), (3, .int x3)]) C.1 C.2.1 dX9_isFinalAbove_3 hl (by decide) rfl (fun ls hl => ?_)
  exact bX9_isFinalAbove_L5 C hZ 5000 x2 x3 (x1 + 1) hP _ (lv_sub hl [1, 3, 4, 0] rfl) hf
end
theorem vX9_isFinalAbove : YV yX9_isFinalAbove cX9_isFinalAbove 6 (some .boolean) 3 := ⟨⟨wK_X9_isFinalAbove, wZ_X9, by decide +kernel⟩, wI_X9_isFinalAbove, wV_X9_isFinalAbove⟩
def fX9_readFails_L105 (K37 : ST → Int32 → Int32 → Int32 → Option (Int32 × ST)) (u : ST) (x2 : Int32) (x3 : Int32) (x4 : Int32) : Option (Int32 × ST) :=
  K37 u x2 x3 (x4 + 1)
def fX9_readFails_L37 (K10 : ST → Int32 → Int32 → Option (Int32 × ST)) : Nat → ST → Int32 → Int32 → Int32 → Option (Int32 × ST)
  | 0, _, _, _, _ => none
  | n + 1, u, x2, x3, x4 =>
    if 60 ≤ x4 then
      K10 u x2 (x3 + (-1))
    else
      (rdI u 6 60 x4).bind fun v8 =>
      if v8 = 0 then
        fX9_readFails_L105 (fX9_readFails_L37 K10 n) u x2 x3 x4
      else
        (rdI u 7 60 x4).bind fun v10 =>
        if v10 = 0 then
          fX9_readFails_L105 (fX9_readFails_L37 K10 n) u x2 x3 x4
        else
          (rdI u 8 60 x4).bind fun v12 =>
          (rdI u 27 12 x3).bind fun v13 =>
          if v12 = v13 then
            (rdI u 10 60 x4).bind fun v15 =>
            if (v15 &&& 5) = 0 then
              (fX9_isFinalAbove u x3 x2 x4).bind fun v17 =>
              if v17 = 0 then
                fX9_readFails_L105 (fX9_readFails_L37 K10 n) u x2 x3 x4
              else
                some (2, u)
            else
              fX9_readFails_L105 (fX9_readFails_L37 K10 n) u x2 x3 x4
          else
            fX9_readFails_L105 (fX9_readFails_L37 K10 n) u x2 x3 x4
def fX9_readFails_L10 : Nat → ST → Int32 → Int32 → Option (Int32 × ST)
  | 0, _, _, _ => none
  | n + 1, u, x2, x3 =>
    if x3 < 0 then
      some (0, u)
    else
      (rdI u 27 12 (x3 + 1)).bind fun v4 =>
      (rdI u 3 12 v4).bind fun v5 =>
      if (v5 &&& 2) = 0 then
        fX9_readFails_L37 (fX9_readFails_L10 n) 5000 u x2 x3 0
      else
        some (1, u)
def fX9_readFails (u : ST) (x1 : Int32) : Option (Int32 × ST) :=
  b2 (fX9_chainOf u x1) fun v2 u1 =>
  fX9_readFails_L10 5000 u1 v2 (v2 - 2)
section
variable {p : Program} {l : Launch} {e : Env} {s : State} {m : MethodId} {args : Array Value} {below : List Frame} {meth : Method} {c : Code} {H : Heap} {locs : List Loc} {g : GP} {ls : Array Slot} {A : Nat → Prop} {ad : Nat → Nat} {u : ST}
set_option maxRecDepth 100000 in
set_option maxHeartbeats 4000000 in
theorem bX9_readFails_L105 {r0 : Int32} {u0 : ST} {K37 : ST → Int32 → Int32 → Int32 → Option (Int32 × ST)} {x2 : Int32} {x3 : Int32} {x4 : Int32} (C : Cx p s m args meth c cX9_readFails 5 RX9 (some .int) g) (hA : ∀ q, s.heap.size ≤ q → A q) (hZ : SF A s) (hK37 : ∀ (u : ST) (x2 : Int32) (x3 : Int32) (x4 : Int32) (H : Heap) (locs : List Loc), va_P g.1 vwCl (mW g ad u) H → va_D A (mW g ad u) → va_S A s.heap H locs → ∀ (ls : Array Slot), lv_has ls 5 [(0, .ref (ad 0)), (2, .int x2), (3, .int x3), (4, .int x4)] → K37 u x2 x3 x4 = some (r0, u0) → W p l e (rmW 3 74 0 0) s m args below meth c H locs 0 0 (MQ below (va_Qi (fun r v => r = r0 ∧ v = u0) (BW g A (mW g ad)) A) args s 0 0 A) (F0 m 37 ls [])) (hP : va_P g.1 vwCl (mW g ad u) H) (hD : va_D A (mW g ad u)) (hS : va_S A s.heap H locs) (hl : lv_has ls 5 [(0, .ref (ad 0)), (2, .int x2), (3, .int x3), (4, .int x4)]) (hf : fX9_readFails_L105 K37 u x2 x3 x4 = some (r0, u0)) : W p l e (rmW 3 74 0 0) s m args below meth c H locs 0 0 (MQ below (va_Qi (fun r v => r = r0 ∧ v = u0) (BW g A (mW g ad)) A) args s 0 0 A) (F0 m 105 ls []) := by
  rw [fX9_readFails_L105] at hf
  refine lv_iinc (v := (x4 + 1)) (lv' := [(4, .int (x4 + 1)), (0, .ref (ad 0)), (2, .int x2), (3, .int x3)]) C.1 C.2.1 dX9_readFails_105 hl (k := 3) rfl rfl (by decide) rfl (fun ls hl => ?_)
  refine lv_goto (tgt := 37) C.1 C.2.1 dX9_readFails_108 (by decide) ?_
  exact hK37 u x2 x3 (x4 + 1) _ _ hP hD hS _ (lv_sub hl [1, 2, 3, 0] rfl) hf
set_option maxRecDepth 100000 in
set_option maxHeartbeats 4000000 in
theorem bX9_readFails_L37 {r0 : Int32} {u0 : ST} {K10 : ST → Int32 → Int32 → Option (Int32 × ST)} (C : Cx p s m args meth c cX9_readFails 5 RX9 (some .int) g) (hA : ∀ q, s.heap.size ≤ q → A q) (hZ : SF A s) (hK10 : ∀ (u : ST) (x2 : Int32) (x3 : Int32) (H : Heap) (locs : List Loc), va_P g.1 vwCl (mW g ad u) H → va_D A (mW g ad u) → va_S A s.heap H locs → ∀ (ls : Array Slot), lv_has ls 5 [(0, .ref (ad 0)), (2, .int x2), (3, .int x3)] → K10 u x2 x3 = some (r0, u0) → W p l e (rmW 3 74 0 0) s m args below meth c H locs 0 0 (MQ below (va_Qi (fun r v => r = r0 ∧ v = u0) (BW g A (mW g ad)) A) args s 0 0 A) (F0 m 10 ls [])) : ∀ (n : Nat), ∀ (u : ST) (x2 : Int32) (x3 : Int32) (x4 : Int32) (H : Heap) (locs : List Loc), va_P g.1 vwCl (mW g ad u) H → va_D A (mW g ad u) → va_S A s.heap H locs → ∀ (ls : Array Slot), lv_has ls 5 [(0, .ref (ad 0)), (2, .int x2), (3, .int x3), (4, .int x4)] → fX9_readFails_L37 K10 n u x2 x3 x4 = some (r0, u0) → W p l e (rmW 3 74 0 0) s m args below meth c H locs 0 0 (MQ below (va_Qi (fun r v => r = r0 ∧ v = u0) (BW g A (mW g ad)) A) args s 0 0 A) (F0 m 37 ls []) := by
  intro n
  induction n with
  | zero =>
    intro u x2 x3 x4 H locs hP hD hS ls hl hf
    exact absurd hf (by simp [fX9_readFails_L37])
  | succ n ih =>
    intro u x2 x3 x4 H locs hP hD hS ls hl hf
    rw [fX9_readFails_L37] at hf
    refine lv_iload C.1 C.2.1 dX9_readFails_37 (lv_at hl 3 rfl) ?_
    refine lv_bipush (v := 60) C.1 C.2.1 dX9_readFails_39 (by decide) ?_
    refine lv_icmp_ge (tgt := 111) C.1 C.2.1 dX9_readFails_41 (by decide) (fun c7 => ?_) (fun c7 => ?_)
    · rw [if_pos c7] at hf
      refine lv_iinc (v := (x3 + (-1))) (lv' := [(3, .int (x3 + (-1))), (0, .ref (ad 0)), (2, .int x2), (4, .int x4)]) C.1 C.2.1 dX9_readFails_111 hl (k := 2) rfl rfl (by decide) rfl (fun ls hl => ?_)
      refine lv_goto (tgt := 10) C.1 C.2.1 dX9_readFails_114 (by decide) ?_
      exact hK10 u x2 (x3 + (-1)) _ _ hP hD hS _ (lv_sub hl [1, 2, 0] rfl) hf
    · rw [if_neg c7] at hf
      refine lv_aload_n C.1 C.2.1 dX9_readFails_44 rfl (lv_at hl 0 rfl) ?_
      refine gtm_X9_isMember C hP wF_X9_26 dX9_readFails_45 ?_
      refine lv_iload C.1 C.2.1 dX9_readFails_48 (lv_at hl 3 rfl) ?_
      obtain ⟨v8, hv8, hf⟩ := Option.bind_eq_some_iff.mp hf
      refine ldm_6 C hP hv8 dX9_readFails_50 ?_
      refine lv_if_eq (tgt := 105) C.1 C.2.1 dX9_readFails_51 (by decide) (fun c9 => ?_) (fun c9 => ?_)
      · rw [if_pos c9] at hf
        exact bX9_readFails_L105 C hA hZ ih hP hD hS (lv_sub hl [0, 1, 2, 3] rfl) hf
      · rw [if_neg c9] at hf
        refine lv_aload_n C.1 C.2.1 dX9_readFails_54 rfl (lv_at hl 0 rfl) ?_
        refine gtm_X9_isMethod C hP wF_X9_29 dX9_readFails_55 ?_
        refine lv_iload C.1 C.2.1 dX9_readFails_58 (lv_at hl 3 rfl) ?_
        obtain ⟨v10, hv10, hf⟩ := Option.bind_eq_some_iff.mp hf
        refine ldm_7 C hP hv10 dX9_readFails_60 ?_
        refine lv_if_eq (tgt := 105) C.1 C.2.1 dX9_readFails_61 (by decide) (fun c11 => ?_) (fun c11 => ?_)
        · rw [if_pos c11] at hf
          exact bX9_readFails_L105 C hA hZ ih hP hD hS (lv_sub hl [0, 1, 2, 3] rfl) hf
        · rw [if_neg c11] at hf
          refine lv_aload_n C.1 C.2.1 dX9_readFails_64 rfl (lv_at hl 0 rfl) ?_
          refine gtm_X9_mType C hP wF_X9_32 dX9_readFails_65 ?_
          refine lv_iload C.1 C.2.1 dX9_readFails_68 (lv_at hl 3 rfl) ?_
          obtain ⟨v12, hv12, hf⟩ := Option.bind_eq_some_iff.mp hf
          refine ldm_8 C hP hv12 dX9_readFails_70 ?_
          refine lv_aload_n C.1 C.2.1 dX9_readFails_71 rfl (lv_at hl 0 rfl) ?_
          refine gtm_X9_chain C hP wF_X9_84 dX9_readFails_72 ?_
          refine lv_iload_n C.1 C.2.1 dX9_readFails_75 rfl (lv_at hl 2 rfl) ?_
          obtain ⟨v13, hv13, hf⟩ := Option.bind_eq_some_iff.mp hf
          refine ldm_27 C hP hv13 dX9_readFails_76 ?_
          refine lv_icmp_ne (tgt := 105) C.1 C.2.1 dX9_readFails_77 (by decide) (fun c14 => ?_) (fun c14 => ?_)
          · rw [if_neg c14] at hf
            exact bX9_readFails_L105 C hA hZ ih hP hD hS (lv_sub hl [0, 1, 2, 3] rfl) hf
          · rw [if_pos c14] at hf
            refine lv_aload_n C.1 C.2.1 dX9_readFails_80 rfl (lv_at hl 0 rfl) ?_
            refine gtm_X9_mMarks C hP wF_X9_38 dX9_readFails_81 ?_
            refine lv_iload C.1 C.2.1 dX9_readFails_84 (lv_at hl 3 rfl) ?_
            obtain ⟨v15, hv15, hf⟩ := Option.bind_eq_some_iff.mp hf
            refine ldm_10 C hP hv15 dX9_readFails_86 ?_
            refine lv_iconst (v := 5) C.1 C.2.1 dX9_readFails_87 (by decide) ?_
            refine lv_iand C.1 C.2.1 dX9_readFails_88 ?_
            refine lv_if_ne (tgt := 105) C.1 C.2.1 dX9_readFails_89 (by decide) (fun c16 => ?_) (fun c16 => ?_)
            · rw [if_neg c16] at hf
              exact bX9_readFails_L105 C hA hZ ih hP hD hS (lv_sub hl [0, 1, 2, 3] rfl) hf
            · rw [if_pos c16] at hf
              refine lv_aload_n C.1 C.2.1 dX9_readFails_92 rfl (lv_at hl 0 rfl) ?_
              refine lv_iload_n C.1 C.2.1 dX9_readFails_93 rfl (lv_at hl 2 rfl) ?_
              refine lv_iload_n C.1 C.2.1 dX9_readFails_94 rfl (lv_at hl 1 rfl) ?_
              refine lv_iload C.1 C.2.1 dX9_readFails_95 (lv_at hl 3 rfl) ?_
              obtain ⟨v17, hv17, hf⟩ := Option.bind_eq_some_iff.mp hf
              refine cRi (As := [.int x3, .int x2, .int x4]) (rest := []) C (mX9_isFinalAbove hv17) vX9_isFinalAbove wM_X9_293 ⟨Nat.le_of_ble_eq_true rfl, Nat.le_of_ble_eq_true rfl⟩ hP (rcm_X9 C hP) (fun U hU hW => SF.go hZ hS hU hW (fun _ h => h.elim)) hl.1 rfl rfl (Nat.le_of_ble_eq_true rfl) dX9_readFails_97 ⟨Nat.le_of_ble_eq_true rfl, Nat.le_of_ble_eq_true rfl⟩ ?_
              refine lv_if_eq (tgt := 105) C.1 C.2.1 dX9_readFails_100 (by decide) (fun c18 => ?_) (fun c18 => ?_)
              · rw [if_pos c18] at hf
                exact bX9_readFails_L105 C hA hZ ih hP hD hS (lv_sub hl [0, 1, 2, 3] rfl) hf
              · rw [if_neg c18] at hf
                refine lv_iconst (v := 2) C.1 C.2.1 dX9_readFails_103 (by decide) ?_
                exact endWi C hP hD hS (Nat.le_refl _) (Nat.le_refl _) hf dX9_readFails_104
set_option maxRecDepth 100000 in
set_option maxHeartbeats 4000000 in
theorem bX9_readFails_L10 {r0 : Int32} {u0 : ST} (C : Cx p s m args meth c cX9_readFails 5 RX9 (some .int) g) (hA : ∀ q, s.heap.size ≤ q → A q) (hZ : SF A s) : ∀ (n : Nat), ∀ (u : ST) (x2 : Int32) (x3 : Int32) (H : Heap) (locs : List Loc), va_P g.1 vwCl (mW g ad u) H → va_D A (mW g ad u) → va_S A s.heap H locs → ∀ (ls : Array Slot), lv_has ls 5 [(0, .ref (ad 0)), (2, .int x2), (3, .int x3)] → fX9_readFails_L10 n u x2 x3 = some (r0, u0) → W p l e (rmW 3 74 0 0) s m args below meth c H locs 0 0 (MQ below (va_Qi (fun r v => r = r0 ∧ v = u0) (BW g A (mW g ad)) A) args s 0 0 A) (F0 m 10 ls []) := by
  intro n
  induction n with
  | zero =>
    intro u x2 x3 H locs hP hD hS ls hl hf
    exact absurd hf (by simp [fX9_readFails_L10])
  | succ n ih =>
    intro u x2 x3 H locs hP hD hS ls hl hf
    rw [fX9_readFails_L10] at hf
    refine lv_iload_n C.1 C.2.1 dX9_readFails_10 rfl (lv_at hl 2 rfl) ?_
    refine lv_if_lt (tgt := 117) C.1 C.2.1 dX9_readFails_11 (by decide) (fun c3 => ?_) (fun c3 => ?_)
    · rw [if_pos c3] at hf
      refine lv_iconst (v := 0) C.1 C.2.1 dX9_readFails_117 (by decide) ?_
      exact endWi C hP hD hS (Nat.le_refl _) (Nat.le_refl _) hf dX9_readFails_118
    · rw [if_neg c3] at hf
      refine lv_aload_n C.1 C.2.1 dX9_readFails_14 rfl (lv_at hl 0 rfl) ?_
      refine gtm_X9_tMarks C hP wF_X9_17 dX9_readFails_15 ?_
      refine lv_aload_n C.1 C.2.1 dX9_readFails_18 rfl (lv_at hl 0 rfl) ?_
      refine gtm_X9_chain C hP wF_X9_84 dX9_readFails_19 ?_
      refine lv_iload_n C.1 C.2.1 dX9_readFails_22 rfl (lv_at hl 2 rfl) ?_
      refine lv_iconst (v := 1) C.1 C.2.1 dX9_readFails_23 (by decide) ?_
      refine lv_iadd C.1 C.2.1 dX9_readFails_24 ?_
      obtain ⟨v4, hv4, hf⟩ := Option.bind_eq_some_iff.mp hf
      refine ldm_27 C hP hv4 dX9_readFails_25 ?_
      obtain ⟨v5, hv5, hf⟩ := Option.bind_eq_some_iff.mp hf
      refine ldm_3 C hP hv5 dX9_readFails_26 ?_
      refine lv_iconst (v := 2) C.1 C.2.1 dX9_readFails_27 (by decide) ?_
      refine lv_iand C.1 C.2.1 dX9_readFails_28 ?_
      refine lv_if_eq (tgt := 34) C.1 C.2.1 dX9_readFails_29 (by decide) (fun c6 => ?_) (fun c6 => ?_)
      · rw [if_pos c6] at hf
        refine lv_iconst (v := 0) C.1 C.2.1 dX9_readFails_34 (by decide) ?_
        refine lv_istore (lv' := [(4, .int 0), (0, .ref (ad 0)), (2, .int x2), (3, .int x3)]) C.1 C.2.1 dX9_readFails_35 hl (by decide) rfl (fun ls hl => ?_)
        exact bX9_readFails_L37 C hA hZ ih 5000 u x2 x3 0 _ _ hP hD hS _ (lv_sub hl [1, 2, 3, 0] rfl) hf
      · rw [if_neg c6] at hf
        refine lv_iconst (v := 1) C.1 C.2.1 dX9_readFails_32 (by decide) ?_
        exact endWi C hP hD hS (Nat.le_refl _) (Nat.le_refl _) hf dX9_readFails_33
set_option maxRecDepth 100000 in
set_option maxHeartbeats 4000000 in
theorem mX9_readFails {r0 : Int32} {u0 : ST} {x1 : Int32} (hf : fX9_readFails u x1 = some (r0, u0)) : MWi l yX9_readFails cX9_readFails 5 (some .int) 3 74 0 0 [.ref (ad 0), .int x1] g (mW g ad) u r0 u0 := by
  refine entW (Qc := fun A => va_Qi (fun r v => r = r0 ∧ v = u0) (BW g A (mW g ad)) A) (by decide) (Nat.le_of_ble_eq_true rfl) ?_
  intro p e s m below meth c ls A C hP hD hS hA hZ hl
  have hl : lv_has ls 5 [(0, .ref (ad 0)), (1, .int x1)] := hl
  rw [fX9_readFails] at hf
  refine lv_aload_n C.1 C.2.1 dX9_readFails_0 rfl (lv_at hl 0 rfl) ?_
  refine lv_iload_n C.1 C.2.1 dX9_readFails_1 rfl (lv_at hl 1 rfl) ?_
  obtain ⟨v2, u1, hu1, hf⟩ := b2_some hf
  refine cWi (As := [.int x1]) (rest := []) (mc := 0) (ms := 0) C (mX9_chainOf hu1) vX9_chainOf wM_X9_256 ⟨Nat.le_of_ble_eq_true rfl, Nat.le_of_ble_eq_true rfl⟩ hP hD hS hA hZ (rcm_X9 C hP) hl.1 rfl rfl (Nat.le_of_ble_eq_true rfl) dX9_readFails_2 ⟨Nat.le_of_ble_eq_true rfl, Nat.le_of_ble_eq_true rfl⟩ (fun H locs hP hD hS => ?_)
  refine lv_istore_n (lv' := [(2, .int v2), (0, .ref (ad 0)), (1, .int x1)]) C.1 C.2.1 dX9_readFails_5 rfl hl (by decide) rfl (fun ls hl => ?_)
  refine lv_iload_n C.1 C.2.1 dX9_readFails_6 rfl (lv_at hl 0 rfl) ?_
  refine lv_iconst (v := 2) C.1 C.2.1 dX9_readFails_7 (by decide) ?_
  refine lv_isub C.1 C.2.1 dX9_readFails_8 ?_
  refine lv_istore_n (lv' := [(3, .int (v2 - 2)), (2, .int v2), (0, .ref (ad 0)), (1, .int x1)]) C.1 C.2.1 dX9_readFails_9 rfl hl (by decide) rfl (fun ls hl => ?_)
  exact bX9_readFails_L10 C hA hZ 5000 u1 v2 (v2 - 2) _ _ hP hD hS _ (lv_sub hl [2, 1, 0] rfl) hf
end
theorem vX9_readFails : YV yX9_readFails cX9_readFails 5 (some .int) 1 := ⟨⟨wK_X9_readFails, wZ_X9, by decide +kernel⟩, wI_X9_readFails, wV_X9_readFails⟩
def fX9_meetsMethod_L32 (u : ST) (y0 : Int32) : Option (Int32 × ST) :=
  if y0 = (-4) then
    some (5, u)
  else
    if y0 < 0 then
      some (8, u)
    else
      (rdI u 10 60 y0).bind fun v9 =>
      if (v9 &&& 8) = 0 then
        (rdL u 14 60 y0).bind fun v11 =>
        (some (uL u 43 v11)).bind fun u12 =>
        some (0, u12)
      else
        some (8, u)
def fX9_meetsMethod (u : ST) (x1 : Int32) (x2 : Int32) (x3 : Int32) (x4 : Int32) : Option (Int32 × ST) :=
  if x4 = 0 then
    (rdI u 31 25 x1).bind fun v2 =>
    (rdI u 34 25 x1).bind fun v3 =>
    (rdI u 35 25 x1).bind fun v4 =>
    b2 (fX9_select u x3 v2 v3 v4) fun v6 u5 =>
    fX9_meetsMethod_L32 u5 v6
  else
    fX9_meetsMethod_L32 u x2
section
variable {p : Program} {l : Launch} {e : Env} {s : State} {m : MethodId} {args : Array Value} {below : List Frame} {meth : Method} {c : Code} {H : Heap} {locs : List Loc} {g : GP} {ls : Array Slot} {A : Nat → Prop} {ad : Nat → Nat} {u : ST}
set_option maxRecDepth 100000 in
set_option maxHeartbeats 4000000 in
theorem bX9_meetsMethod_L32 {r0 : Int32} {u0 : ST} {y0 : Int32} (C : Cx p s m args meth c cX9_meetsMethod 6 RX9 (some .int) g) (hA : ∀ q, s.heap.size ≤ q → A q) (hZ : SF A s) (hP : va_P g.1 vwCl (mW g ad u) H) (hD : va_D A (mW g ad u)) (hS : va_S A s.heap H locs) (hl : lv_has ls 6 [(0, .ref (ad 0))]) (hf : fX9_meetsMethod_L32 u y0 = some (r0, u0)) : W p l e (rmW 3 81 0 0) s m args below meth c H locs 0 0 (MQ below (va_Qi (fun r v => r = r0 ∧ v = u0) (BW g A (mW g ad)) A) args s 0 0 A) (F0 m 32 ls [.int y0]) := by
  rw [fX9_meetsMethod_L32] at hf
  refine lv_istore (lv' := [(5, .int y0), (0, .ref (ad 0))]) C.1 C.2.1 dX9_meetsMethod_32 hl (by decide) rfl (fun ls hl => ?_)
  refine lv_iload C.1 C.2.1 dX9_meetsMethod_34 (lv_at hl 0 rfl) ?_
  refine lv_bipush (v := -4) C.1 C.2.1 dX9_meetsMethod_36 (by decide) ?_
  refine lv_icmp_ne (tgt := 43) C.1 C.2.1 dX9_meetsMethod_38 (by decide) (fun c7 => ?_) (fun c7 => ?_)
  · rw [if_neg c7] at hf
    refine lv_iload C.1 C.2.1 dX9_meetsMethod_43 (lv_at hl 0 rfl) ?_
    refine lv_if_lt (tgt := 61) C.1 C.2.1 dX9_meetsMethod_45 (by decide) (fun c8 => ?_) (fun c8 => ?_)
    · rw [if_pos c8] at hf
      refine lv_bipush (v := 8) C.1 C.2.1 dX9_meetsMethod_61 (by decide) ?_
      exact endWi C hP hD hS (Nat.le_refl _) (Nat.le_refl _) hf dX9_meetsMethod_63
    · rw [if_neg c8] at hf
      refine lv_aload_n C.1 C.2.1 dX9_meetsMethod_48 rfl (lv_at hl 1 rfl) ?_
      refine gtm_X9_mMarks C hP wF_X9_38 dX9_meetsMethod_49 ?_
      refine lv_iload C.1 C.2.1 dX9_meetsMethod_52 (lv_at hl 0 rfl) ?_
      obtain ⟨v9, hv9, hf⟩ := Option.bind_eq_some_iff.mp hf
      refine ldm_10 C hP hv9 dX9_meetsMethod_54 ?_
      refine lv_bipush (v := 8) C.1 C.2.1 dX9_meetsMethod_55 (by decide) ?_
      refine lv_iand C.1 C.2.1 dX9_meetsMethod_57 ?_
      refine lv_if_eq (tgt := 64) C.1 C.2.1 dX9_meetsMethod_58 (by decide) (fun c10 => ?_) (fun c10 => ?_)
      · rw [if_pos c10] at hf
        refine lv_aload_n C.1 C.2.1 dX9_meetsMethod_64 rfl (lv_at hl 1 rfl) ?_
        refine lv_aload_n C.1 C.2.1 dX9_meetsMethod_65 rfl (lv_at hl 1 rfl) ?_
        refine gtm_X9_mValue C hP wF_X9_50 dX9_meetsMethod_66 ?_
        refine lv_iload C.1 C.2.1 dX9_meetsMethod_69 (lv_at hl 0 rfl) ?_
        obtain ⟨v11, hv11, hf⟩ := Option.bind_eq_some_iff.mp hf
        refine ldm_14 C hP hv11 dX9_meetsMethod_71 ?_
        obtain ⟨u12, hu12, hf⟩ := Option.bind_eq_some_iff.mp hf
        refine ptm_X9_gave C hP hD hS wF_X9_300 dX9_meetsMethod_72 (fun H locs hP hD hS => ?_)
        rw [Option.some.inj hu12] at hP hD
        refine lv_iconst (v := 0) C.1 C.2.1 dX9_meetsMethod_75 (by decide) ?_
        exact endWi C hP hD hS (Nat.le_refl _) (Nat.le_refl _) hf dX9_meetsMethod_76
      · rw [if_neg c10] at hf
        refine lv_bipush (v := 8) C.1 C.2.1 dX9_meetsMethod_61 (by decide) ?_
        exact endWi C hP hD hS (Nat.le_refl _) (Nat.le_refl _) hf dX9_meetsMethod_63
  · rw [if_pos c7] at hf
    refine lv_iconst (v := 5) C.1 C.2.1 dX9_meetsMethod_41 (by decide) ?_
    exact endWi C hP hD hS (Nat.le_refl _) (Nat.le_refl _) hf dX9_meetsMethod_42
set_option maxRecDepth 100000 in
set_option maxHeartbeats 4000000 in
theorem mX9_meetsMethod {r0 : Int32} {u0 : ST} {x1 : Int32} {x2 : Int32} {x3 : Int32} {x4 : Int32} (hf : fX9_meetsMethod u x1 x2 x3 x4 = some (r0, u0)) : MWi l yX9_meetsMethod cX9_meetsMethod 6 (some .int) 3 81 0 0 [.ref (ad 0), .int x1, .int x2, .int x3, .int x4] g (mW g ad) u r0 u0 := by
  refine entW (Qc := fun A => va_Qi (fun r v => r = r0 ∧ v = u0) (BW g A (mW g ad)) A) (by decide) (Nat.le_of_ble_eq_true rfl) ?_
  intro p e s m below meth c ls A C hP hD hS hA hZ hl
  have hl : lv_has ls 6 [(0, .ref (ad 0)), (1, .int x1), (2, .int x2), (3, .int x3), (4, .int x4)] := hl
  rw [fX9_meetsMethod] at hf
  refine lv_iload C.1 C.2.1 dX9_meetsMethod_0 (lv_at hl 4 rfl) ?_
  refine lv_if_eq (tgt := 9) C.1 C.2.1 dX9_meetsMethod_2 (by decide) (fun c1 => ?_) (fun c1 => ?_)
  · rw [if_pos c1] at hf
    refine lv_aload_n C.1 C.2.1 dX9_meetsMethod_9 rfl (lv_at hl 0 rfl) ?_
    refine lv_iload_n C.1 C.2.1 dX9_meetsMethod_10 rfl (lv_at hl 3 rfl) ?_
    refine lv_aload_n C.1 C.2.1 dX9_meetsMethod_11 rfl (lv_at hl 0 rfl) ?_
    refine gtm_X9_cName C hP wF_X9_93 dX9_meetsMethod_12 ?_
    refine lv_iload_n C.1 C.2.1 dX9_meetsMethod_15 rfl (lv_at hl 1 rfl) ?_
    obtain ⟨v2, hv2, hf⟩ := Option.bind_eq_some_iff.mp hf
    refine ldm_31 C hP hv2 dX9_meetsMethod_16 ?_
    refine lv_aload_n C.1 C.2.1 dX9_meetsMethod_17 rfl (lv_at hl 0 rfl) ?_
    refine gtm_X9_cFirst C hP wF_X9_102 dX9_meetsMethod_18 ?_
    refine lv_iload_n C.1 C.2.1 dX9_meetsMethod_21 rfl (lv_at hl 1 rfl) ?_
    obtain ⟨v3, hv3, hf⟩ := Option.bind_eq_some_iff.mp hf
    refine ldm_34 C hP hv3 dX9_meetsMethod_22 ?_
    refine lv_aload_n C.1 C.2.1 dX9_meetsMethod_23 rfl (lv_at hl 0 rfl) ?_
    refine gtm_X9_cSecond C hP wF_X9_105 dX9_meetsMethod_24 ?_
    refine lv_iload_n C.1 C.2.1 dX9_meetsMethod_27 rfl (lv_at hl 1 rfl) ?_
    obtain ⟨v4, hv4, hf⟩ := Option.bind_eq_some_iff.mp hf
    refine ldm_35 C hP hv4 dX9_meetsMethod_28 ?_
    obtain ⟨v6, u5, hu5, hf⟩ := b2_some hf
    refine cWi (As := [.int x3, .int v2, .int v3, .int v4]) (rest := []) (mc := 0) (ms := 0) C (mX9_select hu5) vX9_select wM_X9_262 ⟨Nat.le_of_ble_eq_true rfl, Nat.le_of_ble_eq_true rfl⟩ hP hD hS hA hZ (rcm_X9 C hP) hl.1 rfl rfl (Nat.le_of_ble_eq_true rfl) dX9_meetsMethod_29 ⟨Nat.le_of_ble_eq_true rfl, Nat.le_of_ble_eq_true rfl⟩ (fun H locs hP hD hS => ?_)
    exact bX9_meetsMethod_L32 C hA hZ hP hD hS (lv_sub hl [0] rfl) hf
  · rw [if_neg c1] at hf
    refine lv_iload_n C.1 C.2.1 dX9_meetsMethod_5 rfl (lv_at hl 2 rfl) ?_
    refine lv_goto (tgt := 32) C.1 C.2.1 dX9_meetsMethod_6 (by decide) ?_
    exact bX9_meetsMethod_L32 C hA hZ hP hD hS (lv_sub hl [0] rfl) hf
end
theorem vX9_meetsMethod : YV yX9_meetsMethod cX9_meetsMethod 6 (some .int) 4 := ⟨⟨wK_X9_meetsMethod, wZ_X9, by decide +kernel⟩, wI_X9_meetsMethod, wV_X9_meetsMethod⟩
def fX9_widens (u : ST) (x0 : Int32) (x1 : Int32) : Option Int32 :=
  if x0 = x1 then
    some 1
  else
    if x0 = 0 then
      some 0
    else
      if 3 ≤ x1 then
        if x1 = 3 then
          if x0 = 1 then
            some 1
          else
            some 0
        else
          if x1 ≤ x0 then
            some 0
          else
            some 1
      else
        some 0
section
variable {p : Program} {l : Launch} {e : Env} {s : State} {m : MethodId} {args : Array Value} {below : List Frame} {meth : Method} {c : Code} {H : Heap} {locs : List Loc} {g : GP} {ls : Array Slot} {A : Nat → Prop} {ad : Nat → Nat} {u : ST}
set_option maxRecDepth 100000 in
set_option maxHeartbeats 4000000 in
theorem mX9_widens {r0 : Int32} {x0 : Int32} {x1 : Int32} (hf : fX9_widens u x0 x1 = some r0) : MRi l yX9_widens cX9_widens 2 (some .boolean) 0 0 [.int x0, .int x1] g (mW g ad u) r0 := by
  refine entR (by decide) (Nat.le_of_ble_eq_true rfl) ?_
  intro p e s m below meth c ls C hP hZ hl
  have hl : lv_has ls 2 [(0, .int x0), (1, .int x1)] := hl
  rw [fX9_widens] at hf
  refine lv_iload_n C.1 C.2.1 dX9_widens_0 rfl (lv_at hl 0 rfl) ?_
  refine lv_iload_n C.1 C.2.1 dX9_widens_1 rfl (lv_at hl 1 rfl) ?_
  refine lv_icmp_ne (tgt := 7) C.1 C.2.1 dX9_widens_2 (by decide) (fun c1 => ?_) (fun c1 => ?_)
  · rw [if_neg c1] at hf
    refine lv_iload_n C.1 C.2.1 dX9_widens_7 rfl (lv_at hl 0 rfl) ?_
    refine lv_if_eq (tgt := 16) C.1 C.2.1 dX9_widens_8 (by decide) (fun c2 => ?_) (fun c2 => ?_)
    · rw [if_pos c2] at hf
      refine lv_iconst (v := 0) C.1 C.2.1 dX9_widens_16 (by decide) ?_
      exact endRz C rfl hf dX9_widens_17
    · rw [if_neg c2] at hf
      refine lv_iload_n C.1 C.2.1 dX9_widens_11 rfl (lv_at hl 1 rfl) ?_
      refine lv_iconst (v := 3) C.1 C.2.1 dX9_widens_12 (by decide) ?_
      refine lv_icmp_ge (tgt := 18) C.1 C.2.1 dX9_widens_13 (by decide) (fun c3 => ?_) (fun c3 => ?_)
      · rw [if_pos c3] at hf
        refine lv_iload_n C.1 C.2.1 dX9_widens_18 rfl (lv_at hl 1 rfl) ?_
        refine lv_iconst (v := 3) C.1 C.2.1 dX9_widens_19 (by decide) ?_
        refine lv_icmp_ne (tgt := 36) C.1 C.2.1 dX9_widens_20 (by decide) (fun c4 => ?_) (fun c4 => ?_)
        · rw [if_neg c4] at hf
          refine lv_iload_n C.1 C.2.1 dX9_widens_36 rfl (lv_at hl 0 rfl) ?_
          refine lv_iload_n C.1 C.2.1 dX9_widens_37 rfl (lv_at hl 1 rfl) ?_
          refine lv_icmp_ge (tgt := 45) C.1 C.2.1 dX9_widens_38 (by decide) (fun c5 => ?_) (fun c5 => ?_)
          · rw [if_pos c5] at hf
            refine lv_iconst (v := 0) C.1 C.2.1 dX9_widens_45 (by decide) ?_
            exact endRz C rfl hf dX9_widens_46
          · rw [if_neg c5] at hf
            refine lv_iconst (v := 1) C.1 C.2.1 dX9_widens_41 (by decide) ?_
            refine lv_goto (tgt := 46) C.1 C.2.1 dX9_widens_42 (by decide) ?_
            exact endRz C rfl hf dX9_widens_46
        · rw [if_pos c4] at hf
          refine lv_iload_n C.1 C.2.1 dX9_widens_23 rfl (lv_at hl 0 rfl) ?_
          refine lv_iconst (v := 1) C.1 C.2.1 dX9_widens_24 (by decide) ?_
          refine lv_icmp_ne (tgt := 32) C.1 C.2.1 dX9_widens_25 (by decide) (fun c6 => ?_) (fun c6 => ?_)
          · rw [if_neg c6] at hf
            refine lv_iconst (v := 0) C.1 C.2.1 dX9_widens_32 (by decide) ?_
            refine lv_goto (tgt := 46) C.1 C.2.1 dX9_widens_33 (by decide) ?_
            exact endRz C rfl hf dX9_widens_46
          · rw [if_pos c6] at hf
            refine lv_iconst (v := 1) C.1 C.2.1 dX9_widens_28 (by decide) ?_
            refine lv_goto (tgt := 46) C.1 C.2.1 dX9_widens_29 (by decide) ?_
            exact endRz C rfl hf dX9_widens_46
      · rw [if_neg c3] at hf
        refine lv_iconst (v := 0) C.1 C.2.1 dX9_widens_16 (by decide) ?_
        exact endRz C rfl hf dX9_widens_17
  · rw [if_pos c1] at hf
    refine lv_iconst (v := 1) C.1 C.2.1 dX9_widens_5 (by decide) ?_
    exact endRz C rfl hf dX9_widens_6
end
theorem vX9_widens : YS yX9_widens cX9_widens 2 (some .boolean) 2 := ⟨⟨wK_X9_widens, wZ_X9, by decide +kernel⟩, wS_X9_widens⟩
def fX9_meetsField (u : ST) (x1 : Int32) (x2 : Int32) : Option (Int32 × ST) :=
  (rdI u 11 60 x2).bind fun v1 =>
  (rdI u 40 25 x1).bind fun v2 =>
  (fX9_widens u v1 v2).bind fun v3 =>
  if v3 = 0 then
    some (7, u)
  else
    (rdI u 11 60 x2).bind fun v5 =>
    (rdL u 14 60 x2).bind fun v6 =>
    (rdI u 40 25 x1).bind fun v7 =>
    (fX9_comes u v5 v6 v7).bind fun v8 =>
    (some (uL u 43 v8)).bind fun u9 =>
    some (0, u9)
section
variable {p : Program} {l : Launch} {e : Env} {s : State} {m : MethodId} {args : Array Value} {below : List Frame} {meth : Method} {c : Code} {H : Heap} {locs : List Loc} {g : GP} {ls : Array Slot} {A : Nat → Prop} {ad : Nat → Nat} {u : ST}
set_option maxRecDepth 100000 in
set_option maxHeartbeats 4000000 in
theorem mX9_meetsField {r0 : Int32} {u0 : ST} {x1 : Int32} {x2 : Int32} (hf : fX9_meetsField u x1 x2 = some (r0, u0)) : MWi l yX9_meetsField cX9_meetsField 3 (some .int) 2 47 0 0 [.ref (ad 0), .int x1, .int x2] g (mW g ad) u r0 u0 := by
  refine entW (Qc := fun A => va_Qi (fun r v => r = r0 ∧ v = u0) (BW g A (mW g ad)) A) (by decide) (Nat.le_of_ble_eq_true rfl) ?_
  intro p e s m below meth c ls A C hP hD hS hA hZ hl
  have hl : lv_has ls 3 [(0, .ref (ad 0)), (1, .int x1), (2, .int x2)] := hl
  rw [fX9_meetsField] at hf
  refine lv_aload_n C.1 C.2.1 dX9_meetsField_0 rfl (lv_at hl 0 rfl) ?_
  refine gtm_X9_mKind C hP wF_X9_41 dX9_meetsField_1 ?_
  refine lv_iload_n C.1 C.2.1 dX9_meetsField_4 rfl (lv_at hl 2 rfl) ?_
  obtain ⟨v1, hv1, hf⟩ := Option.bind_eq_some_iff.mp hf
  refine ldm_11 C hP hv1 dX9_meetsField_5 ?_
  refine lv_aload_n C.1 C.2.1 dX9_meetsField_6 rfl (lv_at hl 0 rfl) ?_
  refine gtm_X9_cKind C hP wF_X9_120 dX9_meetsField_7 ?_
  refine lv_iload_n C.1 C.2.1 dX9_meetsField_10 rfl (lv_at hl 1 rfl) ?_
  obtain ⟨v2, hv2, hf⟩ := Option.bind_eq_some_iff.mp hf
  refine ldm_40 C hP hv2 dX9_meetsField_11 ?_
  obtain ⟨v3, hv3, hf⟩ := Option.bind_eq_some_iff.mp hf
  refine cSi (As := [.int v1, .int v2]) (rest := []) C (mX9_widens hv3) vX9_widens wM_X9_314 ⟨Nat.le_of_ble_eq_true rfl, Nat.le_of_ble_eq_true rfl⟩ hP (fun U hU hW => SF.go hZ hS hU hW (fun _ h => h.elim)) hl.1 rfl rfl (Nat.le_of_ble_eq_true rfl) dX9_meetsField_12 ⟨Nat.le_of_ble_eq_true rfl, Nat.le_of_ble_eq_true rfl⟩ ?_
  refine lv_if_ne (tgt := 21) C.1 C.2.1 dX9_meetsField_15 (by decide) (fun c4 => ?_) (fun c4 => ?_)
  · rw [if_neg c4] at hf
    refine lv_aload_n C.1 C.2.1 dX9_meetsField_21 rfl (lv_at hl 0 rfl) ?_
    refine lv_aload_n C.1 C.2.1 dX9_meetsField_22 rfl (lv_at hl 0 rfl) ?_
    refine gtm_X9_mKind C hP wF_X9_41 dX9_meetsField_23 ?_
    refine lv_iload_n C.1 C.2.1 dX9_meetsField_26 rfl (lv_at hl 2 rfl) ?_
    obtain ⟨v5, hv5, hf⟩ := Option.bind_eq_some_iff.mp hf
    refine ldm_11 C hP hv5 dX9_meetsField_27 ?_
    refine lv_aload_n C.1 C.2.1 dX9_meetsField_28 rfl (lv_at hl 0 rfl) ?_
    refine gtm_X9_mValue C hP wF_X9_50 dX9_meetsField_29 ?_
    refine lv_iload_n C.1 C.2.1 dX9_meetsField_32 rfl (lv_at hl 2 rfl) ?_
    obtain ⟨v6, hv6, hf⟩ := Option.bind_eq_some_iff.mp hf
    refine ldm_14 C hP hv6 dX9_meetsField_33 ?_
    refine lv_aload_n C.1 C.2.1 dX9_meetsField_34 rfl (lv_at hl 0 rfl) ?_
    refine gtm_X9_cKind C hP wF_X9_120 dX9_meetsField_35 ?_
    refine lv_iload_n C.1 C.2.1 dX9_meetsField_38 rfl (lv_at hl 1 rfl) ?_
    obtain ⟨v7, hv7, hf⟩ := Option.bind_eq_some_iff.mp hf
    refine ldm_40 C hP hv7 dX9_meetsField_39 ?_
    obtain ⟨v8, hv8, hf⟩ := Option.bind_eq_some_iff.mp hf
    refine cSl (As := [.int v5, .long v6, .int v7]) (rest := [.ref (ad 0)]) C (mX9_comes hv8) vX9_comes wM_X9_270 ⟨Nat.le_of_ble_eq_true rfl, Nat.le_of_ble_eq_true rfl⟩ hP (fun U hU hW => SF.go hZ hS hU hW (fun _ h => h.elim)) hl.1 rfl rfl (Nat.le_of_ble_eq_true rfl) dX9_meetsField_40 ⟨Nat.le_of_ble_eq_true rfl, Nat.le_of_ble_eq_true rfl⟩ ?_
    obtain ⟨u9, hu9, hf⟩ := Option.bind_eq_some_iff.mp hf
    refine ptm_X9_gave C hP hD hS wF_X9_300 dX9_meetsField_43 (fun H locs hP hD hS => ?_)
    rw [Option.some.inj hu9] at hP hD
    refine lv_iconst (v := 0) C.1 C.2.1 dX9_meetsField_46 (by decide) ?_
    exact endWi C hP hD hS (Nat.le_refl _) (Nat.le_refl _) hf dX9_meetsField_47
  · rw [if_pos c4] at hf
    refine lv_bipush (v := 7) C.1 C.2.1 dX9_meetsField_18 (by decide) ?_
    exact endWi C hP hD hS (Nat.le_refl _) (Nat.le_refl _) hf dX9_meetsField_20
end
theorem vX9_meetsField : YV yX9_meetsField cX9_meetsField 3 (some .int) 2 := ⟨⟨wK_X9_meetsField, wZ_X9, by decide +kernel⟩, wI_X9_meetsField, wV_X9_meetsField⟩
def fX9_meets_L307 (u : ST) (x1 : Int32) (x2 : Int32) (x5 : Int32) (x6 : Int32) (x7 : Int32) : Option (Int32 × ST) :=
  if x5 = 0 then
    b2 (fX9_meetsField u x1 x6) fun v35 u34 =>
    some (v35, u34)
  else
    b2 (fX9_meetsMethod u x1 x6 x2 x7) fun v37 u36 =>
    some (v37, u36)
def fX9_meets_L297 (u : ST) (x1 : Int32) (x2 : Int32) (x5 : Int32) (x6 : Int32) (x7 : Int32) (y0 : Int32) : Option (Int32 × ST) :=
  if y0 ≤ 0 then
    fX9_meets_L307 u x1 x2 x5 x6 x7
  else
    some (y0, u)
def fX9_meets_L295 (u : ST) (x1 : Int32) (x2 : Int32) (x4 : Int32) (x5 : Int32) (x6 : Int32) (x7 : Int32) : Option (Int32 × ST) :=
  fX9_meets_L297 u x1 x2 x5 x6 x7 x4
def fX9_meets_L249 (u : ST) (x1 : Int32) (x2 : Int32) (x3 : Int32) (x5 : Int32) (x6 : Int32) (y0 : Int32) : Option (Int32 × ST) :=
  (rdI u 38 25 x1).bind fun v30 =>
  if y0 = v30 then
    if y0 = 0 then
      b2 (fX9_readFails u x2) fun v39 u38 =>
      if v39 = 0 then
        b2 (fX9_isBelow u38 x2 x3) fun v43 u42 =>
        if v43 = 0 then
          fX9_meets_L297 u42 x1 x2 x5 x6 y0 6
        else
          fX9_meets_L295 u42 x1 x2 v39 x5 x6 y0
      else
        fX9_meets_L295 u38 x1 x2 v39 x5 x6 y0
    else
      fX9_meets_L307 u x1 x2 x5 x6 y0
  else
    some (5, u)
def fX9_meets_L209 (u : ST) (x1 : Int32) (x2 : Int32) (x3 : Int32) (x5 : Int32) (y0 : Int32) : Option (Int32 × ST) :=
  if 0 ≤ y0 then
    (rdI u 10 60 y0).bind fun v26 =>
    if (v26 &&& 4) = 0 then
      (rdI u 10 60 y0).bind fun v28 =>
      if (v28 &&& 1) = 0 then
        fX9_meets_L249 u x1 x2 x3 x5 y0 0
      else
        fX9_meets_L249 u x1 x2 x3 x5 y0 1
    else
      some (4, u)
  else
    some (3, u)
def fX9_meets_L166 (u : ST) (x1 : Int32) (x2 : Int32) (x3 : Int32) (x5 : Int32) : Option (Int32 × ST) :=
  if x5 = 0 then
    (rdI u 31 25 x1).bind fun v22 =>
    b2 (fX9_lookForField u x3 v22 0) fun v24 u23 =>
    fX9_meets_L209 u23 x1 x2 x3 x5 v24
  else
    (rdI u 31 25 x1).bind fun v45 =>
    (rdI u 34 25 x1).bind fun v46 =>
    (rdI u 35 25 x1).bind fun v47 =>
    b2 (fX9_lookForMethod u x3 v45 v46 v47) fun v49 u48 =>
    fX9_meets_L209 u48 x1 x2 x3 x5 v49
def fX9_meets_L142 (u : ST) (x1 : Int32) (x2 : Int32) (x3 : Int32) (y0 : Int32) : Option (Int32 × ST) :=
  if y0 = 0 then
    fX9_meets_L166 u x1 x2 x3 y0
  else
    (rdI u 1 12 x3).bind fun v50 =>
    (rdI u 39 25 x1).bind fun v51 =>
    if v50 = v51 then
      fX9_meets_L166 u x1 x2 x3 y0
    else
      some (5, u)
def fX9_meets (u : ST) (x1 : Int32) (x2 : Int32) : Option (Int32 × ST) :=
  (rdI u 30 25 x1).bind fun v1 =>
  (fX9_isGone u v1).bind fun v2 =>
  if v2 = 0 then
    (rdI u 34 25 x1).bind fun v4 =>
    (fX9_isGone u v4).bind fun v5 =>
    if v5 = 0 then
      (rdI u 35 25 x1).bind fun v7 =>
      (fX9_isGone u v7).bind fun v8 =>
      if v8 = 0 then
        (rdI u 30 25 x1).bind fun v10 =>
        (rdI u 36 25 x1).bind fun v11 =>
        if v11 = 0 then
          b2 (fX9_readFails u v10) fun v14 u13 =>
          if v14 ≤ 0 then
            (rdI u13 29 25 x1).bind fun v16 =>
            if v16 = 2 then
              (some (uL u13 43 ((v10 : Int32).toInt64))).bind fun u53 =>
              (rdI u53 3 12 v10).bind fun v54 =>
              if (v54 &&& 1) = 0 then
                some (0, u53)
              else
                (rdI u53 1 12 v10).bind fun v56 =>
                if v56 = 0 then
                  some (9, u53)
                else
                  some (0, u53)
            else
              (rdI u13 29 25 x1).bind fun v18 =>
              if v18 = 1 then
                fX9_meets_L142 u13 x1 x2 v10 1
              else
                fX9_meets_L142 u13 x1 x2 v10 0
          else
            some (v14, u13)
        else
          (rdL u 37 25 x1).bind fun v58 =>
          (some (uL u 43 v58)).bind fun u59 =>
          some (0, u59)
      else
        some (3, u)
    else
      some (3, u)
  else
    some (3, u)
section
variable {p : Program} {l : Launch} {e : Env} {s : State} {m : MethodId} {args : Array Value} {below : List Frame} {meth : Method} {c : Code} {H : Heap} {locs : List Loc} {g : GP} {ls : Array Slot} {A : Nat → Prop} {ad : Nat → Nat} {u : ST}
set_option maxRecDepth 100000 in
set_option maxHeartbeats 4000000 in
theorem bX9_meets_L307 {r0 : Int32} {u0 : ST} {x1 : Int32} {x2 : Int32} {x5 : Int32} {x6 : Int32} {x7 : Int32} (C : Cx p s m args meth c cX9_meets 8 RX9 (some .int) g) (hA : ∀ q, s.heap.size ≤ q → A q) (hZ : SF A s) (hP : va_P g.1 vwCl (mW g ad u) H) (hD : va_D A (mW g ad u)) (hS : va_S A s.heap H locs) (hl : lv_has ls 8 [(0, .ref (ad 0)), (1, .int x1), (2, .int x2), (5, .int x5), (6, .int x6), (7, .int x7)]) (hf : fX9_meets_L307 u x1 x2 x5 x6 x7 = some (r0, u0)) : W p l e (rmW 4 106 0 0) s m args below meth c H locs 0 0 (MQ below (va_Qi (fun r v => r = r0 ∧ v = u0) (BW g A (mW g ad)) A) args s 0 0 A) (F0 m 307 ls []) := by
  rw [fX9_meets_L307] at hf
  refine lv_iload C.1 C.2.1 dX9_meets_307 (lv_at hl 3 rfl) ?_
  refine lv_if_eq (tgt := 325) C.1 C.2.1 dX9_meets_309 (by decide) (fun c33 => ?_) (fun c33 => ?_)
  · rw [if_pos c33] at hf
    refine lv_aload_n C.1 C.2.1 dX9_meets_325 rfl (lv_at hl 0 rfl) ?_
    refine lv_iload_n C.1 C.2.1 dX9_meets_326 rfl (lv_at hl 1 rfl) ?_
    refine lv_iload C.1 C.2.1 dX9_meets_327 (lv_at hl 4 rfl) ?_
    obtain ⟨v35, u34, hu34, hf⟩ := b2_some hf
    refine cWi (As := [.int x1, .int x6]) (rest := []) (mc := 0) (ms := 0) C (mX9_meetsField hu34) vX9_meetsField wM_X9_311 ⟨Nat.le_of_ble_eq_true rfl, Nat.le_of_ble_eq_true rfl⟩ hP hD hS hA hZ (rcm_X9 C hP) hl.1 rfl rfl (Nat.le_of_ble_eq_true rfl) dX9_meets_329 ⟨Nat.le_of_ble_eq_true rfl, Nat.le_of_ble_eq_true rfl⟩ (fun H locs hP hD hS => ?_)
    exact endWi C hP hD hS (Nat.le_refl _) (Nat.le_refl _) hf dX9_meets_332
  · rw [if_neg c33] at hf
    refine lv_aload_n C.1 C.2.1 dX9_meets_312 rfl (lv_at hl 0 rfl) ?_
    refine lv_iload_n C.1 C.2.1 dX9_meets_313 rfl (lv_at hl 1 rfl) ?_
    refine lv_iload C.1 C.2.1 dX9_meets_314 (lv_at hl 4 rfl) ?_
    refine lv_iload_n C.1 C.2.1 dX9_meets_316 rfl (lv_at hl 2 rfl) ?_
    refine lv_iload C.1 C.2.1 dX9_meets_317 (lv_at hl 5 rfl) ?_
    obtain ⟨v37, u36, hu36, hf⟩ := b2_some hf
    refine cWi (As := [.int x1, .int x6, .int x2, .int x7]) (rest := []) (mc := 0) (ms := 0) C (mX9_meetsMethod hu36) vX9_meetsMethod wM_X9_307 ⟨Nat.le_of_ble_eq_true rfl, Nat.le_of_ble_eq_true rfl⟩ hP hD hS hA hZ (rcm_X9 C hP) hl.1 rfl rfl (Nat.le_of_ble_eq_true rfl) dX9_meets_319 ⟨Nat.le_of_ble_eq_true rfl, Nat.le_of_ble_eq_true rfl⟩ (fun H locs hP hD hS => ?_)
    refine lv_goto (tgt := 332) C.1 C.2.1 dX9_meets_322 (by decide) ?_
    exact endWi C hP hD hS (Nat.le_refl _) (Nat.le_refl _) hf dX9_meets_332
set_option maxRecDepth 100000 in
set_option maxHeartbeats 4000000 in
theorem bX9_meets_L297 {r0 : Int32} {u0 : ST} {x1 : Int32} {x2 : Int32} {x5 : Int32} {x6 : Int32} {x7 : Int32} {y0 : Int32} (C : Cx p s m args meth c cX9_meets 8 RX9 (some .int) g) (hA : ∀ q, s.heap.size ≤ q → A q) (hZ : SF A s) (hP : va_P g.1 vwCl (mW g ad u) H) (hD : va_D A (mW g ad u)) (hS : va_S A s.heap H locs) (hl : lv_has ls 8 [(0, .ref (ad 0)), (1, .int x1), (2, .int x2), (5, .int x5), (6, .int x6), (7, .int x7)]) (hf : fX9_meets_L297 u x1 x2 x5 x6 x7 y0 = some (r0, u0)) : W p l e (rmW 4 106 0 0) s m args below meth c H locs 0 0 (MQ below (va_Qi (fun r v => r = r0 ∧ v = u0) (BW g A (mW g ad)) A) args s 0 0 A) (F0 m 297 ls [.int y0]) := by
  rw [fX9_meets_L297] at hf
  refine lv_istore (lv' := [(4, .int y0), (0, .ref (ad 0)), (1, .int x1), (2, .int x2), (5, .int x5), (6, .int x6), (7, .int x7)]) C.1 C.2.1 dX9_meets_297 hl (by decide) rfl (fun ls hl => ?_)
  refine lv_iload C.1 C.2.1 dX9_meets_299 (lv_at hl 0 rfl) ?_
  refine lv_if_le (tgt := 307) C.1 C.2.1 dX9_meets_301 (by decide) (fun c41 => ?_) (fun c41 => ?_)
  · rw [if_pos c41] at hf
    exact bX9_meets_L307 C hA hZ hP hD hS (lv_sub hl [1, 2, 3, 4, 5, 6] rfl) hf
  · rw [if_neg c41] at hf
    refine lv_iload C.1 C.2.1 dX9_meets_304 (lv_at hl 0 rfl) ?_
    exact endWi C hP hD hS (Nat.le_refl _) (Nat.le_refl _) hf dX9_meets_306
set_option maxRecDepth 100000 in
set_option maxHeartbeats 4000000 in
theorem bX9_meets_L295 {r0 : Int32} {u0 : ST} {x1 : Int32} {x2 : Int32} {x4 : Int32} {x5 : Int32} {x6 : Int32} {x7 : Int32} (C : Cx p s m args meth c cX9_meets 8 RX9 (some .int) g) (hA : ∀ q, s.heap.size ≤ q → A q) (hZ : SF A s) (hP : va_P g.1 vwCl (mW g ad u) H) (hD : va_D A (mW g ad u)) (hS : va_S A s.heap H locs) (hl : lv_has ls 8 [(0, .ref (ad 0)), (1, .int x1), (2, .int x2), (4, .int x4), (5, .int x5), (6, .int x6), (7, .int x7)]) (hf : fX9_meets_L295 u x1 x2 x4 x5 x6 x7 = some (r0, u0)) : W p l e (rmW 4 106 0 0) s m args below meth c H locs 0 0 (MQ below (va_Qi (fun r v => r = r0 ∧ v = u0) (BW g A (mW g ad)) A) args s 0 0 A) (F0 m 295 ls []) := by
  rw [fX9_meets_L295] at hf
  refine lv_iload C.1 C.2.1 dX9_meets_295 (lv_at hl 3 rfl) ?_
  exact bX9_meets_L297 C hA hZ hP hD hS (lv_sub hl [0, 1, 2, 4, 5, 6] rfl) hf
set_option maxRecDepth 100000 in
set_option maxHeartbeats 4000000 in
theorem bX9_meets_L249 {r0 : Int32} {u0 : ST} {x1 : Int32} {x2 : Int32} {x3 : Int32} {x5 : Int32} {x6 : Int32} {y0 : Int32} (C : Cx p s m args meth c cX9_meets 8 RX9 (some .int) g) (hA : ∀ q, s.heap.size ≤ q → A q) (hZ : SF A s) (hP : va_P g.1 vwCl (mW g ad u) H) (hD : va_D A (mW g ad u)) (hS : va_S A s.heap H locs) (hl : lv_has ls 8 [(0, .ref (ad 0)), (1, .int x1), (2, .int x2), (3, .int x3), (5, .int x5), (6, .int x6)]) (hf : fX9_meets_L249 u x1 x2 x3 x5 x6 y0 = some (r0, u0)) : W p l e (rmW 4 106 0 0) s m args below meth c H locs 0 0 (MQ below (va_Qi (fun r v => r = r0 ∧ v = u0) (BW g A (mW g ad)) A) args s 0 0 A) (F0 m 249 ls [.int y0]) := by
  rw [fX9_meets_L249] at hf
  refine lv_istore (lv' := [(7, .int y0), (0, .ref (ad 0)), (1, .int x1), (2, .int x2), (3, .int x3), (5, .int x5), (6, .int x6)]) C.1 C.2.1 dX9_meets_249 hl (by decide) rfl (fun ls hl => ?_)
  refine lv_iload C.1 C.2.1 dX9_meets_251 (lv_at hl 0 rfl) ?_
  refine lv_aload_n C.1 C.2.1 dX9_meets_253 rfl (lv_at hl 1 rfl) ?_
  refine gtm_X9_cStatic C hP wF_X9_114 dX9_meets_254 ?_
  refine lv_iload_n C.1 C.2.1 dX9_meets_257 rfl (lv_at hl 2 rfl) ?_
  obtain ⟨v30, hv30, hf⟩ := Option.bind_eq_some_iff.mp hf
  refine ldm_38 C hP hv30 dX9_meets_258 ?_
  refine lv_icmp_eq (tgt := 264) C.1 C.2.1 dX9_meets_259 (by decide) (fun c31 => ?_) (fun c31 => ?_)
  · rw [if_pos c31] at hf
    refine lv_iload C.1 C.2.1 dX9_meets_264 (lv_at hl 0 rfl) ?_
    refine lv_if_ne (tgt := 307) C.1 C.2.1 dX9_meets_266 (by decide) (fun c32 => ?_) (fun c32 => ?_)
    · rw [if_neg c32] at hf
      exact bX9_meets_L307 C hA hZ hP hD hS (lv_sub hl [1, 2, 3, 5, 6, 0] rfl) hf
    · rw [if_pos c32] at hf
      refine lv_aload_n C.1 C.2.1 dX9_meets_269 rfl (lv_at hl 1 rfl) ?_
      refine lv_iload_n C.1 C.2.1 dX9_meets_270 rfl (lv_at hl 3 rfl) ?_
      obtain ⟨v39, u38, hu38, hf⟩ := b2_some hf
      refine cWi (As := [.int x2]) (rest := []) (mc := 0) (ms := 0) C (mX9_readFails hu38) vX9_readFails wM_X9_304 ⟨Nat.le_of_ble_eq_true rfl, Nat.le_of_ble_eq_true rfl⟩ hP hD hS hA hZ (rcm_X9 C hP) hl.1 rfl rfl (Nat.le_of_ble_eq_true rfl) dX9_meets_271 ⟨Nat.le_of_ble_eq_true rfl, Nat.le_of_ble_eq_true rfl⟩ (fun H locs hP hD hS => ?_)
      refine lv_istore (lv' := [(4, .int v39), (7, .int y0), (0, .ref (ad 0)), (1, .int x1), (2, .int x2), (3, .int x3), (5, .int x5), (6, .int x6)]) C.1 C.2.1 dX9_meets_274 hl (by decide) rfl (fun ls hl => ?_)
      refine lv_iload C.1 C.2.1 dX9_meets_276 (lv_at hl 0 rfl) ?_
      refine lv_if_ne (tgt := 295) C.1 C.2.1 dX9_meets_278 (by decide) (fun c40 => ?_) (fun c40 => ?_)
      · rw [if_neg c40] at hf
        exact bX9_meets_L295 C hA hZ hP hD hS (lv_sub hl [2, 3, 4, 0, 6, 7, 1] rfl) hf
      · rw [if_pos c40] at hf
        refine lv_aload_n C.1 C.2.1 dX9_meets_281 rfl (lv_at hl 2 rfl) ?_
        refine lv_iload_n C.1 C.2.1 dX9_meets_282 rfl (lv_at hl 4 rfl) ?_
        refine lv_iload_n C.1 C.2.1 dX9_meets_283 rfl (lv_at hl 5 rfl) ?_
        obtain ⟨v43, u42, hu42, hf⟩ := b2_some hf
        refine cWi (As := [.int x2, .int x3]) (rest := []) (mc := 0) (ms := 0) C (mX9_isBelow hu42) vX9_isBelow wM_X9_182 ⟨Nat.le_of_ble_eq_true rfl, Nat.le_of_ble_eq_true rfl⟩ hP hD hS hA hZ (rcm_X9 C hP) hl.1 rfl rfl (Nat.le_of_ble_eq_true rfl) dX9_meets_284 ⟨Nat.le_of_ble_eq_true rfl, Nat.le_of_ble_eq_true rfl⟩ (fun H locs hP hD hS => ?_)
        refine lv_if_ne (tgt := 295) C.1 C.2.1 dX9_meets_287 (by decide) (fun c44 => ?_) (fun c44 => ?_)
        · rw [if_neg c44] at hf
          exact bX9_meets_L295 C hA hZ hP hD hS (lv_sub hl [2, 3, 4, 0, 6, 7, 1] rfl) hf
        · rw [if_pos c44] at hf
          refine lv_bipush (v := 6) C.1 C.2.1 dX9_meets_290 (by decide) ?_
          refine lv_goto (tgt := 297) C.1 C.2.1 dX9_meets_292 (by decide) ?_
          exact bX9_meets_L297 C hA hZ hP hD hS (lv_sub hl [2, 3, 4, 6, 7, 1] rfl) hf
  · rw [if_neg c31] at hf
    refine lv_iconst (v := 5) C.1 C.2.1 dX9_meets_262 (by decide) ?_
    exact endWi C hP hD hS (Nat.le_refl _) (Nat.le_refl _) hf dX9_meets_263
set_option maxRecDepth 100000 in
set_option maxHeartbeats 4000000 in
theorem bX9_meets_L209 {r0 : Int32} {u0 : ST} {x1 : Int32} {x2 : Int32} {x3 : Int32} {x5 : Int32} {y0 : Int32} (C : Cx p s m args meth c cX9_meets 8 RX9 (some .int) g) (hA : ∀ q, s.heap.size ≤ q → A q) (hZ : SF A s) (hP : va_P g.1 vwCl (mW g ad u) H) (hD : va_D A (mW g ad u)) (hS : va_S A s.heap H locs) (hl : lv_has ls 8 [(0, .ref (ad 0)), (1, .int x1), (2, .int x2), (3, .int x3), (5, .int x5)]) (hf : fX9_meets_L209 u x1 x2 x3 x5 y0 = some (r0, u0)) : W p l e (rmW 4 106 0 0) s m args below meth c H locs 0 0 (MQ below (va_Qi (fun r v => r = r0 ∧ v = u0) (BW g A (mW g ad)) A) args s 0 0 A) (F0 m 209 ls [.int y0]) := by
  rw [fX9_meets_L209] at hf
  refine lv_istore (lv' := [(6, .int y0), (0, .ref (ad 0)), (1, .int x1), (2, .int x2), (3, .int x3), (5, .int x5)]) C.1 C.2.1 dX9_meets_209 hl (by decide) rfl (fun ls hl => ?_)
  refine lv_iload C.1 C.2.1 dX9_meets_211 (lv_at hl 0 rfl) ?_
  refine lv_if_ge (tgt := 218) C.1 C.2.1 dX9_meets_213 (by decide) (fun c25 => ?_) (fun c25 => ?_)
  · rw [if_pos c25] at hf
    refine lv_aload_n C.1 C.2.1 dX9_meets_218 rfl (lv_at hl 1 rfl) ?_
    refine gtm_X9_mMarks C hP wF_X9_38 dX9_meets_219 ?_
    refine lv_iload C.1 C.2.1 dX9_meets_222 (lv_at hl 0 rfl) ?_
    obtain ⟨v26, hv26, hf⟩ := Option.bind_eq_some_iff.mp hf
    refine ldm_10 C hP hv26 dX9_meets_224 ?_
    refine lv_iconst (v := 4) C.1 C.2.1 dX9_meets_225 (by decide) ?_
    refine lv_iand C.1 C.2.1 dX9_meets_226 ?_
    refine lv_if_eq (tgt := 232) C.1 C.2.1 dX9_meets_227 (by decide) (fun c27 => ?_) (fun c27 => ?_)
    · rw [if_pos c27] at hf
      refine lv_aload_n C.1 C.2.1 dX9_meets_232 rfl (lv_at hl 1 rfl) ?_
      refine gtm_X9_mMarks C hP wF_X9_38 dX9_meets_233 ?_
      refine lv_iload C.1 C.2.1 dX9_meets_236 (lv_at hl 0 rfl) ?_
      obtain ⟨v28, hv28, hf⟩ := Option.bind_eq_some_iff.mp hf
      refine ldm_10 C hP hv28 dX9_meets_238 ?_
      refine lv_iconst (v := 1) C.1 C.2.1 dX9_meets_239 (by decide) ?_
      refine lv_iand C.1 C.2.1 dX9_meets_240 ?_
      refine lv_if_eq (tgt := 248) C.1 C.2.1 dX9_meets_241 (by decide) (fun c29 => ?_) (fun c29 => ?_)
      · rw [if_pos c29] at hf
        refine lv_iconst (v := 0) C.1 C.2.1 dX9_meets_248 (by decide) ?_
        exact bX9_meets_L249 C hA hZ hP hD hS (lv_sub hl [1, 2, 3, 4, 5, 0] rfl) hf
      · rw [if_neg c29] at hf
        refine lv_iconst (v := 1) C.1 C.2.1 dX9_meets_244 (by decide) ?_
        refine lv_goto (tgt := 249) C.1 C.2.1 dX9_meets_245 (by decide) ?_
        exact bX9_meets_L249 C hA hZ hP hD hS (lv_sub hl [1, 2, 3, 4, 5, 0] rfl) hf
    · rw [if_neg c27] at hf
      refine lv_iconst (v := 4) C.1 C.2.1 dX9_meets_230 (by decide) ?_
      exact endWi C hP hD hS (Nat.le_refl _) (Nat.le_refl _) hf dX9_meets_231
  · rw [if_neg c25] at hf
    refine lv_iconst (v := 3) C.1 C.2.1 dX9_meets_216 (by decide) ?_
    exact endWi C hP hD hS (Nat.le_refl _) (Nat.le_refl _) hf dX9_meets_217
set_option maxRecDepth 100000 in
set_option maxHeartbeats 4000000 in
theorem bX9_meets_L166 {r0 : Int32} {u0 : ST} {x1 : Int32} {x2 : Int32} {x3 : Int32} {x5 : Int32} (C : Cx p s m args meth c cX9_meets 8 RX9 (some .int) g) (hA : ∀ q, s.heap.size ≤ q → A q) (hZ : SF A s) (hP : va_P g.1 vwCl (mW g ad u) H) (hD : va_D A (mW g ad u)) (hS : va_S A s.heap H locs) (hl : lv_has ls 8 [(0, .ref (ad 0)), (1, .int x1), (2, .int x2), (3, .int x3), (5, .int x5)]) (hf : fX9_meets_L166 u x1 x2 x3 x5 = some (r0, u0)) : W p l e (rmW 4 106 0 0) s m args below meth c H locs 0 0 (MQ below (va_Qi (fun r v => r = r0 ∧ v = u0) (BW g A (mW g ad)) A) args s 0 0 A) (F0 m 166 ls []) := by
  rw [fX9_meets_L166] at hf
  refine lv_iload C.1 C.2.1 dX9_meets_166 (lv_at hl 4 rfl) ?_
  refine lv_if_eq (tgt := 197) C.1 C.2.1 dX9_meets_168 (by decide) (fun c21 => ?_) (fun c21 => ?_)
  · rw [if_pos c21] at hf
    refine lv_aload_n C.1 C.2.1 dX9_meets_197 rfl (lv_at hl 0 rfl) ?_
    refine lv_iload_n C.1 C.2.1 dX9_meets_198 rfl (lv_at hl 3 rfl) ?_
    refine lv_aload_n C.1 C.2.1 dX9_meets_199 rfl (lv_at hl 0 rfl) ?_
    refine gtm_X9_cName C hP wF_X9_93 dX9_meets_200 ?_
    refine lv_iload_n C.1 C.2.1 dX9_meets_203 rfl (lv_at hl 1 rfl) ?_
    obtain ⟨v22, hv22, hf⟩ := Option.bind_eq_some_iff.mp hf
    refine ldm_31 C hP hv22 dX9_meets_204 ?_
    refine lv_iconst (v := 0) C.1 C.2.1 dX9_meets_205 (by decide) ?_
    obtain ⟨v24, u23, hu23, hf⟩ := b2_some hf
    refine cWi (As := [.int x3, .int v22, .int 0]) (rest := []) (mc := 0) (ms := 0) C (mX9_lookForField hu23) vX9_lookForField wM_X9_266 ⟨Nat.le_of_ble_eq_true rfl, Nat.le_of_ble_eq_true rfl⟩ hP hD hS hA hZ (rcm_X9 C hP) hl.1 rfl rfl (Nat.le_of_ble_eq_true rfl) dX9_meets_206 ⟨Nat.le_of_ble_eq_true rfl, Nat.le_of_ble_eq_true rfl⟩ (fun H locs hP hD hS => ?_)
    exact bX9_meets_L209 C hA hZ hP hD hS (lv_sub hl [0, 1, 2, 3, 4] rfl) hf
  · rw [if_neg c21] at hf
    refine lv_aload_n C.1 C.2.1 dX9_meets_171 rfl (lv_at hl 0 rfl) ?_
    refine lv_iload_n C.1 C.2.1 dX9_meets_172 rfl (lv_at hl 3 rfl) ?_
    refine lv_aload_n C.1 C.2.1 dX9_meets_173 rfl (lv_at hl 0 rfl) ?_
    refine gtm_X9_cName C hP wF_X9_93 dX9_meets_174 ?_
    refine lv_iload_n C.1 C.2.1 dX9_meets_177 rfl (lv_at hl 1 rfl) ?_
    obtain ⟨v45, hv45, hf⟩ := Option.bind_eq_some_iff.mp hf
    refine ldm_31 C hP hv45 dX9_meets_178 ?_
    refine lv_aload_n C.1 C.2.1 dX9_meets_179 rfl (lv_at hl 0 rfl) ?_
    refine gtm_X9_cFirst C hP wF_X9_102 dX9_meets_180 ?_
    refine lv_iload_n C.1 C.2.1 dX9_meets_183 rfl (lv_at hl 1 rfl) ?_
    obtain ⟨v46, hv46, hf⟩ := Option.bind_eq_some_iff.mp hf
    refine ldm_34 C hP hv46 dX9_meets_184 ?_
    refine lv_aload_n C.1 C.2.1 dX9_meets_185 rfl (lv_at hl 0 rfl) ?_
    refine gtm_X9_cSecond C hP wF_X9_105 dX9_meets_186 ?_
    refine lv_iload_n C.1 C.2.1 dX9_meets_189 rfl (lv_at hl 1 rfl) ?_
    obtain ⟨v47, hv47, hf⟩ := Option.bind_eq_some_iff.mp hf
    refine ldm_35 C hP hv47 dX9_meets_190 ?_
    obtain ⟨v49, u48, hu48, hf⟩ := b2_some hf
    refine cWi (As := [.int x3, .int v45, .int v46, .int v47]) (rest := []) (mc := 0) (ms := 0) C (mX9_lookForMethod hu48) vX9_lookForMethod wM_X9_281 ⟨Nat.le_of_ble_eq_true rfl, Nat.le_of_ble_eq_true rfl⟩ hP hD hS hA hZ (rcm_X9 C hP) hl.1 rfl rfl (Nat.le_of_ble_eq_true rfl) dX9_meets_191 ⟨Nat.le_of_ble_eq_true rfl, Nat.le_of_ble_eq_true rfl⟩ (fun H locs hP hD hS => ?_)
    refine lv_goto (tgt := 209) C.1 C.2.1 dX9_meets_194 (by decide) ?_
    exact bX9_meets_L209 C hA hZ hP hD hS (lv_sub hl [0, 1, 2, 3, 4] rfl) hf
set_option maxRecDepth 100000 in
set_option maxHeartbeats 4000000 in
theorem bX9_meets_L142 {r0 : Int32} {u0 : ST} {x1 : Int32} {x2 : Int32} {x3 : Int32} {y0 : Int32} (C : Cx p s m args meth c cX9_meets 8 RX9 (some .int) g) (hA : ∀ q, s.heap.size ≤ q → A q) (hZ : SF A s) (hP : va_P g.1 vwCl (mW g ad u) H) (hD : va_D A (mW g ad u)) (hS : va_S A s.heap H locs) (hl : lv_has ls 8 [(0, .ref (ad 0)), (1, .int x1), (2, .int x2), (3, .int x3)]) (hf : fX9_meets_L142 u x1 x2 x3 y0 = some (r0, u0)) : W p l e (rmW 4 106 0 0) s m args below meth c H locs 0 0 (MQ below (va_Qi (fun r v => r = r0 ∧ v = u0) (BW g A (mW g ad)) A) args s 0 0 A) (F0 m 142 ls [.int y0]) := by
  rw [fX9_meets_L142] at hf
  refine lv_istore (lv' := [(5, .int y0), (0, .ref (ad 0)), (1, .int x1), (2, .int x2), (3, .int x3)]) C.1 C.2.1 dX9_meets_142 hl (by decide) rfl (fun ls hl => ?_)
  refine lv_iload C.1 C.2.1 dX9_meets_144 (lv_at hl 0 rfl) ?_
  refine lv_if_eq (tgt := 166) C.1 C.2.1 dX9_meets_146 (by decide) (fun c20 => ?_) (fun c20 => ?_)
  · rw [if_pos c20] at hf
    exact bX9_meets_L166 C hA hZ hP hD hS (lv_sub hl [1, 2, 3, 4, 0] rfl) hf
  · rw [if_neg c20] at hf
    refine lv_aload_n C.1 C.2.1 dX9_meets_149 rfl (lv_at hl 1 rfl) ?_
    refine gtm_X9_isFace C hP wF_X9_7 dX9_meets_150 ?_
    refine lv_iload_n C.1 C.2.1 dX9_meets_153 rfl (lv_at hl 4 rfl) ?_
    obtain ⟨v50, hv50, hf⟩ := Option.bind_eq_some_iff.mp hf
    refine ldm_1 C hP hv50 dX9_meets_154 ?_
    refine lv_aload_n C.1 C.2.1 dX9_meets_155 rfl (lv_at hl 1 rfl) ?_
    refine gtm_X9_cFace C hP wF_X9_117 dX9_meets_156 ?_
    refine lv_iload_n C.1 C.2.1 dX9_meets_159 rfl (lv_at hl 2 rfl) ?_
    obtain ⟨v51, hv51, hf⟩ := Option.bind_eq_some_iff.mp hf
    refine ldm_39 C hP hv51 dX9_meets_160 ?_
    refine lv_icmp_eq (tgt := 166) C.1 C.2.1 dX9_meets_161 (by decide) (fun c52 => ?_) (fun c52 => ?_)
    · rw [if_pos c52] at hf
      exact bX9_meets_L166 C hA hZ hP hD hS (lv_sub hl [1, 2, 3, 4, 0] rfl) hf
    · rw [if_neg c52] at hf
      refine lv_iconst (v := 5) C.1 C.2.1 dX9_meets_164 (by decide) ?_
      exact endWi C hP hD hS (Nat.le_refl _) (Nat.le_refl _) hf dX9_meets_165
set_option maxRecDepth 100000 in
set_option maxHeartbeats 4000000 in
theorem mX9_meets {r0 : Int32} {u0 : ST} {x1 : Int32} {x2 : Int32} (hf : fX9_meets u x1 x2 = some (r0, u0)) : MWi l yX9_meets cX9_meets 8 (some .int) 4 106 0 0 [.ref (ad 0), .int x1, .int x2] g (mW g ad) u r0 u0 := by
  refine entW (Qc := fun A => va_Qi (fun r v => r = r0 ∧ v = u0) (BW g A (mW g ad)) A) (by decide) (Nat.le_of_ble_eq_true rfl) ?_
  intro p e s m below meth c ls A C hP hD hS hA hZ hl
  have hl : lv_has ls 8 [(0, .ref (ad 0)), (1, .int x1), (2, .int x2)] := hl
  rw [fX9_meets] at hf
  refine lv_aload_n C.1 C.2.1 dX9_meets_0 rfl (lv_at hl 0 rfl) ?_
  refine lv_aload_n C.1 C.2.1 dX9_meets_1 rfl (lv_at hl 0 rfl) ?_
  refine gtm_X9_cType C hP wF_X9_90 dX9_meets_2 ?_
  refine lv_iload_n C.1 C.2.1 dX9_meets_5 rfl (lv_at hl 1 rfl) ?_
  obtain ⟨v1, hv1, hf⟩ := Option.bind_eq_some_iff.mp hf
  refine ldm_30 C hP hv1 dX9_meets_6 ?_
  obtain ⟨v2, hv2, hf⟩ := Option.bind_eq_some_iff.mp hf
  refine cRi (As := [.int v1]) (rest := []) C (mX9_isGone hv2) vX9_isGone wM_X9_297 ⟨Nat.le_of_ble_eq_true rfl, Nat.le_of_ble_eq_true rfl⟩ hP (rcm_X9 C hP) (fun U hU hW => SF.go hZ hS hU hW (fun _ h => h.elim)) hl.1 rfl rfl (Nat.le_of_ble_eq_true rfl) dX9_meets_7 ⟨Nat.le_of_ble_eq_true rfl, Nat.le_of_ble_eq_true rfl⟩ ?_
  refine lv_if_ne (tgt := 39) C.1 C.2.1 dX9_meets_10 (by decide) (fun c3 => ?_) (fun c3 => ?_)
  · rw [if_neg c3] at hf
    refine lv_iconst (v := 3) C.1 C.2.1 dX9_meets_39 (by decide) ?_
    exact endWi C hP hD hS (Nat.le_refl _) (Nat.le_refl _) hf dX9_meets_40
  · rw [if_pos c3] at hf
    refine lv_aload_n C.1 C.2.1 dX9_meets_13 rfl (lv_at hl 0 rfl) ?_
    refine lv_aload_n C.1 C.2.1 dX9_meets_14 rfl (lv_at hl 0 rfl) ?_
    refine gtm_X9_cFirst C hP wF_X9_102 dX9_meets_15 ?_
    refine lv_iload_n C.1 C.2.1 dX9_meets_18 rfl (lv_at hl 1 rfl) ?_
    obtain ⟨v4, hv4, hf⟩ := Option.bind_eq_some_iff.mp hf
    refine ldm_34 C hP hv4 dX9_meets_19 ?_
    obtain ⟨v5, hv5, hf⟩ := Option.bind_eq_some_iff.mp hf
    refine cRi (As := [.int v4]) (rest := []) C (mX9_isGone hv5) vX9_isGone wM_X9_297 ⟨Nat.le_of_ble_eq_true rfl, Nat.le_of_ble_eq_true rfl⟩ hP (rcm_X9 C hP) (fun U hU hW => SF.go hZ hS hU hW (fun _ h => h.elim)) hl.1 rfl rfl (Nat.le_of_ble_eq_true rfl) dX9_meets_20 ⟨Nat.le_of_ble_eq_true rfl, Nat.le_of_ble_eq_true rfl⟩ ?_
    refine lv_if_ne (tgt := 39) C.1 C.2.1 dX9_meets_23 (by decide) (fun c6 => ?_) (fun c6 => ?_)
    · rw [if_neg c6] at hf
      refine lv_iconst (v := 3) C.1 C.2.1 dX9_meets_39 (by decide) ?_
      exact endWi C hP hD hS (Nat.le_refl _) (Nat.le_refl _) hf dX9_meets_40
    · rw [if_pos c6] at hf
      refine lv_aload_n C.1 C.2.1 dX9_meets_26 rfl (lv_at hl 0 rfl) ?_
      refine lv_aload_n C.1 C.2.1 dX9_meets_27 rfl (lv_at hl 0 rfl) ?_
      refine gtm_X9_cSecond C hP wF_X9_105 dX9_meets_28 ?_
      refine lv_iload_n C.1 C.2.1 dX9_meets_31 rfl (lv_at hl 1 rfl) ?_
      obtain ⟨v7, hv7, hf⟩ := Option.bind_eq_some_iff.mp hf
      refine ldm_35 C hP hv7 dX9_meets_32 ?_
      obtain ⟨v8, hv8, hf⟩ := Option.bind_eq_some_iff.mp hf
      refine cRi (As := [.int v7]) (rest := []) C (mX9_isGone hv8) vX9_isGone wM_X9_297 ⟨Nat.le_of_ble_eq_true rfl, Nat.le_of_ble_eq_true rfl⟩ hP (rcm_X9 C hP) (fun U hU hW => SF.go hZ hS hU hW (fun _ h => h.elim)) hl.1 rfl rfl (Nat.le_of_ble_eq_true rfl) dX9_meets_33 ⟨Nat.le_of_ble_eq_true rfl, Nat.le_of_ble_eq_true rfl⟩ ?_
      refine lv_if_eq (tgt := 41) C.1 C.2.1 dX9_meets_36 (by decide) (fun c9 => ?_) (fun c9 => ?_)
      · rw [if_pos c9] at hf
        refine lv_aload_n C.1 C.2.1 dX9_meets_41 rfl (lv_at hl 0 rfl) ?_
        refine gtm_X9_cType C hP wF_X9_90 dX9_meets_42 ?_
        refine lv_iload_n C.1 C.2.1 dX9_meets_45 rfl (lv_at hl 1 rfl) ?_
        obtain ⟨v10, hv10, hf⟩ := Option.bind_eq_some_iff.mp hf
        refine ldm_30 C hP hv10 dX9_meets_46 ?_
        refine lv_istore_n (lv' := [(3, .int v10), (0, .ref (ad 0)), (1, .int x1), (2, .int x2)]) C.1 C.2.1 dX9_meets_47 rfl hl (by decide) rfl (fun ls hl => ?_)
        refine lv_aload_n C.1 C.2.1 dX9_meets_48 rfl (lv_at hl 1 rfl) ?_
        refine gtm_X9_cKeeps C hP wF_X9_108 dX9_meets_49 ?_
        refine lv_iload_n C.1 C.2.1 dX9_meets_52 rfl (lv_at hl 2 rfl) ?_
        obtain ⟨v11, hv11, hf⟩ := Option.bind_eq_some_iff.mp hf
        refine ldm_36 C hP hv11 dX9_meets_53 ?_
        refine lv_if_eq (tgt := 69) C.1 C.2.1 dX9_meets_54 (by decide) (fun c12 => ?_) (fun c12 => ?_)
        · rw [if_pos c12] at hf
          refine lv_aload_n C.1 C.2.1 dX9_meets_69 rfl (lv_at hl 1 rfl) ?_
          refine lv_iload_n C.1 C.2.1 dX9_meets_70 rfl (lv_at hl 0 rfl) ?_
          obtain ⟨v14, u13, hu13, hf⟩ := b2_some hf
          refine cWi (As := [.int v10]) (rest := []) (mc := 0) (ms := 0) C (mX9_readFails hu13) vX9_readFails wM_X9_304 ⟨Nat.le_of_ble_eq_true rfl, Nat.le_of_ble_eq_true rfl⟩ hP hD hS hA hZ (rcm_X9 C hP) hl.1 rfl rfl (Nat.le_of_ble_eq_true rfl) dX9_meets_71 ⟨Nat.le_of_ble_eq_true rfl, Nat.le_of_ble_eq_true rfl⟩ (fun H locs hP hD hS => ?_)
          refine lv_istore (lv' := [(4, .int v14), (3, .int v10), (0, .ref (ad 0)), (1, .int x1), (2, .int x2)]) C.1 C.2.1 dX9_meets_74 hl (by decide) rfl (fun ls hl => ?_)
          refine lv_iload C.1 C.2.1 dX9_meets_76 (lv_at hl 0 rfl) ?_
          refine lv_if_le (tgt := 84) C.1 C.2.1 dX9_meets_78 (by decide) (fun c15 => ?_) (fun c15 => ?_)
          · rw [if_pos c15] at hf
            refine lv_aload_n C.1 C.2.1 dX9_meets_84 rfl (lv_at hl 2 rfl) ?_
            refine gtm_X9_cSort C hP wF_X9_87 dX9_meets_85 ?_
            refine lv_iload_n C.1 C.2.1 dX9_meets_88 rfl (lv_at hl 3 rfl) ?_
            obtain ⟨v16, hv16, hf⟩ := Option.bind_eq_some_iff.mp hf
            refine ldm_29 C hP hv16 dX9_meets_89 ?_
            refine lv_iconst (v := 2) C.1 C.2.1 dX9_meets_90 (by decide) ?_
            refine lv_icmp_ne (tgt := 127) C.1 C.2.1 dX9_meets_91 (by decide) (fun c17 => ?_) (fun c17 => ?_)
            · rw [if_neg c17] at hf
              refine lv_aload_n C.1 C.2.1 dX9_meets_127 rfl (lv_at hl 2 rfl) ?_
              refine gtm_X9_cSort C hP wF_X9_87 dX9_meets_128 ?_
              refine lv_iload_n C.1 C.2.1 dX9_meets_131 rfl (lv_at hl 3 rfl) ?_
              obtain ⟨v18, hv18, hf⟩ := Option.bind_eq_some_iff.mp hf
              refine ldm_29 C hP hv18 dX9_meets_132 ?_
              refine lv_iconst (v := 1) C.1 C.2.1 dX9_meets_133 (by decide) ?_
              refine lv_icmp_ne (tgt := 141) C.1 C.2.1 dX9_meets_134 (by decide) (fun c19 => ?_) (fun c19 => ?_)
              · rw [if_neg c19] at hf
                refine lv_iconst (v := 0) C.1 C.2.1 dX9_meets_141 (by decide) ?_
                exact bX9_meets_L142 C hA hZ hP hD hS (lv_sub hl [2, 3, 4, 1] rfl) hf
              · rw [if_pos c19] at hf
                refine lv_iconst (v := 1) C.1 C.2.1 dX9_meets_137 (by decide) ?_
                refine lv_goto (tgt := 142) C.1 C.2.1 dX9_meets_138 (by decide) ?_
                exact bX9_meets_L142 C hA hZ hP hD hS (lv_sub hl [2, 3, 4, 1] rfl) hf
            · rw [if_pos c17] at hf
              refine lv_aload_n C.1 C.2.1 dX9_meets_94 rfl (lv_at hl 2 rfl) ?_
              refine lv_iload_n C.1 C.2.1 dX9_meets_95 rfl (lv_at hl 1 rfl) ?_
              refine lv_i2l C.1 C.2.1 dX9_meets_96 rfl ?_
              obtain ⟨u53, hu53, hf⟩ := Option.bind_eq_some_iff.mp hf
              refine ptm_X9_gave C hP hD hS wF_X9_300 dX9_meets_97 (fun H locs hP hD hS => ?_)
              rw [Option.some.inj hu53] at hP hD
              refine lv_aload_n C.1 C.2.1 dX9_meets_100 rfl (lv_at hl 2 rfl) ?_
              refine gtm_X9_tMarks C hP wF_X9_17 dX9_meets_101 ?_
              refine lv_iload_n C.1 C.2.1 dX9_meets_104 rfl (lv_at hl 1 rfl) ?_
              obtain ⟨v54, hv54, hf⟩ := Option.bind_eq_some_iff.mp hf
              refine ldm_3 C hP hv54 dX9_meets_105 ?_
              refine lv_iconst (v := 1) C.1 C.2.1 dX9_meets_106 (by decide) ?_
              refine lv_iand C.1 C.2.1 dX9_meets_107 ?_
              refine lv_if_eq (tgt := 125) C.1 C.2.1 dX9_meets_108 (by decide) (fun c55 => ?_) (fun c55 => ?_)
              · rw [if_pos c55] at hf
                refine lv_iconst (v := 0) C.1 C.2.1 dX9_meets_125 (by decide) ?_
                exact endWi C hP hD hS (Nat.le_refl _) (Nat.le_refl _) hf dX9_meets_126
              · rw [if_neg c55] at hf
                refine lv_aload_n C.1 C.2.1 dX9_meets_111 rfl (lv_at hl 2 rfl) ?_
                refine gtm_X9_isFace C hP wF_X9_7 dX9_meets_112 ?_
                refine lv_iload_n C.1 C.2.1 dX9_meets_115 rfl (lv_at hl 1 rfl) ?_
                obtain ⟨v56, hv56, hf⟩ := Option.bind_eq_some_iff.mp hf
                refine ldm_1 C hP hv56 dX9_meets_116 ?_
                refine lv_if_ne (tgt := 125) C.1 C.2.1 dX9_meets_117 (by decide) (fun c57 => ?_) (fun c57 => ?_)
                · rw [if_neg c57] at hf
                  refine lv_iconst (v := 0) C.1 C.2.1 dX9_meets_125 (by decide) ?_
                  exact endWi C hP hD hS (Nat.le_refl _) (Nat.le_refl _) hf dX9_meets_126
                · rw [if_pos c57] at hf
                  refine lv_bipush (v := 9) C.1 C.2.1 dX9_meets_120 (by decide) ?_
                  refine lv_goto (tgt := 126) C.1 C.2.1 dX9_meets_122 (by decide) ?_
                  exact endWi C hP hD hS (Nat.le_refl _) (Nat.le_refl _) hf dX9_meets_126
          · rw [if_neg c15] at hf
            refine lv_iload C.1 C.2.1 dX9_meets_81 (lv_at hl 0 rfl) ?_
            exact endWi C hP hD hS (Nat.le_refl _) (Nat.le_refl _) hf dX9_meets_83
        · rw [if_neg c12] at hf
          refine lv_aload_n C.1 C.2.1 dX9_meets_57 rfl (lv_at hl 1 rfl) ?_
          refine lv_aload_n C.1 C.2.1 dX9_meets_58 rfl (lv_at hl 1 rfl) ?_
          refine gtm_X9_cValue C hP wF_X9_111 dX9_meets_59 ?_
          refine lv_iload_n C.1 C.2.1 dX9_meets_62 rfl (lv_at hl 2 rfl) ?_
          obtain ⟨v58, hv58, hf⟩ := Option.bind_eq_some_iff.mp hf
          refine ldm_37 C hP hv58 dX9_meets_63 ?_
          obtain ⟨u59, hu59, hf⟩ := Option.bind_eq_some_iff.mp hf
          refine ptm_X9_gave C hP hD hS wF_X9_300 dX9_meets_64 (fun H locs hP hD hS => ?_)
          rw [Option.some.inj hu59] at hP hD
          refine lv_iconst (v := 0) C.1 C.2.1 dX9_meets_67 (by decide) ?_
          exact endWi C hP hD hS (Nat.le_refl _) (Nat.le_refl _) hf dX9_meets_68
      · rw [if_neg c9] at hf
        refine lv_iconst (v := 3) C.1 C.2.1 dX9_meets_39 (by decide) ?_
        exact endWi C hP hD hS (Nat.le_refl _) (Nat.le_refl _) hf dX9_meets_40
end
theorem vX9_meets : YV yX9_meets cX9_meets 8 (some .int) 2 := ⟨⟨wK_X9_meets, wZ_X9, by decide +kernel⟩, wI_X9_meets, wV_X9_meets⟩
def fX9_answer (u : ST) (x1 : Int32) (x2 : Int32) : Option (Int32 × ST) :=
  b2 (fX9_meets u x1 x2) fun v2 u1 =>
  if v2 ≤ 0 then
    (some (uL u1 44 (sL u1 43))).bind fun u4 =>
    some (0, u4)
  else
    some (((-30) - v2), u1)
section
variable {p : Program} {l : Launch} {e : Env} {s : State} {m : MethodId} {args : Array Value} {below : List Frame} {meth : Method} {c : Code} {H : Heap} {locs : List Loc} {g : GP} {ls : Array Slot} {A : Nat → Prop} {ad : Nat → Nat} {u : ST}
set_option maxRecDepth 100000 in
set_option maxHeartbeats 4000000 in
theorem mX9_answer {r0 : Int32} {u0 : ST} {x1 : Int32} {x2 : Int32} (hf : fX9_answer u x1 x2 = some (r0, u0)) : MWi l yX9_answer cX9_answer 4 (some .int) 5 133 0 0 [.ref (ad 0), .int x1, .int x2] g (mW g ad) u r0 u0 := by
  refine entW (Qc := fun A => va_Qi (fun r v => r = r0 ∧ v = u0) (BW g A (mW g ad)) A) (by decide) (Nat.le_of_ble_eq_true rfl) ?_
  intro p e s m below meth c ls A C hP hD hS hA hZ hl
  have hl : lv_has ls 4 [(0, .ref (ad 0)), (1, .int x1), (2, .int x2)] := hl
  rw [fX9_answer] at hf
  refine lv_aload_n C.1 C.2.1 dX9_answer_0 rfl (lv_at hl 0 rfl) ?_
  refine lv_iload_n C.1 C.2.1 dX9_answer_1 rfl (lv_at hl 1 rfl) ?_
  refine lv_iload_n C.1 C.2.1 dX9_answer_2 rfl (lv_at hl 2 rfl) ?_
  obtain ⟨v2, u1, hu1, hf⟩ := b2_some hf
  refine cWi (As := [.int x1, .int x2]) (rest := []) (mc := 0) (ms := 0) C (mX9_meets hu1) vX9_meets wM_X9_317 ⟨Nat.le_of_ble_eq_true rfl, Nat.le_of_ble_eq_true rfl⟩ hP hD hS hA hZ (rcm_X9 C hP) hl.1 rfl rfl (Nat.le_of_ble_eq_true rfl) dX9_answer_3 ⟨Nat.le_of_ble_eq_true rfl, Nat.le_of_ble_eq_true rfl⟩ (fun H locs hP hD hS => ?_)
  refine lv_istore_n (lv' := [(3, .int v2), (0, .ref (ad 0)), (1, .int x1), (2, .int x2)]) C.1 C.2.1 dX9_answer_6 rfl hl (by decide) rfl (fun ls hl => ?_)
  refine lv_iload_n C.1 C.2.1 dX9_answer_7 rfl (lv_at hl 0 rfl) ?_
  refine lv_if_le (tgt := 16) C.1 C.2.1 dX9_answer_8 (by decide) (fun c3 => ?_) (fun c3 => ?_)
  · rw [if_pos c3] at hf
    refine lv_aload_n C.1 C.2.1 dX9_answer_16 rfl (lv_at hl 1 rfl) ?_
    refine lv_aload_n C.1 C.2.1 dX9_answer_17 rfl (lv_at hl 1 rfl) ?_
    refine gtm_X9_gave C hP wF_X9_300 dX9_answer_18 ?_
    obtain ⟨u4, hu4, hf⟩ := Option.bind_eq_some_iff.mp hf
    refine ptm_X9_latest C hP hD hS wF_X9_320 dX9_answer_21 (fun H locs hP hD hS => ?_)
    rw [Option.some.inj hu4] at hP hD
    refine lv_iconst (v := 0) C.1 C.2.1 dX9_answer_24 (by decide) ?_
    exact endWi C hP hD hS (Nat.le_refl _) (Nat.le_refl _) hf dX9_answer_25
  · rw [if_neg c3] at hf
    refine lv_bipush (v := -30) C.1 C.2.1 dX9_answer_11 (by decide) ?_
    refine lv_iload_n C.1 C.2.1 dX9_answer_13 rfl (lv_at hl 0 rfl) ?_
    refine lv_isub C.1 C.2.1 dX9_answer_14 ?_
    exact endWi C hP hD hS (Nat.le_refl _) (Nat.le_refl _) hf dX9_answer_15
end
theorem vX9_answer : YV yX9_answer cX9_answer 4 (some .int) 2 := ⟨⟨wK_X9_answer, wZ_X9, by decide +kernel⟩, wI_X9_answer, wV_X9_answer⟩
def fX9_meet (u : ST) (x1 : Int32) (x2 : Int32) : Option (Int32 × ST) :=
  (fX9_isCaller u x1).bind fun v1 =>
  if v1 = 0 then
    some ((-1), u)
  else
    (fX9_isClass u x2).bind fun v3 =>
    if v3 = 0 then
      some ((-1), u)
    else
      b2 (fX9_answer u x1 x2) fun v6 u5 =>
      some (v6, u5)
section
variable {p : Program} {l : Launch} {e : Env} {s : State} {m : MethodId} {args : Array Value} {below : List Frame} {meth : Method} {c : Code} {H : Heap} {locs : List Loc} {g : GP} {ls : Array Slot} {A : Nat → Prop} {ad : Nat → Nat} {u : ST}
set_option maxRecDepth 100000 in
set_option maxHeartbeats 4000000 in
theorem mX9_meet {r0 : Int32} {u0 : ST} {x1 : Int32} {x2 : Int32} (hf : fX9_meet u x1 x2 = some (r0, u0)) : MWi l yX9_meet cX9_meet 3 (some .int) 6 156 0 0 [.ref (ad 0), .int x1, .int x2] g (mW g ad) u r0 u0 := by
  refine entW (Qc := fun A => va_Qi (fun r v => r = r0 ∧ v = u0) (BW g A (mW g ad)) A) (by decide) (Nat.le_of_ble_eq_true rfl) ?_
  intro p e s m below meth c ls A C hP hD hS hA hZ hl
  have hl : lv_has ls 3 [(0, .ref (ad 0)), (1, .int x1), (2, .int x2)] := hl
  rw [fX9_meet] at hf
  refine lv_aload_n C.1 C.2.1 dX9_meet_0 rfl (lv_at hl 0 rfl) ?_
  refine lv_iload_n C.1 C.2.1 dX9_meet_1 rfl (lv_at hl 1 rfl) ?_
  obtain ⟨v1, hv1, hf⟩ := Option.bind_eq_some_iff.mp hf
  refine cRi (As := [.int x1]) (rest := []) C (mX9_isCaller hv1) vX9_isCaller wM_X9_323 ⟨Nat.le_of_ble_eq_true rfl, Nat.le_of_ble_eq_true rfl⟩ hP (rcm_X9 C hP) (fun U hU hW => SF.go hZ hS hU hW (fun _ h => h.elim)) hl.1 rfl rfl (Nat.le_of_ble_eq_true rfl) dX9_meet_2 ⟨Nat.le_of_ble_eq_true rfl, Nat.le_of_ble_eq_true rfl⟩ ?_
  refine lv_if_eq (tgt := 25) C.1 C.2.1 dX9_meet_5 (by decide) (fun c2 => ?_) (fun c2 => ?_)
  · rw [if_pos c2] at hf
    refine lv_iconst (v := -1) C.1 C.2.1 dX9_meet_25 (by decide) ?_
    exact endWi C hP hD hS (Nat.le_refl _) (Nat.le_refl _) hf dX9_meet_26
  · rw [if_neg c2] at hf
    refine lv_aload_n C.1 C.2.1 dX9_meet_8 rfl (lv_at hl 0 rfl) ?_
    refine lv_iload_n C.1 C.2.1 dX9_meet_9 rfl (lv_at hl 2 rfl) ?_
    obtain ⟨v3, hv3, hf⟩ := Option.bind_eq_some_iff.mp hf
    refine cRi (As := [.int x2]) (rest := []) C (mX9_isClass hv3) vX9_isClass wM_X9_177 ⟨Nat.le_of_ble_eq_true rfl, Nat.le_of_ble_eq_true rfl⟩ hP (rcm_X9 C hP) (fun U hU hW => SF.go hZ hS hU hW (fun _ h => h.elim)) hl.1 rfl rfl (Nat.le_of_ble_eq_true rfl) dX9_meet_10 ⟨Nat.le_of_ble_eq_true rfl, Nat.le_of_ble_eq_true rfl⟩ ?_
    refine lv_if_eq (tgt := 25) C.1 C.2.1 dX9_meet_13 (by decide) (fun c4 => ?_) (fun c4 => ?_)
    · rw [if_pos c4] at hf
      refine lv_iconst (v := -1) C.1 C.2.1 dX9_meet_25 (by decide) ?_
      exact endWi C hP hD hS (Nat.le_refl _) (Nat.le_refl _) hf dX9_meet_26
    · rw [if_neg c4] at hf
      refine lv_aload_n C.1 C.2.1 dX9_meet_16 rfl (lv_at hl 0 rfl) ?_
      refine lv_iload_n C.1 C.2.1 dX9_meet_17 rfl (lv_at hl 1 rfl) ?_
      refine lv_iload_n C.1 C.2.1 dX9_meet_18 rfl (lv_at hl 2 rfl) ?_
      obtain ⟨v6, u5, hu5, hf⟩ := b2_some hf
      refine cWi (As := [.int x1, .int x2]) (rest := []) (mc := 0) (ms := 0) C (mX9_answer hu5) vX9_answer wM_X9_326 ⟨Nat.le_of_ble_eq_true rfl, Nat.le_of_ble_eq_true rfl⟩ hP hD hS hA hZ (rcm_X9 C hP) hl.1 rfl rfl (Nat.le_of_ble_eq_true rfl) dX9_meet_19 ⟨Nat.le_of_ble_eq_true rfl, Nat.le_of_ble_eq_true rfl⟩ (fun H locs hP hD hS => ?_)
      refine lv_goto (tgt := 26) C.1 C.2.1 dX9_meet_22 (by decide) ?_
      exact endWi C hP hD hS (Nat.le_refl _) (Nat.le_refl _) hf dX9_meet_26
end
theorem vX9_meet : YV yX9_meet cX9_meet 3 (some .int) 2 := ⟨⟨wK_X9_meet, wZ_X9, by decide +kernel⟩, wI_X9_meet, wV_X9_meet⟩
def fX9_asked (u : ST) : Option Int64 :=
  some (sL u 44)
section
variable {p : Program} {l : Launch} {e : Env} {s : State} {m : MethodId} {args : Array Value} {below : List Frame} {meth : Method} {c : Code} {H : Heap} {locs : List Loc} {g : GP} {ls : Array Slot} {A : Nat → Prop} {ad : Nat → Nat} {u : ST}
set_option maxRecDepth 100000 in
set_option maxHeartbeats 4000000 in
theorem mX9_asked {r0 : Int64} (hf : fX9_asked u = some r0) : MRl l yX9_asked cX9_asked 1 (some .long) 0 0 [.ref (ad 0)] g (mW g ad u) r0 := by
  refine entR (by decide) (Nat.le_of_ble_eq_true rfl) ?_
  intro p e s m below meth c ls C hP hZ hl
  have hl : lv_has ls 1 [(0, .ref (ad 0))] := hl
  rw [fX9_asked] at hf
  refine lv_aload_n C.1 C.2.1 dX9_asked_0 rfl (lv_at hl 0 rfl) ?_
  refine gtm_X9_latest C hP wF_X9_320 dX9_asked_1 ?_
  exact endRl C hf dX9_asked_4
end
theorem vX9_asked : YV yX9_asked cX9_asked 1 (some .long) 0 := ⟨⟨wK_X9_asked, wZ_X9, by decide +kernel⟩, wI_X9_asked, wV_X9_asked⟩
def fX9_anew (u : ST) (x1 : Int32) (x2 : Int32) : Option (Int32 × ST) :=
  (fX9_isCaller u x1).bind fun v1 =>
  if v1 = 0 then
    some ((-1), u)
  else
    (fX9_isClass u x2).bind fun v3 =>
    if v3 = 0 then
      some ((-1), u)
    else
      (rdI u 30 25 x1).bind fun v5 =>
      (fX9_isGone u v5).bind fun v6 =>
      if v6 = 0 then
        (rdI u 32 25 x1).bind fun v8 =>
        (fX9_isGone u v8).bind fun v9 =>
        if v9 = 0 then
          (rdI u 33 25 x1).bind fun v11 =>
          (fX9_isGone u v11).bind fun v12 =>
          if v12 = 0 then
            (rdI u 29 25 x1).bind fun v14 =>
            (rdI u 30 25 x1).bind fun v15 =>
            (rdI u 31 25 x1).bind fun v16 =>
            (rdI u 32 25 x1).bind fun v17 =>
            (rdI u 33 25 x1).bind fun v18 =>
            b2 (fX9_making u 24 v14 v15 v16 v17 v18) fun v20 u19 =>
            if v20 ≤ 0 then
              b2 (fX9_answer u19 24 x2) fun v23 u22 =>
              some (v23, u22)
            else
              some (((-10) - v20), u19)
          else
            some ((-2), u)
        else
          some ((-2), u)
      else
        some ((-2), u)
section
variable {p : Program} {l : Launch} {e : Env} {s : State} {m : MethodId} {args : Array Value} {below : List Frame} {meth : Method} {c : Code} {H : Heap} {locs : List Loc} {g : GP} {ls : Array Slot} {A : Nat → Prop} {ad : Nat → Nat} {u : ST}
set_option maxRecDepth 100000 in
set_option maxHeartbeats 4000000 in
theorem mX9_anew {r0 : Int32} {u0 : ST} {x1 : Int32} {x2 : Int32} (hf : fX9_anew u x1 x2 = some (r0, u0)) : MWi l yX9_anew cX9_anew 4 (some .int) 6 156 0 0 [.ref (ad 0), .int x1, .int x2] g (mW g ad) u r0 u0 := by
  refine entW (Qc := fun A => va_Qi (fun r v => r = r0 ∧ v = u0) (BW g A (mW g ad)) A) (by decide) (Nat.le_of_ble_eq_true rfl) ?_
  intro p e s m below meth c ls A C hP hD hS hA hZ hl
  have hl : lv_has ls 4 [(0, .ref (ad 0)), (1, .int x1), (2, .int x2)] := hl
  rw [fX9_anew] at hf
  refine lv_aload_n C.1 C.2.1 dX9_anew_0 rfl (lv_at hl 0 rfl) ?_
  refine lv_iload_n C.1 C.2.1 dX9_anew_1 rfl (lv_at hl 1 rfl) ?_
  obtain ⟨v1, hv1, hf⟩ := Option.bind_eq_some_iff.mp hf
  refine cRi (As := [.int x1]) (rest := []) C (mX9_isCaller hv1) vX9_isCaller wM_X9_323 ⟨Nat.le_of_ble_eq_true rfl, Nat.le_of_ble_eq_true rfl⟩ hP (rcm_X9 C hP) (fun U hU hW => SF.go hZ hS hU hW (fun _ h => h.elim)) hl.1 rfl rfl (Nat.le_of_ble_eq_true rfl) dX9_anew_2 ⟨Nat.le_of_ble_eq_true rfl, Nat.le_of_ble_eq_true rfl⟩ ?_
  refine lv_if_eq (tgt := 16) C.1 C.2.1 dX9_anew_5 (by decide) (fun c2 => ?_) (fun c2 => ?_)
  · rw [if_pos c2] at hf
    refine lv_iconst (v := -1) C.1 C.2.1 dX9_anew_16 (by decide) ?_
    exact endWi C hP hD hS (Nat.le_refl _) (Nat.le_refl _) hf dX9_anew_17
  · rw [if_neg c2] at hf
    refine lv_aload_n C.1 C.2.1 dX9_anew_8 rfl (lv_at hl 0 rfl) ?_
    refine lv_iload_n C.1 C.2.1 dX9_anew_9 rfl (lv_at hl 2 rfl) ?_
    obtain ⟨v3, hv3, hf⟩ := Option.bind_eq_some_iff.mp hf
    refine cRi (As := [.int x2]) (rest := []) C (mX9_isClass hv3) vX9_isClass wM_X9_177 ⟨Nat.le_of_ble_eq_true rfl, Nat.le_of_ble_eq_true rfl⟩ hP (rcm_X9 C hP) (fun U hU hW => SF.go hZ hS hU hW (fun _ h => h.elim)) hl.1 rfl rfl (Nat.le_of_ble_eq_true rfl) dX9_anew_10 ⟨Nat.le_of_ble_eq_true rfl, Nat.le_of_ble_eq_true rfl⟩ ?_
    refine lv_if_ne (tgt := 18) C.1 C.2.1 dX9_anew_13 (by decide) (fun c4 => ?_) (fun c4 => ?_)
    · rw [if_neg c4] at hf
      refine lv_aload_n C.1 C.2.1 dX9_anew_18 rfl (lv_at hl 0 rfl) ?_
      refine lv_aload_n C.1 C.2.1 dX9_anew_19 rfl (lv_at hl 0 rfl) ?_
      refine gtm_X9_cType C hP wF_X9_90 dX9_anew_20 ?_
      refine lv_iload_n C.1 C.2.1 dX9_anew_23 rfl (lv_at hl 1 rfl) ?_
      obtain ⟨v5, hv5, hf⟩ := Option.bind_eq_some_iff.mp hf
      refine ldm_30 C hP hv5 dX9_anew_24 ?_
      obtain ⟨v6, hv6, hf⟩ := Option.bind_eq_some_iff.mp hf
      refine cRi (As := [.int v5]) (rest := []) C (mX9_isGone hv6) vX9_isGone wM_X9_297 ⟨Nat.le_of_ble_eq_true rfl, Nat.le_of_ble_eq_true rfl⟩ hP (rcm_X9 C hP) (fun U hU hW => SF.go hZ hS hU hW (fun _ h => h.elim)) hl.1 rfl rfl (Nat.le_of_ble_eq_true rfl) dX9_anew_25 ⟨Nat.le_of_ble_eq_true rfl, Nat.le_of_ble_eq_true rfl⟩ ?_
      refine lv_if_ne (tgt := 57) C.1 C.2.1 dX9_anew_28 (by decide) (fun c7 => ?_) (fun c7 => ?_)
      · rw [if_neg c7] at hf
        refine lv_bipush (v := -2) C.1 C.2.1 dX9_anew_57 (by decide) ?_
        exact endWi C hP hD hS (Nat.le_refl _) (Nat.le_refl _) hf dX9_anew_59
      · rw [if_pos c7] at hf
        refine lv_aload_n C.1 C.2.1 dX9_anew_31 rfl (lv_at hl 0 rfl) ?_
        refine lv_aload_n C.1 C.2.1 dX9_anew_32 rfl (lv_at hl 0 rfl) ?_
        refine gtm_X9_cArgument C hP wF_X9_96 dX9_anew_33 ?_
        refine lv_iload_n C.1 C.2.1 dX9_anew_36 rfl (lv_at hl 1 rfl) ?_
        obtain ⟨v8, hv8, hf⟩ := Option.bind_eq_some_iff.mp hf
        refine ldm_32 C hP hv8 dX9_anew_37 ?_
        obtain ⟨v9, hv9, hf⟩ := Option.bind_eq_some_iff.mp hf
        refine cRi (As := [.int v8]) (rest := []) C (mX9_isGone hv9) vX9_isGone wM_X9_297 ⟨Nat.le_of_ble_eq_true rfl, Nat.le_of_ble_eq_true rfl⟩ hP (rcm_X9 C hP) (fun U hU hW => SF.go hZ hS hU hW (fun _ h => h.elim)) hl.1 rfl rfl (Nat.le_of_ble_eq_true rfl) dX9_anew_38 ⟨Nat.le_of_ble_eq_true rfl, Nat.le_of_ble_eq_true rfl⟩ ?_
        refine lv_if_ne (tgt := 57) C.1 C.2.1 dX9_anew_41 (by decide) (fun c10 => ?_) (fun c10 => ?_)
        · rw [if_neg c10] at hf
          refine lv_bipush (v := -2) C.1 C.2.1 dX9_anew_57 (by decide) ?_
          exact endWi C hP hD hS (Nat.le_refl _) (Nat.le_refl _) hf dX9_anew_59
        · rw [if_pos c10] at hf
          refine lv_aload_n C.1 C.2.1 dX9_anew_44 rfl (lv_at hl 0 rfl) ?_
          refine lv_aload_n C.1 C.2.1 dX9_anew_45 rfl (lv_at hl 0 rfl) ?_
          refine gtm_X9_cOther C hP wF_X9_99 dX9_anew_46 ?_
          refine lv_iload_n C.1 C.2.1 dX9_anew_49 rfl (lv_at hl 1 rfl) ?_
          obtain ⟨v11, hv11, hf⟩ := Option.bind_eq_some_iff.mp hf
          refine ldm_33 C hP hv11 dX9_anew_50 ?_
          obtain ⟨v12, hv12, hf⟩ := Option.bind_eq_some_iff.mp hf
          refine cRi (As := [.int v11]) (rest := []) C (mX9_isGone hv12) vX9_isGone wM_X9_297 ⟨Nat.le_of_ble_eq_true rfl, Nat.le_of_ble_eq_true rfl⟩ hP (rcm_X9 C hP) (fun U hU hW => SF.go hZ hS hU hW (fun _ h => h.elim)) hl.1 rfl rfl (Nat.le_of_ble_eq_true rfl) dX9_anew_51 ⟨Nat.le_of_ble_eq_true rfl, Nat.le_of_ble_eq_true rfl⟩ ?_
          refine lv_if_eq (tgt := 60) C.1 C.2.1 dX9_anew_54 (by decide) (fun c13 => ?_) (fun c13 => ?_)
          · rw [if_pos c13] at hf
            refine lv_aload_n C.1 C.2.1 dX9_anew_60 rfl (lv_at hl 0 rfl) ?_
            refine lv_bipush (v := 24) C.1 C.2.1 dX9_anew_61 (by decide) ?_
            refine lv_aload_n C.1 C.2.1 dX9_anew_63 rfl (lv_at hl 0 rfl) ?_
            refine gtm_X9_cSort C hP wF_X9_87 dX9_anew_64 ?_
            refine lv_iload_n C.1 C.2.1 dX9_anew_67 rfl (lv_at hl 1 rfl) ?_
            obtain ⟨v14, hv14, hf⟩ := Option.bind_eq_some_iff.mp hf
            refine ldm_29 C hP hv14 dX9_anew_68 ?_
            refine lv_aload_n C.1 C.2.1 dX9_anew_69 rfl (lv_at hl 0 rfl) ?_
            refine gtm_X9_cType C hP wF_X9_90 dX9_anew_70 ?_
            refine lv_iload_n C.1 C.2.1 dX9_anew_73 rfl (lv_at hl 1 rfl) ?_
            obtain ⟨v15, hv15, hf⟩ := Option.bind_eq_some_iff.mp hf
            refine ldm_30 C hP hv15 dX9_anew_74 ?_
            refine lv_aload_n C.1 C.2.1 dX9_anew_75 rfl (lv_at hl 0 rfl) ?_
            refine gtm_X9_cName C hP wF_X9_93 dX9_anew_76 ?_
            refine lv_iload_n C.1 C.2.1 dX9_anew_79 rfl (lv_at hl 1 rfl) ?_
            obtain ⟨v16, hv16, hf⟩ := Option.bind_eq_some_iff.mp hf
            refine ldm_31 C hP hv16 dX9_anew_80 ?_
            refine lv_aload_n C.1 C.2.1 dX9_anew_81 rfl (lv_at hl 0 rfl) ?_
            refine gtm_X9_cArgument C hP wF_X9_96 dX9_anew_82 ?_
            refine lv_iload_n C.1 C.2.1 dX9_anew_85 rfl (lv_at hl 1 rfl) ?_
            obtain ⟨v17, hv17, hf⟩ := Option.bind_eq_some_iff.mp hf
            refine ldm_32 C hP hv17 dX9_anew_86 ?_
            refine lv_aload_n C.1 C.2.1 dX9_anew_87 rfl (lv_at hl 0 rfl) ?_
            refine gtm_X9_cOther C hP wF_X9_99 dX9_anew_88 ?_
            refine lv_iload_n C.1 C.2.1 dX9_anew_91 rfl (lv_at hl 1 rfl) ?_
            obtain ⟨v18, hv18, hf⟩ := Option.bind_eq_some_iff.mp hf
            refine ldm_33 C hP hv18 dX9_anew_92 ?_
            obtain ⟨v20, u19, hu19, hf⟩ := b2_some hf
            refine cWi (As := [.int 24, .int v14, .int v15, .int v16, .int v17, .int v18]) (rest := []) (mc := 0) (ms := 0) C (mX9_making hu19) vX9_making wM_X9_287 ⟨Nat.le_of_ble_eq_true rfl, Nat.le_of_ble_eq_true rfl⟩ hP hD hS hA hZ (rcm_X9 C hP) hl.1 rfl rfl (Nat.le_of_ble_eq_true rfl) dX9_anew_93 ⟨Nat.le_of_ble_eq_true rfl, Nat.le_of_ble_eq_true rfl⟩ (fun H locs hP hD hS => ?_)
            refine lv_istore_n (lv' := [(3, .int v20), (0, .ref (ad 0)), (1, .int x1), (2, .int x2)]) C.1 C.2.1 dX9_anew_96 rfl hl (by decide) rfl (fun ls hl => ?_)
            refine lv_iload_n C.1 C.2.1 dX9_anew_97 rfl (lv_at hl 0 rfl) ?_
            refine lv_if_le (tgt := 108) C.1 C.2.1 dX9_anew_98 (by decide) (fun c21 => ?_) (fun c21 => ?_)
            · rw [if_pos c21] at hf
              refine lv_aload_n C.1 C.2.1 dX9_anew_108 rfl (lv_at hl 1 rfl) ?_
              refine lv_bipush (v := 24) C.1 C.2.1 dX9_anew_109 (by decide) ?_
              refine lv_iload_n C.1 C.2.1 dX9_anew_111 rfl (lv_at hl 3 rfl) ?_
              obtain ⟨v23, u22, hu22, hf⟩ := b2_some hf
              refine cWi (As := [.int 24, .int x2]) (rest := []) (mc := 0) (ms := 0) C (mX9_answer hu22) vX9_answer wM_X9_326 ⟨Nat.le_of_ble_eq_true rfl, Nat.le_of_ble_eq_true rfl⟩ hP hD hS hA hZ (rcm_X9 C hP) hl.1 rfl rfl (Nat.le_of_ble_eq_true rfl) dX9_anew_112 ⟨Nat.le_of_ble_eq_true rfl, Nat.le_of_ble_eq_true rfl⟩ (fun H locs hP hD hS => ?_)
              exact endWi C hP hD hS (Nat.le_refl _) (Nat.le_refl _) hf dX9_anew_115
            · rw [if_neg c21] at hf
              refine lv_bipush (v := -10) C.1 C.2.1 dX9_anew_101 (by decide) ?_
              refine lv_iload_n C.1 C.2.1 dX9_anew_103 rfl (lv_at hl 0 rfl) ?_
              refine lv_isub C.1 C.2.1 dX9_anew_104 ?_
              refine lv_goto (tgt := 115) C.1 C.2.1 dX9_anew_105 (by decide) ?_
              exact endWi C hP hD hS (Nat.le_refl _) (Nat.le_refl _) hf dX9_anew_115
          · rw [if_neg c13] at hf
            refine lv_bipush (v := -2) C.1 C.2.1 dX9_anew_57 (by decide) ?_
            exact endWi C hP hD hS (Nat.le_refl _) (Nat.le_refl _) hf dX9_anew_59
    · rw [if_pos c4] at hf
      refine lv_iconst (v := -1) C.1 C.2.1 dX9_anew_16 (by decide) ?_
      exact endWi C hP hD hS (Nat.le_refl _) (Nat.le_refl _) hf dX9_anew_17
end
theorem vX9_anew : YV yX9_anew cX9_anew 4 (some .int) 2 := ⟨⟨wK_X9_anew, wZ_X9, by decide +kernel⟩, wI_X9_anew, wV_X9_anew⟩
def fX9_culprit_L165 (K89 : ST → Int32 → Int32 → Int32 → Int64 → Int32 → Int32 → Option (Int32 × ST)) (u : ST) (x1 : Int32) (x2 : Int32) (x4 : Int32) (x5 : Int64) (x7 : Int32) (x8 : Int32) : Option (Int32 × ST) :=
  K89 u x1 x2 x4 x5 x7 (x8 + 1)
def fX9_culprit_L163 (K89 : ST → Int32 → Int32 → Int32 → Int64 → Int32 → Int32 → Option (Int32 × ST)) (u : ST) (x1 : Int32) (x2 : Int32) (x4 : Int32) (x5 : Int64) (x8 : Int32) (y0 : Int32) : Option (Int32 × ST) :=
  fX9_culprit_L165 K89 u x1 x2 x4 x5 y0 x8
def fX9_culprit_L155 (K89 : ST → Int32 → Int32 → Int32 → Int64 → Int32 → Int32 → Option (Int32 × ST)) (u : ST) (x1 : Int32) (x2 : Int32) (x4 : Int32) (x5 : Int64) (x8 : Int32) : Option (Int32 × ST) :=
  fX9_culprit_L163 K89 u x1 x2 x4 x5 x8 (x8 + 1)
def fX9_culprit_L162 (K89 : ST → Int32 → Int32 → Int32 → Int64 → Int32 → Int32 → Option (Int32 × ST)) (u : ST) (x1 : Int32) (x2 : Int32) (x4 : Int32) (x5 : Int64) (x8 : Int32) : Option (Int32 × ST) :=
  fX9_culprit_L163 K89 u x1 x2 x4 x5 x8 0
def fX9_culprit_L131 (K89 : ST → Int32 → Int32 → Int32 → Int64 → Int32 → Int32 → Option (Int32 × ST)) (u : ST) (x1 : Int32) (x2 : Int32) (x4 : Int32) (x5 : Int64) (x8 : Int32) (y0 : Int32) : Option (Int32 × ST) :=
  if y0 = x4 then
    if y0 = 0 then
      if (lg_cmp (sL u 43) x5) = 0 then
        fX9_culprit_L162 K89 u x1 x2 x4 x5 x8
      else
        fX9_culprit_L155 K89 u x1 x2 x4 x5 x8
    else
      fX9_culprit_L162 K89 u x1 x2 x4 x5 x8
  else
    fX9_culprit_L155 K89 u x1 x2 x4 x5 x8
def fX9_culprit_L89 : Nat → ST → Int32 → Int32 → Int32 → Int64 → Int32 → Int32 → Option (Int32 × ST)
  | 0, _, _, _, _, _, _, _ => none
  | n + 1, u, x1, x2, x4, x5, x7, x8 =>
    if (sI u 16) ≤ x8 then
      some (x7, u)
    else
      (fX9_doAgain u x8 (x8 + 1)).bind fun u14 =>
      if x7 = 0 then
        (fX9_isClass u14 x2).bind fun v16 =>
        if v16 = 0 then
          fX9_culprit_L131 (fX9_culprit_L89 n) u14 x1 x2 x4 x5 x8 (-1)
        else
          b2 (fX9_meets u14 x1 x2) fun v22 u21 =>
          fX9_culprit_L131 (fX9_culprit_L89 n) u21 x1 x2 x4 x5 x8 v22
      else
        fX9_culprit_L165 (fX9_culprit_L89 n) u14 x1 x2 x4 x5 x7 x8
def fX9_culprit (u : ST) (x1 : Int32) (x2 : Int32) : Option (Int32 × ST) :=
  (fX9_isCaller u x1).bind fun v1 =>
  if v1 = 0 then
    some ((-1), u)
  else
    (fX9_isClass u x2).bind fun v3 =>
    if v3 = 0 then
      some ((-1), u)
    else
      (rdI u 41 25 x1).bind fun v5 =>
      if v5 ≤ (sI u 16) then
        (fX9_nothing u).bind fun u7 =>
        (fX9_doAgain u7 0 v5).bind fun u8 =>
        (fX9_isClass u8 x2).bind fun v9 =>
        if v9 = 0 then
          (fX9_nothing u8).bind fun u23 =>
          (fX9_doAgain u23 0 (sI u23 16)).bind fun u24 =>
          some ((-1), u24)
        else
          b2 (fX9_meets u8 x1 x2) fun v12 u11 =>
          fX9_culprit_L89 5000 u11 x1 x2 v12 (sL u11 43) 0 v5
      else
        some ((-2), u)
section
variable {p : Program} {l : Launch} {e : Env} {s : State} {m : MethodId} {args : Array Value} {below : List Frame} {meth : Method} {c : Code} {H : Heap} {locs : List Loc} {g : GP} {ls : Array Slot} {A : Nat → Prop} {ad : Nat → Nat} {u : ST}
set_option maxRecDepth 100000 in
set_option maxHeartbeats 4000000 in
theorem bX9_culprit_L165 {r0 : Int32} {u0 : ST} {K89 : ST → Int32 → Int32 → Int32 → Int64 → Int32 → Int32 → Option (Int32 × ST)} {x1 : Int32} {x2 : Int32} {x4 : Int32} {x5 : Int64} {x7 : Int32} {x8 : Int32} (C : Cx p s m args meth c cX9_culprit 10 RX9 (some .int) g) (hA : ∀ q, s.heap.size ≤ q → A q) (hZ : SF A s) (hK89 : ∀ (u : ST) (x1 : Int32) (x2 : Int32) (x4 : Int32) (x5 : Int64) (x7 : Int32) (x8 : Int32) (H : Heap) (locs : List Loc), va_P g.1 vwCl (mW g ad u) H → va_D A (mW g ad u) → va_S A s.heap H locs → ∀ (ls : Array Slot), lv_has ls 10 [(0, .ref (ad 0)), (1, .int x1), (2, .int x2), (4, .int x4), (5, .long x5), (7, .int x7), (8, .int x8)] → K89 u x1 x2 x4 x5 x7 x8 = some (r0, u0) → W p l e (rmW 6 146 0 0) s m args below meth c H locs 0 0 (MQ below (va_Qi (fun r v => r = r0 ∧ v = u0) (BW g A (mW g ad)) A) args s 0 0 A) (F0 m 89 ls [])) (hP : va_P g.1 vwCl (mW g ad u) H) (hD : va_D A (mW g ad u)) (hS : va_S A s.heap H locs) (hl : lv_has ls 10 [(0, .ref (ad 0)), (1, .int x1), (2, .int x2), (4, .int x4), (5, .long x5), (7, .int x7), (8, .int x8)]) (hf : fX9_culprit_L165 K89 u x1 x2 x4 x5 x7 x8 = some (r0, u0)) : W p l e (rmW 6 146 0 0) s m args below meth c H locs 0 0 (MQ below (va_Qi (fun r v => r = r0 ∧ v = u0) (BW g A (mW g ad)) A) args s 0 0 A) (F0 m 165 ls []) := by
  rw [fX9_culprit_L165] at hf
  refine lv_iinc (v := (x8 + 1)) (lv' := [(8, .int (x8 + 1)), (0, .ref (ad 0)), (1, .int x1), (2, .int x2), (4, .int x4), (5, .long x5), (7, .int x7)]) C.1 C.2.1 dX9_culprit_165 hl (k := 6) rfl rfl (by decide) rfl (fun ls hl => ?_)
  refine lv_goto (tgt := 89) C.1 C.2.1 dX9_culprit_168 (by decide) ?_
  exact hK89 u x1 x2 x4 x5 x7 (x8 + 1) _ _ hP hD hS _ (lv_sub hl [1, 2, 3, 4, 5, 6, 0] rfl) hf
set_option maxRecDepth 100000 in
set_option maxHeartbeats 4000000 in
theorem bX9_culprit_L163 {r0 : Int32} {u0 : ST} {K89 : ST → Int32 → Int32 → Int32 → Int64 → Int32 → Int32 → Option (Int32 × ST)} {x1 : Int32} {x2 : Int32} {x4 : Int32} {x5 : Int64} {x8 : Int32} {y0 : Int32} (C : Cx p s m args meth c cX9_culprit 10 RX9 (some .int) g) (hA : ∀ q, s.heap.size ≤ q → A q) (hZ : SF A s) (hK89 : ∀ (u : ST) (x1 : Int32) (x2 : Int32) (x4 : Int32) (x5 : Int64) (x7 : Int32) (x8 : Int32) (H : Heap) (locs : List Loc), va_P g.1 vwCl (mW g ad u) H → va_D A (mW g ad u) → va_S A s.heap H locs → ∀ (ls : Array Slot), lv_has ls 10 [(0, .ref (ad 0)), (1, .int x1), (2, .int x2), (4, .int x4), (5, .long x5), (7, .int x7), (8, .int x8)] → K89 u x1 x2 x4 x5 x7 x8 = some (r0, u0) → W p l e (rmW 6 146 0 0) s m args below meth c H locs 0 0 (MQ below (va_Qi (fun r v => r = r0 ∧ v = u0) (BW g A (mW g ad)) A) args s 0 0 A) (F0 m 89 ls [])) (hP : va_P g.1 vwCl (mW g ad u) H) (hD : va_D A (mW g ad u)) (hS : va_S A s.heap H locs) (hl : lv_has ls 10 [(0, .ref (ad 0)), (1, .int x1), (2, .int x2), (4, .int x4), (5, .long x5), (8, .int x8)]) (hf : fX9_culprit_L163 K89 u x1 x2 x4 x5 x8 y0 = some (r0, u0)) : W p l e (rmW 6 146 0 0) s m args below meth c H locs 0 0 (MQ below (va_Qi (fun r v => r = r0 ∧ v = u0) (BW g A (mW g ad)) A) args s 0 0 A) (F0 m 163 ls [.int y0]) := by
  rw [fX9_culprit_L163] at hf
  refine lv_istore (lv' := [(7, .int y0), (0, .ref (ad 0)), (1, .int x1), (2, .int x2), (4, .int x4), (5, .long x5), (8, .int x8)]) C.1 C.2.1 dX9_culprit_163 hl (by decide) rfl (fun ls hl => ?_)
  exact bX9_culprit_L165 C hA hZ hK89 hP hD hS (lv_sub hl [1, 2, 3, 4, 5, 0, 6] rfl) hf
set_option maxRecDepth 100000 in
set_option maxHeartbeats 4000000 in
theorem bX9_culprit_L155 {r0 : Int32} {u0 : ST} {K89 : ST → Int32 → Int32 → Int32 → Int64 → Int32 → Int32 → Option (Int32 × ST)} {x1 : Int32} {x2 : Int32} {x4 : Int32} {x5 : Int64} {x8 : Int32} (C : Cx p s m args meth c cX9_culprit 10 RX9 (some .int) g) (hA : ∀ q, s.heap.size ≤ q → A q) (hZ : SF A s) (hK89 : ∀ (u : ST) (x1 : Int32) (x2 : Int32) (x4 : Int32) (x5 : Int64) (x7 : Int32) (x8 : Int32) (H : Heap) (locs : List Loc), va_P g.1 vwCl (mW g ad u) H → va_D A (mW g ad u) → va_S A s.heap H locs → ∀ (ls : Array Slot), lv_has ls 10 [(0, .ref (ad 0)), (1, .int x1), (2, .int x2), (4, .int x4), (5, .long x5), (7, .int x7), (8, .int x8)] → K89 u x1 x2 x4 x5 x7 x8 = some (r0, u0) → W p l e (rmW 6 146 0 0) s m args below meth c H locs 0 0 (MQ below (va_Qi (fun r v => r = r0 ∧ v = u0) (BW g A (mW g ad)) A) args s 0 0 A) (F0 m 89 ls [])) (hP : va_P g.1 vwCl (mW g ad u) H) (hD : va_D A (mW g ad u)) (hS : va_S A s.heap H locs) (hl : lv_has ls 10 [(0, .ref (ad 0)), (1, .int x1), (2, .int x2), (4, .int x4), (5, .long x5), (8, .int x8)]) (hf : fX9_culprit_L155 K89 u x1 x2 x4 x5 x8 = some (r0, u0)) : W p l e (rmW 6 146 0 0) s m args below meth c H locs 0 0 (MQ below (va_Qi (fun r v => r = r0 ∧ v = u0) (BW g A (mW g ad)) A) args s 0 0 A) (F0 m 155 ls []) := by
  rw [fX9_culprit_L155] at hf
  refine lv_iload C.1 C.2.1 dX9_culprit_155 (lv_at hl 5 rfl) ?_
  refine lv_iconst (v := 1) C.1 C.2.1 dX9_culprit_157 (by decide) ?_
  refine lv_iadd C.1 C.2.1 dX9_culprit_158 ?_
  refine lv_goto (tgt := 163) C.1 C.2.1 dX9_culprit_159 (by decide) ?_
  exact bX9_culprit_L163 C hA hZ hK89 hP hD hS (lv_sub hl [0, 1, 2, 3, 4, 5] rfl) hf
set_option maxRecDepth 100000 in
set_option maxHeartbeats 4000000 in
theorem bX9_culprit_L162 {r0 : Int32} {u0 : ST} {K89 : ST → Int32 → Int32 → Int32 → Int64 → Int32 → Int32 → Option (Int32 × ST)} {x1 : Int32} {x2 : Int32} {x4 : Int32} {x5 : Int64} {x8 : Int32} (C : Cx p s m args meth c cX9_culprit 10 RX9 (some .int) g) (hA : ∀ q, s.heap.size ≤ q → A q) (hZ : SF A s) (hK89 : ∀ (u : ST) (x1 : Int32) (x2 : Int32) (x4 : Int32) (x5 : Int64) (x7 : Int32) (x8 : Int32) (H : Heap) (locs : List Loc), va_P g.1 vwCl (mW g ad u) H → va_D A (mW g ad u) → va_S A s.heap H locs → ∀ (ls : Array Slot), lv_has ls 10 [(0, .ref (ad 0)), (1, .int x1), (2, .int x2), (4, .int x4), (5, .long x5), (7, .int x7), (8, .int x8)] → K89 u x1 x2 x4 x5 x7 x8 = some (r0, u0) → W p l e (rmW 6 146 0 0) s m args below meth c H locs 0 0 (MQ below (va_Qi (fun r v => r = r0 ∧ v = u0) (BW g A (mW g ad)) A) args s 0 0 A) (F0 m 89 ls [])) (hP : va_P g.1 vwCl (mW g ad u) H) (hD : va_D A (mW g ad u)) (hS : va_S A s.heap H locs) (hl : lv_has ls 10 [(0, .ref (ad 0)), (1, .int x1), (2, .int x2), (4, .int x4), (5, .long x5), (8, .int x8)]) (hf : fX9_culprit_L162 K89 u x1 x2 x4 x5 x8 = some (r0, u0)) : W p l e (rmW 6 146 0 0) s m args below meth c H locs 0 0 (MQ below (va_Qi (fun r v => r = r0 ∧ v = u0) (BW g A (mW g ad)) A) args s 0 0 A) (F0 m 162 ls []) := by
  rw [fX9_culprit_L162] at hf
  refine lv_iconst (v := 0) C.1 C.2.1 dX9_culprit_162 (by decide) ?_
  exact bX9_culprit_L163 C hA hZ hK89 hP hD hS (lv_sub hl [0, 1, 2, 3, 4, 5] rfl) hf
set_option maxRecDepth 100000 in
set_option maxHeartbeats 4000000 in
theorem bX9_culprit_L131 {r0 : Int32} {u0 : ST} {K89 : ST → Int32 → Int32 → Int32 → Int64 → Int32 → Int32 → Option (Int32 × ST)} {x1 : Int32} {x2 : Int32} {x4 : Int32} {x5 : Int64} {x8 : Int32} {y0 : Int32} (C : Cx p s m args meth c cX9_culprit 10 RX9 (some .int) g) (hA : ∀ q, s.heap.size ≤ q → A q) (hZ : SF A s) (hK89 : ∀ (u : ST) (x1 : Int32) (x2 : Int32) (x4 : Int32) (x5 : Int64) (x7 : Int32) (x8 : Int32) (H : Heap) (locs : List Loc), va_P g.1 vwCl (mW g ad u) H → va_D A (mW g ad u) → va_S A s.heap H locs → ∀ (ls : Array Slot), lv_has ls 10 [(0, .ref (ad 0)), (1, .int x1), (2, .int x2), (4, .int x4), (5, .long x5), (7, .int x7), (8, .int x8)] → K89 u x1 x2 x4 x5 x7 x8 = some (r0, u0) → W p l e (rmW 6 146 0 0) s m args below meth c H locs 0 0 (MQ below (va_Qi (fun r v => r = r0 ∧ v = u0) (BW g A (mW g ad)) A) args s 0 0 A) (F0 m 89 ls [])) (hP : va_P g.1 vwCl (mW g ad u) H) (hD : va_D A (mW g ad u)) (hS : va_S A s.heap H locs) (hl : lv_has ls 10 [(0, .ref (ad 0)), (1, .int x1), (2, .int x2), (4, .int x4), (5, .long x5), (8, .int x8)]) (hf : fX9_culprit_L131 K89 u x1 x2 x4 x5 x8 y0 = some (r0, u0)) : W p l e (rmW 6 146 0 0) s m args below meth c H locs 0 0 (MQ below (va_Qi (fun r v => r = r0 ∧ v = u0) (BW g A (mW g ad)) A) args s 0 0 A) (F0 m 131 ls [.int y0]) := by
  rw [fX9_culprit_L131] at hf
  refine lv_istore (lv' := [(9, .int y0), (0, .ref (ad 0)), (1, .int x1), (2, .int x2), (4, .int x4), (5, .long x5), (8, .int x8)]) C.1 C.2.1 dX9_culprit_131 hl (by decide) rfl (fun ls hl => ?_)
  refine lv_iload C.1 C.2.1 dX9_culprit_133 (lv_at hl 0 rfl) ?_
  refine lv_iload C.1 C.2.1 dX9_culprit_135 (lv_at hl 4 rfl) ?_
  refine lv_icmp_ne (tgt := 155) C.1 C.2.1 dX9_culprit_137 (by decide) (fun c18 => ?_) (fun c18 => ?_)
  · rw [if_neg c18] at hf
    exact bX9_culprit_L155 C hA hZ hK89 hP hD hS (lv_sub hl [1, 2, 3, 4, 5, 6] rfl) hf
  · rw [if_pos c18] at hf
    refine lv_iload C.1 C.2.1 dX9_culprit_140 (lv_at hl 0 rfl) ?_
    refine lv_if_ne (tgt := 162) C.1 C.2.1 dX9_culprit_142 (by decide) (fun c19 => ?_) (fun c19 => ?_)
    · rw [if_neg c19] at hf
      exact bX9_culprit_L162 C hA hZ hK89 hP hD hS (lv_sub hl [1, 2, 3, 4, 5, 6] rfl) hf
    · rw [if_pos c19] at hf
      refine lv_aload_n C.1 C.2.1 dX9_culprit_145 rfl (lv_at hl 1 rfl) ?_
      refine gtm_X9_gave C hP wF_X9_300 dX9_culprit_146 ?_
      refine lv_lload C.1 C.2.1 dX9_culprit_149 (lv_at hl 5 rfl) ?_
      refine W.lcmp C.1 C.2.1 dX9_culprit_151 ?_
      refine lv_if_eq (tgt := 162) C.1 C.2.1 dX9_culprit_152 (by decide) (fun c20 => ?_) (fun c20 => ?_)
      · rw [if_pos c20] at hf
        exact bX9_culprit_L162 C hA hZ hK89 hP hD hS (lv_sub hl [1, 2, 3, 4, 5, 6] rfl) hf
      · rw [if_neg c20] at hf
        exact bX9_culprit_L155 C hA hZ hK89 hP hD hS (lv_sub hl [1, 2, 3, 4, 5, 6] rfl) hf
set_option maxRecDepth 100000 in
set_option maxHeartbeats 4000000 in
theorem bX9_culprit_L89 {r0 : Int32} {u0 : ST} (C : Cx p s m args meth c cX9_culprit 10 RX9 (some .int) g) (hA : ∀ q, s.heap.size ≤ q → A q) (hZ : SF A s) : ∀ (n : Nat), ∀ (u : ST) (x1 : Int32) (x2 : Int32) (x4 : Int32) (x5 : Int64) (x7 : Int32) (x8 : Int32) (H : Heap) (locs : List Loc), va_P g.1 vwCl (mW g ad u) H → va_D A (mW g ad u) → va_S A s.heap H locs → ∀ (ls : Array Slot), lv_has ls 10 [(0, .ref (ad 0)), (1, .int x1), (2, .int x2), (4, .int x4), (5, .long x5), (7, .int x7), (8, .int x8)] → fX9_culprit_L89 n u x1 x2 x4 x5 x7 x8 = some (r0, u0) → W p l e (rmW 6 146 0 0) s m args below meth c H locs 0 0 (MQ below (va_Qi (fun r v => r = r0 ∧ v = u0) (BW g A (mW g ad)) A) args s 0 0 A) (F0 m 89 ls []) := by
  intro n
  induction n with
  | zero =>
    intro u x1 x2 x4 x5 x7 x8 H locs hP hD hS ls hl hf
    exact absurd hf (by simp [fX9_culprit_L89])
  | succ n ih =>
    intro u x1 x2 x4 x5 x7 x8 H locs hP hD hS ls hl hf
    rw [fX9_culprit_L89] at hf
    refine lv_iload C.1 C.2.1 dX9_culprit_89 (lv_at hl 6 rfl) ?_
    refine lv_aload_n C.1 C.2.1 dX9_culprit_91 rfl (lv_at hl 0 rfl) ?_
    refine gtm_X9_edits C hP wF_X9_232 dX9_culprit_92 ?_
    refine lv_icmp_ge (tgt := 171) C.1 C.2.1 dX9_culprit_95 (by decide) (fun c13 => ?_) (fun c13 => ?_)
    · rw [if_pos c13] at hf
      refine lv_iload C.1 C.2.1 dX9_culprit_171 (lv_at hl 5 rfl) ?_
      exact endWi C hP hD hS (Nat.le_refl _) (Nat.le_refl _) hf dX9_culprit_173
    · rw [if_neg c13] at hf
      refine lv_aload_n C.1 C.2.1 dX9_culprit_98 rfl (lv_at hl 0 rfl) ?_
      refine lv_iload C.1 C.2.1 dX9_culprit_99 (lv_at hl 6 rfl) ?_
      refine lv_iload C.1 C.2.1 dX9_culprit_101 (lv_at hl 6 rfl) ?_
      refine lv_iconst (v := 1) C.1 C.2.1 dX9_culprit_103 (by decide) ?_
      refine lv_iadd C.1 C.2.1 dX9_culprit_104 ?_
      obtain ⟨u14, hu14, hf⟩ := Option.bind_eq_some_iff.mp hf
      refine cWv (As := [.int x8, .int (x8 + 1)]) (rest := []) (mc := 0) (ms := 0) C (mX9_doAgain hu14) vX9_doAgain wM_X9_245 ⟨Nat.le_of_ble_eq_true rfl, Nat.le_of_ble_eq_true rfl⟩ hP hD hS hA hZ (rcm_X9 C hP) hl.1 rfl rfl (Nat.le_of_ble_eq_true rfl) dX9_culprit_105 ⟨Nat.le_of_ble_eq_true rfl, Nat.le_of_ble_eq_true rfl⟩ (fun H locs hP hD hS => ?_)
      refine lv_iload C.1 C.2.1 dX9_culprit_108 (lv_at hl 5 rfl) ?_
      refine lv_if_ne (tgt := 165) C.1 C.2.1 dX9_culprit_110 (by decide) (fun c15 => ?_) (fun c15 => ?_)
      · rw [if_neg c15] at hf
        exact bX9_culprit_L165 C hA hZ ih hP hD hS (lv_sub hl [0, 1, 2, 3, 4, 5, 6] rfl) hf
      · rw [if_pos c15] at hf
        refine lv_aload_n C.1 C.2.1 dX9_culprit_113 rfl (lv_at hl 0 rfl) ?_
        refine lv_iload_n C.1 C.2.1 dX9_culprit_114 rfl (lv_at hl 2 rfl) ?_
        obtain ⟨v16, hv16, hf⟩ := Option.bind_eq_some_iff.mp hf
        refine cRi (As := [.int x2]) (rest := []) C (mX9_isClass hv16) vX9_isClass wM_X9_177 ⟨Nat.le_of_ble_eq_true rfl, Nat.le_of_ble_eq_true rfl⟩ hP (rcm_X9 C hP) (fun U hU hW => SF.go hZ hS hU hW (fun _ h => h.elim)) hl.1 rfl rfl (Nat.le_of_ble_eq_true rfl) dX9_culprit_115 ⟨Nat.le_of_ble_eq_true rfl, Nat.le_of_ble_eq_true rfl⟩ ?_
        refine lv_if_eq (tgt := 130) C.1 C.2.1 dX9_culprit_118 (by decide) (fun c17 => ?_) (fun c17 => ?_)
        · rw [if_pos c17] at hf
          refine lv_iconst (v := -1) C.1 C.2.1 dX9_culprit_130 (by decide) ?_
          exact bX9_culprit_L131 C hA hZ ih hP hD hS (lv_sub hl [0, 1, 2, 3, 4, 6] rfl) hf
        · rw [if_neg c17] at hf
          refine lv_aload_n C.1 C.2.1 dX9_culprit_121 rfl (lv_at hl 0 rfl) ?_
          refine lv_iload_n C.1 C.2.1 dX9_culprit_122 rfl (lv_at hl 1 rfl) ?_
          refine lv_iload_n C.1 C.2.1 dX9_culprit_123 rfl (lv_at hl 2 rfl) ?_
          obtain ⟨v22, u21, hu21, hf⟩ := b2_some hf
          refine cWi (As := [.int x1, .int x2]) (rest := []) (mc := 0) (ms := 0) C (mX9_meets hu21) vX9_meets wM_X9_317 ⟨Nat.le_of_ble_eq_true rfl, Nat.le_of_ble_eq_true rfl⟩ hP hD hS hA hZ (rcm_X9 C hP) hl.1 rfl rfl (Nat.le_of_ble_eq_true rfl) dX9_culprit_124 ⟨Nat.le_of_ble_eq_true rfl, Nat.le_of_ble_eq_true rfl⟩ (fun H locs hP hD hS => ?_)
          refine lv_goto (tgt := 131) C.1 C.2.1 dX9_culprit_127 (by decide) ?_
          exact bX9_culprit_L131 C hA hZ ih hP hD hS (lv_sub hl [0, 1, 2, 3, 4, 6] rfl) hf
set_option maxRecDepth 100000 in
set_option maxHeartbeats 4000000 in
theorem mX9_culprit {r0 : Int32} {u0 : ST} {x1 : Int32} {x2 : Int32} (hf : fX9_culprit u x1 x2 = some (r0, u0)) : MWi l yX9_culprit cX9_culprit 10 (some .int) 6 146 0 0 [.ref (ad 0), .int x1, .int x2] g (mW g ad) u r0 u0 := by
  refine entW (Qc := fun A => va_Qi (fun r v => r = r0 ∧ v = u0) (BW g A (mW g ad)) A) (by decide) (Nat.le_of_ble_eq_true rfl) ?_
  intro p e s m below meth c ls A C hP hD hS hA hZ hl
  have hl : lv_has ls 10 [(0, .ref (ad 0)), (1, .int x1), (2, .int x2)] := hl
  rw [fX9_culprit] at hf
  refine lv_aload_n C.1 C.2.1 dX9_culprit_0 rfl (lv_at hl 0 rfl) ?_
  refine lv_iload_n C.1 C.2.1 dX9_culprit_1 rfl (lv_at hl 1 rfl) ?_
  obtain ⟨v1, hv1, hf⟩ := Option.bind_eq_some_iff.mp hf
  refine cRi (As := [.int x1]) (rest := []) C (mX9_isCaller hv1) vX9_isCaller wM_X9_323 ⟨Nat.le_of_ble_eq_true rfl, Nat.le_of_ble_eq_true rfl⟩ hP (rcm_X9 C hP) (fun U hU hW => SF.go hZ hS hU hW (fun _ h => h.elim)) hl.1 rfl rfl (Nat.le_of_ble_eq_true rfl) dX9_culprit_2 ⟨Nat.le_of_ble_eq_true rfl, Nat.le_of_ble_eq_true rfl⟩ ?_
  refine lv_if_eq (tgt := 16) C.1 C.2.1 dX9_culprit_5 (by decide) (fun c2 => ?_) (fun c2 => ?_)
  · rw [if_pos c2] at hf
    refine lv_iconst (v := -1) C.1 C.2.1 dX9_culprit_16 (by decide) ?_
    exact endWi C hP hD hS (Nat.le_refl _) (Nat.le_refl _) hf dX9_culprit_17
  · rw [if_neg c2] at hf
    refine lv_aload_n C.1 C.2.1 dX9_culprit_8 rfl (lv_at hl 0 rfl) ?_
    refine lv_iload_n C.1 C.2.1 dX9_culprit_9 rfl (lv_at hl 2 rfl) ?_
    obtain ⟨v3, hv3, hf⟩ := Option.bind_eq_some_iff.mp hf
    refine cRi (As := [.int x2]) (rest := []) C (mX9_isClass hv3) vX9_isClass wM_X9_177 ⟨Nat.le_of_ble_eq_true rfl, Nat.le_of_ble_eq_true rfl⟩ hP (rcm_X9 C hP) (fun U hU hW => SF.go hZ hS hU hW (fun _ h => h.elim)) hl.1 rfl rfl (Nat.le_of_ble_eq_true rfl) dX9_culprit_10 ⟨Nat.le_of_ble_eq_true rfl, Nat.le_of_ble_eq_true rfl⟩ ?_
    refine lv_if_ne (tgt := 18) C.1 C.2.1 dX9_culprit_13 (by decide) (fun c4 => ?_) (fun c4 => ?_)
    · rw [if_neg c4] at hf
      refine lv_aload_n C.1 C.2.1 dX9_culprit_18 rfl (lv_at hl 0 rfl) ?_
      refine gtm_X9_cEdits C hP wF_X9_123 dX9_culprit_19 ?_
      refine lv_iload_n C.1 C.2.1 dX9_culprit_22 rfl (lv_at hl 1 rfl) ?_
      obtain ⟨v5, hv5, hf⟩ := Option.bind_eq_some_iff.mp hf
      refine ldm_41 C hP hv5 dX9_culprit_23 ?_
      refine lv_istore_n (lv' := [(3, .int v5), (0, .ref (ad 0)), (1, .int x1), (2, .int x2)]) C.1 C.2.1 dX9_culprit_24 rfl hl (by decide) rfl (fun ls hl => ?_)
      refine lv_iload_n C.1 C.2.1 dX9_culprit_25 rfl (lv_at hl 0 rfl) ?_
      refine lv_aload_n C.1 C.2.1 dX9_culprit_26 rfl (lv_at hl 1 rfl) ?_
      refine gtm_X9_edits C hP wF_X9_232 dX9_culprit_27 ?_
      refine lv_icmp_le (tgt := 36) C.1 C.2.1 dX9_culprit_30 (by decide) (fun c6 => ?_) (fun c6 => ?_)
      · rw [if_pos c6] at hf
        refine lv_aload_n C.1 C.2.1 dX9_culprit_36 rfl (lv_at hl 1 rfl) ?_
        obtain ⟨u7, hu7, hf⟩ := Option.bind_eq_some_iff.mp hf
        refine cWv (As := []) (rest := []) (mc := 0) (ms := 0) C (mX9_nothing hu7) vX9_nothing wM_X9_242 ⟨Nat.le_of_ble_eq_true rfl, Nat.le_of_ble_eq_true rfl⟩ hP hD hS hA hZ (rcm_X9 C hP) hl.1 rfl rfl (Nat.le_of_ble_eq_true rfl) dX9_culprit_37 ⟨Nat.le_of_ble_eq_true rfl, Nat.le_of_ble_eq_true rfl⟩ (fun H locs hP hD hS => ?_)
        refine lv_aload_n C.1 C.2.1 dX9_culprit_40 rfl (lv_at hl 1 rfl) ?_
        refine lv_iconst (v := 0) C.1 C.2.1 dX9_culprit_41 (by decide) ?_
        refine lv_iload_n C.1 C.2.1 dX9_culprit_42 rfl (lv_at hl 0 rfl) ?_
        obtain ⟨u8, hu8, hf⟩ := Option.bind_eq_some_iff.mp hf
        refine cWv (As := [.int 0, .int v5]) (rest := []) (mc := 0) (ms := 0) C (mX9_doAgain hu8) vX9_doAgain wM_X9_245 ⟨Nat.le_of_ble_eq_true rfl, Nat.le_of_ble_eq_true rfl⟩ hP hD hS hA hZ (rcm_X9 C hP) hl.1 rfl rfl (Nat.le_of_ble_eq_true rfl) dX9_culprit_43 ⟨Nat.le_of_ble_eq_true rfl, Nat.le_of_ble_eq_true rfl⟩ (fun H locs hP hD hS => ?_)
        refine lv_aload_n C.1 C.2.1 dX9_culprit_46 rfl (lv_at hl 1 rfl) ?_
        refine lv_iload_n C.1 C.2.1 dX9_culprit_47 rfl (lv_at hl 3 rfl) ?_
        obtain ⟨v9, hv9, hf⟩ := Option.bind_eq_some_iff.mp hf
        refine cRi (As := [.int x2]) (rest := []) C (mX9_isClass hv9) vX9_isClass wM_X9_177 ⟨Nat.le_of_ble_eq_true rfl, Nat.le_of_ble_eq_true rfl⟩ hP (rcm_X9 C hP) (fun U hU hW => SF.go hZ hS hU hW (fun _ h => h.elim)) hl.1 rfl rfl (Nat.le_of_ble_eq_true rfl) dX9_culprit_48 ⟨Nat.le_of_ble_eq_true rfl, Nat.le_of_ble_eq_true rfl⟩ ?_
        refine lv_if_ne (tgt := 69) C.1 C.2.1 dX9_culprit_51 (by decide) (fun c10 => ?_) (fun c10 => ?_)
        · rw [if_neg c10] at hf
          refine lv_aload_n C.1 C.2.1 dX9_culprit_69 rfl (lv_at hl 1 rfl) ?_
          refine lv_iload_n C.1 C.2.1 dX9_culprit_70 rfl (lv_at hl 2 rfl) ?_
          refine lv_iload_n C.1 C.2.1 dX9_culprit_71 rfl (lv_at hl 3 rfl) ?_
          obtain ⟨v12, u11, hu11, hf⟩ := b2_some hf
          refine cWi (As := [.int x1, .int x2]) (rest := []) (mc := 0) (ms := 0) C (mX9_meets hu11) vX9_meets wM_X9_317 ⟨Nat.le_of_ble_eq_true rfl, Nat.le_of_ble_eq_true rfl⟩ hP hD hS hA hZ (rcm_X9 C hP) hl.1 rfl rfl (Nat.le_of_ble_eq_true rfl) dX9_culprit_72 ⟨Nat.le_of_ble_eq_true rfl, Nat.le_of_ble_eq_true rfl⟩ (fun H locs hP hD hS => ?_)
          refine lv_istore (lv' := [(4, .int v12), (3, .int v5), (0, .ref (ad 0)), (1, .int x1), (2, .int x2)]) C.1 C.2.1 dX9_culprit_75 hl (by decide) rfl (fun ls hl => ?_)
          refine lv_aload_n C.1 C.2.1 dX9_culprit_77 rfl (lv_at hl 2 rfl) ?_
          refine gtm_X9_gave C hP wF_X9_300 dX9_culprit_78 ?_
          refine lv_lstore (lv' := [(5, .long (sL u11 43)), (4, .int v12), (3, .int v5), (0, .ref (ad 0)), (1, .int x1), (2, .int x2)]) C.1 C.2.1 dX9_culprit_81 hl (by decide) rfl (fun ls hl => ?_)
          refine lv_iconst (v := 0) C.1 C.2.1 dX9_culprit_83 (by decide) ?_
          refine lv_istore (lv' := [(7, .int 0), (5, .long (sL u11 43)), (4, .int v12), (3, .int v5), (0, .ref (ad 0)), (1, .int x1), (2, .int x2)]) C.1 C.2.1 dX9_culprit_84 hl (by decide) rfl (fun ls hl => ?_)
          refine lv_iload_n C.1 C.2.1 dX9_culprit_86 rfl (lv_at hl 3 rfl) ?_
          refine lv_istore (lv' := [(8, .int v5), (7, .int 0), (5, .long (sL u11 43)), (4, .int v12), (3, .int v5), (0, .ref (ad 0)), (1, .int x1), (2, .int x2)]) C.1 C.2.1 dX9_culprit_87 hl (by decide) rfl (fun ls hl => ?_)
          exact bX9_culprit_L89 C hA hZ 5000 u11 x1 x2 v12 (sL u11 43) 0 v5 _ _ hP hD hS _ (lv_sub hl [5, 6, 7, 3, 2, 1, 0] rfl) hf
        · rw [if_pos c10] at hf
          refine lv_aload_n C.1 C.2.1 dX9_culprit_54 rfl (lv_at hl 1 rfl) ?_
          obtain ⟨u23, hu23, hf⟩ := Option.bind_eq_some_iff.mp hf
          refine cWv (As := []) (rest := []) (mc := 0) (ms := 0) C (mX9_nothing hu23) vX9_nothing wM_X9_242 ⟨Nat.le_of_ble_eq_true rfl, Nat.le_of_ble_eq_true rfl⟩ hP hD hS hA hZ (rcm_X9 C hP) hl.1 rfl rfl (Nat.le_of_ble_eq_true rfl) dX9_culprit_55 ⟨Nat.le_of_ble_eq_true rfl, Nat.le_of_ble_eq_true rfl⟩ (fun H locs hP hD hS => ?_)
          refine lv_aload_n C.1 C.2.1 dX9_culprit_58 rfl (lv_at hl 1 rfl) ?_
          refine lv_iconst (v := 0) C.1 C.2.1 dX9_culprit_59 (by decide) ?_
          refine lv_aload_n C.1 C.2.1 dX9_culprit_60 rfl (lv_at hl 1 rfl) ?_
          refine gtm_X9_edits C hP wF_X9_232 dX9_culprit_61 ?_
          obtain ⟨u24, hu24, hf⟩ := Option.bind_eq_some_iff.mp hf
          refine cWv (As := [.int 0, .int (sI u23 16)]) (rest := []) (mc := 0) (ms := 0) C (mX9_doAgain hu24) vX9_doAgain wM_X9_245 ⟨Nat.le_of_ble_eq_true rfl, Nat.le_of_ble_eq_true rfl⟩ hP hD hS hA hZ (rcm_X9 C hP) hl.1 rfl rfl (Nat.le_of_ble_eq_true rfl) dX9_culprit_64 ⟨Nat.le_of_ble_eq_true rfl, Nat.le_of_ble_eq_true rfl⟩ (fun H locs hP hD hS => ?_)
          refine lv_iconst (v := -1) C.1 C.2.1 dX9_culprit_67 (by decide) ?_
          exact endWi C hP hD hS (Nat.le_refl _) (Nat.le_refl _) hf dX9_culprit_68
      · rw [if_neg c6] at hf
        refine lv_bipush (v := -2) C.1 C.2.1 dX9_culprit_33 (by decide) ?_
        exact endWi C hP hD hS (Nat.le_refl _) (Nat.le_refl _) hf dX9_culprit_35
    · rw [if_pos c4] at hf
      refine lv_iconst (v := -1) C.1 C.2.1 dX9_culprit_16 (by decide) ?_
      exact endWi C hP hD hS (Nat.le_refl _) (Nat.le_refl _) hf dX9_culprit_17
end
theorem vX9_culprit : YV yX9_culprit cX9_culprit 10 (some .int) 2 := ⟨⟨wK_X9_culprit, wZ_X9, by decide +kernel⟩, wI_X9_culprit, wV_X9_culprit⟩
def fX9_caller (u : ST) (x1 : Int32) (x2 : Int32) : Option Int32 :=
  (fX9_isCaller u x1).bind fun v1 =>
  if v1 = 0 then
    some (-1)
  else
    (fX9_in u ((x2 : Int32).toInt64) 0 6).bind fun v3 =>
    if v3 = 0 then
      some (-1)
    else
      if x2 = 0 then
        (rdI u 29 25 x1).bind fun v6 =>
        some v6
      else
      if x2 = 1 then
        (rdI u 30 25 x1).bind fun v8 =>
        some v8
      else
      if x2 = 2 then
        (rdI u 31 25 x1).bind fun v10 =>
        some v10
      else
      if x2 = 3 then
        (rdI u 34 25 x1).bind fun v12 =>
        some v12
      else
      if x2 = 4 then
        (rdI u 35 25 x1).bind fun v14 =>
        some v14
      else
      if x2 = 5 then
        (rdI u 36 25 x1).bind fun v16 =>
        if v16 = 0 then
          some 0
        else
          some 1
      else
        (rdI u 41 25 x1).bind fun v18 =>
        some v18
section
variable {p : Program} {l : Launch} {e : Env} {s : State} {m : MethodId} {args : Array Value} {below : List Frame} {meth : Method} {c : Code} {H : Heap} {locs : List Loc} {g : GP} {ls : Array Slot} {A : Nat → Prop} {ad : Nat → Nat} {u : ST}
set_option maxRecDepth 100000 in
set_option maxHeartbeats 4000000 in
theorem mX9_caller {r0 : Int32} {x1 : Int32} {x2 : Int32} (hf : fX9_caller u x1 x2 = some r0) : MRi l yX9_caller cX9_caller 3 (some .int) 2 46 [.ref (ad 0), .int x1, .int x2] g (mW g ad u) r0 := by
  refine entR (by decide) (Nat.le_of_ble_eq_true rfl) ?_
  intro p e s m below meth c ls C hP hZ hl
  have hl : lv_has ls 3 [(0, .ref (ad 0)), (1, .int x1), (2, .int x2)] := hl
  rw [fX9_caller] at hf
  refine lv_aload_n C.1 C.2.1 dX9_caller_0 rfl (lv_at hl 0 rfl) ?_
  refine lv_iload_n C.1 C.2.1 dX9_caller_1 rfl (lv_at hl 1 rfl) ?_
  obtain ⟨v1, hv1, hf⟩ := Option.bind_eq_some_iff.mp hf
  refine cRi (As := [.int x1]) (rest := []) C (mX9_isCaller hv1) vX9_isCaller wM_X9_323 ⟨Nat.le_of_ble_eq_true rfl, Nat.le_of_ble_eq_true rfl⟩ hP (rcm_X9 C hP) (fun U hU hW => SF.go hZ va_S.rf hU hW (fun _ h => h)) hl.1 rfl rfl (Nat.le_of_ble_eq_true rfl) dX9_caller_2 ⟨Nat.le_of_ble_eq_true rfl, Nat.le_of_ble_eq_true rfl⟩ ?_
  refine lv_if_eq (tgt := 20) C.1 C.2.1 dX9_caller_5 (by decide) (fun c2 => ?_) (fun c2 => ?_)
  · rw [if_pos c2] at hf
    refine lv_iconst (v := -1) C.1 C.2.1 dX9_caller_20 (by decide) ?_
    exact endRi C hf dX9_caller_21
  · rw [if_neg c2] at hf
    refine lv_iload_n C.1 C.2.1 dX9_caller_8 rfl (lv_at hl 2 rfl) ?_
    refine lv_i2l C.1 C.2.1 dX9_caller_9 rfl ?_
    refine lv_lconst (v := 0) C.1 C.2.1 dX9_caller_10 (by decide) ?_
    refine lv_ldc2 (v := 6) C.1 C.2.1 C.2.2.2.1 (C.2.2.2.2.1 _ wKL_X9_329) dX9_caller_11 ?_
    obtain ⟨v3, hv3, hf⟩ := Option.bind_eq_some_iff.mp hf
    refine cSi (As := [.long ((x2 : Int32).toInt64), .long 0, .long 6]) (rest := []) C (mX9_in hv3) vX9_in wM_X9_133 ⟨Nat.le_of_ble_eq_true rfl, Nat.le_of_ble_eq_true rfl⟩ hP (fun U hU hW => SF.go hZ va_S.rf hU hW (fun _ h => h)) hl.1 rfl rfl (Nat.le_of_ble_eq_true rfl) dX9_caller_14 ⟨Nat.le_of_ble_eq_true rfl, Nat.le_of_ble_eq_true rfl⟩ ?_
    refine lv_if_ne (tgt := 22) C.1 C.2.1 dX9_caller_17 (by decide) (fun c4 => ?_) (fun c4 => ?_)
    · rw [if_neg c4] at hf
      refine lv_iload_n C.1 C.2.1 dX9_caller_22 rfl (lv_at hl 2 rfl) ?_
      by_cases c5 : x2 = 0
      · rw [if_pos c5] at hf
        have e9 : (x2 : Int32).toInt = 0 := by rw [c5]; rfl
        refine lv_tableIn (off := 37) (tgt := 60) C.1 C.2.1 dX9_caller_23 (by rw [e9]; decide) (by rw [e9]; decide) (by rw [e9]; rfl) (by decide) ?_
        refine lv_aload_n C.1 C.2.1 dX9_caller_60 rfl (lv_at hl 0 rfl) ?_
        refine gtm_X9_cSort C hP wF_X9_87 dX9_caller_61 ?_
        refine lv_iload_n C.1 C.2.1 dX9_caller_64 rfl (lv_at hl 1 rfl) ?_
        obtain ⟨v6, hv6, hf⟩ := Option.bind_eq_some_iff.mp hf
        refine ldm_29 C hP hv6 dX9_caller_65 ?_
        exact endRi C hf dX9_caller_66
      rw [if_neg c5] at hf
      by_cases c7 : x2 = 1
      · rw [if_pos c7] at hf
        have e9 : (x2 : Int32).toInt = 1 := by rw [c7]; rfl
        refine lv_tableIn (off := 44) (tgt := 67) C.1 C.2.1 dX9_caller_23 (by rw [e9]; decide) (by rw [e9]; decide) (by rw [e9]; rfl) (by decide) ?_
        refine lv_aload_n C.1 C.2.1 dX9_caller_67 rfl (lv_at hl 0 rfl) ?_
        refine gtm_X9_cType C hP wF_X9_90 dX9_caller_68 ?_
        refine lv_iload_n C.1 C.2.1 dX9_caller_71 rfl (lv_at hl 1 rfl) ?_
        obtain ⟨v8, hv8, hf⟩ := Option.bind_eq_some_iff.mp hf
        refine ldm_30 C hP hv8 dX9_caller_72 ?_
        exact endRi C hf dX9_caller_73
      rw [if_neg c7] at hf
      by_cases c9 : x2 = 2
      · rw [if_pos c9] at hf
        have e9 : (x2 : Int32).toInt = 2 := by rw [c9]; rfl
        refine lv_tableIn (off := 51) (tgt := 74) C.1 C.2.1 dX9_caller_23 (by rw [e9]; decide) (by rw [e9]; decide) (by rw [e9]; rfl) (by decide) ?_
        refine lv_aload_n C.1 C.2.1 dX9_caller_74 rfl (lv_at hl 0 rfl) ?_
        refine gtm_X9_cName C hP wF_X9_93 dX9_caller_75 ?_
        refine lv_iload_n C.1 C.2.1 dX9_caller_78 rfl (lv_at hl 1 rfl) ?_
        obtain ⟨v10, hv10, hf⟩ := Option.bind_eq_some_iff.mp hf
        refine ldm_31 C hP hv10 dX9_caller_79 ?_
        exact endRi C hf dX9_caller_80
      rw [if_neg c9] at hf
      by_cases c11 : x2 = 3
      · rw [if_pos c11] at hf
        have e9 : (x2 : Int32).toInt = 3 := by rw [c11]; rfl
        refine lv_tableIn (off := 58) (tgt := 81) C.1 C.2.1 dX9_caller_23 (by rw [e9]; decide) (by rw [e9]; decide) (by rw [e9]; rfl) (by decide) ?_
        refine lv_aload_n C.1 C.2.1 dX9_caller_81 rfl (lv_at hl 0 rfl) ?_
        refine gtm_X9_cFirst C hP wF_X9_102 dX9_caller_82 ?_
        refine lv_iload_n C.1 C.2.1 dX9_caller_85 rfl (lv_at hl 1 rfl) ?_
        obtain ⟨v12, hv12, hf⟩ := Option.bind_eq_some_iff.mp hf
        refine ldm_34 C hP hv12 dX9_caller_86 ?_
        exact endRi C hf dX9_caller_87
      rw [if_neg c11] at hf
      by_cases c13 : x2 = 4
      · rw [if_pos c13] at hf
        have e9 : (x2 : Int32).toInt = 4 := by rw [c13]; rfl
        refine lv_tableIn (off := 65) (tgt := 88) C.1 C.2.1 dX9_caller_23 (by rw [e9]; decide) (by rw [e9]; decide) (by rw [e9]; rfl) (by decide) ?_
        refine lv_aload_n C.1 C.2.1 dX9_caller_88 rfl (lv_at hl 0 rfl) ?_
        refine gtm_X9_cSecond C hP wF_X9_105 dX9_caller_89 ?_
        refine lv_iload_n C.1 C.2.1 dX9_caller_92 rfl (lv_at hl 1 rfl) ?_
        obtain ⟨v14, hv14, hf⟩ := Option.bind_eq_some_iff.mp hf
        refine ldm_35 C hP hv14 dX9_caller_93 ?_
        exact endRi C hf dX9_caller_94
      rw [if_neg c13] at hf
      by_cases c15 : x2 = 5
      · rw [if_pos c15] at hf
        have e9 : (x2 : Int32).toInt = 5 := by rw [c15]; rfl
        refine lv_tableIn (off := 72) (tgt := 95) C.1 C.2.1 dX9_caller_23 (by rw [e9]; decide) (by rw [e9]; decide) (by rw [e9]; rfl) (by decide) ?_
        refine lv_aload_n C.1 C.2.1 dX9_caller_95 rfl (lv_at hl 0 rfl) ?_
        refine gtm_X9_cKeeps C hP wF_X9_108 dX9_caller_96 ?_
        refine lv_iload_n C.1 C.2.1 dX9_caller_99 rfl (lv_at hl 1 rfl) ?_
        obtain ⟨v16, hv16, hf⟩ := Option.bind_eq_some_iff.mp hf
        refine ldm_36 C hP hv16 dX9_caller_100 ?_
        refine lv_if_eq (tgt := 108) C.1 C.2.1 dX9_caller_101 (by decide) (fun c17 => ?_) (fun c17 => ?_)
        · rw [if_pos c17] at hf
          refine lv_iconst (v := 0) C.1 C.2.1 dX9_caller_108 (by decide) ?_
          exact endRi C hf dX9_caller_109
        · rw [if_neg c17] at hf
          refine lv_iconst (v := 1) C.1 C.2.1 dX9_caller_104 (by decide) ?_
          refine lv_goto (tgt := 109) C.1 C.2.1 dX9_caller_105 (by decide) ?_
          exact endRi C hf dX9_caller_109
      rw [if_neg c15] at hf
      refine lv_tableOut (tgt := 110) C.1 C.2.1 dX9_caller_23 (by have q0 := neI c5 (k := 0) rfl; have q1 := neI c7 (k := 1) rfl; have q2 := neI c9 (k := 2) rfl; have q3 := neI c11 (k := 3) rfl; have q4 := neI c13 (k := 4) rfl; have q5 := neI c15 (k := 5) rfl; omega) (by decide) ?_
      refine lv_aload_n C.1 C.2.1 dX9_caller_110 rfl (lv_at hl 0 rfl) ?_
      refine gtm_X9_cEdits C hP wF_X9_123 dX9_caller_111 ?_
      refine lv_iload_n C.1 C.2.1 dX9_caller_114 rfl (lv_at hl 1 rfl) ?_
      obtain ⟨v18, hv18, hf⟩ := Option.bind_eq_some_iff.mp hf
      refine ldm_41 C hP hv18 dX9_caller_115 ?_
      exact endRi C hf dX9_caller_116
    · rw [if_pos c4] at hf
      refine lv_iconst (v := -1) C.1 C.2.1 dX9_caller_20 (by decide) ?_
      exact endRi C hf dX9_caller_21
end
theorem vX9_caller : YV yX9_caller cX9_caller 3 (some .int) 2 := ⟨⟨wK_X9_caller, wZ_X9, by decide +kernel⟩, wI_X9_caller, wV_X9_caller⟩
def fX9_toldOf (u : ST) (x1 : Int32) (x2 : Int32) : Option Int32 :=
  if x2 = 0 then
    (rdI u 1 12 x1).bind fun v2 =>
    if v2 = 0 then
      some 0
    else
      some 1
  else
  if x2 = 1 then
    (rdI u 2 12 x1).bind fun v5 =>
    some v5
  else
  if x2 = 2 then
    (rdI u 3 12 x1).bind fun v7 =>
    some v7
  else
  if x2 = 3 then
    (rdI u 4 12 x1).bind fun v9 =>
    some v9
  else
    (rdI u 4 12 x1).bind fun v10 =>
    if v10 ≤ (x2 - 4) then
      some (-2)
    else
      (rdI u 5 36 (((3 * x1) + x2) - 4)).bind fun v12 =>
      some v12
section
variable {p : Program} {l : Launch} {e : Env} {s : State} {m : MethodId} {args : Array Value} {below : List Frame} {meth : Method} {c : Code} {H : Heap} {locs : List Loc} {g : GP} {ls : Array Slot} {A : Nat → Prop} {ad : Nat → Nat} {u : ST}
set_option maxRecDepth 100000 in
set_option maxHeartbeats 4000000 in
theorem mX9_toldOf {r0 : Int32} {x1 : Int32} {x2 : Int32} (hf : fX9_toldOf u x1 x2 = some r0) : MRi l yX9_toldOf cX9_toldOf 3 (some .int) 0 0 [.ref (ad 0), .int x1, .int x2] g (mW g ad u) r0 := by
  refine entR (by decide) (Nat.le_of_ble_eq_true rfl) ?_
  intro p e s m below meth c ls C hP hZ hl
  have hl : lv_has ls 3 [(0, .ref (ad 0)), (1, .int x1), (2, .int x2)] := hl
  rw [fX9_toldOf] at hf
  refine lv_iload_n C.1 C.2.1 dX9_toldOf_0 rfl (lv_at hl 2 rfl) ?_
  by_cases c1 : x2 = 0
  · rw [if_pos c1] at hf
    have e9 : (x2 : Int32).toInt = 0 := by rw [c1]; rfl
    refine lv_tableIn (off := 31) (tgt := 32) C.1 C.2.1 dX9_toldOf_1 (by rw [e9]; decide) (by rw [e9]; decide) (by rw [e9]; rfl) (by decide) ?_
    refine lv_aload_n C.1 C.2.1 dX9_toldOf_32 rfl (lv_at hl 0 rfl) ?_
    refine gtm_X9_isFace C hP wF_X9_7 dX9_toldOf_33 ?_
    refine lv_iload_n C.1 C.2.1 dX9_toldOf_36 rfl (lv_at hl 1 rfl) ?_
    obtain ⟨v2, hv2, hf⟩ := Option.bind_eq_some_iff.mp hf
    refine ldm_1 C hP hv2 dX9_toldOf_37 ?_
    refine lv_if_eq (tgt := 45) C.1 C.2.1 dX9_toldOf_38 (by decide) (fun c3 => ?_) (fun c3 => ?_)
    · rw [if_pos c3] at hf
      refine lv_iconst (v := 0) C.1 C.2.1 dX9_toldOf_45 (by decide) ?_
      exact endRi C hf dX9_toldOf_46
    · rw [if_neg c3] at hf
      refine lv_iconst (v := 1) C.1 C.2.1 dX9_toldOf_41 (by decide) ?_
      refine lv_goto (tgt := 46) C.1 C.2.1 dX9_toldOf_42 (by decide) ?_
      exact endRi C hf dX9_toldOf_46
  rw [if_neg c1] at hf
  by_cases c4 : x2 = 1
  · rw [if_pos c4] at hf
    have e9 : (x2 : Int32).toInt = 1 := by rw [c4]; rfl
    refine lv_tableIn (off := 46) (tgt := 47) C.1 C.2.1 dX9_toldOf_1 (by rw [e9]; decide) (by rw [e9]; decide) (by rw [e9]; rfl) (by decide) ?_
    refine lv_aload_n C.1 C.2.1 dX9_toldOf_47 rfl (lv_at hl 0 rfl) ?_
    refine gtm_X9_over C hP wF_X9_13 dX9_toldOf_48 ?_
    refine lv_iload_n C.1 C.2.1 dX9_toldOf_51 rfl (lv_at hl 1 rfl) ?_
    obtain ⟨v5, hv5, hf⟩ := Option.bind_eq_some_iff.mp hf
    refine ldm_2 C hP hv5 dX9_toldOf_52 ?_
    exact endRi C hf dX9_toldOf_53
  rw [if_neg c4] at hf
  by_cases c6 : x2 = 2
  · rw [if_pos c6] at hf
    have e9 : (x2 : Int32).toInt = 2 := by rw [c6]; rfl
    refine lv_tableIn (off := 53) (tgt := 54) C.1 C.2.1 dX9_toldOf_1 (by rw [e9]; decide) (by rw [e9]; decide) (by rw [e9]; rfl) (by decide) ?_
    refine lv_aload_n C.1 C.2.1 dX9_toldOf_54 rfl (lv_at hl 0 rfl) ?_
    refine gtm_X9_tMarks C hP wF_X9_17 dX9_toldOf_55 ?_
    refine lv_iload_n C.1 C.2.1 dX9_toldOf_58 rfl (lv_at hl 1 rfl) ?_
    obtain ⟨v7, hv7, hf⟩ := Option.bind_eq_some_iff.mp hf
    refine ldm_3 C hP hv7 dX9_toldOf_59 ?_
    exact endRi C hf dX9_toldOf_60
  rw [if_neg c6] at hf
  by_cases c8 : x2 = 3
  · rw [if_pos c8] at hf
    have e9 : (x2 : Int32).toInt = 3 := by rw [c8]; rfl
    refine lv_tableIn (off := 60) (tgt := 61) C.1 C.2.1 dX9_toldOf_1 (by rw [e9]; decide) (by rw [e9]; decide) (by rw [e9]; rfl) (by decide) ?_
    refine lv_aload_n C.1 C.2.1 dX9_toldOf_61 rfl (lv_at hl 0 rfl) ?_
    refine gtm_X9_faceMany C hP wF_X9_20 dX9_toldOf_62 ?_
    refine lv_iload_n C.1 C.2.1 dX9_toldOf_65 rfl (lv_at hl 1 rfl) ?_
    obtain ⟨v9, hv9, hf⟩ := Option.bind_eq_some_iff.mp hf
    refine ldm_4 C hP hv9 dX9_toldOf_66 ?_
    exact endRi C hf dX9_toldOf_67
  rw [if_neg c8] at hf
  refine lv_tableOut (tgt := 68) C.1 C.2.1 dX9_toldOf_1 (by have q0 := neI c1 (k := 0) rfl; have q1 := neI c4 (k := 1) rfl; have q2 := neI c6 (k := 2) rfl; have q3 := neI c8 (k := 3) rfl; omega) (by decide) ?_
  refine lv_iload_n C.1 C.2.1 dX9_toldOf_68 rfl (lv_at hl 2 rfl) ?_
  refine lv_iconst (v := 4) C.1 C.2.1 dX9_toldOf_69 (by decide) ?_
  refine lv_isub C.1 C.2.1 dX9_toldOf_70 ?_
  refine lv_aload_n C.1 C.2.1 dX9_toldOf_71 rfl (lv_at hl 0 rfl) ?_
  refine gtm_X9_faceMany C hP wF_X9_20 dX9_toldOf_72 ?_
  refine lv_iload_n C.1 C.2.1 dX9_toldOf_75 rfl (lv_at hl 1 rfl) ?_
  obtain ⟨v10, hv10, hf⟩ := Option.bind_eq_some_iff.mp hf
  refine ldm_4 C hP hv10 dX9_toldOf_76 ?_
  refine lv_icmp_ge (tgt := 95) C.1 C.2.1 dX9_toldOf_77 (by decide) (fun c11 => ?_) (fun c11 => ?_)
  · rw [if_pos c11] at hf
    refine lv_bipush (v := -2) C.1 C.2.1 dX9_toldOf_95 (by decide) ?_
    exact endRi C hf dX9_toldOf_97
  · rw [if_neg c11] at hf
    refine lv_aload_n C.1 C.2.1 dX9_toldOf_80 rfl (lv_at hl 0 rfl) ?_
    refine gtm_X9_faces C hP wF_X9_23 dX9_toldOf_81 ?_
    refine lv_iconst (v := 3) C.1 C.2.1 dX9_toldOf_84 (by decide) ?_
    refine lv_iload_n C.1 C.2.1 dX9_toldOf_85 rfl (lv_at hl 1 rfl) ?_
    refine lv_imul C.1 C.2.1 dX9_toldOf_86 ?_
    refine lv_iload_n C.1 C.2.1 dX9_toldOf_87 rfl (lv_at hl 2 rfl) ?_
    refine lv_iadd C.1 C.2.1 dX9_toldOf_88 ?_
    refine lv_iconst (v := 4) C.1 C.2.1 dX9_toldOf_89 (by decide) ?_
    refine lv_isub C.1 C.2.1 dX9_toldOf_90 ?_
    obtain ⟨v12, hv12, hf⟩ := Option.bind_eq_some_iff.mp hf
    refine ldm_5 C hP hv12 dX9_toldOf_91 ?_
    refine lv_goto (tgt := 97) C.1 C.2.1 dX9_toldOf_92 (by decide) ?_
    exact endRi C hf dX9_toldOf_97
end
theorem vX9_toldOf : YV yX9_toldOf cX9_toldOf 3 (some .int) 2 := ⟨⟨wK_X9_toldOf, wZ_X9, by decide +kernel⟩, wI_X9_toldOf, wV_X9_toldOf⟩
def fX9_told (u : ST) (x1 : Int32) (x2 : Int32) : Option Int32 :=
  (fX9_isType u x1).bind fun v1 =>
  if v1 = 0 then
    some (-1)
  else
    (fX9_in u ((x2 : Int32).toInt64) 0 6).bind fun v3 =>
    if v3 = 0 then
      some (-1)
    else
      (fX9_toldOf u x1 x2).bind fun v5 =>
      some v5
section
variable {p : Program} {l : Launch} {e : Env} {s : State} {m : MethodId} {args : Array Value} {below : List Frame} {meth : Method} {c : Code} {H : Heap} {locs : List Loc} {g : GP} {ls : Array Slot} {A : Nat → Prop} {ad : Nat → Nat} {u : ST}
set_option maxRecDepth 100000 in
set_option maxHeartbeats 4000000 in
theorem mX9_told {r0 : Int32} {x1 : Int32} {x2 : Int32} (hf : fX9_told u x1 x2 = some r0) : MRi l yX9_told cX9_told 3 (some .int) 2 46 [.ref (ad 0), .int x1, .int x2] g (mW g ad u) r0 := by
  refine entR (by decide) (Nat.le_of_ble_eq_true rfl) ?_
  intro p e s m below meth c ls C hP hZ hl
  have hl : lv_has ls 3 [(0, .ref (ad 0)), (1, .int x1), (2, .int x2)] := hl
  rw [fX9_told] at hf
  refine lv_aload_n C.1 C.2.1 dX9_told_0 rfl (lv_at hl 0 rfl) ?_
  refine lv_iload_n C.1 C.2.1 dX9_told_1 rfl (lv_at hl 1 rfl) ?_
  obtain ⟨v1, hv1, hf⟩ := Option.bind_eq_some_iff.mp hf
  refine cRi (As := [.int x1]) (rest := []) C (mX9_isType hv1) vX9_isType wM_X9_137 ⟨Nat.le_of_ble_eq_true rfl, Nat.le_of_ble_eq_true rfl⟩ hP (rcm_X9 C hP) (fun U hU hW => SF.go hZ va_S.rf hU hW (fun _ h => h)) hl.1 rfl rfl (Nat.le_of_ble_eq_true rfl) dX9_told_2 ⟨Nat.le_of_ble_eq_true rfl, Nat.le_of_ble_eq_true rfl⟩ ?_
  refine lv_if_eq (tgt := 29) C.1 C.2.1 dX9_told_5 (by decide) (fun c2 => ?_) (fun c2 => ?_)
  · rw [if_pos c2] at hf
    refine lv_iconst (v := -1) C.1 C.2.1 dX9_told_29 (by decide) ?_
    exact endRi C hf dX9_told_30
  · rw [if_neg c2] at hf
    refine lv_iload_n C.1 C.2.1 dX9_told_8 rfl (lv_at hl 2 rfl) ?_
    refine lv_i2l C.1 C.2.1 dX9_told_9 rfl ?_
    refine lv_lconst (v := 0) C.1 C.2.1 dX9_told_10 (by decide) ?_
    refine lv_ldc2 (v := 6) C.1 C.2.1 C.2.2.2.1 (C.2.2.2.2.1 _ wKL_X9_329) dX9_told_11 ?_
    obtain ⟨v3, hv3, hf⟩ := Option.bind_eq_some_iff.mp hf
    refine cSi (As := [.long ((x2 : Int32).toInt64), .long 0, .long 6]) (rest := []) C (mX9_in hv3) vX9_in wM_X9_133 ⟨Nat.le_of_ble_eq_true rfl, Nat.le_of_ble_eq_true rfl⟩ hP (fun U hU hW => SF.go hZ va_S.rf hU hW (fun _ h => h)) hl.1 rfl rfl (Nat.le_of_ble_eq_true rfl) dX9_told_14 ⟨Nat.le_of_ble_eq_true rfl, Nat.le_of_ble_eq_true rfl⟩ ?_
    refine lv_if_eq (tgt := 29) C.1 C.2.1 dX9_told_17 (by decide) (fun c4 => ?_) (fun c4 => ?_)
    · rw [if_pos c4] at hf
      refine lv_iconst (v := -1) C.1 C.2.1 dX9_told_29 (by decide) ?_
      exact endRi C hf dX9_told_30
    · rw [if_neg c4] at hf
      refine lv_aload_n C.1 C.2.1 dX9_told_20 rfl (lv_at hl 0 rfl) ?_
      refine lv_iload_n C.1 C.2.1 dX9_told_21 rfl (lv_at hl 1 rfl) ?_
      refine lv_iload_n C.1 C.2.1 dX9_told_22 rfl (lv_at hl 2 rfl) ?_
      obtain ⟨v5, hv5, hf⟩ := Option.bind_eq_some_iff.mp hf
      refine cRi (As := [.int x1, .int x2]) (rest := []) C (mX9_toldOf hv5) vX9_toldOf wM_X9_331 ⟨Nat.le_of_ble_eq_true rfl, Nat.le_of_ble_eq_true rfl⟩ hP (rcm_X9 C hP) (fun U hU hW => SF.go hZ va_S.rf hU hW (fun _ h => h)) hl.1 rfl rfl (Nat.le_of_ble_eq_true rfl) dX9_told_23 ⟨Nat.le_of_ble_eq_true rfl, Nat.le_of_ble_eq_true rfl⟩ ?_
      refine lv_goto (tgt := 30) C.1 C.2.1 dX9_told_26 (by decide) ?_
      exact endRi C hf dX9_told_30
end
theorem vX9_told : YV yX9_told cX9_told 3 (some .int) 2 := ⟨⟨wK_X9_told, wZ_X9, by decide +kernel⟩, wI_X9_told, wV_X9_told⟩
def fX9_below (u : ST) (x1 : Int32) (x2 : Int32) : Option (Int32 × ST) :=
  (fX9_isType u x1).bind fun v1 =>
  if v1 = 0 then
    some ((-1), u)
  else
    (fX9_isType u x2).bind fun v3 =>
    if v3 = 0 then
      some ((-1), u)
    else
      b2 (fX9_isBelow u x1 x2) fun v6 u5 =>
      if v6 = 0 then
        some (0, u5)
      else
        some (1, u5)
section
variable {p : Program} {l : Launch} {e : Env} {s : State} {m : MethodId} {args : Array Value} {below : List Frame} {meth : Method} {c : Code} {H : Heap} {locs : List Loc} {g : GP} {ls : Array Slot} {A : Nat → Prop} {ad : Nat → Nat} {u : ST}
set_option maxRecDepth 100000 in
set_option maxHeartbeats 4000000 in
theorem mX9_below {r0 : Int32} {u0 : ST} {x1 : Int32} {x2 : Int32} (hf : fX9_below u x1 x2 = some (r0, u0)) : MWi l yX9_below cX9_below 3 (some .int) 2 49 0 0 [.ref (ad 0), .int x1, .int x2] g (mW g ad) u r0 u0 := by
  refine entW (Qc := fun A => va_Qi (fun r v => r = r0 ∧ v = u0) (BW g A (mW g ad)) A) (by decide) (Nat.le_of_ble_eq_true rfl) ?_
  intro p e s m below meth c ls A C hP hD hS hA hZ hl
  have hl : lv_has ls 3 [(0, .ref (ad 0)), (1, .int x1), (2, .int x2)] := hl
  rw [fX9_below] at hf
  refine lv_aload_n C.1 C.2.1 dX9_below_0 rfl (lv_at hl 0 rfl) ?_
  refine lv_iload_n C.1 C.2.1 dX9_below_1 rfl (lv_at hl 1 rfl) ?_
  obtain ⟨v1, hv1, hf⟩ := Option.bind_eq_some_iff.mp hf
  refine cRi (As := [.int x1]) (rest := []) C (mX9_isType hv1) vX9_isType wM_X9_137 ⟨Nat.le_of_ble_eq_true rfl, Nat.le_of_ble_eq_true rfl⟩ hP (rcm_X9 C hP) (fun U hU hW => SF.go hZ hS hU hW (fun _ h => h.elim)) hl.1 rfl rfl (Nat.le_of_ble_eq_true rfl) dX9_below_2 ⟨Nat.le_of_ble_eq_true rfl, Nat.le_of_ble_eq_true rfl⟩ ?_
  refine lv_if_eq (tgt := 16) C.1 C.2.1 dX9_below_5 (by decide) (fun c2 => ?_) (fun c2 => ?_)
  · rw [if_pos c2] at hf
    refine lv_iconst (v := -1) C.1 C.2.1 dX9_below_16 (by decide) ?_
    refine lv_goto (tgt := 34) C.1 C.2.1 dX9_below_17 (by decide) ?_
    exact endWi C hP hD hS (Nat.le_refl _) (Nat.le_refl _) hf dX9_below_34
  · rw [if_neg c2] at hf
    refine lv_aload_n C.1 C.2.1 dX9_below_8 rfl (lv_at hl 0 rfl) ?_
    refine lv_iload_n C.1 C.2.1 dX9_below_9 rfl (lv_at hl 2 rfl) ?_
    obtain ⟨v3, hv3, hf⟩ := Option.bind_eq_some_iff.mp hf
    refine cRi (As := [.int x2]) (rest := []) C (mX9_isType hv3) vX9_isType wM_X9_137 ⟨Nat.le_of_ble_eq_true rfl, Nat.le_of_ble_eq_true rfl⟩ hP (rcm_X9 C hP) (fun U hU hW => SF.go hZ hS hU hW (fun _ h => h.elim)) hl.1 rfl rfl (Nat.le_of_ble_eq_true rfl) dX9_below_10 ⟨Nat.le_of_ble_eq_true rfl, Nat.le_of_ble_eq_true rfl⟩ ?_
    refine lv_if_ne (tgt := 20) C.1 C.2.1 dX9_below_13 (by decide) (fun c4 => ?_) (fun c4 => ?_)
    · rw [if_neg c4] at hf
      refine lv_aload_n C.1 C.2.1 dX9_below_20 rfl (lv_at hl 0 rfl) ?_
      refine lv_iload_n C.1 C.2.1 dX9_below_21 rfl (lv_at hl 1 rfl) ?_
      refine lv_iload_n C.1 C.2.1 dX9_below_22 rfl (lv_at hl 2 rfl) ?_
      obtain ⟨v6, u5, hu5, hf⟩ := b2_some hf
      refine cWi (As := [.int x1, .int x2]) (rest := []) (mc := 0) (ms := 0) C (mX9_isBelow hu5) vX9_isBelow wM_X9_182 ⟨Nat.le_of_ble_eq_true rfl, Nat.le_of_ble_eq_true rfl⟩ hP hD hS hA hZ (rcm_X9 C hP) hl.1 rfl rfl (Nat.le_of_ble_eq_true rfl) dX9_below_23 ⟨Nat.le_of_ble_eq_true rfl, Nat.le_of_ble_eq_true rfl⟩ (fun H locs hP hD hS => ?_)
      refine lv_if_eq (tgt := 33) C.1 C.2.1 dX9_below_26 (by decide) (fun c7 => ?_) (fun c7 => ?_)
      · rw [if_pos c7] at hf
        refine lv_iconst (v := 0) C.1 C.2.1 dX9_below_33 (by decide) ?_
        exact endWi C hP hD hS (Nat.le_refl _) (Nat.le_refl _) hf dX9_below_34
      · rw [if_neg c7] at hf
        refine lv_iconst (v := 1) C.1 C.2.1 dX9_below_29 (by decide) ?_
        refine lv_goto (tgt := 34) C.1 C.2.1 dX9_below_30 (by decide) ?_
        exact endWi C hP hD hS (Nat.le_refl _) (Nat.le_refl _) hf dX9_below_34
    · rw [if_pos c4] at hf
      refine lv_iconst (v := -1) C.1 C.2.1 dX9_below_16 (by decide) ?_
      refine lv_goto (tgt := 34) C.1 C.2.1 dX9_below_17 (by decide) ?_
      exact endWi C hP hD hS (Nat.le_refl _) (Nat.le_refl _) hf dX9_below_34
end
theorem vX9_below : YV yX9_below cX9_below 3 (some .int) 2 := ⟨⟨wK_X9_below, wZ_X9, by decide +kernel⟩, wI_X9_below, wV_X9_below⟩
def fX9_memberOf (u : ST) (x1 : Int32) (x2 : Int32) : Option Int32 :=
  if x2 = 0 then
    (rdI u 7 60 x1).bind fun v2 =>
    if v2 = 0 then
      some 0
    else
      some 1
  else
  if x2 = 1 then
    (rdI u 8 60 x1).bind fun v5 =>
    some v5
  else
  if x2 = 2 then
    (rdI u 9 60 x1).bind fun v7 =>
    some v7
  else
  if x2 = 3 then
    (rdI u 10 60 x1).bind fun v9 =>
    some v9
  else
  if x2 = 4 then
    (rdI u 7 60 x1).bind fun v11 =>
    if v11 = 0 then
      (rdI u 11 60 x1).bind fun v13 =>
      some v13
    else
      (rdI u 12 60 x1).bind fun v14 =>
      some v14
  else
    (rdI u 13 60 x1).bind fun v15 =>
    some v15
section
variable {p : Program} {l : Launch} {e : Env} {s : State} {m : MethodId} {args : Array Value} {below : List Frame} {meth : Method} {c : Code} {H : Heap} {locs : List Loc} {g : GP} {ls : Array Slot} {A : Nat → Prop} {ad : Nat → Nat} {u : ST}
set_option maxRecDepth 100000 in
set_option maxHeartbeats 4000000 in
theorem mX9_memberOf {r0 : Int32} {x1 : Int32} {x2 : Int32} (hf : fX9_memberOf u x1 x2 = some r0) : MRi l yX9_memberOf cX9_memberOf 3 (some .int) 0 0 [.ref (ad 0), .int x1, .int x2] g (mW g ad u) r0 := by
  refine entR (by decide) (Nat.le_of_ble_eq_true rfl) ?_
  intro p e s m below meth c ls C hP hZ hl
  have hl : lv_has ls 3 [(0, .ref (ad 0)), (1, .int x1), (2, .int x2)] := hl
  rw [fX9_memberOf] at hf
  refine lv_iload_n C.1 C.2.1 dX9_memberOf_0 rfl (lv_at hl 2 rfl) ?_
  by_cases c1 : x2 = 0
  · rw [if_pos c1] at hf
    have e9 : (x2 : Int32).toInt = 0 := by rw [c1]; rfl
    refine lv_tableIn (off := 35) (tgt := 36) C.1 C.2.1 dX9_memberOf_1 (by rw [e9]; decide) (by rw [e9]; decide) (by rw [e9]; rfl) (by decide) ?_
    refine lv_aload_n C.1 C.2.1 dX9_memberOf_36 rfl (lv_at hl 0 rfl) ?_
    refine gtm_X9_isMethod C hP wF_X9_29 dX9_memberOf_37 ?_
    refine lv_iload_n C.1 C.2.1 dX9_memberOf_40 rfl (lv_at hl 1 rfl) ?_
    obtain ⟨v2, hv2, hf⟩ := Option.bind_eq_some_iff.mp hf
    refine ldm_7 C hP hv2 dX9_memberOf_41 ?_
    refine lv_if_eq (tgt := 49) C.1 C.2.1 dX9_memberOf_42 (by decide) (fun c3 => ?_) (fun c3 => ?_)
    · rw [if_pos c3] at hf
      refine lv_iconst (v := 0) C.1 C.2.1 dX9_memberOf_49 (by decide) ?_
      exact endRi C hf dX9_memberOf_50
    · rw [if_neg c3] at hf
      refine lv_iconst (v := 1) C.1 C.2.1 dX9_memberOf_45 (by decide) ?_
      refine lv_goto (tgt := 50) C.1 C.2.1 dX9_memberOf_46 (by decide) ?_
      exact endRi C hf dX9_memberOf_50
  rw [if_neg c1] at hf
  by_cases c4 : x2 = 1
  · rw [if_pos c4] at hf
    have e9 : (x2 : Int32).toInt = 1 := by rw [c4]; rfl
    refine lv_tableIn (off := 50) (tgt := 51) C.1 C.2.1 dX9_memberOf_1 (by rw [e9]; decide) (by rw [e9]; decide) (by rw [e9]; rfl) (by decide) ?_
    refine lv_aload_n C.1 C.2.1 dX9_memberOf_51 rfl (lv_at hl 0 rfl) ?_
    refine gtm_X9_mType C hP wF_X9_32 dX9_memberOf_52 ?_
    refine lv_iload_n C.1 C.2.1 dX9_memberOf_55 rfl (lv_at hl 1 rfl) ?_
    obtain ⟨v5, hv5, hf⟩ := Option.bind_eq_some_iff.mp hf
    refine ldm_8 C hP hv5 dX9_memberOf_56 ?_
    exact endRi C hf dX9_memberOf_57
  rw [if_neg c4] at hf
  by_cases c6 : x2 = 2
  · rw [if_pos c6] at hf
    have e9 : (x2 : Int32).toInt = 2 := by rw [c6]; rfl
    refine lv_tableIn (off := 57) (tgt := 58) C.1 C.2.1 dX9_memberOf_1 (by rw [e9]; decide) (by rw [e9]; decide) (by rw [e9]; rfl) (by decide) ?_
    refine lv_aload_n C.1 C.2.1 dX9_memberOf_58 rfl (lv_at hl 0 rfl) ?_
    refine gtm_X9_mName C hP wF_X9_35 dX9_memberOf_59 ?_
    refine lv_iload_n C.1 C.2.1 dX9_memberOf_62 rfl (lv_at hl 1 rfl) ?_
    obtain ⟨v7, hv7, hf⟩ := Option.bind_eq_some_iff.mp hf
    refine ldm_9 C hP hv7 dX9_memberOf_63 ?_
    exact endRi C hf dX9_memberOf_64
  rw [if_neg c6] at hf
  by_cases c8 : x2 = 3
  · rw [if_pos c8] at hf
    have e9 : (x2 : Int32).toInt = 3 := by rw [c8]; rfl
    refine lv_tableIn (off := 64) (tgt := 65) C.1 C.2.1 dX9_memberOf_1 (by rw [e9]; decide) (by rw [e9]; decide) (by rw [e9]; rfl) (by decide) ?_
    refine lv_aload_n C.1 C.2.1 dX9_memberOf_65 rfl (lv_at hl 0 rfl) ?_
    refine gtm_X9_mMarks C hP wF_X9_38 dX9_memberOf_66 ?_
    refine lv_iload_n C.1 C.2.1 dX9_memberOf_69 rfl (lv_at hl 1 rfl) ?_
    obtain ⟨v9, hv9, hf⟩ := Option.bind_eq_some_iff.mp hf
    refine ldm_10 C hP hv9 dX9_memberOf_70 ?_
    exact endRi C hf dX9_memberOf_71
  rw [if_neg c8] at hf
  by_cases c10 : x2 = 4
  · rw [if_pos c10] at hf
    have e9 : (x2 : Int32).toInt = 4 := by rw [c10]; rfl
    refine lv_tableIn (off := 71) (tgt := 72) C.1 C.2.1 dX9_memberOf_1 (by rw [e9]; decide) (by rw [e9]; decide) (by rw [e9]; rfl) (by decide) ?_
    refine lv_aload_n C.1 C.2.1 dX9_memberOf_72 rfl (lv_at hl 0 rfl) ?_
    refine gtm_X9_isMethod C hP wF_X9_29 dX9_memberOf_73 ?_
    refine lv_iload_n C.1 C.2.1 dX9_memberOf_76 rfl (lv_at hl 1 rfl) ?_
    obtain ⟨v11, hv11, hf⟩ := Option.bind_eq_some_iff.mp hf
    refine ldm_7 C hP hv11 dX9_memberOf_77 ?_
    refine lv_if_eq (tgt := 90) C.1 C.2.1 dX9_memberOf_78 (by decide) (fun c12 => ?_) (fun c12 => ?_)
    · rw [if_pos c12] at hf
      refine lv_aload_n C.1 C.2.1 dX9_memberOf_90 rfl (lv_at hl 0 rfl) ?_
      refine gtm_X9_mKind C hP wF_X9_41 dX9_memberOf_91 ?_
      refine lv_iload_n C.1 C.2.1 dX9_memberOf_94 rfl (lv_at hl 1 rfl) ?_
      obtain ⟨v13, hv13, hf⟩ := Option.bind_eq_some_iff.mp hf
      refine ldm_11 C hP hv13 dX9_memberOf_95 ?_
      exact endRi C hf dX9_memberOf_96
    · rw [if_neg c12] at hf
      refine lv_aload_n C.1 C.2.1 dX9_memberOf_81 rfl (lv_at hl 0 rfl) ?_
      refine gtm_X9_mFirst C hP wF_X9_44 dX9_memberOf_82 ?_
      refine lv_iload_n C.1 C.2.1 dX9_memberOf_85 rfl (lv_at hl 1 rfl) ?_
      obtain ⟨v14, hv14, hf⟩ := Option.bind_eq_some_iff.mp hf
      refine ldm_12 C hP hv14 dX9_memberOf_86 ?_
      refine lv_goto (tgt := 96) C.1 C.2.1 dX9_memberOf_87 (by decide) ?_
      exact endRi C hf dX9_memberOf_96
  rw [if_neg c10] at hf
  refine lv_tableOut (tgt := 97) C.1 C.2.1 dX9_memberOf_1 (by have q0 := neI c1 (k := 0) rfl; have q1 := neI c4 (k := 1) rfl; have q2 := neI c6 (k := 2) rfl; have q3 := neI c8 (k := 3) rfl; have q4 := neI c10 (k := 4) rfl; omega) (by decide) ?_
  refine lv_aload_n C.1 C.2.1 dX9_memberOf_97 rfl (lv_at hl 0 rfl) ?_
  refine gtm_X9_mSecond C hP wF_X9_47 dX9_memberOf_98 ?_
  refine lv_iload_n C.1 C.2.1 dX9_memberOf_101 rfl (lv_at hl 1 rfl) ?_
  obtain ⟨v15, hv15, hf⟩ := Option.bind_eq_some_iff.mp hf
  refine ldm_13 C hP hv15 dX9_memberOf_102 ?_
  exact endRi C hf dX9_memberOf_103
end
theorem vX9_memberOf : YV yX9_memberOf cX9_memberOf 3 (some .int) 2 := ⟨⟨wK_X9_memberOf, wZ_X9, by decide +kernel⟩, wI_X9_memberOf, wV_X9_memberOf⟩
def fX9_member (u : ST) (x1 : Int32) (x2 : Int32) : Option Int32 :=
  (fX9_isHere u x1).bind fun v1 =>
  if v1 = 0 then
    some (-1)
  else
    (fX9_in u ((x2 : Int32).toInt64) 0 5).bind fun v3 =>
    if v3 = 0 then
      some (-1)
    else
      (fX9_memberOf u x1 x2).bind fun v5 =>
      some v5
section
variable {p : Program} {l : Launch} {e : Env} {s : State} {m : MethodId} {args : Array Value} {below : List Frame} {meth : Method} {c : Code} {H : Heap} {locs : List Loc} {g : GP} {ls : Array Slot} {A : Nat → Prop} {ad : Nat → Nat} {u : ST}
set_option maxRecDepth 100000 in
set_option maxHeartbeats 4000000 in
theorem mX9_member {r0 : Int32} {x1 : Int32} {x2 : Int32} (hf : fX9_member u x1 x2 = some r0) : MRi l yX9_member cX9_member 3 (some .int) 2 46 [.ref (ad 0), .int x1, .int x2] g (mW g ad u) r0 := by
  refine entR (by decide) (Nat.le_of_ble_eq_true rfl) ?_
  intro p e s m below meth c ls C hP hZ hl
  have hl : lv_has ls 3 [(0, .ref (ad 0)), (1, .int x1), (2, .int x2)] := hl
  rw [fX9_member] at hf
  refine lv_aload_n C.1 C.2.1 dX9_member_0 rfl (lv_at hl 0 rfl) ?_
  refine lv_iload_n C.1 C.2.1 dX9_member_1 rfl (lv_at hl 1 rfl) ?_
  obtain ⟨v1, hv1, hf⟩ := Option.bind_eq_some_iff.mp hf
  refine cRi (As := [.int x1]) (rest := []) C (mX9_isHere hv1) vX9_isHere wM_X9_210 ⟨Nat.le_of_ble_eq_true rfl, Nat.le_of_ble_eq_true rfl⟩ hP (rcm_X9 C hP) (fun U hU hW => SF.go hZ va_S.rf hU hW (fun _ h => h)) hl.1 rfl rfl (Nat.le_of_ble_eq_true rfl) dX9_member_2 ⟨Nat.le_of_ble_eq_true rfl, Nat.le_of_ble_eq_true rfl⟩ ?_
  refine lv_if_eq (tgt := 29) C.1 C.2.1 dX9_member_5 (by decide) (fun c2 => ?_) (fun c2 => ?_)
  · rw [if_pos c2] at hf
    refine lv_iconst (v := -1) C.1 C.2.1 dX9_member_29 (by decide) ?_
    exact endRi C hf dX9_member_30
  · rw [if_neg c2] at hf
    refine lv_iload_n C.1 C.2.1 dX9_member_8 rfl (lv_at hl 2 rfl) ?_
    refine lv_i2l C.1 C.2.1 dX9_member_9 rfl ?_
    refine lv_lconst (v := 0) C.1 C.2.1 dX9_member_10 (by decide) ?_
    refine lv_ldc2 (v := 5) C.1 C.2.1 C.2.2.2.1 (C.2.2.2.2.1 _ wKL_X9_334) dX9_member_11 ?_
    obtain ⟨v3, hv3, hf⟩ := Option.bind_eq_some_iff.mp hf
    refine cSi (As := [.long ((x2 : Int32).toInt64), .long 0, .long 5]) (rest := []) C (mX9_in hv3) vX9_in wM_X9_133 ⟨Nat.le_of_ble_eq_true rfl, Nat.le_of_ble_eq_true rfl⟩ hP (fun U hU hW => SF.go hZ va_S.rf hU hW (fun _ h => h)) hl.1 rfl rfl (Nat.le_of_ble_eq_true rfl) dX9_member_14 ⟨Nat.le_of_ble_eq_true rfl, Nat.le_of_ble_eq_true rfl⟩ ?_
    refine lv_if_eq (tgt := 29) C.1 C.2.1 dX9_member_17 (by decide) (fun c4 => ?_) (fun c4 => ?_)
    · rw [if_pos c4] at hf
      refine lv_iconst (v := -1) C.1 C.2.1 dX9_member_29 (by decide) ?_
      exact endRi C hf dX9_member_30
    · rw [if_neg c4] at hf
      refine lv_aload_n C.1 C.2.1 dX9_member_20 rfl (lv_at hl 0 rfl) ?_
      refine lv_iload_n C.1 C.2.1 dX9_member_21 rfl (lv_at hl 1 rfl) ?_
      refine lv_iload_n C.1 C.2.1 dX9_member_22 rfl (lv_at hl 2 rfl) ?_
      obtain ⟨v5, hv5, hf⟩ := Option.bind_eq_some_iff.mp hf
      refine cRi (As := [.int x1, .int x2]) (rest := []) C (mX9_memberOf hv5) vX9_memberOf wM_X9_336 ⟨Nat.le_of_ble_eq_true rfl, Nat.le_of_ble_eq_true rfl⟩ hP (rcm_X9 C hP) (fun U hU hW => SF.go hZ va_S.rf hU hW (fun _ h => h)) hl.1 rfl rfl (Nat.le_of_ble_eq_true rfl) dX9_member_23 ⟨Nat.le_of_ble_eq_true rfl, Nat.le_of_ble_eq_true rfl⟩ ?_
      refine lv_goto (tgt := 30) C.1 C.2.1 dX9_member_26 (by decide) ?_
      exact endRi C hf dX9_member_30
end
theorem vX9_member : YV yX9_member cX9_member 3 (some .int) 2 := ⟨⟨wK_X9_member, wZ_X9, by decide +kernel⟩, wI_X9_member, wV_X9_member⟩
def fX9_count_L25 (u : ST) (K4 : Int32 → Int32 → Int32 → Option Int32) (x1 : Int32) (x3 : Int32) (y0 : Int32) (y1 : Int32) : Option Int32 :=
  K4 x1 (y0 + y1) (x3 + 1)
def fX9_count_L4 (u : ST) : Nat → Int32 → Int32 → Int32 → Option Int32
  | 0, _, _, _ => none
  | n + 1, x1, x2, x3 =>
    if 60 ≤ x3 then
      if x1 = 0 then
        some (sI u 0)
      else
        if x1 = 1 then
          some x2
        else
          if x1 = 2 then
            some (sI u 28)
          else
            if x1 = 3 then
              some (sI u 16)
            else
              some (-1)
    else
      (rdI u 6 60 x3).bind fun v6 =>
      if v6 = 0 then
        fX9_count_L25 u (fX9_count_L4 u n) x1 x3 x2 0
      else
        fX9_count_L25 u (fX9_count_L4 u n) x1 x3 x2 1
def fX9_count (u : ST) (x1 : Int32) : Option Int32 :=
  fX9_count_L4 u 5000 x1 0 0
section
variable {p : Program} {l : Launch} {e : Env} {s : State} {m : MethodId} {args : Array Value} {below : List Frame} {meth : Method} {c : Code} {H : Heap} {locs : List Loc} {g : GP} {ls : Array Slot} {A : Nat → Prop} {ad : Nat → Nat} {u : ST}
set_option maxRecDepth 100000 in
set_option maxHeartbeats 4000000 in
theorem bX9_count_L25 {r0 : Int32} {K4 : Int32 → Int32 → Int32 → Option Int32} {x1 : Int32} {x3 : Int32} {y0 : Int32} {y1 : Int32} (C : Cx p s m args meth c cX9_count 4 RX9 (some .int) g) (hZ : SF (fun _ => False) s) (hK4 : ∀ (x1 : Int32) (x2 : Int32) (x3 : Int32), ∀ (ls : Array Slot), lv_has ls 4 [(0, .ref (ad 0)), (1, .int x1), (2, .int x2), (3, .int x3)] → K4 x1 x2 x3 = some r0 → W p l e (rmR 0 0) s m args below meth c s.heap [] 0 0 (MQ below (vp_Si (fun r => r = r0)) args s 0 0 (fun _ => False)) (F0 m 4 ls [])) (hP : va_P g.1 vwCl (mW g ad u) s.heap) (hl : lv_has ls 4 [(0, .ref (ad 0)), (1, .int x1), (3, .int x3)]) (hf : fX9_count_L25 u K4 x1 x3 y0 y1 = some r0) : W p l e (rmR 0 0) s m args below meth c s.heap [] 0 0 (MQ below (vp_Si (fun r => r = r0)) args s 0 0 (fun _ => False)) (F0 m 25 ls [.int y1, .int y0]) := by
  rw [fX9_count_L25] at hf
  refine lv_iadd C.1 C.2.1 dX9_count_25 ?_
  refine lv_istore_n (lv' := [(2, .int (y0 + y1)), (0, .ref (ad 0)), (1, .int x1), (3, .int x3)]) C.1 C.2.1 dX9_count_26 rfl hl (by decide) rfl (fun ls hl => ?_)
  refine lv_iinc (v := (x3 + 1)) (lv' := [(3, .int (x3 + 1)), (2, .int (y0 + y1)), (0, .ref (ad 0)), (1, .int x1)]) C.1 C.2.1 dX9_count_27 hl (k := 3) rfl rfl (by decide) rfl (fun ls hl => ?_)
  refine lv_goto (tgt := 4) C.1 C.2.1 dX9_count_30 (by decide) ?_
  exact hK4 x1 (y0 + y1) (x3 + 1) _ (lv_sub hl [2, 3, 1, 0] rfl) hf
set_option maxRecDepth 100000 in
set_option maxHeartbeats 4000000 in
theorem bX9_count_L4 {r0 : Int32} (C : Cx p s m args meth c cX9_count 4 RX9 (some .int) g) (hZ : SF (fun _ => False) s) (n : Nat) : ∀ (x1 : Int32) (x2 : Int32) (x3 : Int32), va_P g.1 vwCl (mW g ad u) s.heap → ∀ (ls : Array Slot), lv_has ls 4 [(0, .ref (ad 0)), (1, .int x1), (2, .int x2), (3, .int x3)] → fX9_count_L4 u n x1 x2 x3 = some r0 → W p l e (rmR 0 0) s m args below meth c s.heap [] 0 0 (MQ below (vp_Si (fun r => r = r0)) args s 0 0 (fun _ => False)) (F0 m 4 ls []) := by
  induction n with
  | zero =>
    intro x1 x2 x3 hP ls hl hf
    exact absurd hf (by simp [fX9_count_L4])
  | succ n ih0 =>
    intro x1 x2 x3 hP ls hl hf
    have ih := fun (x1 : Int32) (x2 : Int32) (x3 : Int32) => ih0 x1 x2 x3 hP
    rw [fX9_count_L4] at hf
    refine lv_iload_n C.1 C.2.1 dX9_count_4 rfl (lv_at hl 3 rfl) ?_
    refine lv_bipush (v := 60) C.1 C.2.1 dX9_count_5 (by decide) ?_
    refine lv_icmp_ge (tgt := 33) C.1 C.2.1 dX9_count_7 (by decide) (fun c1 => ?_) (fun c1 => ?_)
    · rw [if_pos c1] at hf
      refine lv_iload_n C.1 C.2.1 dX9_count_33 rfl (lv_at hl 1 rfl) ?_
      refine lv_if_ne (tgt := 44) C.1 C.2.1 dX9_count_34 (by decide) (fun c2 => ?_) (fun c2 => ?_)
      · rw [if_neg c2] at hf
        refine lv_iload_n C.1 C.2.1 dX9_count_44 rfl (lv_at hl 1 rfl) ?_
        refine lv_iconst (v := 1) C.1 C.2.1 dX9_count_45 (by decide) ?_
        refine lv_icmp_ne (tgt := 53) C.1 C.2.1 dX9_count_46 (by decide) (fun c3 => ?_) (fun c3 => ?_)
        · rw [if_neg c3] at hf
          refine lv_iload_n C.1 C.2.1 dX9_count_53 rfl (lv_at hl 1 rfl) ?_
          refine lv_iconst (v := 2) C.1 C.2.1 dX9_count_54 (by decide) ?_
          refine lv_icmp_ne (tgt := 65) C.1 C.2.1 dX9_count_55 (by decide) (fun c4 => ?_) (fun c4 => ?_)
          · rw [if_neg c4] at hf
            refine lv_iload_n C.1 C.2.1 dX9_count_65 rfl (lv_at hl 1 rfl) ?_
            refine lv_iconst (v := 3) C.1 C.2.1 dX9_count_66 (by decide) ?_
            refine lv_icmp_ne (tgt := 77) C.1 C.2.1 dX9_count_67 (by decide) (fun c5 => ?_) (fun c5 => ?_)
            · rw [if_neg c5] at hf
              refine lv_iconst (v := -1) C.1 C.2.1 dX9_count_77 (by decide) ?_
              exact endRi C hf dX9_count_78
            · rw [if_pos c5] at hf
              refine lv_aload_n C.1 C.2.1 dX9_count_70 rfl (lv_at hl 0 rfl) ?_
              refine gtm_X9_edits C hP wF_X9_232 dX9_count_71 ?_
              refine lv_goto (tgt := 78) C.1 C.2.1 dX9_count_74 (by decide) ?_
              exact endRi C hf dX9_count_78
          · rw [if_pos c4] at hf
            refine lv_aload_n C.1 C.2.1 dX9_count_58 rfl (lv_at hl 0 rfl) ?_
            refine gtm_X9_callers C hP wF_X9_284 dX9_count_59 ?_
            refine lv_goto (tgt := 78) C.1 C.2.1 dX9_count_62 (by decide) ?_
            exact endRi C hf dX9_count_78
        · rw [if_pos c3] at hf
          refine lv_iload_n C.1 C.2.1 dX9_count_49 rfl (lv_at hl 2 rfl) ?_
          refine lv_goto (tgt := 78) C.1 C.2.1 dX9_count_50 (by decide) ?_
          exact endRi C hf dX9_count_78
      · rw [if_pos c2] at hf
        refine lv_aload_n C.1 C.2.1 dX9_count_37 rfl (lv_at hl 0 rfl) ?_
        refine gtm_X9_types C hP wF_X9_129 dX9_count_38 ?_
        refine lv_goto (tgt := 78) C.1 C.2.1 dX9_count_41 (by decide) ?_
        exact endRi C hf dX9_count_78
    · rw [if_neg c1] at hf
      refine lv_iload_n C.1 C.2.1 dX9_count_10 rfl (lv_at hl 2 rfl) ?_
      refine lv_aload_n C.1 C.2.1 dX9_count_11 rfl (lv_at hl 0 rfl) ?_
      refine gtm_X9_isMember C hP wF_X9_26 dX9_count_12 ?_
      refine lv_iload_n C.1 C.2.1 dX9_count_15 rfl (lv_at hl 3 rfl) ?_
      obtain ⟨v6, hv6, hf⟩ := Option.bind_eq_some_iff.mp hf
      refine ldm_6 C hP hv6 dX9_count_16 ?_
      refine lv_if_eq (tgt := 24) C.1 C.2.1 dX9_count_17 (by decide) (fun c7 => ?_) (fun c7 => ?_)
      · rw [if_pos c7] at hf
        refine lv_iconst (v := 0) C.1 C.2.1 dX9_count_24 (by decide) ?_
        exact bX9_count_L25 C hZ ih hP (lv_sub hl [0, 1, 3] rfl) hf
      · rw [if_neg c7] at hf
        refine lv_iconst (v := 1) C.1 C.2.1 dX9_count_20 (by decide) ?_
        refine lv_goto (tgt := 25) C.1 C.2.1 dX9_count_21 (by decide) ?_
        exact bX9_count_L25 C hZ ih hP (lv_sub hl [0, 1, 3] rfl) hf
set_option maxRecDepth 100000 in
set_option maxHeartbeats 4000000 in
theorem mX9_count {r0 : Int32} {x1 : Int32} (hf : fX9_count u x1 = some r0) : MRi l yX9_count cX9_count 4 (some .int) 0 0 [.ref (ad 0), .int x1] g (mW g ad u) r0 := by
  refine entR (by decide) (Nat.le_of_ble_eq_true rfl) ?_
  intro p e s m below meth c ls C hP hZ hl
  have hl : lv_has ls 4 [(0, .ref (ad 0)), (1, .int x1)] := hl
  rw [fX9_count] at hf
  refine lv_iconst (v := 0) C.1 C.2.1 dX9_count_0 (by decide) ?_
  refine lv_istore_n (lv' := [(2, .int 0), (0, .ref (ad 0)), (1, .int x1)]) C.1 C.2.1 dX9_count_1 rfl hl (by decide) rfl (fun ls hl => ?_)
  refine lv_iconst (v := 0) C.1 C.2.1 dX9_count_2 (by decide) ?_
  refine lv_istore_n (lv' := [(3, .int 0), (2, .int 0), (0, .ref (ad 0)), (1, .int x1)]) C.1 C.2.1 dX9_count_3 rfl hl (by decide) rfl (fun ls hl => ?_)
  exact bX9_count_L4 C hZ 5000 x1 0 0 hP _ (lv_sub hl [2, 3, 1, 0] rfl) hf
end
theorem vX9_count : YV yX9_count cX9_count 4 (some .int) 1 := ⟨⟨wK_X9_count, wZ_X9, by decide +kernel⟩, wI_X9_count, wV_X9_count⟩
def fX9_digest_L154 (u : ST) (K53 : Int64 → Int32 → Option Int64) (x1 : Int64) (x3 : Int32) : Option Int64 :=
  K53 x1 (x3 + 1)
def fX9_digest_L152 (u : ST) (K53 : Int64 → Int32 → Option Int64) (x3 : Int32) (y0 : Int64) (y1 : Int64) : Option Int64 :=
  fX9_digest_L154 u K53 (y0 + y1) x3
def fX9_digest_L80 (u : ST) (K53 : Int64 → Int32 → Option Int64) : Nat → Int64 → Int32 → Int32 → Option Int64
  | 0, _, _, _ => none
  | n + 1, x1, x3, x4 =>
    if 6 ≤ x4 then
      (rdI u 7 60 x3).bind fun v6 =>
      if v6 = 0 then
        (rdI u 11 60 x3).bind fun v8 =>
        (rdL u 14 60 x3).bind fun v9 =>
        (rdI u 11 60 x3).bind fun v10 =>
        (fX9_comes u v8 v9 v10).bind fun v11 =>
        fX9_digest_L152 u K53 x3 (31 * x1) v11
      else
        (rdL u 14 60 x3).bind fun v12 =>
        fX9_digest_L152 u K53 x3 (31 * x1) v12
    else
      (fX9_memberOf u x3 x4).bind fun v13 =>
      fX9_digest_L80 u K53 n ((31 * x1) + ((v13 : Int32).toInt64)) x3 (x4 + 1)
def fX9_digest_L53 (u : ST) : Nat → Int64 → Int32 → Option Int64
  | 0, _, _ => none
  | n + 1, x1, x3 =>
    if 60 ≤ x3 then
      some ((31 * x1) + (((sI u 16) : Int32).toInt64))
    else
      (rdI u 6 60 x3).bind fun v3 =>
      if v3 = 0 then
        fX9_digest_L154 u (fX9_digest_L53 u n) x1 x3
      else
        fX9_digest_L80 u (fX9_digest_L53 u n) 5000 ((31 * x1) + ((x3 : Int32).toInt64)) x3 0
def fX9_digest_L17 (u : ST) (K6 : Int64 → Int32 → Option Int64) : Nat → Int64 → Int32 → Int32 → Option Int64
  | 0, _, _, _ => none
  | n + 1, x1, x3, x4 =>
    if 7 ≤ x4 then
      K6 x1 (x3 + 1)
    else
      (fX9_toldOf u x3 x4).bind fun v15 =>
      fX9_digest_L17 u K6 n ((31 * x1) + ((v15 : Int32).toInt64)) x3 (x4 + 1)
def fX9_digest_L6 (u : ST) : Nat → Int64 → Int32 → Option Int64
  | 0, _, _ => none
  | n + 1, x1, x3 =>
    if (sI u 0) ≤ x3 then
      fX9_digest_L53 u 5000 x1 0
    else
      fX9_digest_L17 u (fX9_digest_L6 u n) 5000 x1 x3 0
def fX9_digest (u : ST) : Option Int64 :=
  fX9_digest_L6 u 5000 17 0
section
variable {p : Program} {l : Launch} {e : Env} {s : State} {m : MethodId} {args : Array Value} {below : List Frame} {meth : Method} {c : Code} {H : Heap} {locs : List Loc} {g : GP} {ls : Array Slot} {A : Nat → Prop} {ad : Nat → Nat} {u : ST}
set_option maxRecDepth 100000 in
set_option maxHeartbeats 4000000 in
theorem bX9_digest_L154 {r0 : Int64} {K53 : Int64 → Int32 → Option Int64} {x1 : Int64} {x3 : Int32} (C : Cx p s m args meth c cX9_digest 5 RX9 (some .long) g) (hZ : SF (fun _ => False) s) (hK53 : ∀ (x1 : Int64) (x3 : Int32), ∀ (ls : Array Slot), lv_has ls 5 [(0, .ref (ad 0)), (1, .long x1), (3, .int x3)] → K53 x1 x3 = some r0 → W p l e (rmR 2 47) s m args below meth c s.heap [] 0 0 (MQ below (vp_Sl (fun r => r = r0)) args s 0 0 (fun _ => False)) (F0 m 53 ls [])) (hP : va_P g.1 vwCl (mW g ad u) s.heap) (hl : lv_has ls 5 [(0, .ref (ad 0)), (1, .long x1), (3, .int x3)]) (hf : fX9_digest_L154 u K53 x1 x3 = some r0) : W p l e (rmR 2 47) s m args below meth c s.heap [] 0 0 (MQ below (vp_Sl (fun r => r = r0)) args s 0 0 (fun _ => False)) (F0 m 154 ls []) := by
  rw [fX9_digest_L154] at hf
  refine lv_iinc (v := (x3 + 1)) (lv' := [(3, .int (x3 + 1)), (0, .ref (ad 0)), (1, .long x1)]) C.1 C.2.1 dX9_digest_154 hl (k := 2) rfl rfl (by decide) rfl (fun ls hl => ?_)
  refine lv_goto (tgt := 53) C.1 C.2.1 dX9_digest_157 (by decide) ?_
  exact hK53 x1 (x3 + 1) _ (lv_sub hl [1, 2, 0] rfl) hf
set_option maxRecDepth 100000 in
set_option maxHeartbeats 4000000 in
theorem bX9_digest_L152 {r0 : Int64} {K53 : Int64 → Int32 → Option Int64} {x3 : Int32} {y0 : Int64} {y1 : Int64} (C : Cx p s m args meth c cX9_digest 5 RX9 (some .long) g) (hZ : SF (fun _ => False) s) (hK53 : ∀ (x1 : Int64) (x3 : Int32), ∀ (ls : Array Slot), lv_has ls 5 [(0, .ref (ad 0)), (1, .long x1), (3, .int x3)] → K53 x1 x3 = some r0 → W p l e (rmR 2 47) s m args below meth c s.heap [] 0 0 (MQ below (vp_Sl (fun r => r = r0)) args s 0 0 (fun _ => False)) (F0 m 53 ls [])) (hP : va_P g.1 vwCl (mW g ad u) s.heap) (hl : lv_has ls 5 [(0, .ref (ad 0)), (3, .int x3)]) (hf : fX9_digest_L152 u K53 x3 y0 y1 = some r0) : W p l e (rmR 2 47) s m args below meth c s.heap [] 0 0 (MQ below (vp_Sl (fun r => r = r0)) args s 0 0 (fun _ => False)) (F0 m 152 ls [.long y1, .long y0]) := by
  rw [fX9_digest_L152] at hf
  refine lv_ladd C.1 C.2.1 dX9_digest_152 ?_
  refine lv_lstore_n (lv' := [(1, .long (y0 + y1)), (0, .ref (ad 0)), (3, .int x3)]) C.1 C.2.1 dX9_digest_153 rfl hl (by decide) rfl (fun ls hl => ?_)
  exact bX9_digest_L154 C hZ hK53 hP (lv_sub hl [1, 0, 2] rfl) hf
set_option maxRecDepth 100000 in
set_option maxHeartbeats 4000000 in
theorem bX9_digest_L80 {r0 : Int64} {K53 : Int64 → Int32 → Option Int64} (C : Cx p s m args meth c cX9_digest 5 RX9 (some .long) g) (hZ : SF (fun _ => False) s) (hK53 : ∀ (x1 : Int64) (x3 : Int32), ∀ (ls : Array Slot), lv_has ls 5 [(0, .ref (ad 0)), (1, .long x1), (3, .int x3)] → K53 x1 x3 = some r0 → W p l e (rmR 2 47) s m args below meth c s.heap [] 0 0 (MQ below (vp_Sl (fun r => r = r0)) args s 0 0 (fun _ => False)) (F0 m 53 ls [])) (n : Nat) : ∀ (x1 : Int64) (x3 : Int32) (x4 : Int32), va_P g.1 vwCl (mW g ad u) s.heap → ∀ (ls : Array Slot), lv_has ls 5 [(0, .ref (ad 0)), (1, .long x1), (3, .int x3), (4, .int x4)] → fX9_digest_L80 u K53 n x1 x3 x4 = some r0 → W p l e (rmR 2 47) s m args below meth c s.heap [] 0 0 (MQ below (vp_Sl (fun r => r = r0)) args s 0 0 (fun _ => False)) (F0 m 80 ls []) := by
  induction n with
  | zero =>
    intro x1 x3 x4 hP ls hl hf
    exact absurd hf (by simp [fX9_digest_L80])
  | succ n ih0 =>
    intro x1 x3 x4 hP ls hl hf
    have ih := fun (x1 : Int64) (x3 : Int32) (x4 : Int32) => ih0 x1 x3 x4 hP
    rw [fX9_digest_L80] at hf
    refine lv_iload C.1 C.2.1 dX9_digest_80 (lv_at hl 3 rfl) ?_
    refine lv_bipush (v := 6) C.1 C.2.1 dX9_digest_82 (by decide) ?_
    refine lv_icmp_ge (tgt := 108) C.1 C.2.1 dX9_digest_84 (by decide) (fun c5 => ?_) (fun c5 => ?_)
    · rw [if_pos c5] at hf
      refine lv_ldc2 (v := 31) C.1 C.2.1 C.2.2.2.1 (C.2.2.2.2.1 _ wKL_X9_341) dX9_digest_108 ?_
      refine lv_lload_n C.1 C.2.1 dX9_digest_111 rfl (lv_at hl 1 rfl) ?_
      refine lv_lmul C.1 C.2.1 dX9_digest_112 ?_
      refine lv_aload_n C.1 C.2.1 dX9_digest_113 rfl (lv_at hl 0 rfl) ?_
      refine gtm_X9_isMethod C hP wF_X9_29 dX9_digest_114 ?_
      refine lv_iload_n C.1 C.2.1 dX9_digest_117 rfl (lv_at hl 2 rfl) ?_
      obtain ⟨v6, hv6, hf⟩ := Option.bind_eq_some_iff.mp hf
      refine ldm_7 C hP hv6 dX9_digest_118 ?_
      refine lv_if_eq (tgt := 131) C.1 C.2.1 dX9_digest_119 (by decide) (fun c7 => ?_) (fun c7 => ?_)
      · rw [if_pos c7] at hf
        refine lv_aload_n C.1 C.2.1 dX9_digest_131 rfl (lv_at hl 0 rfl) ?_
        refine gtm_X9_mKind C hP wF_X9_41 dX9_digest_132 ?_
        refine lv_iload_n C.1 C.2.1 dX9_digest_135 rfl (lv_at hl 2 rfl) ?_
        obtain ⟨v8, hv8, hf⟩ := Option.bind_eq_some_iff.mp hf
        refine ldm_11 C hP hv8 dX9_digest_136 ?_
        refine lv_aload_n C.1 C.2.1 dX9_digest_137 rfl (lv_at hl 0 rfl) ?_
        refine gtm_X9_mValue C hP wF_X9_50 dX9_digest_138 ?_
        refine lv_iload_n C.1 C.2.1 dX9_digest_141 rfl (lv_at hl 2 rfl) ?_
        obtain ⟨v9, hv9, hf⟩ := Option.bind_eq_some_iff.mp hf
        refine ldm_14 C hP hv9 dX9_digest_142 ?_
        refine lv_aload_n C.1 C.2.1 dX9_digest_143 rfl (lv_at hl 0 rfl) ?_
        refine gtm_X9_mKind C hP wF_X9_41 dX9_digest_144 ?_
        refine lv_iload_n C.1 C.2.1 dX9_digest_147 rfl (lv_at hl 2 rfl) ?_
        obtain ⟨v10, hv10, hf⟩ := Option.bind_eq_some_iff.mp hf
        refine ldm_11 C hP hv10 dX9_digest_148 ?_
        obtain ⟨v11, hv11, hf⟩ := Option.bind_eq_some_iff.mp hf
        refine cSl (As := [.int v8, .long v9, .int v10]) (rest := [.long (31 * x1)]) C (mX9_comes hv11) vX9_comes wM_X9_270 ⟨Nat.le_of_ble_eq_true rfl, Nat.le_of_ble_eq_true rfl⟩ hP (fun U hU hW => SF.go hZ va_S.rf hU hW (fun _ h => h)) hl.1 rfl rfl (Nat.le_of_ble_eq_true rfl) dX9_digest_149 ⟨Nat.le_of_ble_eq_true rfl, Nat.le_of_ble_eq_true rfl⟩ ?_
        exact bX9_digest_L152 C hZ hK53 hP (lv_sub hl [0, 2] rfl) hf
      · rw [if_neg c7] at hf
        refine lv_aload_n C.1 C.2.1 dX9_digest_122 rfl (lv_at hl 0 rfl) ?_
        refine gtm_X9_mValue C hP wF_X9_50 dX9_digest_123 ?_
        refine lv_iload_n C.1 C.2.1 dX9_digest_126 rfl (lv_at hl 2 rfl) ?_
        obtain ⟨v12, hv12, hf⟩ := Option.bind_eq_some_iff.mp hf
        refine ldm_14 C hP hv12 dX9_digest_127 ?_
        refine lv_goto (tgt := 152) C.1 C.2.1 dX9_digest_128 (by decide) ?_
        exact bX9_digest_L152 C hZ hK53 hP (lv_sub hl [0, 2] rfl) hf
    · rw [if_neg c5] at hf
      refine lv_ldc2 (v := 31) C.1 C.2.1 C.2.2.2.1 (C.2.2.2.2.1 _ wKL_X9_341) dX9_digest_87 ?_
      refine lv_lload_n C.1 C.2.1 dX9_digest_90 rfl (lv_at hl 1 rfl) ?_
      refine lv_lmul C.1 C.2.1 dX9_digest_91 ?_
      refine lv_aload_n C.1 C.2.1 dX9_digest_92 rfl (lv_at hl 0 rfl) ?_
      refine lv_iload_n C.1 C.2.1 dX9_digest_93 rfl (lv_at hl 2 rfl) ?_
      refine lv_iload C.1 C.2.1 dX9_digest_94 (lv_at hl 3 rfl) ?_
      obtain ⟨v13, hv13, hf⟩ := Option.bind_eq_some_iff.mp hf
      refine cRi (As := [.int x3, .int x4]) (rest := [.long (31 * x1)]) C (mX9_memberOf hv13) vX9_memberOf wM_X9_336 ⟨Nat.le_of_ble_eq_true rfl, Nat.le_of_ble_eq_true rfl⟩ hP (rcm_X9 C hP) (fun U hU hW => SF.go hZ va_S.rf hU hW (fun _ h => h)) hl.1 rfl rfl (Nat.le_of_ble_eq_true rfl) dX9_digest_96 ⟨Nat.le_of_ble_eq_true rfl, Nat.le_of_ble_eq_true rfl⟩ ?_
      refine lv_i2l C.1 C.2.1 dX9_digest_99 rfl ?_
      refine lv_ladd C.1 C.2.1 dX9_digest_100 ?_
      refine lv_lstore_n (lv' := [(1, .long ((31 * x1) + ((v13 : Int32).toInt64))), (0, .ref (ad 0)), (3, .int x3), (4, .int x4)]) C.1 C.2.1 dX9_digest_101 rfl hl (by decide) rfl (fun ls hl => ?_)
      refine lv_iinc (v := (x4 + 1)) (lv' := [(4, .int (x4 + 1)), (1, .long ((31 * x1) + ((v13 : Int32).toInt64))), (0, .ref (ad 0)), (3, .int x3)]) C.1 C.2.1 dX9_digest_102 hl (k := 3) rfl rfl (by decide) rfl (fun ls hl => ?_)
      refine lv_goto (tgt := 80) C.1 C.2.1 dX9_digest_105 (by decide) ?_
      exact ih ((31 * x1) + ((v13 : Int32).toInt64)) x3 (x4 + 1) _ (lv_sub hl [2, 1, 3, 0] rfl) hf
set_option maxRecDepth 100000 in
set_option maxHeartbeats 4000000 in
theorem bX9_digest_L53 {r0 : Int64} (C : Cx p s m args meth c cX9_digest 5 RX9 (some .long) g) (hZ : SF (fun _ => False) s) (n : Nat) : ∀ (x1 : Int64) (x3 : Int32), va_P g.1 vwCl (mW g ad u) s.heap → ∀ (ls : Array Slot), lv_has ls 5 [(0, .ref (ad 0)), (1, .long x1), (3, .int x3)] → fX9_digest_L53 u n x1 x3 = some r0 → W p l e (rmR 2 47) s m args below meth c s.heap [] 0 0 (MQ below (vp_Sl (fun r => r = r0)) args s 0 0 (fun _ => False)) (F0 m 53 ls []) := by
  induction n with
  | zero =>
    intro x1 x3 hP ls hl hf
    exact absurd hf (by simp [fX9_digest_L53])
  | succ n ih0 =>
    intro x1 x3 hP ls hl hf
    have ih := fun (x1 : Int64) (x3 : Int32) => ih0 x1 x3 hP
    rw [fX9_digest_L53] at hf
    refine lv_iload_n C.1 C.2.1 dX9_digest_53 rfl (lv_at hl 2 rfl) ?_
    refine lv_bipush (v := 60) C.1 C.2.1 dX9_digest_54 (by decide) ?_
    refine lv_icmp_ge (tgt := 160) C.1 C.2.1 dX9_digest_56 (by decide) (fun c2 => ?_) (fun c2 => ?_)
    · rw [if_pos c2] at hf
      refine lv_ldc2 (v := 31) C.1 C.2.1 C.2.2.2.1 (C.2.2.2.2.1 _ wKL_X9_341) dX9_digest_160 ?_
      refine lv_lload_n C.1 C.2.1 dX9_digest_163 rfl (lv_at hl 1 rfl) ?_
      refine lv_lmul C.1 C.2.1 dX9_digest_164 ?_
      refine lv_aload_n C.1 C.2.1 dX9_digest_165 rfl (lv_at hl 0 rfl) ?_
      refine gtm_X9_edits C hP wF_X9_232 dX9_digest_166 ?_
      refine lv_i2l C.1 C.2.1 dX9_digest_169 rfl ?_
      refine lv_ladd C.1 C.2.1 dX9_digest_170 ?_
      exact endRl C hf dX9_digest_171
    · rw [if_neg c2] at hf
      refine lv_aload_n C.1 C.2.1 dX9_digest_59 rfl (lv_at hl 0 rfl) ?_
      refine gtm_X9_isMember C hP wF_X9_26 dX9_digest_60 ?_
      refine lv_iload_n C.1 C.2.1 dX9_digest_63 rfl (lv_at hl 2 rfl) ?_
      obtain ⟨v3, hv3, hf⟩ := Option.bind_eq_some_iff.mp hf
      refine ldm_6 C hP hv3 dX9_digest_64 ?_
      refine lv_if_eq (tgt := 154) C.1 C.2.1 dX9_digest_65 (by decide) (fun c4 => ?_) (fun c4 => ?_)
      · rw [if_pos c4] at hf
        exact bX9_digest_L154 C hZ ih hP (lv_sub hl [0, 1, 2] rfl) hf
      · rw [if_neg c4] at hf
        refine lv_ldc2 (v := 31) C.1 C.2.1 C.2.2.2.1 (C.2.2.2.2.1 _ wKL_X9_341) dX9_digest_68 ?_
        refine lv_lload_n C.1 C.2.1 dX9_digest_71 rfl (lv_at hl 1 rfl) ?_
        refine lv_lmul C.1 C.2.1 dX9_digest_72 ?_
        refine lv_iload_n C.1 C.2.1 dX9_digest_73 rfl (lv_at hl 2 rfl) ?_
        refine lv_i2l C.1 C.2.1 dX9_digest_74 rfl ?_
        refine lv_ladd C.1 C.2.1 dX9_digest_75 ?_
        refine lv_lstore_n (lv' := [(1, .long ((31 * x1) + ((x3 : Int32).toInt64))), (0, .ref (ad 0)), (3, .int x3)]) C.1 C.2.1 dX9_digest_76 rfl hl (by decide) rfl (fun ls hl => ?_)
        refine lv_iconst (v := 0) C.1 C.2.1 dX9_digest_77 (by decide) ?_
        refine lv_istore (lv' := [(4, .int 0), (1, .long ((31 * x1) + ((x3 : Int32).toInt64))), (0, .ref (ad 0)), (3, .int x3)]) C.1 C.2.1 dX9_digest_78 hl (by decide) rfl (fun ls hl => ?_)
        exact bX9_digest_L80 C hZ ih 5000 ((31 * x1) + ((x3 : Int32).toInt64)) x3 0 hP _ (lv_sub hl [2, 1, 3, 0] rfl) hf
set_option maxRecDepth 100000 in
set_option maxHeartbeats 4000000 in
theorem bX9_digest_L17 {r0 : Int64} {K6 : Int64 → Int32 → Option Int64} (C : Cx p s m args meth c cX9_digest 5 RX9 (some .long) g) (hZ : SF (fun _ => False) s) (hK6 : ∀ (x1 : Int64) (x3 : Int32), ∀ (ls : Array Slot), lv_has ls 5 [(0, .ref (ad 0)), (1, .long x1), (3, .int x3)] → K6 x1 x3 = some r0 → W p l e (rmR 2 47) s m args below meth c s.heap [] 0 0 (MQ below (vp_Sl (fun r => r = r0)) args s 0 0 (fun _ => False)) (F0 m 6 ls [])) (n : Nat) : ∀ (x1 : Int64) (x3 : Int32) (x4 : Int32), va_P g.1 vwCl (mW g ad u) s.heap → ∀ (ls : Array Slot), lv_has ls 5 [(0, .ref (ad 0)), (1, .long x1), (3, .int x3), (4, .int x4)] → fX9_digest_L17 u K6 n x1 x3 x4 = some r0 → W p l e (rmR 2 47) s m args below meth c s.heap [] 0 0 (MQ below (vp_Sl (fun r => r = r0)) args s 0 0 (fun _ => False)) (F0 m 17 ls []) := by
  induction n with
  | zero =>
    intro x1 x3 x4 hP ls hl hf
    exact absurd hf (by simp [fX9_digest_L17])
  | succ n ih0 =>
    intro x1 x3 x4 hP ls hl hf
    have ih := fun (x1 : Int64) (x3 : Int32) (x4 : Int32) => ih0 x1 x3 x4 hP
    rw [fX9_digest_L17] at hf
    refine lv_iload C.1 C.2.1 dX9_digest_17 (lv_at hl 3 rfl) ?_
    refine lv_bipush (v := 7) C.1 C.2.1 dX9_digest_19 (by decide) ?_
    refine lv_icmp_ge (tgt := 45) C.1 C.2.1 dX9_digest_21 (by decide) (fun c14 => ?_) (fun c14 => ?_)
    · rw [if_pos c14] at hf
      refine lv_iinc (v := (x3 + 1)) (lv' := [(3, .int (x3 + 1)), (0, .ref (ad 0)), (1, .long x1), (4, .int x4)]) C.1 C.2.1 dX9_digest_45 hl (k := 2) rfl rfl (by decide) rfl (fun ls hl => ?_)
      refine lv_goto (tgt := 6) C.1 C.2.1 dX9_digest_48 (by decide) ?_
      exact hK6 x1 (x3 + 1) _ (lv_sub hl [1, 2, 0] rfl) hf
    · rw [if_neg c14] at hf
      refine lv_ldc2 (v := 31) C.1 C.2.1 C.2.2.2.1 (C.2.2.2.2.1 _ wKL_X9_341) dX9_digest_24 ?_
      refine lv_lload_n C.1 C.2.1 dX9_digest_27 rfl (lv_at hl 1 rfl) ?_
      refine lv_lmul C.1 C.2.1 dX9_digest_28 ?_
      refine lv_aload_n C.1 C.2.1 dX9_digest_29 rfl (lv_at hl 0 rfl) ?_
      refine lv_iload_n C.1 C.2.1 dX9_digest_30 rfl (lv_at hl 2 rfl) ?_
      refine lv_iload C.1 C.2.1 dX9_digest_31 (lv_at hl 3 rfl) ?_
      obtain ⟨v15, hv15, hf⟩ := Option.bind_eq_some_iff.mp hf
      refine cRi (As := [.int x3, .int x4]) (rest := [.long (31 * x1)]) C (mX9_toldOf hv15) vX9_toldOf wM_X9_331 ⟨Nat.le_of_ble_eq_true rfl, Nat.le_of_ble_eq_true rfl⟩ hP (rcm_X9 C hP) (fun U hU hW => SF.go hZ va_S.rf hU hW (fun _ h => h)) hl.1 rfl rfl (Nat.le_of_ble_eq_true rfl) dX9_digest_33 ⟨Nat.le_of_ble_eq_true rfl, Nat.le_of_ble_eq_true rfl⟩ ?_
      refine lv_i2l C.1 C.2.1 dX9_digest_36 rfl ?_
      refine lv_ladd C.1 C.2.1 dX9_digest_37 ?_
      refine lv_lstore_n (lv' := [(1, .long ((31 * x1) + ((v15 : Int32).toInt64))), (0, .ref (ad 0)), (3, .int x3), (4, .int x4)]) C.1 C.2.1 dX9_digest_38 rfl hl (by decide) rfl (fun ls hl => ?_)
      refine lv_iinc (v := (x4 + 1)) (lv' := [(4, .int (x4 + 1)), (1, .long ((31 * x1) + ((v15 : Int32).toInt64))), (0, .ref (ad 0)), (3, .int x3)]) C.1 C.2.1 dX9_digest_39 hl (k := 3) rfl rfl (by decide) rfl (fun ls hl => ?_)
      refine lv_goto (tgt := 17) C.1 C.2.1 dX9_digest_42 (by decide) ?_
      exact ih ((31 * x1) + ((v15 : Int32).toInt64)) x3 (x4 + 1) _ (lv_sub hl [2, 1, 3, 0] rfl) hf
set_option maxRecDepth 100000 in
set_option maxHeartbeats 4000000 in
theorem bX9_digest_L6 {r0 : Int64} (C : Cx p s m args meth c cX9_digest 5 RX9 (some .long) g) (hZ : SF (fun _ => False) s) (n : Nat) : ∀ (x1 : Int64) (x3 : Int32), va_P g.1 vwCl (mW g ad u) s.heap → ∀ (ls : Array Slot), lv_has ls 5 [(0, .ref (ad 0)), (1, .long x1), (3, .int x3)] → fX9_digest_L6 u n x1 x3 = some r0 → W p l e (rmR 2 47) s m args below meth c s.heap [] 0 0 (MQ below (vp_Sl (fun r => r = r0)) args s 0 0 (fun _ => False)) (F0 m 6 ls []) := by
  induction n with
  | zero =>
    intro x1 x3 hP ls hl hf
    exact absurd hf (by simp [fX9_digest_L6])
  | succ n ih0 =>
    intro x1 x3 hP ls hl hf
    have ih := fun (x1 : Int64) (x3 : Int32) => ih0 x1 x3 hP
    rw [fX9_digest_L6] at hf
    refine lv_iload_n C.1 C.2.1 dX9_digest_6 rfl (lv_at hl 2 rfl) ?_
    refine lv_aload_n C.1 C.2.1 dX9_digest_7 rfl (lv_at hl 0 rfl) ?_
    refine gtm_X9_types C hP wF_X9_129 dX9_digest_8 ?_
    refine lv_icmp_ge (tgt := 51) C.1 C.2.1 dX9_digest_11 (by decide) (fun c1 => ?_) (fun c1 => ?_)
    · rw [if_pos c1] at hf
      refine lv_iconst (v := 0) C.1 C.2.1 dX9_digest_51 (by decide) ?_
      refine lv_istore_n (lv' := [(3, .int 0), (0, .ref (ad 0)), (1, .long x1)]) C.1 C.2.1 dX9_digest_52 rfl hl (by decide) rfl (fun ls hl => ?_)
      exact bX9_digest_L53 C hZ 5000 x1 0 hP _ (lv_sub hl [1, 2, 0] rfl) hf
    · rw [if_neg c1] at hf
      refine lv_iconst (v := 0) C.1 C.2.1 dX9_digest_14 (by decide) ?_
      refine lv_istore (lv' := [(4, .int 0), (0, .ref (ad 0)), (1, .long x1), (3, .int x3)]) C.1 C.2.1 dX9_digest_15 hl (by decide) rfl (fun ls hl => ?_)
      exact bX9_digest_L17 C hZ ih 5000 x1 x3 0 hP _ (lv_sub hl [1, 2, 3, 0] rfl) hf
set_option maxRecDepth 100000 in
set_option maxHeartbeats 4000000 in
theorem mX9_digest {r0 : Int64} (hf : fX9_digest u = some r0) : MRl l yX9_digest cX9_digest 5 (some .long) 2 47 [.ref (ad 0)] g (mW g ad u) r0 := by
  refine entR (by decide) (Nat.le_of_ble_eq_true rfl) ?_
  intro p e s m below meth c ls C hP hZ hl
  have hl : lv_has ls 5 [(0, .ref (ad 0))] := hl
  rw [fX9_digest] at hf
  refine lv_ldc2 (v := 17) C.1 C.2.1 C.2.2.2.1 (C.2.2.2.2.1 _ wKL_X9_339) dX9_digest_0 ?_
  refine lv_lstore_n (lv' := [(1, .long 17), (0, .ref (ad 0))]) C.1 C.2.1 dX9_digest_3 rfl hl (by decide) rfl (fun ls hl => ?_)
  refine lv_iconst (v := 0) C.1 C.2.1 dX9_digest_4 (by decide) ?_
  refine lv_istore_n (lv' := [(3, .int 0), (1, .long 17), (0, .ref (ad 0))]) C.1 C.2.1 dX9_digest_5 rfl hl (by decide) rfl (fun ls hl => ?_)
  exact bX9_digest_L6 C hZ 5000 17 0 hP _ (lv_sub hl [2, 1, 0] rfl) hf
end
theorem vX9_digest : YV yX9_digest cX9_digest 5 (some .long) 0 := ⟨⟨wK_X9_digest, wZ_X9, by decide +kernel⟩, wI_X9_digest, wV_X9_digest⟩
