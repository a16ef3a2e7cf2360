def fX0_init (u : ST) (x0 : Nat) : Option ST :=
  some u
section
variable {p : Program} {l : Launch} {e : Env} {s : State} {m : MethodId} {args : Array Value} {below : List Frame} {meth : Method} {c : Code} {H : Heap} {locs : List Loc} {g : GP} {ls : Array Slot} {A : Nat → Prop} {ad : Nat → Nat} {u : ST}
set_option maxRecDepth 100000 in
set_option maxHeartbeats 4000000 in
theorem mX0_init {u0 : ST} {x0 : Nat} (hf : fX0_init u x0 = some u0) : MWv l yX0_init cX0_init 1 none 1 20 0 0 [.ref x0] g (cW g ad) u u0 := by
  refine entWI (Qc := fun A => va_Qv (fun v => v = u0) (BW g A (cW g ad)) A) (by decide) rfl (Nat.le_of_ble_eq_true rfl) ?_
  intro p e s m below meth c ls A hin C hP hD hS hA hZ hl
  have hl : lv_has ls 1 [(0, .ref x0)] := hl
  rw [fX0_init] at hf
  refine lv_aload_n C.1 C.2.1 dX0_init_0 rfl (lv_at hl 0 rfl) ?_
  refine W.objInit C.1 C.2.1 C.2.2.2.1 (C.2.2.2.2.1 _ wM_X0_3) (C.2.2.2.2.1 _ wI_java_lang_Object__init____V) (C.2.2.2.2.1 _ wK_java_lang_Object__init____V) rfl (by rw [C.2.2.1]; exact hl.1) rfl dX0_init_1 (Nat.le_of_ble_eq_true rfl) (Nat.le_of_ble_eq_true rfl) ?_
  refine W.eq (g2 := F0 m 4 ls []) rfl ?_
  exact endWv C hP hD hS (Nat.le_refl _) (Nat.le_refl _) hf dX0_init_4
end
theorem vX0_init : YI yX0_init cX0_init 1 0 := ⟨⟨wK_X0_init, wZ_X0, by decide +kernel⟩, rfl, wI_X0_init⟩
def fX7_areMarks (u : ST) (x0 : Int32) : Option Int32 :=
  if x0 < 0 then
    some 0
  else
    if 3 < x0 then
      some 0
    else
      some 1
section
variable {p : Program} {l : Launch} {e : Env} {s : State} {m : MethodId} {args : Array Value} {below : List Frame} {meth : Method} {c : Code} {H : Heap} {locs : List Loc} {g : GP} {ls : Array Slot} {A : Nat → Prop} {ad : Nat → Nat} {u : ST}
set_option maxRecDepth 100000 in
set_option maxHeartbeats 4000000 in
theorem mX7_areMarks {r0 : Int32} {x0 : Int32} (hf : fX7_areMarks u x0 = some r0) : MRi l yX7_areMarks cX7_areMarks 1 (some .boolean) 0 0 [.int x0] g (cW g ad u) r0 := by
  refine entR (by decide) (Nat.le_of_ble_eq_true rfl) ?_
  intro p e s m below meth c ls C hP hZ hl
  have hl : lv_has ls 1 [(0, .int x0)] := hl
  rw [fX7_areMarks] at hf
  refine lv_iload_n C.1 C.2.1 dX7_areMarks_0 rfl (lv_at hl 0 rfl) ?_
  refine lv_if_lt (tgt := 13) C.1 C.2.1 dX7_areMarks_1 (by decide) (fun c1 => ?_) (fun c1 => ?_)
  · rw [if_pos c1] at hf
    refine lv_iconst (v := 0) C.1 C.2.1 dX7_areMarks_13 (by decide) ?_
    exact endRz C rfl hf dX7_areMarks_14
  · rw [if_neg c1] at hf
    refine lv_iload_n C.1 C.2.1 dX7_areMarks_4 rfl (lv_at hl 0 rfl) ?_
    refine lv_iconst (v := 3) C.1 C.2.1 dX7_areMarks_5 (by decide) ?_
    refine lv_icmp_gt (tgt := 13) C.1 C.2.1 dX7_areMarks_6 (by decide) (fun c2 => ?_) (fun c2 => ?_)
    · rw [if_pos c2] at hf
      refine lv_iconst (v := 0) C.1 C.2.1 dX7_areMarks_13 (by decide) ?_
      exact endRz C rfl hf dX7_areMarks_14
    · rw [if_neg c2] at hf
      refine lv_iconst (v := 1) C.1 C.2.1 dX7_areMarks_9 (by decide) ?_
      refine lv_goto (tgt := 14) C.1 C.2.1 dX7_areMarks_10 (by decide) ?_
      exact endRz C rfl hf dX7_areMarks_14
end
theorem vX7_areMarks : YS yX7_areMarks cX7_areMarks 1 (some .boolean) 1 := ⟨⟨wK_X7_areMarks, wZ_X7, by decide +kernel⟩, wS_X7_areMarks⟩
def fX7_isClass (u : ST) (x1 : Int32) : Option Int32 :=
  if x1 < 0 then
    some 0
  else
    if (sI u 200) ≤ x1 then
      some 0
    else
      (rdI u 8 12 x1).bind fun v3 =>
      if v3 = 0 then
        some 1
      else
        some 0
section
variable {p : Program} {l : Launch} {e : Env} {s : State} {m : MethodId} {args : Array Value} {below : List Frame} {meth : Method} {c : Code} {H : Heap} {locs : List Loc} {g : GP} {ls : Array Slot} {A : Nat → Prop} {ad : Nat → Nat} {u : ST}
set_option maxRecDepth 100000 in
set_option maxHeartbeats 4000000 in
theorem mX7_isClass {r0 : Int32} {x1 : Int32} (hf : fX7_isClass u x1 = some r0) : MRi l yX7_isClass cX7_isClass 2 (some .boolean) 0 0 [.ref (ad 2), .int x1] g (cW g ad u) r0 := by
  refine entR (by decide) (Nat.le_of_ble_eq_true rfl) ?_
  intro p e s m below meth c ls C hP hZ hl
  have hl : lv_has ls 2 [(0, .ref (ad 2)), (1, .int x1)] := hl
  rw [fX7_isClass] at hf
  refine lv_iload_n C.1 C.2.1 dX7_isClass_0 rfl (lv_at hl 1 rfl) ?_
  refine lv_if_lt (tgt := 25) C.1 C.2.1 dX7_isClass_1 (by decide) (fun c1 => ?_) (fun c1 => ?_)
  · rw [if_pos c1] at hf
    refine lv_iconst (v := 0) C.1 C.2.1 dX7_isClass_25 (by decide) ?_
    exact endRz C rfl hf dX7_isClass_26
  · rw [if_neg c1] at hf
    refine lv_iload_n C.1 C.2.1 dX7_isClass_4 rfl (lv_at hl 1 rfl) ?_
    refine lv_aload_n C.1 C.2.1 dX7_isClass_5 rfl (lv_at hl 0 rfl) ?_
    refine gtc_X7_size C hP wF_X7_34 dX7_isClass_6 ?_
    refine lv_icmp_ge (tgt := 25) C.1 C.2.1 dX7_isClass_9 (by decide) (fun c2 => ?_) (fun c2 => ?_)
    · rw [if_pos c2] at hf
      refine lv_iconst (v := 0) C.1 C.2.1 dX7_isClass_25 (by decide) ?_
      exact endRz C rfl hf dX7_isClass_26
    · rw [if_neg c2] at hf
      refine lv_aload_n C.1 C.2.1 dX7_isClass_12 rfl (lv_at hl 0 rfl) ?_
      refine gtc_X7_isFace C hP wF_X7_11 dX7_isClass_13 ?_
      refine lv_iload_n C.1 C.2.1 dX7_isClass_16 rfl (lv_at hl 1 rfl) ?_
      obtain ⟨v3, hv3, hf⟩ := Option.bind_eq_some_iff.mp hf
      refine ldc_8 C hP hv3 dX7_isClass_17 ?_
      refine lv_if_ne (tgt := 25) C.1 C.2.1 dX7_isClass_18 (by decide) (fun c4 => ?_) (fun c4 => ?_)
      · rw [if_neg c4] at hf
        refine lv_iconst (v := 0) C.1 C.2.1 dX7_isClass_25 (by decide) ?_
        exact endRz C rfl hf dX7_isClass_26
      · rw [if_pos c4] at hf
        refine lv_iconst (v := 1) C.1 C.2.1 dX7_isClass_21 (by decide) ?_
        refine lv_goto (tgt := 26) C.1 C.2.1 dX7_isClass_22 (by decide) ?_
        exact endRz C rfl hf dX7_isClass_26
end
theorem vX7_isClass : YV yX7_isClass cX7_isClass 2 (some .boolean) 1 := ⟨⟨wK_X7_isClass, wZ_X7, by decide +kernel⟩, wI_X7_isClass, wV_X7_isClass⟩
def fX7_mayCome (u : ST) (x1 : Int32) (x2 : Int32) (x3 : Int32) : Option Int32 :=
  (fX7_areMarks u x3).bind fun v1 =>
  if v1 = 0 then
    some 0
  else
    if x2 = (-2) then
      some 1
    else
      if x1 = 0 then
        (fX7_isClass u x2).bind fun v5 =>
        if v5 = 0 then
          some 0
        else
          some 1
      else
        some 0
section
variable {p : Program} {l : Launch} {e : Env} {s : State} {m : MethodId} {args : Array Value} {below : List Frame} {meth : Method} {c : Code} {H : Heap} {locs : List Loc} {g : GP} {ls : Array Slot} {A : Nat → Prop} {ad : Nat → Nat} {u : ST}
set_option maxRecDepth 100000 in
set_option maxHeartbeats 4000000 in
theorem mX7_mayCome {r0 : Int32} {x1 : Int32} {x2 : Int32} {x3 : Int32} (hf : fX7_mayCome u x1 x2 x3 = some r0) : MRi l yX7_mayCome cX7_mayCome 4 (some .boolean) 1 21 [.ref (ad 2), .int x1, .int x2, .int x3] g (cW g ad u) r0 := by
  refine entR (by decide) (Nat.le_of_ble_eq_true rfl) ?_
  intro p e s m below meth c ls C hP hZ hl
  have hl : lv_has ls 4 [(0, .ref (ad 2)), (1, .int x1), (2, .int x2), (3, .int x3)] := hl
  rw [fX7_mayCome] at hf
  refine lv_iload_n C.1 C.2.1 dX7_mayCome_0 rfl (lv_at hl 3 rfl) ?_
  obtain ⟨v1, hv1, hf⟩ := Option.bind_eq_some_iff.mp hf
  refine cSi (As := [.int x3]) (rest := []) C (mX7_areMarks hv1) vX7_areMarks wM_X7_49 ⟨Nat.le_of_ble_eq_true rfl, Nat.le_of_ble_eq_true rfl⟩ hP (fun U hU hW => SF.go hZ va_S.rf hU hW (fun _ h => h)) hl.1 rfl rfl (Nat.le_of_ble_eq_true rfl) dX7_mayCome_1 ⟨Nat.le_of_ble_eq_true rfl, Nat.le_of_ble_eq_true rfl⟩ ?_
  refine lv_if_eq (tgt := 29) C.1 C.2.1 dX7_mayCome_4 (by decide) (fun c2 => ?_) (fun c2 => ?_)
  · rw [if_pos c2] at hf
    refine lv_iconst (v := 0) C.1 C.2.1 dX7_mayCome_29 (by decide) ?_
    exact endRz C rfl hf dX7_mayCome_30
  · rw [if_neg c2] at hf
    refine lv_iload_n C.1 C.2.1 dX7_mayCome_7 rfl (lv_at hl 2 rfl) ?_
    refine lv_bipush (v := -2) C.1 C.2.1 dX7_mayCome_8 (by decide) ?_
    refine lv_icmp_eq (tgt := 25) C.1 C.2.1 dX7_mayCome_10 (by decide) (fun c3 => ?_) (fun c3 => ?_)
    · rw [if_pos c3] at hf
      refine lv_iconst (v := 1) C.1 C.2.1 dX7_mayCome_25 (by decide) ?_
      refine lv_goto (tgt := 30) C.1 C.2.1 dX7_mayCome_26 (by decide) ?_
      exact endRz C rfl hf dX7_mayCome_30
    · rw [if_neg c3] at hf
      refine lv_iload_n C.1 C.2.1 dX7_mayCome_13 rfl (lv_at hl 1 rfl) ?_
      refine lv_if_ne (tgt := 29) C.1 C.2.1 dX7_mayCome_14 (by decide) (fun c4 => ?_) (fun c4 => ?_)
      · rw [if_neg c4] at hf
        refine lv_iconst (v := 0) C.1 C.2.1 dX7_mayCome_29 (by decide) ?_
        exact endRz C rfl hf dX7_mayCome_30
      · rw [if_pos c4] at hf
        refine lv_aload_n C.1 C.2.1 dX7_mayCome_17 rfl (lv_at hl 0 rfl) ?_
        refine lv_iload_n C.1 C.2.1 dX7_mayCome_18 rfl (lv_at hl 2 rfl) ?_
        obtain ⟨v5, hv5, hf⟩ := Option.bind_eq_some_iff.mp hf
        refine cRi (As := [.int x2]) (rest := []) C (mX7_isClass hv5) vX7_isClass wM_X7_52 ⟨Nat.le_of_ble_eq_true rfl, Nat.le_of_ble_eq_true rfl⟩ hP (rcc_X7 C hP) (fun U hU hW => SF.go hZ va_S.rf hU hW (fun _ h => h)) hl.1 rfl rfl (Nat.le_of_ble_eq_true rfl) dX7_mayCome_19 ⟨Nat.le_of_ble_eq_true rfl, Nat.le_of_ble_eq_true rfl⟩ ?_
        refine lv_if_eq (tgt := 29) C.1 C.2.1 dX7_mayCome_22 (by decide) (fun c6 => ?_) (fun c6 => ?_)
        · rw [if_pos c6] at hf
          refine lv_iconst (v := 0) C.1 C.2.1 dX7_mayCome_29 (by decide) ?_
          exact endRz C rfl hf dX7_mayCome_30
        · rw [if_neg c6] at hf
          refine lv_iconst (v := 1) C.1 C.2.1 dX7_mayCome_25 (by decide) ?_
          refine lv_goto (tgt := 30) C.1 C.2.1 dX7_mayCome_26 (by decide) ?_
          exact endRz C rfl hf dX7_mayCome_30
end
theorem vX7_mayCome : YV yX7_mayCome cX7_mayCome 4 (some .boolean) 3 := ⟨⟨wK_X7_mayCome, wZ_X7, by decide +kernel⟩, wI_X7_mayCome, wV_X7_mayCome⟩
def fX1_init (u : ST) (x0 : Nat) (x1 : Int32) (x2 : Int32) (x3 : Int32) (x4 : Int32) (x5 : Int32) (x6 : Int32) (x7 : Int64) : Option ST :=
  (weI u x0 0 x1).bind fun u1 =>
  (weI u1 x0 1 x2).bind fun u2 =>
  (weI u2 x0 2 x3).bind fun u3 =>
  (weI u3 x0 3 x4).bind fun u4 =>
  (weI u4 x0 4 x5).bind fun u5 =>
  (weI u5 x0 5 x6).bind fun u6 =>
  (weV u6 x0 x7).bind fun u7 =>
  some u7
section
variable {p : Program} {l : Launch} {e : Env} {s : State} {m : MethodId} {args : Array Value} {below : List Frame} {meth : Method} {c : Code} {H : Heap} {locs : List Loc} {g : GP} {ls : Array Slot} {A : Nat → Prop} {ad : Nat → Nat} {u : ST}
set_option maxRecDepth 100000 in
set_option maxHeartbeats 4000000 in
theorem mX1_init {u0 : ST} {x0 : Nat} {x1 : Int32} {x2 : Int32} {x3 : Int32} {x4 : Int32} {x5 : Int32} {x6 : Int32} {x7 : Int64} (hf : fX1_init u x0 x1 x2 x3 x4 x5 x6 x7 = some u0) : MWv l yX1_init cX1_init 9 none 1 20 0 0 [.ref x0, .int x1, .int x2, .int x3, .int x4, .int x5, .int x6, .long x7] g (cW g ad) u u0 := by
  refine entWI (Qc := fun A => va_Qv (fun v => v = u0) (BW g A (cW g ad)) A) (by decide) rfl (Nat.le_of_ble_eq_true rfl) ?_
  intro p e s m below meth c ls A hin C hP hD hS hA hZ hl
  have hl : lv_has ls 9 [(0, .ref x0), (1, .int x1), (2, .int x2), (3, .int x3), (4, .int x4), (5, .int x5), (6, .int x6), (7, .long x7)] := hl
  rw [fX1_init] at hf
  refine lv_aload_n C.1 C.2.1 dX1_init_0 rfl (lv_at hl 0 rfl) ?_
  refine W.objInit C.1 C.2.1 C.2.2.2.1 (C.2.2.2.2.1 _ wM_X1_1) (C.2.2.2.2.1 _ wI_java_lang_Object__init____V) (C.2.2.2.2.1 _ wK_java_lang_Object__init____V) rfl (by rw [C.2.2.1]; exact hl.1) rfl dX1_init_1 (Nat.le_of_ble_eq_true rfl) (Nat.le_of_ble_eq_true rfl) ?_
  refine W.eq (g2 := F0 m 4 ls []) rfl ?_
  refine lv_aload_n C.1 C.2.1 dX1_init_4 rfl (lv_at hl 0 rfl) ?_
  refine lv_iload_n C.1 C.2.1 dX1_init_5 rfl (lv_at hl 1 rfl) ?_
  obtain ⟨u1, hu1, hf⟩ := Option.bind_eq_some_iff.mp hf
  refine pE_sort C hP hD hS hu1 wF_X1_7 hin rfl dX1_init_6 (fun H locs hP hD hS => ?_)
  refine lv_aload_n C.1 C.2.1 dX1_init_9 rfl (lv_at hl 0 rfl) ?_
  refine lv_iload_n C.1 C.2.1 dX1_init_10 rfl (lv_at hl 2 rfl) ?_
  obtain ⟨u2, hu2, hf⟩ := Option.bind_eq_some_iff.mp hf
  refine pE_a C hP hD hS hu2 wF_X1_13 hin rfl dX1_init_11 (fun H locs hP hD hS => ?_)
  refine lv_aload_n C.1 C.2.1 dX1_init_14 rfl (lv_at hl 0 rfl) ?_
  refine lv_iload_n C.1 C.2.1 dX1_init_15 rfl (lv_at hl 3 rfl) ?_
  obtain ⟨u3, hu3, hf⟩ := Option.bind_eq_some_iff.mp hf
  refine pE_b C hP hD hS hu3 wF_X1_16 hin rfl dX1_init_16 (fun H locs hP hD hS => ?_)
  refine lv_aload_n C.1 C.2.1 dX1_init_19 rfl (lv_at hl 0 rfl) ?_
  refine lv_iload C.1 C.2.1 dX1_init_20 (lv_at hl 4 rfl) ?_
  obtain ⟨u4, hu4, hf⟩ := Option.bind_eq_some_iff.mp hf
  refine pE_c C hP hD hS hu4 wF_X1_19 hin rfl dX1_init_22 (fun H locs hP hD hS => ?_)
  refine lv_aload_n C.1 C.2.1 dX1_init_25 rfl (lv_at hl 0 rfl) ?_
  refine lv_iload C.1 C.2.1 dX1_init_26 (lv_at hl 5 rfl) ?_
  obtain ⟨u5, hu5, hf⟩ := Option.bind_eq_some_iff.mp hf
  refine pE_d C hP hD hS hu5 wF_X1_22 hin rfl dX1_init_28 (fun H locs hP hD hS => ?_)
  refine lv_aload_n C.1 C.2.1 dX1_init_31 rfl (lv_at hl 0 rfl) ?_
  refine lv_iload C.1 C.2.1 dX1_init_32 (lv_at hl 6 rfl) ?_
  obtain ⟨u6, hu6, hf⟩ := Option.bind_eq_some_iff.mp hf
  refine pE_e C hP hD hS hu6 wF_X1_25 hin rfl dX1_init_34 (fun H locs hP hD hS => ?_)
  refine lv_aload_n C.1 C.2.1 dX1_init_37 rfl (lv_at hl 0 rfl) ?_
  refine lv_lload C.1 C.2.1 dX1_init_38 (lv_at hl 7 rfl) ?_
  obtain ⟨u7, hu7, hf⟩ := Option.bind_eq_some_iff.mp hf
  refine pE_v C hP hD hS hu7 wF_X1_28 hin rfl dX1_init_40 (fun H locs hP hD hS => ?_)
  exact endWv C hP hD hS (Nat.le_refl _) (Nat.le_refl _) hf dX1_init_43
end
theorem vX1_init : YI yX1_init cX1_init 9 7 := ⟨⟨wK_X1_init, wZ_X1, by decide +kernel⟩, rfl, wI_X1_init⟩
def fX7_whatIsAbove (u : ST) (x1 : Int32) : Option Int32 :=
  if x1 < 0 then
    some (-2)
  else
    if (sI u 200) ≤ x1 then
      some (-2)
    else
      (rdI u 9 12 x1).bind fun v3 =>
      some v3
section
variable {p : Program} {l : Launch} {e : Env} {s : State} {m : MethodId} {args : Array Value} {below : List Frame} {meth : Method} {c : Code} {H : Heap} {locs : List Loc} {g : GP} {ls : Array Slot} {A : Nat → Prop} {ad : Nat → Nat} {u : ST}
set_option maxRecDepth 100000 in
set_option maxHeartbeats 4000000 in
theorem mX7_whatIsAbove {r0 : Int32} {x1 : Int32} (hf : fX7_whatIsAbove u x1 = some r0) : MRi l yX7_whatIsAbove cX7_whatIsAbove 2 (some .int) 0 0 [.ref (ad 2), .int x1] g (cW g ad u) r0 := by
  refine entR (by decide) (Nat.le_of_ble_eq_true rfl) ?_
  intro p e s m below meth c ls C hP hZ hl
  have hl : lv_has ls 2 [(0, .ref (ad 2)), (1, .int x1)] := hl
  rw [fX7_whatIsAbove] at hf
  refine lv_iload_n C.1 C.2.1 dX7_whatIsAbove_0 rfl (lv_at hl 1 rfl) ?_
  refine lv_if_lt (tgt := 21) C.1 C.2.1 dX7_whatIsAbove_1 (by decide) (fun c1 => ?_) (fun c1 => ?_)
  · rw [if_pos c1] at hf
    refine lv_bipush (v := -2) C.1 C.2.1 dX7_whatIsAbove_21 (by decide) ?_
    exact endRi C hf dX7_whatIsAbove_23
  · rw [if_neg c1] at hf
    refine lv_iload_n C.1 C.2.1 dX7_whatIsAbove_4 rfl (lv_at hl 1 rfl) ?_
    refine lv_aload_n C.1 C.2.1 dX7_whatIsAbove_5 rfl (lv_at hl 0 rfl) ?_
    refine gtc_X7_size C hP wF_X7_34 dX7_whatIsAbove_6 ?_
    refine lv_icmp_ge (tgt := 21) C.1 C.2.1 dX7_whatIsAbove_9 (by decide) (fun c2 => ?_) (fun c2 => ?_)
    · rw [if_pos c2] at hf
      refine lv_bipush (v := -2) C.1 C.2.1 dX7_whatIsAbove_21 (by decide) ?_
      exact endRi C hf dX7_whatIsAbove_23
    · rw [if_neg c2] at hf
      refine lv_aload_n C.1 C.2.1 dX7_whatIsAbove_12 rfl (lv_at hl 0 rfl) ?_
      refine gtc_X7_above C hP wF_X7_15 dX7_whatIsAbove_13 ?_
      refine lv_iload_n C.1 C.2.1 dX7_whatIsAbove_16 rfl (lv_at hl 1 rfl) ?_
      obtain ⟨v3, hv3, hf⟩ := Option.bind_eq_some_iff.mp hf
      refine ldc_9 C hP hv3 dX7_whatIsAbove_17 ?_
      refine lv_goto (tgt := 23) C.1 C.2.1 dX7_whatIsAbove_18 (by decide) ?_
      exact endRi C hf dX7_whatIsAbove_23
end
theorem vX7_whatIsAbove : YV yX7_whatIsAbove cX7_whatIsAbove 2 (some .int) 1 := ⟨⟨wK_X7_whatIsAbove, wZ_X7, by decide +kernel⟩, wI_X7_whatIsAbove, wV_X7_whatIsAbove⟩
def fX7_isType (u : ST) (x1 : Int32) : Option Int32 :=
  if x1 < 0 then
    some 0
  else
    if (sI u 200) ≤ x1 then
      some 0
    else
      some 1
section
variable {p : Program} {l : Launch} {e : Env} {s : State} {m : MethodId} {args : Array Value} {below : List Frame} {meth : Method} {c : Code} {H : Heap} {locs : List Loc} {g : GP} {ls : Array Slot} {A : Nat → Prop} {ad : Nat → Nat} {u : ST}
set_option maxRecDepth 100000 in
set_option maxHeartbeats 4000000 in
theorem mX7_isType {r0 : Int32} {x1 : Int32} (hf : fX7_isType u x1 = some r0) : MRi l yX7_isType cX7_isType 2 (some .boolean) 0 0 [.ref (ad 2), .int x1] g (cW g ad u) r0 := by
  refine entR (by decide) (Nat.le_of_ble_eq_true rfl) ?_
  intro p e s m below meth c ls C hP hZ hl
  have hl : lv_has ls 2 [(0, .ref (ad 2)), (1, .int x1)] := hl
  rw [fX7_isType] at hf
  refine lv_iload_n C.1 C.2.1 dX7_isType_0 rfl (lv_at hl 1 rfl) ?_
  refine lv_if_lt (tgt := 16) C.1 C.2.1 dX7_isType_1 (by decide) (fun c1 => ?_) (fun c1 => ?_)
  · rw [if_pos c1] at hf
    refine lv_iconst (v := 0) C.1 C.2.1 dX7_isType_16 (by decide) ?_
    exact endRz C rfl hf dX7_isType_17
  · rw [if_neg c1] at hf
    refine lv_iload_n C.1 C.2.1 dX7_isType_4 rfl (lv_at hl 1 rfl) ?_
    refine lv_aload_n C.1 C.2.1 dX7_isType_5 rfl (lv_at hl 0 rfl) ?_
    refine gtc_X7_size C hP wF_X7_34 dX7_isType_6 ?_
    refine lv_icmp_ge (tgt := 16) C.1 C.2.1 dX7_isType_9 (by decide) (fun c2 => ?_) (fun c2 => ?_)
    · rw [if_pos c2] at hf
      refine lv_iconst (v := 0) C.1 C.2.1 dX7_isType_16 (by decide) ?_
      exact endRz C rfl hf dX7_isType_17
    · rw [if_neg c2] at hf
      refine lv_iconst (v := 1) C.1 C.2.1 dX7_isType_12 (by decide) ?_
      refine lv_goto (tgt := 17) C.1 C.2.1 dX7_isType_13 (by decide) ?_
      exact endRz C rfl hf dX7_isType_17
end
theorem vX7_isType : YV yX7_isType cX7_isType 2 (some .boolean) 1 := ⟨⟨wK_X7_isType, wZ_X7, by decide +kernel⟩, wI_X7_isType, wV_X7_isType⟩
def fX7_faceAt (u : ST) (x1 : Int32) (x2 : Int32) : Option Int32 :=
  if x1 < 0 then
    some (-2)
  else
    if (sI u 200) ≤ x1 then
      some (-2)
    else
      if x2 < 0 then
        some (-2)
      else
        (rdI u 11 12 x1).bind fun v4 =>
        if v4 ≤ x2 then
          some (-2)
        else
          (rdI u 12 36 ((x1 * 3) + x2)).bind fun v6 =>
          some v6
section
variable {p : Program} {l : Launch} {e : Env} {s : State} {m : MethodId} {args : Array Value} {below : List Frame} {meth : Method} {c : Code} {H : Heap} {locs : List Loc} {g : GP} {ls : Array Slot} {A : Nat → Prop} {ad : Nat → Nat} {u : ST}
set_option maxRecDepth 100000 in
set_option maxHeartbeats 4000000 in
theorem mX7_faceAt {r0 : Int32} {x1 : Int32} {x2 : Int32} (hf : fX7_faceAt u x1 x2 = some r0) : MRi l yX7_faceAt cX7_faceAt 3 (some .int) 0 0 [.ref (ad 2), .int x1, .int x2] g (cW g ad u) r0 := by
  refine entR (by decide) (Nat.le_of_ble_eq_true rfl) ?_
  intro p e s m below meth c ls C hP hZ hl
  have hl : lv_has ls 3 [(0, .ref (ad 2)), (1, .int x1), (2, .int x2)] := hl
  rw [fX7_faceAt] at hf
  refine lv_iload_n C.1 C.2.1 dX7_faceAt_0 rfl (lv_at hl 1 rfl) ?_
  refine lv_if_lt (tgt := 39) C.1 C.2.1 dX7_faceAt_1 (by decide) (fun c1 => ?_) (fun c1 => ?_)
  · rw [if_pos c1] at hf
    refine lv_bipush (v := -2) C.1 C.2.1 dX7_faceAt_39 (by decide) ?_
    exact endRi C hf dX7_faceAt_41
  · rw [if_neg c1] at hf
    refine lv_iload_n C.1 C.2.1 dX7_faceAt_4 rfl (lv_at hl 1 rfl) ?_
    refine lv_aload_n C.1 C.2.1 dX7_faceAt_5 rfl (lv_at hl 0 rfl) ?_
    refine gtc_X7_size C hP wF_X7_34 dX7_faceAt_6 ?_
    refine lv_icmp_ge (tgt := 39) C.1 C.2.1 dX7_faceAt_9 (by decide) (fun c2 => ?_) (fun c2 => ?_)
    · rw [if_pos c2] at hf
      refine lv_bipush (v := -2) C.1 C.2.1 dX7_faceAt_39 (by decide) ?_
      exact endRi C hf dX7_faceAt_41
    · rw [if_neg c2] at hf
      refine lv_iload_n C.1 C.2.1 dX7_faceAt_12 rfl (lv_at hl 2 rfl) ?_
      refine lv_if_lt (tgt := 39) C.1 C.2.1 dX7_faceAt_13 (by decide) (fun c3 => ?_) (fun c3 => ?_)
      · rw [if_pos c3] at hf
        refine lv_bipush (v := -2) C.1 C.2.1 dX7_faceAt_39 (by decide) ?_
        exact endRi C hf dX7_faceAt_41
      · rw [if_neg c3] at hf
        refine lv_iload_n C.1 C.2.1 dX7_faceAt_16 rfl (lv_at hl 2 rfl) ?_
        refine lv_aload_n C.1 C.2.1 dX7_faceAt_17 rfl (lv_at hl 0 rfl) ?_
        refine gtc_X7_faceCount C hP wF_X7_22 dX7_faceAt_18 ?_
        refine lv_iload_n C.1 C.2.1 dX7_faceAt_21 rfl (lv_at hl 1 rfl) ?_
        obtain ⟨v4, hv4, hf⟩ := Option.bind_eq_some_iff.mp hf
        refine ldc_11 C hP hv4 dX7_faceAt_22 ?_
        refine lv_icmp_ge (tgt := 39) C.1 C.2.1 dX7_faceAt_23 (by decide) (fun c5 => ?_) (fun c5 => ?_)
        · rw [if_pos c5] at hf
          refine lv_bipush (v := -2) C.1 C.2.1 dX7_faceAt_39 (by decide) ?_
          exact endRi C hf dX7_faceAt_41
        · rw [if_neg c5] at hf
          refine lv_aload_n C.1 C.2.1 dX7_faceAt_26 rfl (lv_at hl 0 rfl) ?_
          refine gtc_X7_faces C hP wF_X7_25 dX7_faceAt_27 ?_
          refine lv_iload_n C.1 C.2.1 dX7_faceAt_30 rfl (lv_at hl 1 rfl) ?_
          refine lv_iconst (v := 3) C.1 C.2.1 dX7_faceAt_31 (by decide) ?_
          refine lv_imul C.1 C.2.1 dX7_faceAt_32 ?_
          refine lv_iload_n C.1 C.2.1 dX7_faceAt_33 rfl (lv_at hl 2 rfl) ?_
          refine lv_iadd C.1 C.2.1 dX7_faceAt_34 ?_
          obtain ⟨v6, hv6, hf⟩ := Option.bind_eq_some_iff.mp hf
          refine ldc_12 C hP hv6 dX7_faceAt_35 ?_
          refine lv_goto (tgt := 41) C.1 C.2.1 dX7_faceAt_36 (by decide) ?_
          exact endRi C hf dX7_faceAt_41
end
theorem vX7_faceAt : YV yX7_faceAt cX7_faceAt 3 (some .int) 2 := ⟨⟨wK_X7_faceAt, wZ_X7, by decide +kernel⟩, wI_X7_faceAt, wV_X7_faceAt⟩
def fX7_overDirectly_L64 (u : ST) (K28 : Int32 → Int32 → Int32 → Option Int32) (x1 : Int32) (x4 : Int32) (y0 : Int32) (y1 : Int32) : Option Int32 :=
  K28 x1 (y0 ||| y1) (x4 + 1)
def fX7_overDirectly_L28 (u : ST) : Nat → Int32 → Int32 → Int32 → Option Int32
  | 0, _, _, _ => none
  | n + 1, x1, x3, x4 =>
    if 3 ≤ x4 then
      some x3
    else
      (fX7_faceAt u x1 x4).bind fun v5 =>
      (fX7_isType u v5).bind fun v6 =>
      if v6 = 0 then
        fX7_overDirectly_L64 u (fX7_overDirectly_L28 u n) x1 x4 x3 0
      else
        (rdI u 13 12 v5).bind fun v8 =>
        fX7_overDirectly_L64 u (fX7_overDirectly_L28 u n) x1 x4 x3 v8
def fX7_overDirectly_L24 (u : ST) (x1 : Int32) (y0 : Int32) : Option Int32 :=
  fX7_overDirectly_L28 u 5000 x1 y0 0
def fX7_overDirectly (u : ST) (x1 : Int32) : Option Int32 :=
  (fX7_whatIsAbove u x1).bind fun v1 =>
  (fX7_isType u v1).bind fun v2 =>
  if v2 = 0 then
    fX7_overDirectly_L24 u x1 0
  else
    (rdI u 13 12 v1).bind fun v9 =>
    fX7_overDirectly_L24 u x1 v9
section
variable {p : Program} {l : Launch} {e : Env} {s : State} {m : MethodId} {args : Array Value} {below : List Frame} {meth : Method} {c : Code} {H : Heap} {locs : List Loc} {g : GP} {ls : Array Slot} {A : Nat → Prop} {ad : Nat → Nat} {u : ST}
set_option maxRecDepth 100000 in
set_option maxHeartbeats 4000000 in
theorem bX7_overDirectly_L64 {r0 : Int32} {K28 : Int32 → Int32 → Int32 → Option Int32} {x1 : Int32} {x4 : Int32} {y0 : Int32} {y1 : Int32} (C : Cx p s m args meth c cX7_overDirectly 6 RX7 (some .int) g) (hZ : SF (fun _ => False) s) (hK28 : ∀ (x1 : Int32) (x3 : Int32) (x4 : Int32), ∀ (ls : Array Slot), lv_has ls 6 [(0, .ref (ad 2)), (1, .int x1), (3, .int x3), (4, .int x4)] → K28 x1 x3 x4 = some r0 → W p l e (rmR 1 22) s m args below meth c s.heap [] 0 0 (MQ below (vp_Si (fun r => r = r0)) args s 0 0 (fun _ => False)) (F0 m 28 ls [])) (hP : va_P g.1 vwCl (cW g ad u) s.heap) (hl : lv_has ls 6 [(0, .ref (ad 2)), (1, .int x1), (4, .int x4)]) (hf : fX7_overDirectly_L64 u K28 x1 x4 y0 y1 = some r0) : W p l e (rmR 1 22) s m args below meth c s.heap [] 0 0 (MQ below (vp_Si (fun r => r = r0)) args s 0 0 (fun _ => False)) (F0 m 64 ls [.int y1, .int y0]) := by
  rw [fX7_overDirectly_L64] at hf
  refine lv_ior C.1 C.2.1 dX7_overDirectly_64 ?_
  refine lv_istore_n (lv' := [(3, .int (y0 ||| y1)), (0, .ref (ad 2)), (1, .int x1), (4, .int x4)]) C.1 C.2.1 dX7_overDirectly_65 rfl hl (by decide) rfl (fun ls hl => ?_)
  refine lv_iinc (v := (x4 + 1)) (lv' := [(4, .int (x4 + 1)), (3, .int (y0 ||| y1)), (0, .ref (ad 2)), (1, .int x1)]) C.1 C.2.1 dX7_overDirectly_66 hl (k := 3) rfl rfl (by decide) rfl (fun ls hl => ?_)
  refine lv_goto (tgt := 28) C.1 C.2.1 dX7_overDirectly_69 (by decide) ?_
  exact hK28 x1 (y0 ||| y1) (x4 + 1) _ (lv_sub hl [2, 3, 1, 0] rfl) hf
set_option maxRecDepth 100000 in
set_option maxHeartbeats 4000000 in
theorem bX7_overDirectly_L28 {r0 : Int32} (C : Cx p s m args meth c cX7_overDirectly 6 RX7 (some .int) g) (hZ : SF (fun _ => False) s) (n : Nat) : ∀ (x1 : Int32) (x3 : Int32) (x4 : Int32), va_P g.1 vwCl (cW g ad u) s.heap → ∀ (ls : Array Slot), lv_has ls 6 [(0, .ref (ad 2)), (1, .int x1), (3, .int x3), (4, .int x4)] → fX7_overDirectly_L28 u n x1 x3 x4 = some r0 → W p l e (rmR 1 22) s m args below meth c s.heap [] 0 0 (MQ below (vp_Si (fun r => r = r0)) args s 0 0 (fun _ => False)) (F0 m 28 ls []) := by
  induction n with
  | zero =>
    intro x1 x3 x4 hP ls hl hf
    exact absurd hf (by simp [fX7_overDirectly_L28])
  | succ n ih0 =>
    intro x1 x3 x4 hP ls hl hf
    have ih := fun (x1 : Int32) (x3 : Int32) (x4 : Int32) => ih0 x1 x3 x4 hP
    rw [fX7_overDirectly_L28] at hf
    refine lv_iload C.1 C.2.1 dX7_overDirectly_28 (lv_at hl 3 rfl) ?_
    refine lv_iconst (v := 3) C.1 C.2.1 dX7_overDirectly_30 (by decide) ?_
    refine lv_icmp_ge (tgt := 72) C.1 C.2.1 dX7_overDirectly_31 (by decide) (fun c4 => ?_) (fun c4 => ?_)
    · rw [if_pos c4] at hf
      refine lv_iload_n C.1 C.2.1 dX7_overDirectly_72 rfl (lv_at hl 2 rfl) ?_
      exact endRi C hf dX7_overDirectly_73
    · rw [if_neg c4] at hf
      refine lv_aload_n C.1 C.2.1 dX7_overDirectly_34 rfl (lv_at hl 0 rfl) ?_
      refine lv_iload_n C.1 C.2.1 dX7_overDirectly_35 rfl (lv_at hl 1 rfl) ?_
      refine lv_iload C.1 C.2.1 dX7_overDirectly_36 (lv_at hl 3 rfl) ?_
      obtain ⟨v5, hv5, hf⟩ := Option.bind_eq_some_iff.mp hf
      refine cRi (As := [.int x1, .int x4]) (rest := []) C (mX7_faceAt hv5) vX7_faceAt wM_X7_60 ⟨Nat.le_of_ble_eq_true rfl, Nat.le_of_ble_eq_true rfl⟩ hP (rcc_X7 C hP) (fun U hU hW => SF.go hZ va_S.rf hU hW (fun _ h => h)) hl.1 rfl rfl (Nat.le_of_ble_eq_true rfl) dX7_overDirectly_38 ⟨Nat.le_of_ble_eq_true rfl, Nat.le_of_ble_eq_true rfl⟩ ?_
      refine lv_istore (lv' := [(5, .int v5), (0, .ref (ad 2)), (1, .int x1), (3, .int x3), (4, .int x4)]) C.1 C.2.1 dX7_overDirectly_41 hl (by decide) rfl (fun ls hl => ?_)
      refine lv_iload_n C.1 C.2.1 dX7_overDirectly_43 rfl (lv_at hl 3 rfl) ?_
      refine lv_aload_n C.1 C.2.1 dX7_overDirectly_44 rfl (lv_at hl 1 rfl) ?_
      refine lv_iload C.1 C.2.1 dX7_overDirectly_45 (lv_at hl 0 rfl) ?_
      obtain ⟨v6, hv6, hf⟩ := Option.bind_eq_some_iff.mp hf
      refine cRi (As := [.int v5]) (rest := [.int x3]) C (mX7_isType hv6) vX7_isType wM_X7_45 ⟨Nat.le_of_ble_eq_true rfl, Nat.le_of_ble_eq_true rfl⟩ hP (rcc_X7 C hP) (fun U hU hW => SF.go hZ va_S.rf hU hW (fun _ h => h)) hl.1 rfl rfl (Nat.le_of_ble_eq_true rfl) dX7_overDirectly_47 ⟨Nat.le_of_ble_eq_true rfl, Nat.le_of_ble_eq_true rfl⟩ ?_
      refine lv_if_eq (tgt := 63) C.1 C.2.1 dX7_overDirectly_50 (by decide) (fun c7 => ?_) (fun c7 => ?_)
      · rw [if_pos c7] at hf
        refine lv_iconst (v := 0) C.1 C.2.1 dX7_overDirectly_63 (by decide) ?_
        exact bX7_overDirectly_L64 C hZ ih hP (lv_sub hl [1, 2, 4] rfl) hf
      · rw [if_neg c7] at hf
        refine lv_aload_n C.1 C.2.1 dX7_overDirectly_53 rfl (lv_at hl 1 rfl) ?_
        refine gtc_X7_over C hP wF_X7_28 dX7_overDirectly_54 ?_
        refine lv_iload C.1 C.2.1 dX7_overDirectly_57 (lv_at hl 0 rfl) ?_
        obtain ⟨v8, hv8, hf⟩ := Option.bind_eq_some_iff.mp hf
        refine ldc_13 C hP hv8 dX7_overDirectly_59 ?_
        refine lv_goto (tgt := 64) C.1 C.2.1 dX7_overDirectly_60 (by decide) ?_
        exact bX7_overDirectly_L64 C hZ ih hP (lv_sub hl [1, 2, 4] rfl) hf
set_option maxRecDepth 100000 in
set_option maxHeartbeats 4000000 in
theorem bX7_overDirectly_L24 {r0 : Int32} {x1 : Int32} {y0 : Int32} (C : Cx p s m args meth c cX7_overDirectly 6 RX7 (some .int) g) (hZ : SF (fun _ => False) s) (hP : va_P g.1 vwCl (cW g ad u) s.heap) (hl : lv_has ls 6 [(0, .ref (ad 2)), (1, .int x1)]) (hf : fX7_overDirectly_L24 u x1 y0 = some r0) : W p l e (rmR 1 22) s m args below meth c s.heap [] 0 0 (MQ below (vp_Si (fun r => r = r0)) args s 0 0 (fun _ => False)) (F0 m 24 ls [.int y0]) := by
  rw [fX7_overDirectly_L24] at hf
  refine lv_istore_n (lv' := [(3, .int y0), (0, .ref (ad 2)), (1, .int x1)]) C.1 C.2.1 dX7_overDirectly_24 rfl hl (by decide) rfl (fun ls hl => ?_)
  refine lv_iconst (v := 0) C.1 C.2.1 dX7_overDirectly_25 (by decide) ?_
  refine lv_istore (lv' := [(4, .int 0), (3, .int y0), (0, .ref (ad 2)), (1, .int x1)]) C.1 C.2.1 dX7_overDirectly_26 hl (by decide) rfl (fun ls hl => ?_)
  exact bX7_overDirectly_L28 C hZ 5000 x1 y0 0 hP _ (lv_sub hl [2, 3, 1, 0] rfl) hf
set_option maxRecDepth 100000 in
set_option maxHeartbeats 4000000 in
theorem mX7_overDirectly {r0 : Int32} {x1 : Int32} (hf : fX7_overDirectly u x1 = some r0) : MRi l yX7_overDirectly cX7_overDirectly 6 (some .int) 1 22 [.ref (ad 2), .int x1] g (cW g ad u) r0 := by
  refine entR (by decide) (Nat.le_of_ble_eq_true rfl) ?_
  intro p e s m below meth c ls C hP hZ hl
  have hl : lv_has ls 6 [(0, .ref (ad 2)), (1, .int x1)] := hl
  rw [fX7_overDirectly] at hf
  refine lv_aload_n C.1 C.2.1 dX7_overDirectly_0 rfl (lv_at hl 0 rfl) ?_
  refine lv_iload_n C.1 C.2.1 dX7_overDirectly_1 rfl (lv_at hl 1 rfl) ?_
  obtain ⟨v1, hv1, hf⟩ := Option.bind_eq_some_iff.mp hf
  refine cRi (As := [.int x1]) (rest := []) C (mX7_whatIsAbove hv1) vX7_whatIsAbove wM_X7_71 ⟨Nat.le_of_ble_eq_true rfl, Nat.le_of_ble_eq_true rfl⟩ hP (rcc_X7 C hP) (fun U hU hW => SF.go hZ va_S.rf hU hW (fun _ h => h)) hl.1 rfl rfl (Nat.le_of_ble_eq_true rfl) dX7_overDirectly_2 ⟨Nat.le_of_ble_eq_true rfl, Nat.le_of_ble_eq_true rfl⟩ ?_
  refine lv_istore_n (lv' := [(2, .int v1), (0, .ref (ad 2)), (1, .int x1)]) C.1 C.2.1 dX7_overDirectly_5 rfl hl (by decide) rfl (fun ls hl => ?_)
  refine lv_aload_n C.1 C.2.1 dX7_overDirectly_6 rfl (lv_at hl 1 rfl) ?_
  refine lv_iload_n C.1 C.2.1 dX7_overDirectly_7 rfl (lv_at hl 0 rfl) ?_
  obtain ⟨v2, hv2, hf⟩ := Option.bind_eq_some_iff.mp hf
  refine cRi (As := [.int v1]) (rest := []) C (mX7_isType hv2) vX7_isType wM_X7_45 ⟨Nat.le_of_ble_eq_true rfl, Nat.le_of_ble_eq_true rfl⟩ hP (rcc_X7 C hP) (fun U hU hW => SF.go hZ va_S.rf hU hW (fun _ h => h)) hl.1 rfl rfl (Nat.le_of_ble_eq_true rfl) dX7_overDirectly_8 ⟨Nat.le_of_ble_eq_true rfl, Nat.le_of_ble_eq_true rfl⟩ ?_
  refine lv_if_eq (tgt := 23) C.1 C.2.1 dX7_overDirectly_11 (by decide) (fun c3 => ?_) (fun c3 => ?_)
  · rw [if_pos c3] at hf
    refine lv_iconst (v := 0) C.1 C.2.1 dX7_overDirectly_23 (by decide) ?_
    exact bX7_overDirectly_L24 C hZ hP (lv_sub hl [1, 2] rfl) hf
  · rw [if_neg c3] at hf
    refine lv_aload_n C.1 C.2.1 dX7_overDirectly_14 rfl (lv_at hl 1 rfl) ?_
    refine gtc_X7_over C hP wF_X7_28 dX7_overDirectly_15 ?_
    refine lv_iload_n C.1 C.2.1 dX7_overDirectly_18 rfl (lv_at hl 0 rfl) ?_
    obtain ⟨v9, hv9, hf⟩ := Option.bind_eq_some_iff.mp hf
    refine ldc_13 C hP hv9 dX7_overDirectly_19 ?_
    refine lv_goto (tgt := 24) C.1 C.2.1 dX7_overDirectly_20 (by decide) ?_
    exact bX7_overDirectly_L24 C hZ hP (lv_sub hl [1, 2] rfl) hf
end
theorem vX7_overDirectly : YV yX7_overDirectly cX7_overDirectly 6 (some .int) 1 := ⟨⟨wK_X7_overDirectly, wZ_X7, by decide +kernel⟩, wI_X7_overDirectly, wV_X7_overDirectly⟩
def fX7_findOver_L85 (K43 : ST → Int32 → Int32 → Int32 → Option ST) (u : ST) (x2 : Int32) (x3 : Int32) (x4 : Int32) (y0 : Int32) : Option ST :=
  (stI u 13 12 x3 x4).bind fun u8 =>
  K43 u8 y0 x2 (x3 + 1)
def fX7_findOver_L80 (K43 : ST → Int32 → Int32 → Int32 → Option ST) (u : ST) (x2 : Int32) (x3 : Int32) (x4 : Int32) : Option ST :=
  fX7_findOver_L85 K43 u x2 x3 x4 1
def fX7_findOver_L43 (K29 : ST → Int32 → Int32 → Option ST) : Nat → ST → Int32 → Int32 → Int32 → Option ST
  | 0, _, _, _, _ => none
  | n + 1, u, x1, x2, x3 =>
    if (sI u 200) ≤ x3 then
      K29 u x1 (x2 + 1)
    else
      (rdI u 13 12 x3).bind fun v5 =>
      (fX7_overDirectly u x3).bind fun v6 =>
      if x1 = 0 then
        (rdI u 13 12 x3).bind fun v9 =>
        if (v5 ||| v6) = v9 then
          fX7_findOver_L85 (fX7_findOver_L43 K29 n) u x2 x3 (v5 ||| v6) 0
        else
          fX7_findOver_L80 (fX7_findOver_L43 K29 n) u x2 x3 (v5 ||| v6)
      else
        fX7_findOver_L80 (fX7_findOver_L43 K29 n) u x2 x3 (v5 ||| v6)
def fX7_findOver_L29 : Nat → ST → Int32 → Int32 → Option ST
  | 0, _, _, _ => none
  | n + 1, u, x1, x2 =>
    if x1 = 0 then
      some u
    else
      if 12 ≤ x2 then
        some u
      else
        fX7_findOver_L43 (fX7_findOver_L29 n) 5000 u 0 x2 0
def fX7_findOver_L2 : Nat → ST → Int32 → Option ST
  | 0, _, _ => none
  | n + 1, u, x1 =>
    if (sI u 200) ≤ x1 then
      fX7_findOver_L29 5000 u 1 0
    else
      (stI u 13 12 x1 (1 <<< (x1 &&& 31))).bind fun u11 =>
      fX7_findOver_L2 n u11 (x1 + 1)
def fX7_findOver (u : ST) : Option ST :=
  fX7_findOver_L2 5000 u 0
section
variable {p : Program} {l : Launch} {e : Env} {s : State} {m : MethodId} {args : Array Value} {below : List Frame} {meth : Method} {c : Code} {H : Heap} {locs : List Loc} {g : GP} {ls : Array Slot} {A : Nat → Prop} {ad : Nat → Nat} {u : ST}
set_option maxRecDepth 100000 in
set_option maxHeartbeats 4000000 in
theorem bX7_findOver_L85 {u0 : ST} {K43 : ST → Int32 → Int32 → Int32 → Option ST} {x2 : Int32} {x3 : Int32} {x4 : Int32} {y0 : Int32} (C : Cx p s m args meth c cX7_findOver 5 RX7 none g) (hA : ∀ q, s.heap.size ≤ q → A q) (hZ : SF A s) (hK43 : ∀ (u : ST) (x1 : Int32) (x2 : Int32) (x3 : Int32) (H : Heap) (locs : List Loc), va_P g.1 vwCl (cW g ad u) H → va_D A (cW g ad u) → va_S A s.heap H locs → ∀ (ls : Array Slot), lv_has ls 5 [(0, .ref (ad 2)), (1, .int x1), (2, .int x2), (3, .int x3)] → K43 u x1 x2 x3 = some u0 → W p l e (rmW 2 47 0 0) s m args below meth c H locs 0 0 (MQ below (va_Qv (fun v => v = u0) (BW g A (cW g ad)) A) args s 0 0 A) (F0 m 43 ls [])) (hP : va_P g.1 vwCl (cW g ad u) H) (hD : va_D A (cW g ad u)) (hS : va_S A s.heap H locs) (hl : lv_has ls 5 [(0, .ref (ad 2)), (2, .int x2), (3, .int x3), (4, .int x4)]) (hf : fX7_findOver_L85 K43 u x2 x3 x4 y0 = some u0) : W p l e (rmW 2 47 0 0) s m args below meth c H locs 0 0 (MQ below (va_Qv (fun v => v = u0) (BW g A (cW g ad)) A) args s 0 0 A) (F0 m 85 ls [.int y0]) := by
  rw [fX7_findOver_L85] at hf
  refine lv_istore_n (lv' := [(1, .int y0), (0, .ref (ad 2)), (2, .int x2), (3, .int x3), (4, .int x4)]) C.1 C.2.1 dX7_findOver_85 rfl hl (by decide) rfl (fun ls hl => ?_)
  refine lv_aload_n C.1 C.2.1 dX7_findOver_86 rfl (lv_at hl 1 rfl) ?_
  refine gtc_X7_over C hP wF_X7_28 dX7_findOver_87 ?_
  refine lv_iload_n C.1 C.2.1 dX7_findOver_90 rfl (lv_at hl 3 rfl) ?_
  refine lv_iload C.1 C.2.1 dX7_findOver_91 (lv_at hl 4 rfl) ?_
  obtain ⟨u8, hu8, hf⟩ := Option.bind_eq_some_iff.mp hf
  refine stc_13 C hP hD hS hu8 dX7_findOver_93 (fun H locs hP hD hS => ?_)
  refine lv_iinc (v := (x3 + 1)) (lv' := [(3, .int (x3 + 1)), (1, .int y0), (0, .ref (ad 2)), (2, .int x2), (4, .int x4)]) C.1 C.2.1 dX7_findOver_94 hl (k := 3) rfl rfl (by decide) rfl (fun ls hl => ?_)
  refine lv_goto (tgt := 43) C.1 C.2.1 dX7_findOver_97 (by decide) ?_
  exact hK43 u8 y0 x2 (x3 + 1) _ _ hP hD hS _ (lv_sub hl [2, 1, 3, 0] rfl) hf
set_option maxRecDepth 100000 in
set_option maxHeartbeats 4000000 in
theorem bX7_findOver_L80 {u0 : ST} {K43 : ST → Int32 → Int32 → Int32 → Option ST} {x2 : Int32} {x3 : Int32} {x4 : Int32} (C : Cx p s m args meth c cX7_findOver 5 RX7 none g) (hA : ∀ q, s.heap.size ≤ q → A q) (hZ : SF A s) (hK43 : ∀ (u : ST) (x1 : Int32) (x2 : Int32) (x3 : Int32) (H : Heap) (locs : List Loc), va_P g.1 vwCl (cW g ad u) H → va_D A (cW g ad u) → va_S A s.heap H locs → ∀ (ls : Array Slot), lv_has ls 5 [(0, .ref (ad 2)), (1, .int x1), (2, .int x2), (3, .int x3)] → K43 u x1 x2 x3 = some u0 → W p l e (rmW 2 47 0 0) s m args below meth c H locs 0 0 (MQ below (va_Qv (fun v => v = u0) (BW g A (cW g ad)) A) args s 0 0 A) (F0 m 43 ls [])) (hP : va_P g.1 vwCl (cW g ad u) H) (hD : va_D A (cW g ad u)) (hS : va_S A s.heap H locs) (hl : lv_has ls 5 [(0, .ref (ad 2)), (2, .int x2), (3, .int x3), (4, .int x4)]) (hf : fX7_findOver_L80 K43 u x2 x3 x4 = some u0) : W p l e (rmW 2 47 0 0) s m args below meth c H locs 0 0 (MQ below (va_Qv (fun v => v = u0) (BW g A (cW g ad)) A) args s 0 0 A) (F0 m 80 ls []) := by
  rw [fX7_findOver_L80] at hf
  refine lv_iconst (v := 1) C.1 C.2.1 dX7_findOver_80 (by decide) ?_
  refine lv_goto (tgt := 85) C.1 C.2.1 dX7_findOver_81 (by decide) ?_
  exact bX7_findOver_L85 C hA hZ hK43 hP hD hS (lv_sub hl [0, 1, 2, 3] rfl) hf
set_option maxRecDepth 100000 in
set_option maxHeartbeats 4000000 in
theorem bX7_findOver_L43 {u0 : ST} {K29 : ST → Int32 → Int32 → Option ST} (C : Cx p s m args meth c cX7_findOver 5 RX7 none g) (hA : ∀ q, s.heap.size ≤ q → A q) (hZ : SF A s) (hK29 : ∀ (u : ST) (x1 : Int32) (x2 : Int32) (H : Heap) (locs : List Loc), va_P g.1 vwCl (cW g ad u) H → va_D A (cW g ad u) → va_S A s.heap H locs → ∀ (ls : Array Slot), lv_has ls 5 [(0, .ref (ad 2)), (1, .int x1), (2, .int x2)] → K29 u x1 x2 = some u0 → W p l e (rmW 2 47 0 0) s m args below meth c H locs 0 0 (MQ below (va_Qv (fun v => v = u0) (BW g A (cW g ad)) A) args s 0 0 A) (F0 m 29 ls [])) : ∀ (n : Nat), ∀ (u : ST) (x1 : Int32) (x2 : Int32) (x3 : Int32) (H : Heap) (locs : List Loc), va_P g.1 vwCl (cW g ad u) H → va_D A (cW g ad u) → va_S A s.heap H locs → ∀ (ls : Array Slot), lv_has ls 5 [(0, .ref (ad 2)), (1, .int x1), (2, .int x2), (3, .int x3)] → fX7_findOver_L43 K29 n u x1 x2 x3 = some u0 → W p l e (rmW 2 47 0 0) s m args below meth c H locs 0 0 (MQ below (va_Qv (fun v => v = u0) (BW g A (cW g ad)) A) args s 0 0 A) (F0 m 43 ls []) := by
  intro n
  induction n with
  | zero =>
    intro u x1 x2 x3 H locs hP hD hS ls hl hf
    exact absurd hf (by simp [fX7_findOver_L43])
  | succ n ih =>
    intro u x1 x2 x3 H locs hP hD hS ls hl hf
    rw [fX7_findOver_L43] at hf
    refine lv_iload_n C.1 C.2.1 dX7_findOver_43 rfl (lv_at hl 3 rfl) ?_
    refine lv_aload_n C.1 C.2.1 dX7_findOver_44 rfl (lv_at hl 0 rfl) ?_
    refine gtc_X7_size C hP wF_X7_34 dX7_findOver_45 ?_
    refine lv_icmp_ge (tgt := 100) C.1 C.2.1 dX7_findOver_48 (by decide) (fun c4 => ?_) (fun c4 => ?_)
    · rw [if_pos c4] at hf
      refine lv_iinc (v := (x2 + 1)) (lv' := [(2, .int (x2 + 1)), (0, .ref (ad 2)), (1, .int x1), (3, .int x3)]) C.1 C.2.1 dX7_findOver_100 hl (k := 2) rfl rfl (by decide) rfl (fun ls hl => ?_)
      refine lv_goto (tgt := 29) C.1 C.2.1 dX7_findOver_103 (by decide) ?_
      exact hK29 u x1 (x2 + 1) _ _ hP hD hS _ (lv_sub hl [1, 2, 0] rfl) hf
    · rw [if_neg c4] at hf
      refine lv_aload_n C.1 C.2.1 dX7_findOver_51 rfl (lv_at hl 0 rfl) ?_
      refine gtc_X7_over C hP wF_X7_28 dX7_findOver_52 ?_
      refine lv_iload_n C.1 C.2.1 dX7_findOver_55 rfl (lv_at hl 3 rfl) ?_
      obtain ⟨v5, hv5, hf⟩ := Option.bind_eq_some_iff.mp hf
      refine ldc_13 C hP hv5 dX7_findOver_56 ?_
      refine lv_aload_n C.1 C.2.1 dX7_findOver_57 rfl (lv_at hl 0 rfl) ?_
      refine lv_iload_n C.1 C.2.1 dX7_findOver_58 rfl (lv_at hl 3 rfl) ?_
      obtain ⟨v6, hv6, hf⟩ := Option.bind_eq_some_iff.mp hf
      refine cRi (As := [.int x3]) (rest := [.int v5]) C (mX7_overDirectly hv6) vX7_overDirectly wM_X7_67 ⟨Nat.le_of_ble_eq_true rfl, Nat.le_of_ble_eq_true rfl⟩ hP (rcc_X7 C hP) (fun U hU hW => SF.go hZ hS hU hW (fun _ h => h.elim)) hl.1 rfl rfl (Nat.le_of_ble_eq_true rfl) dX7_findOver_59 ⟨Nat.le_of_ble_eq_true rfl, Nat.le_of_ble_eq_true rfl⟩ ?_
      refine lv_ior C.1 C.2.1 dX7_findOver_62 ?_
      refine lv_istore (lv' := [(4, .int (v5 ||| v6)), (0, .ref (ad 2)), (1, .int x1), (2, .int x2), (3, .int x3)]) C.1 C.2.1 dX7_findOver_63 hl (by decide) rfl (fun ls hl => ?_)
      refine lv_iload_n C.1 C.2.1 dX7_findOver_65 rfl (lv_at hl 2 rfl) ?_
      refine lv_if_ne (tgt := 80) C.1 C.2.1 dX7_findOver_66 (by decide) (fun c7 => ?_) (fun c7 => ?_)
      · rw [if_neg c7] at hf
        exact bX7_findOver_L80 C hA hZ ih hP hD hS (lv_sub hl [1, 3, 4, 0] rfl) hf
      · rw [if_pos c7] at hf
        refine lv_iload C.1 C.2.1 dX7_findOver_69 (lv_at hl 0 rfl) ?_
        refine lv_aload_n C.1 C.2.1 dX7_findOver_71 rfl (lv_at hl 1 rfl) ?_
        refine gtc_X7_over C hP wF_X7_28 dX7_findOver_72 ?_
        refine lv_iload_n C.1 C.2.1 dX7_findOver_75 rfl (lv_at hl 4 rfl) ?_
        obtain ⟨v9, hv9, hf⟩ := Option.bind_eq_some_iff.mp hf
        refine ldc_13 C hP hv9 dX7_findOver_76 ?_
        refine lv_icmp_eq (tgt := 84) C.1 C.2.1 dX7_findOver_77 (by decide) (fun c10 => ?_) (fun c10 => ?_)
        · rw [if_pos c10] at hf
          refine lv_iconst (v := 0) C.1 C.2.1 dX7_findOver_84 (by decide) ?_
          exact bX7_findOver_L85 C hA hZ ih hP hD hS (lv_sub hl [1, 3, 4, 0] rfl) hf
        · rw [if_neg c10] at hf
          exact bX7_findOver_L80 C hA hZ ih hP hD hS (lv_sub hl [1, 3, 4, 0] rfl) hf
set_option maxRecDepth 100000 in
set_option maxHeartbeats 4000000 in
theorem bX7_findOver_L29 {u0 : ST} (C : Cx p s m args meth c cX7_findOver 5 RX7 none g) (hA : ∀ q, s.heap.size ≤ q → A q) (hZ : SF A s) : ∀ (n : Nat), ∀ (u : ST) (x1 : Int32) (x2 : Int32) (H : Heap) (locs : List Loc), va_P g.1 vwCl (cW g ad u) H → va_D A (cW g ad u) → va_S A s.heap H locs → ∀ (ls : Array Slot), lv_has ls 5 [(0, .ref (ad 2)), (1, .int x1), (2, .int x2)] → fX7_findOver_L29 n u x1 x2 = some u0 → W p l e (rmW 2 47 0 0) s m args below meth c H locs 0 0 (MQ below (va_Qv (fun v => v = u0) (BW g A (cW g ad)) A) args s 0 0 A) (F0 m 29 ls []) := by
  intro n
  induction n with
  | zero =>
    intro u x1 x2 H locs hP hD hS ls hl hf
    exact absurd hf (by simp [fX7_findOver_L29])
  | succ n ih =>
    intro u x1 x2 H locs hP hD hS ls hl hf
    rw [fX7_findOver_L29] at hf
    refine lv_iload_n C.1 C.2.1 dX7_findOver_29 rfl (lv_at hl 1 rfl) ?_
    refine lv_if_eq (tgt := 106) C.1 C.2.1 dX7_findOver_30 (by decide) (fun c2 => ?_) (fun c2 => ?_)
    · rw [if_pos c2] at hf
      exact endWv C hP hD hS (Nat.le_refl _) (Nat.le_refl _) hf dX7_findOver_106
    · rw [if_neg c2] at hf
      refine lv_iload_n C.1 C.2.1 dX7_findOver_33 rfl (lv_at hl 2 rfl) ?_
      refine lv_bipush (v := 12) C.1 C.2.1 dX7_findOver_34 (by decide) ?_
      refine lv_icmp_ge (tgt := 106) C.1 C.2.1 dX7_findOver_36 (by decide) (fun c3 => ?_) (fun c3 => ?_)
      · rw [if_pos c3] at hf
        exact endWv C hP hD hS (Nat.le_refl _) (Nat.le_refl _) hf dX7_findOver_106
      · rw [if_neg c3] at hf
        refine lv_iconst (v := 0) C.1 C.2.1 dX7_findOver_39 (by decide) ?_
        refine lv_istore_n (lv' := [(1, .int 0), (0, .ref (ad 2)), (2, .int x2)]) C.1 C.2.1 dX7_findOver_40 rfl hl (by decide) rfl (fun ls hl => ?_)
        refine lv_iconst (v := 0) C.1 C.2.1 dX7_findOver_41 (by decide) ?_
        refine lv_istore_n (lv' := [(3, .int 0), (1, .int 0), (0, .ref (ad 2)), (2, .int x2)]) C.1 C.2.1 dX7_findOver_42 rfl hl (by decide) rfl (fun ls hl => ?_)
        exact bX7_findOver_L43 C hA hZ ih 5000 u 0 x2 0 _ _ hP hD hS _ (lv_sub hl [2, 1, 3, 0] rfl) hf
set_option maxRecDepth 100000 in
set_option maxHeartbeats 4000000 in
theorem bX7_findOver_L2 {u0 : ST} (C : Cx p s m args meth c cX7_findOver 5 RX7 none g) (hA : ∀ q, s.heap.size ≤ q → A q) (hZ : SF A s) : ∀ (n : Nat), ∀ (u : ST) (x1 : Int32) (H : Heap) (locs : List Loc), va_P g.1 vwCl (cW g ad u) H → va_D A (cW g ad u) → va_S A s.heap H locs → ∀ (ls : Array Slot), lv_has ls 5 [(0, .ref (ad 2)), (1, .int x1)] → fX7_findOver_L2 n u x1 = some u0 → W p l e (rmW 2 47 0 0) s m args below meth c H locs 0 0 (MQ below (va_Qv (fun v => v = u0) (BW g A (cW g ad)) A) args s 0 0 A) (F0 m 2 ls []) := by
  intro n
  induction n with
  | zero =>
    intro u x1 H locs hP hD hS ls hl hf
    exact absurd hf (by simp [fX7_findOver_L2])
  | succ n ih =>
    intro u x1 H locs hP hD hS ls hl hf
    rw [fX7_findOver_L2] at hf
    refine lv_iload_n C.1 C.2.1 dX7_findOver_2 rfl (lv_at hl 1 rfl) ?_
    refine lv_aload_n C.1 C.2.1 dX7_findOver_3 rfl (lv_at hl 0 rfl) ?_
    refine gtc_X7_size C hP wF_X7_34 dX7_findOver_4 ?_
    refine lv_icmp_ge (tgt := 25) C.1 C.2.1 dX7_findOver_7 (by decide) (fun c1 => ?_) (fun c1 => ?_)
    · rw [if_pos c1] at hf
      refine lv_iconst (v := 1) C.1 C.2.1 dX7_findOver_25 (by decide) ?_
      refine lv_istore_n (lv' := [(1, .int 1), (0, .ref (ad 2))]) C.1 C.2.1 dX7_findOver_26 rfl hl (by decide) rfl (fun ls hl => ?_)
      refine lv_iconst (v := 0) C.1 C.2.1 dX7_findOver_27 (by decide) ?_
      refine lv_istore_n (lv' := [(2, .int 0), (1, .int 1), (0, .ref (ad 2))]) C.1 C.2.1 dX7_findOver_28 rfl hl (by decide) rfl (fun ls hl => ?_)
      exact bX7_findOver_L29 C hA hZ 5000 u 1 0 _ _ hP hD hS _ (lv_sub hl [2, 1, 0] rfl) hf
    · rw [if_neg c1] at hf
      refine lv_aload_n C.1 C.2.1 dX7_findOver_10 rfl (lv_at hl 0 rfl) ?_
      refine gtc_X7_over C hP wF_X7_28 dX7_findOver_11 ?_
      refine lv_iload_n C.1 C.2.1 dX7_findOver_14 rfl (lv_at hl 1 rfl) ?_
      refine lv_iconst (v := 1) C.1 C.2.1 dX7_findOver_15 (by decide) ?_
      refine lv_iload_n C.1 C.2.1 dX7_findOver_16 rfl (lv_at hl 1 rfl) ?_
      refine lv_ishl C.1 C.2.1 dX7_findOver_17 ?_
      obtain ⟨u11, hu11, hf⟩ := Option.bind_eq_some_iff.mp hf
      refine stc_13 C hP hD hS hu11 dX7_findOver_18 (fun H locs hP hD hS => ?_)
      refine lv_iinc (v := (x1 + 1)) (lv' := [(1, .int (x1 + 1)), (0, .ref (ad 2))]) C.1 C.2.1 dX7_findOver_19 hl (k := 1) rfl rfl (by decide) rfl (fun ls hl => ?_)
      refine lv_goto (tgt := 2) C.1 C.2.1 dX7_findOver_22 (by decide) ?_
      exact ih u11 (x1 + 1) _ _ hP hD hS _ (lv_sub hl [1, 0] rfl) hf
set_option maxRecDepth 100000 in
set_option maxHeartbeats 4000000 in
theorem mX7_findOver {u0 : ST} (hf : fX7_findOver u = some u0) : MWv l yX7_findOver cX7_findOver 5 none 2 47 0 0 [.ref (ad 2)] g (cW g ad) u u0 := by
  refine entW (Qc := fun A => va_Qv (fun v => v = u0) (BW g A (cW g ad)) A) (by decide) (Nat.le_of_ble_eq_true rfl) ?_
  intro p e s m below meth c ls A C hP hD hS hA hZ hl
  have hl : lv_has ls 5 [(0, .ref (ad 2))] := hl
  rw [fX7_findOver] at hf
  refine lv_iconst (v := 0) C.1 C.2.1 dX7_findOver_0 (by decide) ?_
  refine lv_istore_n (lv' := [(1, .int 0), (0, .ref (ad 2))]) C.1 C.2.1 dX7_findOver_1 rfl hl (by decide) rfl (fun ls hl => ?_)
  exact bX7_findOver_L2 C hA hZ 5000 u 0 _ _ hP hD hS _ (lv_sub hl [1, 0] rfl) hf
end
theorem vX7_findOver : YV yX7_findOver cX7_findOver 5 none 0 := ⟨⟨wK_X7_findOver, wZ_X7, by decide +kernel⟩, wI_X7_findOver, wV_X7_findOver⟩
def fX7_add_L53 (u : ST) (x2 : Int32) (x3 : Int32) (x4 : Int32) (y1 : Int32) (y2 : Int32) : Option (Int32 × ST) :=
  (some (uI u 207 (y1 ||| y2))).bind fun u5 =>
  (stI u5 9 12 x4 x2).bind fun u6 =>
  (stI u6 10 12 x4 x3).bind fun u7 =>
  (stI u7 11 12 x4 0).bind fun u8 =>
  (fX7_findOver u8).bind fun u9 =>
  some (x4, u9)
def fX7_add (u : ST) (x1 : Int32) (x2 : Int32) (x3 : Int32) : Option (Int32 × ST) :=
  if (sI u 200) < 12 then
    (some (uI u 200 ((sI u 200) + 1))).bind fun u2 =>
    (stZ u2 8 12 (sI u 200) x1).bind fun u3 =>
    if x1 = 0 then
      fX7_add_L53 u3 x2 x3 (sI u 200) (sI u3 207) (1 <<< ((sI u 200) &&& 31))
    else
      fX7_add_L53 u3 x2 x3 (sI u 200) (sI u3 207) 0
  else
    some ((-3), u)
section
variable {p : Program} {l : Launch} {e : Env} {s : State} {m : MethodId} {args : Array Value} {below : List Frame} {meth : Method} {c : Code} {H : Heap} {locs : List Loc} {g : GP} {ls : Array Slot} {A : Nat → Prop} {ad : Nat → Nat} {u : ST}
set_option maxRecDepth 100000 in
set_option maxHeartbeats 4000000 in
theorem bX7_add_L53 {r0 : Int32} {u0 : ST} {x2 : Int32} {x3 : Int32} {x4 : Int32} {y1 : Int32} {y2 : Int32} (C : Cx p s m args meth c cX7_add 5 RX7 (some .int) g) (hA : ∀ q, s.heap.size ≤ q → A q) (hZ : SF A s) (hP : va_P g.1 vwCl (cW g ad u) H) (hD : va_D A (cW g ad u)) (hS : va_S A s.heap H locs) (hl : lv_has ls 5 [(0, .ref (ad 2)), (2, .int x2), (3, .int x3), (4, .int x4)]) (hf : fX7_add_L53 u x2 x3 x4 y1 y2 = some (r0, u0)) : W p l e (rmW 3 71 0 0) s m args below meth c H locs 0 0 (MQ below (va_Qi (fun r v => r = r0 ∧ v = u0) (BW g A (cW g ad)) A) args s 0 0 A) (F0 m 53 ls [.int y2, .int y1, .ref (ad 2)]) := by
  rw [fX7_add_L53] at hf
  refine lv_ior C.1 C.2.1 dX7_add_53 ?_
  obtain ⟨u5, hu5, hf⟩ := Option.bind_eq_some_iff.mp hf
  refine ptc_X7_classes C hP hD hS wF_X7_38 dX7_add_54 (fun H locs hP hD hS => ?_)
  rw [Option.some.inj hu5] at hP hD
  refine lv_aload_n C.1 C.2.1 dX7_add_57 rfl (lv_at hl 0 rfl) ?_
  refine gtc_X7_above C hP wF_X7_15 dX7_add_58 ?_
  refine lv_iload C.1 C.2.1 dX7_add_61 (lv_at hl 3 rfl) ?_
  refine lv_iload_n C.1 C.2.1 dX7_add_63 rfl (lv_at hl 1 rfl) ?_
  obtain ⟨u6, hu6, hf⟩ := Option.bind_eq_some_iff.mp hf
  refine stc_9 C hP hD hS hu6 dX7_add_64 (fun H locs hP hD hS => ?_)
  refine lv_aload_n C.1 C.2.1 dX7_add_65 rfl (lv_at hl 0 rfl) ?_
  refine gtc_X7_marks C hP wF_X7_19 dX7_add_66 ?_
  refine lv_iload C.1 C.2.1 dX7_add_69 (lv_at hl 3 rfl) ?_
  refine lv_iload_n C.1 C.2.1 dX7_add_71 rfl (lv_at hl 2 rfl) ?_
  obtain ⟨u7, hu7, hf⟩ := Option.bind_eq_some_iff.mp hf
  refine stc_10 C hP hD hS hu7 dX7_add_72 (fun H locs hP hD hS => ?_)
  refine lv_aload_n C.1 C.2.1 dX7_add_73 rfl (lv_at hl 0 rfl) ?_
  refine gtc_X7_faceCount C hP wF_X7_22 dX7_add_74 ?_
  refine lv_iload C.1 C.2.1 dX7_add_77 (lv_at hl 3 rfl) ?_
  refine lv_iconst (v := 0) C.1 C.2.1 dX7_add_79 (by decide) ?_
  obtain ⟨u8, hu8, hf⟩ := Option.bind_eq_some_iff.mp hf
  refine stc_11 C hP hD hS hu8 dX7_add_80 (fun H locs hP hD hS => ?_)
  refine lv_aload_n C.1 C.2.1 dX7_add_81 rfl (lv_at hl 0 rfl) ?_
  obtain ⟨u9, hu9, hf⟩ := Option.bind_eq_some_iff.mp hf
  refine cWv (As := []) (rest := []) (mc := 0) (ms := 0) C (mX7_findOver hu9) vX7_findOver wM_X7_64 ⟨Nat.le_of_ble_eq_true rfl, Nat.le_of_ble_eq_true rfl⟩ hP hD hS hA hZ (rcc_X7 C hP) hl.1 rfl rfl (Nat.le_of_ble_eq_true rfl) dX7_add_82 ⟨Nat.le_of_ble_eq_true rfl, Nat.le_of_ble_eq_true rfl⟩ (fun H locs hP hD hS => ?_)
  refine lv_iload C.1 C.2.1 dX7_add_85 (lv_at hl 3 rfl) ?_
  exact endWi C hP hD hS (Nat.le_refl _) (Nat.le_refl _) hf dX7_add_87
set_option maxRecDepth 100000 in
set_option maxHeartbeats 4000000 in
theorem mX7_add {r0 : Int32} {u0 : ST} {x1 : Int32} {x2 : Int32} {x3 : Int32} (hf : fX7_add u x1 x2 x3 = some (r0, u0)) : MWi l yX7_add cX7_add 5 (some .int) 3 71 0 0 [.ref (ad 2), .int x1, .int x2, .int x3] g (cW g ad) u r0 u0 := by
  refine entW (Qc := fun A => va_Qi (fun r v => r = r0 ∧ v = u0) (BW g A (cW g ad)) A) (by decide) (Nat.le_of_ble_eq_true rfl) ?_
  intro p e s m below meth c ls A C hP hD hS hA hZ hl
  have hl : lv_has ls 5 [(0, .ref (ad 2)), (1, .int x1), (2, .int x2), (3, .int x3)] := hl
  rw [fX7_add] at hf
  refine lv_aload_n C.1 C.2.1 dX7_add_0 rfl (lv_at hl 0 rfl) ?_
  refine gtc_X7_size C hP wF_X7_34 dX7_add_1 ?_
  refine lv_bipush (v := 12) C.1 C.2.1 dX7_add_4 (by decide) ?_
  refine lv_icmp_lt (tgt := 12) C.1 C.2.1 dX7_add_6 (by decide) (fun c1 => ?_) (fun c1 => ?_)
  · rw [if_pos c1] at hf
    refine lv_aload_n C.1 C.2.1 dX7_add_12 rfl (lv_at hl 0 rfl) ?_
    refine gtc_X7_size C hP wF_X7_34 dX7_add_13 ?_
    refine lv_istore (lv' := [(4, .int (sI u 200)), (0, .ref (ad 2)), (1, .int x1), (2, .int x2), (3, .int x3)]) C.1 C.2.1 dX7_add_16 hl (by decide) rfl (fun ls hl => ?_)
    refine lv_aload_n C.1 C.2.1 dX7_add_18 rfl (lv_at hl 1 rfl) ?_
    refine lv_dup C.1 C.2.1 dX7_add_19 rfl ?_
    refine gtc_X7_size C hP wF_X7_34 dX7_add_20 ?_
    refine lv_iconst (v := 1) C.1 C.2.1 dX7_add_23 (by decide) ?_
    refine lv_iadd C.1 C.2.1 dX7_add_24 ?_
    obtain ⟨u2, hu2, hf⟩ := Option.bind_eq_some_iff.mp hf
    refine ptc_X7_size C hP hD hS wF_X7_34 dX7_add_25 (fun H locs hP hD hS => ?_)
    rw [Option.some.inj hu2] at hP hD
    refine lv_aload_n C.1 C.2.1 dX7_add_28 rfl (lv_at hl 1 rfl) ?_
    refine gtc_X7_isFace C hP wF_X7_11 dX7_add_29 ?_
    refine lv_iload C.1 C.2.1 dX7_add_32 (lv_at hl 0 rfl) ?_
    refine lv_iload_n C.1 C.2.1 dX7_add_34 rfl (lv_at hl 2 rfl) ?_
    obtain ⟨u3, hu3, hf⟩ := Option.bind_eq_some_iff.mp hf
    refine stc_8 C hP hD hS hu3 dX7_add_35 (fun H locs hP hD hS => ?_)
    refine lv_aload_n C.1 C.2.1 dX7_add_36 rfl (lv_at hl 1 rfl) ?_
    refine lv_dup C.1 C.2.1 dX7_add_37 rfl ?_
    refine gtc_X7_classes C hP wF_X7_38 dX7_add_38 ?_
    refine lv_iload_n C.1 C.2.1 dX7_add_41 rfl (lv_at hl 2 rfl) ?_
    refine lv_if_eq (tgt := 49) C.1 C.2.1 dX7_add_42 (by decide) (fun c4 => ?_) (fun c4 => ?_)
    · rw [if_pos c4] at hf
      refine lv_iconst (v := 1) C.1 C.2.1 dX7_add_49 (by decide) ?_
      refine lv_iload C.1 C.2.1 dX7_add_50 (lv_at hl 0 rfl) ?_
      refine lv_ishl C.1 C.2.1 dX7_add_52 ?_
      exact bX7_add_L53 C hA hZ hP hD hS (lv_sub hl [1, 3, 4, 0] rfl) hf
    · rw [if_neg c4] at hf
      refine lv_iconst (v := 0) C.1 C.2.1 dX7_add_45 (by decide) ?_
      refine lv_goto (tgt := 53) C.1 C.2.1 dX7_add_46 (by decide) ?_
      exact bX7_add_L53 C hA hZ hP hD hS (lv_sub hl [1, 3, 4, 0] rfl) hf
  · rw [if_neg c1] at hf
    refine lv_bipush (v := -3) C.1 C.2.1 dX7_add_9 (by decide) ?_
    exact endWi C hP hD hS (Nat.le_refl _) (Nat.le_refl _) hf dX7_add_11
end
theorem vX7_add : YV yX7_add cX7_add 5 (some .int) 3 := ⟨⟨wK_X7_add, wZ_X7, by decide +kernel⟩, wI_X7_add, wV_X7_add⟩
def fX7_putAbove (u : ST) (x1 : Int32) (x2 : Int32) : Option (Int32 × ST) :=
  (fX7_isType u x1).bind fun v1 =>
  if v1 = 0 then
    some ((-1), u)
  else
    (stI u 9 12 x1 x2).bind fun u3 =>
    (fX7_findOver u3).bind fun u4 =>
    some (1, u4)
section
variable {p : Program} {l : Launch} {e : Env} {s : State} {m : MethodId} {args : Array Value} {below : List Frame} {meth : Method} {c : Code} {H : Heap} {locs : List Loc} {g : GP} {ls : Array Slot} {A : Nat → Prop} {ad : Nat → Nat} {u : ST}
set_option maxRecDepth 100000 in
set_option maxHeartbeats 4000000 in
theorem mX7_putAbove {r0 : Int32} {u0 : ST} {x1 : Int32} {x2 : Int32} (hf : fX7_putAbove u x1 x2 = some (r0, u0)) : MWi l yX7_putAbove cX7_putAbove 3 (some .int) 3 71 0 0 [.ref (ad 2), .int x1, .int x2] g (cW g ad) u r0 u0 := by
  refine entW (Qc := fun A => va_Qi (fun r v => r = r0 ∧ v = u0) (BW g A (cW g ad)) A) (by decide) (Nat.le_of_ble_eq_true rfl) ?_
  intro p e s m below meth c ls A C hP hD hS hA hZ hl
  have hl : lv_has ls 3 [(0, .ref (ad 2)), (1, .int x1), (2, .int x2)] := hl
  rw [fX7_putAbove] at hf
  refine lv_aload_n C.1 C.2.1 dX7_putAbove_0 rfl (lv_at hl 0 rfl) ?_
  refine lv_iload_n C.1 C.2.1 dX7_putAbove_1 rfl (lv_at hl 1 rfl) ?_
  obtain ⟨v1, hv1, hf⟩ := Option.bind_eq_some_iff.mp hf
  refine cRi (As := [.int x1]) (rest := []) C (mX7_isType hv1) vX7_isType wM_X7_45 ⟨Nat.le_of_ble_eq_true rfl, Nat.le_of_ble_eq_true rfl⟩ hP (rcc_X7 C hP) (fun U hU hW => SF.go hZ hS hU hW (fun _ h => h.elim)) hl.1 rfl rfl (Nat.le_of_ble_eq_true rfl) dX7_putAbove_2 ⟨Nat.le_of_ble_eq_true rfl, Nat.le_of_ble_eq_true rfl⟩ ?_
  refine lv_if_ne (tgt := 10) C.1 C.2.1 dX7_putAbove_5 (by decide) (fun c2 => ?_) (fun c2 => ?_)
  · rw [if_neg c2] at hf
    refine lv_aload_n C.1 C.2.1 dX7_putAbove_10 rfl (lv_at hl 0 rfl) ?_
    refine gtc_X7_above C hP wF_X7_15 dX7_putAbove_11 ?_
    refine lv_iload_n C.1 C.2.1 dX7_putAbove_14 rfl (lv_at hl 1 rfl) ?_
    refine lv_iload_n C.1 C.2.1 dX7_putAbove_15 rfl (lv_at hl 2 rfl) ?_
    obtain ⟨u3, hu3, hf⟩ := Option.bind_eq_some_iff.mp hf
    refine stc_9 C hP hD hS hu3 dX7_putAbove_16 (fun H locs hP hD hS => ?_)
    refine lv_aload_n C.1 C.2.1 dX7_putAbove_17 rfl (lv_at hl 0 rfl) ?_
    obtain ⟨u4, hu4, hf⟩ := Option.bind_eq_some_iff.mp hf
    refine cWv (As := []) (rest := []) (mc := 0) (ms := 0) C (mX7_findOver hu4) vX7_findOver wM_X7_64 ⟨Nat.le_of_ble_eq_true rfl, Nat.le_of_ble_eq_true rfl⟩ hP hD hS hA hZ (rcc_X7 C hP) hl.1 rfl rfl (Nat.le_of_ble_eq_true rfl) dX7_putAbove_18 ⟨Nat.le_of_ble_eq_true rfl, Nat.le_of_ble_eq_true rfl⟩ (fun H locs hP hD hS => ?_)
    refine lv_iconst (v := 1) C.1 C.2.1 dX7_putAbove_21 (by decide) ?_
    exact endWi C hP hD hS (Nat.le_refl _) (Nat.le_refl _) hf dX7_putAbove_22
  · rw [if_pos c2] at hf
    refine lv_iconst (v := -1) C.1 C.2.1 dX7_putAbove_8 (by decide) ?_
    exact endWi C hP hD hS (Nat.le_refl _) (Nat.le_refl _) hf dX7_putAbove_9
end
theorem vX7_putAbove : YV yX7_putAbove cX7_putAbove 3 (some .int) 2 := ⟨⟨wK_X7_putAbove, wZ_X7, by decide +kernel⟩, wI_X7_putAbove, wV_X7_putAbove⟩
def fX7_addFace (u : ST) (x1 : Int32) (x2 : Int32) : Option (Int32 × ST) :=
  (fX7_isType u x1).bind fun v1 =>
  if v1 = 0 then
    some ((-1), u)
  else
    (rdI u 11 12 x1).bind fun v3 =>
    if v3 < 3 then
      (rdI u 11 12 x1).bind fun v5 =>
      (stI u 12 36 ((x1 * 3) + v5) x2).bind fun u6 =>
      (rdI u6 11 12 x1).bind fun v7 =>
      (stI u6 11 12 x1 (v7 + 1)).bind fun u8 =>
      (fX7_findOver u8).bind fun u9 =>
      (rdI u9 11 12 x1).bind fun v10 =>
      some (v10, u9)
    else
      some ((-1), u)
section
variable {p : Program} {l : Launch} {e : Env} {s : State} {m : MethodId} {args : Array Value} {below : List Frame} {meth : Method} {c : Code} {H : Heap} {locs : List Loc} {g : GP} {ls : Array Slot} {A : Nat → Prop} {ad : Nat → Nat} {u : ST}
set_option maxRecDepth 100000 in
set_option maxHeartbeats 4000000 in
theorem mX7_addFace {r0 : Int32} {u0 : ST} {x1 : Int32} {x2 : Int32} (hf : fX7_addFace u x1 x2 = some (r0, u0)) : MWi l yX7_addFace cX7_addFace 3 (some .int) 3 71 0 0 [.ref (ad 2), .int x1, .int x2] g (cW g ad) u r0 u0 := by
  refine entW (Qc := fun A => va_Qi (fun r v => r = r0 ∧ v = u0) (BW g A (cW g ad)) A) (by decide) (Nat.le_of_ble_eq_true rfl) ?_
  intro p e s m below meth c ls A C hP hD hS hA hZ hl
  have hl : lv_has ls 3 [(0, .ref (ad 2)), (1, .int x1), (2, .int x2)] := hl
  rw [fX7_addFace] at hf
  refine lv_aload_n C.1 C.2.1 dX7_addFace_0 rfl (lv_at hl 0 rfl) ?_
  refine lv_iload_n C.1 C.2.1 dX7_addFace_1 rfl (lv_at hl 1 rfl) ?_
  obtain ⟨v1, hv1, hf⟩ := Option.bind_eq_some_iff.mp hf
  refine cRi (As := [.int x1]) (rest := []) C (mX7_isType hv1) vX7_isType wM_X7_45 ⟨Nat.le_of_ble_eq_true rfl, Nat.le_of_ble_eq_true rfl⟩ hP (rcc_X7 C hP) (fun U hU hW => SF.go hZ hS hU hW (fun _ h => h.elim)) hl.1 rfl rfl (Nat.le_of_ble_eq_true rfl) dX7_addFace_2 ⟨Nat.le_of_ble_eq_true rfl, Nat.le_of_ble_eq_true rfl⟩ ?_
  refine lv_if_eq (tgt := 18) C.1 C.2.1 dX7_addFace_5 (by decide) (fun c2 => ?_) (fun c2 => ?_)
  · rw [if_pos c2] at hf
    refine lv_iconst (v := -1) C.1 C.2.1 dX7_addFace_18 (by decide) ?_
    exact endWi C hP hD hS (Nat.le_refl _) (Nat.le_refl _) hf dX7_addFace_19
  · rw [if_neg c2] at hf
    refine lv_aload_n C.1 C.2.1 dX7_addFace_8 rfl (lv_at hl 0 rfl) ?_
    refine gtc_X7_faceCount C hP wF_X7_22 dX7_addFace_9 ?_
    refine lv_iload_n C.1 C.2.1 dX7_addFace_12 rfl (lv_at hl 1 rfl) ?_
    obtain ⟨v3, hv3, hf⟩ := Option.bind_eq_some_iff.mp hf
    refine ldc_11 C hP hv3 dX7_addFace_13 ?_
    refine lv_iconst (v := 3) C.1 C.2.1 dX7_addFace_14 (by decide) ?_
    refine lv_icmp_lt (tgt := 20) C.1 C.2.1 dX7_addFace_15 (by decide) (fun c4 => ?_) (fun c4 => ?_)
    · rw [if_pos c4] at hf
      refine lv_aload_n C.1 C.2.1 dX7_addFace_20 rfl (lv_at hl 0 rfl) ?_
      refine gtc_X7_faces C hP wF_X7_25 dX7_addFace_21 ?_
      refine lv_iload_n C.1 C.2.1 dX7_addFace_24 rfl (lv_at hl 1 rfl) ?_
      refine lv_iconst (v := 3) C.1 C.2.1 dX7_addFace_25 (by decide) ?_
      refine lv_imul C.1 C.2.1 dX7_addFace_26 ?_
      refine lv_aload_n C.1 C.2.1 dX7_addFace_27 rfl (lv_at hl 0 rfl) ?_
      refine gtc_X7_faceCount C hP wF_X7_22 dX7_addFace_28 ?_
      refine lv_iload_n C.1 C.2.1 dX7_addFace_31 rfl (lv_at hl 1 rfl) ?_
      obtain ⟨v5, hv5, hf⟩ := Option.bind_eq_some_iff.mp hf
      refine ldc_11 C hP hv5 dX7_addFace_32 ?_
      refine lv_iadd C.1 C.2.1 dX7_addFace_33 ?_
      refine lv_iload_n C.1 C.2.1 dX7_addFace_34 rfl (lv_at hl 2 rfl) ?_
      obtain ⟨u6, hu6, hf⟩ := Option.bind_eq_some_iff.mp hf
      refine stc_12 C hP hD hS hu6 dX7_addFace_35 (fun H locs hP hD hS => ?_)
      refine lv_aload_n C.1 C.2.1 dX7_addFace_36 rfl (lv_at hl 0 rfl) ?_
      refine gtc_X7_faceCount C hP wF_X7_22 dX7_addFace_37 ?_
      refine lv_iload_n C.1 C.2.1 dX7_addFace_40 rfl (lv_at hl 1 rfl) ?_
      refine lv_dup2_11 C.1 C.2.1 dX7_addFace_41 rfl rfl ?_
      obtain ⟨v7, hv7, hf⟩ := Option.bind_eq_some_iff.mp hf
      refine ldc_11 C hP hv7 dX7_addFace_42 ?_
      refine lv_iconst (v := 1) C.1 C.2.1 dX7_addFace_43 (by decide) ?_
      refine lv_iadd C.1 C.2.1 dX7_addFace_44 ?_
      obtain ⟨u8, hu8, hf⟩ := Option.bind_eq_some_iff.mp hf
      refine stc_11 C hP hD hS hu8 dX7_addFace_45 (fun H locs hP hD hS => ?_)
      refine lv_aload_n C.1 C.2.1 dX7_addFace_46 rfl (lv_at hl 0 rfl) ?_
      obtain ⟨u9, hu9, hf⟩ := Option.bind_eq_some_iff.mp hf
      refine cWv (As := []) (rest := []) (mc := 0) (ms := 0) C (mX7_findOver hu9) vX7_findOver wM_X7_64 ⟨Nat.le_of_ble_eq_true rfl, Nat.le_of_ble_eq_true rfl⟩ hP hD hS hA hZ (rcc_X7 C hP) hl.1 rfl rfl (Nat.le_of_ble_eq_true rfl) dX7_addFace_47 ⟨Nat.le_of_ble_eq_true rfl, Nat.le_of_ble_eq_true rfl⟩ (fun H locs hP hD hS => ?_)
      refine lv_aload_n C.1 C.2.1 dX7_addFace_50 rfl (lv_at hl 0 rfl) ?_
      refine gtc_X7_faceCount C hP wF_X7_22 dX7_addFace_51 ?_
      refine lv_iload_n C.1 C.2.1 dX7_addFace_54 rfl (lv_at hl 1 rfl) ?_
      obtain ⟨v10, hv10, hf⟩ := Option.bind_eq_some_iff.mp hf
      refine ldc_11 C hP hv10 dX7_addFace_55 ?_
      exact endWi C hP hD hS (Nat.le_refl _) (Nat.le_refl _) hf dX7_addFace_56
    · rw [if_neg c4] at hf
      refine lv_iconst (v := -1) C.1 C.2.1 dX7_addFace_18 (by decide) ?_
      exact endWi C hP hD hS (Nat.le_refl _) (Nat.le_refl _) hf dX7_addFace_19
end
theorem vX7_addFace : YV yX7_addFace cX7_addFace 3 (some .int) 2 := ⟨⟨wK_X7_addFace, wZ_X7, by decide +kernel⟩, wI_X7_addFace, wV_X7_addFace⟩
def fX7_removeFace_L26 : Nat → ST → Int32 → Int32 → Option (Int32 × ST)
  | 0, _, _, _ => none
  | n + 1, u, x1, x3 =>
    (rdI u 11 12 x1).bind fun v6 =>
    if v6 ≤ (x3 + 1) then
      (rdI u 11 12 x1).bind fun v8 =>
      (stI u 11 12 x1 (v8 - 1)).bind fun u9 =>
      (fX7_findOver u9).bind fun u10 =>
      (rdI u10 11 12 x1).bind fun v11 =>
      some (v11, u10)
    else
      (rdI u 12 36 (((x1 * 3) + x3) + 1)).bind fun v12 =>
      (stI u 12 36 ((x1 * 3) + x3) v12).bind fun u13 =>
      fX7_removeFace_L26 n u13 x1 (x3 + 1)
def fX7_removeFace (u : ST) (x1 : Int32) (x2 : Int32) : Option (Int32 × ST) :=
  (fX7_isType u x1).bind fun v1 =>
  if v1 = 0 then
    some ((-1), u)
  else
    if x2 < 0 then
      some ((-1), u)
    else
      (rdI u 11 12 x1).bind fun v4 =>
      if x2 < v4 then
        fX7_removeFace_L26 5000 u x1 x2
      else
        some ((-1), u)
section
variable {p : Program} {l : Launch} {e : Env} {s : State} {m : MethodId} {args : Array Value} {below : List Frame} {meth : Method} {c : Code} {H : Heap} {locs : List Loc} {g : GP} {ls : Array Slot} {A : Nat → Prop} {ad : Nat → Nat} {u : ST}
set_option maxRecDepth 100000 in
set_option maxHeartbeats 4000000 in
theorem bX7_removeFace_L26 {r0 : Int32} {u0 : ST} (C : Cx p s m args meth c cX7_removeFace 4 RX7 (some .int) g) (hA : ∀ q, s.heap.size ≤ q → A q) (hZ : SF A s) : ∀ (n : Nat), ∀ (u : ST) (x1 : Int32) (x3 : Int32) (H : Heap) (locs : List Loc), va_P g.1 vwCl (cW g ad u) H → va_D A (cW g ad u) → va_S A s.heap H locs → ∀ (ls : Array Slot), lv_has ls 4 [(0, .ref (ad 2)), (1, .int x1), (3, .int x3)] → fX7_removeFace_L26 n u x1 x3 = some (r0, u0) → W p l e (rmW 3 71 0 0) s m args below meth c H locs 0 0 (MQ below (va_Qi (fun r v => r = r0 ∧ v = u0) (BW g A (cW g ad)) A) args s 0 0 A) (F0 m 26 ls []) := by
  intro n
  induction n with
  | zero =>
    intro u x1 x3 H locs hP hD hS ls hl hf
    exact absurd hf (by simp [fX7_removeFace_L26])
  | succ n ih =>
    intro u x1 x3 H locs hP hD hS ls hl hf
    rw [fX7_removeFace_L26] at hf
    refine lv_iload_n C.1 C.2.1 dX7_removeFace_26 rfl (lv_at hl 2 rfl) ?_
    refine lv_iconst (v := 1) C.1 C.2.1 dX7_removeFace_27 (by decide) ?_
    refine lv_iadd C.1 C.2.1 dX7_removeFace_28 ?_
    refine lv_aload_n C.1 C.2.1 dX7_removeFace_29 rfl (lv_at hl 0 rfl) ?_
    refine gtc_X7_faceCount C hP wF_X7_22 dX7_removeFace_30 ?_
    refine lv_iload_n C.1 C.2.1 dX7_removeFace_33 rfl (lv_at hl 1 rfl) ?_
    obtain ⟨v6, hv6, hf⟩ := Option.bind_eq_some_iff.mp hf
    refine ldc_11 C hP hv6 dX7_removeFace_34 ?_
    refine lv_icmp_ge (tgt := 66) C.1 C.2.1 dX7_removeFace_35 (by decide) (fun c7 => ?_) (fun c7 => ?_)
    · rw [if_pos c7] at hf
      refine lv_aload_n C.1 C.2.1 dX7_removeFace_66 rfl (lv_at hl 0 rfl) ?_
      refine gtc_X7_faceCount C hP wF_X7_22 dX7_removeFace_67 ?_
      refine lv_iload_n C.1 C.2.1 dX7_removeFace_70 rfl (lv_at hl 1 rfl) ?_
      refine lv_dup2_11 C.1 C.2.1 dX7_removeFace_71 rfl rfl ?_
      obtain ⟨v8, hv8, hf⟩ := Option.bind_eq_some_iff.mp hf
      refine ldc_11 C hP hv8 dX7_removeFace_72 ?_
      refine lv_iconst (v := 1) C.1 C.2.1 dX7_removeFace_73 (by decide) ?_
      refine lv_isub C.1 C.2.1 dX7_removeFace_74 ?_
      obtain ⟨u9, hu9, hf⟩ := Option.bind_eq_some_iff.mp hf
      refine stc_11 C hP hD hS hu9 dX7_removeFace_75 (fun H locs hP hD hS => ?_)
      refine lv_aload_n C.1 C.2.1 dX7_removeFace_76 rfl (lv_at hl 0 rfl) ?_
      obtain ⟨u10, hu10, hf⟩ := Option.bind_eq_some_iff.mp hf
      refine cWv (As := []) (rest := []) (mc := 0) (ms := 0) C (mX7_findOver hu10) vX7_findOver wM_X7_64 ⟨Nat.le_of_ble_eq_true rfl, Nat.le_of_ble_eq_true rfl⟩ hP hD hS hA hZ (rcc_X7 C hP) hl.1 rfl rfl (Nat.le_of_ble_eq_true rfl) dX7_removeFace_77 ⟨Nat.le_of_ble_eq_true rfl, Nat.le_of_ble_eq_true rfl⟩ (fun H locs hP hD hS => ?_)
      refine lv_aload_n C.1 C.2.1 dX7_removeFace_80 rfl (lv_at hl 0 rfl) ?_
      refine gtc_X7_faceCount C hP wF_X7_22 dX7_removeFace_81 ?_
      refine lv_iload_n C.1 C.2.1 dX7_removeFace_84 rfl (lv_at hl 1 rfl) ?_
      obtain ⟨v11, hv11, hf⟩ := Option.bind_eq_some_iff.mp hf
      refine ldc_11 C hP hv11 dX7_removeFace_85 ?_
      exact endWi C hP hD hS (Nat.le_refl _) (Nat.le_refl _) hf dX7_removeFace_86
    · rw [if_neg c7] at hf
      refine lv_aload_n C.1 C.2.1 dX7_removeFace_38 rfl (lv_at hl 0 rfl) ?_
      refine gtc_X7_faces C hP wF_X7_25 dX7_removeFace_39 ?_
      refine lv_iload_n C.1 C.2.1 dX7_removeFace_42 rfl (lv_at hl 1 rfl) ?_
      refine lv_iconst (v := 3) C.1 C.2.1 dX7_removeFace_43 (by decide) ?_
      refine lv_imul C.1 C.2.1 dX7_removeFace_44 ?_
      refine lv_iload_n C.1 C.2.1 dX7_removeFace_45 rfl (lv_at hl 2 rfl) ?_
      refine lv_iadd C.1 C.2.1 dX7_removeFace_46 ?_
      refine lv_aload_n C.1 C.2.1 dX7_removeFace_47 rfl (lv_at hl 0 rfl) ?_
      refine gtc_X7_faces C hP wF_X7_25 dX7_removeFace_48 ?_
      refine lv_iload_n C.1 C.2.1 dX7_removeFace_51 rfl (lv_at hl 1 rfl) ?_
      refine lv_iconst (v := 3) C.1 C.2.1 dX7_removeFace_52 (by decide) ?_
      refine lv_imul C.1 C.2.1 dX7_removeFace_53 ?_
      refine lv_iload_n C.1 C.2.1 dX7_removeFace_54 rfl (lv_at hl 2 rfl) ?_
      refine lv_iadd C.1 C.2.1 dX7_removeFace_55 ?_
      refine lv_iconst (v := 1) C.1 C.2.1 dX7_removeFace_56 (by decide) ?_
      refine lv_iadd C.1 C.2.1 dX7_removeFace_57 ?_
      obtain ⟨v12, hv12, hf⟩ := Option.bind_eq_some_iff.mp hf
      refine ldc_12 C hP hv12 dX7_removeFace_58 ?_
      obtain ⟨u13, hu13, hf⟩ := Option.bind_eq_some_iff.mp hf
      refine stc_12 C hP hD hS hu13 dX7_removeFace_59 (fun H locs hP hD hS => ?_)
      refine lv_iinc (v := (x3 + 1)) (lv' := [(3, .int (x3 + 1)), (0, .ref (ad 2)), (1, .int x1)]) C.1 C.2.1 dX7_removeFace_60 hl (k := 2) rfl rfl (by decide) rfl (fun ls hl => ?_)
      refine lv_goto (tgt := 26) C.1 C.2.1 dX7_removeFace_63 (by decide) ?_
      exact ih u13 x1 (x3 + 1) _ _ hP hD hS _ (lv_sub hl [1, 2, 0] rfl) hf
set_option maxRecDepth 100000 in
set_option maxHeartbeats 4000000 in
theorem mX7_removeFace {r0 : Int32} {u0 : ST} {x1 : Int32} {x2 : Int32} (hf : fX7_removeFace u x1 x2 = some (r0, u0)) : MWi l yX7_removeFace cX7_removeFace 4 (some .int) 3 71 0 0 [.ref (ad 2), .int x1, .int x2] g (cW g ad) u r0 u0 := by
  refine entW (Qc := fun A => va_Qi (fun r v => r = r0 ∧ v = u0) (BW g A (cW g ad)) A) (by decide) (Nat.le_of_ble_eq_true rfl) ?_
  intro p e s m below meth c ls A C hP hD hS hA hZ hl
  have hl : lv_has ls 4 [(0, .ref (ad 2)), (1, .int x1), (2, .int x2)] := hl
  rw [fX7_removeFace] at hf
  refine lv_aload_n C.1 C.2.1 dX7_removeFace_0 rfl (lv_at hl 0 rfl) ?_
  refine lv_iload_n C.1 C.2.1 dX7_removeFace_1 rfl (lv_at hl 1 rfl) ?_
  obtain ⟨v1, hv1, hf⟩ := Option.bind_eq_some_iff.mp hf
  refine cRi (As := [.int x1]) (rest := []) C (mX7_isType hv1) vX7_isType wM_X7_45 ⟨Nat.le_of_ble_eq_true rfl, Nat.le_of_ble_eq_true rfl⟩ hP (rcc_X7 C hP) (fun U hU hW => SF.go hZ hS hU hW (fun _ h => h.elim)) hl.1 rfl rfl (Nat.le_of_ble_eq_true rfl) dX7_removeFace_2 ⟨Nat.le_of_ble_eq_true rfl, Nat.le_of_ble_eq_true rfl⟩ ?_
  refine lv_if_eq (tgt := 22) C.1 C.2.1 dX7_removeFace_5 (by decide) (fun c2 => ?_) (fun c2 => ?_)
  · rw [if_pos c2] at hf
    refine lv_iconst (v := -1) C.1 C.2.1 dX7_removeFace_22 (by decide) ?_
    exact endWi C hP hD hS (Nat.le_refl _) (Nat.le_refl _) hf dX7_removeFace_23
  · rw [if_neg c2] at hf
    refine lv_iload_n C.1 C.2.1 dX7_removeFace_8 rfl (lv_at hl 2 rfl) ?_
    refine lv_if_lt (tgt := 22) C.1 C.2.1 dX7_removeFace_9 (by decide) (fun c3 => ?_) (fun c3 => ?_)
    · rw [if_pos c3] at hf
      refine lv_iconst (v := -1) C.1 C.2.1 dX7_removeFace_22 (by decide) ?_
      exact endWi C hP hD hS (Nat.le_refl _) (Nat.le_refl _) hf dX7_removeFace_23
    · rw [if_neg c3] at hf
      refine lv_iload_n C.1 C.2.1 dX7_removeFace_12 rfl (lv_at hl 2 rfl) ?_
      refine lv_aload_n C.1 C.2.1 dX7_removeFace_13 rfl (lv_at hl 0 rfl) ?_
      refine gtc_X7_faceCount C hP wF_X7_22 dX7_removeFace_14 ?_
      refine lv_iload_n C.1 C.2.1 dX7_removeFace_17 rfl (lv_at hl 1 rfl) ?_
      obtain ⟨v4, hv4, hf⟩ := Option.bind_eq_some_iff.mp hf
      refine ldc_11 C hP hv4 dX7_removeFace_18 ?_
      refine lv_icmp_lt (tgt := 24) C.1 C.2.1 dX7_removeFace_19 (by decide) (fun c5 => ?_) (fun c5 => ?_)
      · rw [if_pos c5] at hf
        refine lv_iload_n C.1 C.2.1 dX7_removeFace_24 rfl (lv_at hl 2 rfl) ?_
        refine lv_istore_n (lv' := [(3, .int x2), (0, .ref (ad 2)), (1, .int x1), (2, .int x2)]) C.1 C.2.1 dX7_removeFace_25 rfl hl (by decide) rfl (fun ls hl => ?_)
        exact bX7_removeFace_L26 C hA hZ 5000 u x1 x2 _ _ hP hD hS _ (lv_sub hl [1, 2, 0] rfl) hf
      · rw [if_neg c5] at hf
        refine lv_iconst (v := -1) C.1 C.2.1 dX7_removeFace_22 (by decide) ?_
        exact endWi C hP hD hS (Nat.le_refl _) (Nat.le_refl _) hf dX7_removeFace_23
end
theorem vX7_removeFace : YV yX7_removeFace cX7_removeFace 4 (some .int) 2 := ⟨⟨wK_X7_removeFace, wZ_X7, by decide +kernel⟩, wI_X7_removeFace, wV_X7_removeFace⟩
def fX7_changeMarks (u : ST) (x1 : Int32) (x2 : Int32) : Option (Int32 × ST) :=
  (fX7_isType u x1).bind fun v1 =>
  if v1 = 0 then
    some ((-1), u)
  else
    (rdI u 10 12 x1).bind fun v3 =>
    (stI u 10 12 x1 x2).bind fun u4 =>
    some (v3, u4)
section
variable {p : Program} {l : Launch} {e : Env} {s : State} {m : MethodId} {args : Array Value} {below : List Frame} {meth : Method} {c : Code} {H : Heap} {locs : List Loc} {g : GP} {ls : Array Slot} {A : Nat → Prop} {ad : Nat → Nat} {u : ST}
set_option maxRecDepth 100000 in
set_option maxHeartbeats 4000000 in
theorem mX7_changeMarks {r0 : Int32} {u0 : ST} {x1 : Int32} {x2 : Int32} (hf : fX7_changeMarks u x1 x2 = some (r0, u0)) : MWi l yX7_changeMarks cX7_changeMarks 4 (some .int) 1 21 0 0 [.ref (ad 2), .int x1, .int x2] g (cW g ad) u r0 u0 := by
  refine entW (Qc := fun A => va_Qi (fun r v => r = r0 ∧ v = u0) (BW g A (cW g ad)) A) (by decide) (Nat.le_of_ble_eq_true rfl) ?_
  intro p e s m below meth c ls A C hP hD hS hA hZ hl
  have hl : lv_has ls 4 [(0, .ref (ad 2)), (1, .int x1), (2, .int x2)] := hl
  rw [fX7_changeMarks] at hf
  refine lv_aload_n C.1 C.2.1 dX7_changeMarks_0 rfl (lv_at hl 0 rfl) ?_
  refine lv_iload_n C.1 C.2.1 dX7_changeMarks_1 rfl (lv_at hl 1 rfl) ?_
  obtain ⟨v1, hv1, hf⟩ := Option.bind_eq_some_iff.mp hf
  refine cRi (As := [.int x1]) (rest := []) C (mX7_isType hv1) vX7_isType wM_X7_45 ⟨Nat.le_of_ble_eq_true rfl, Nat.le_of_ble_eq_true rfl⟩ hP (rcc_X7 C hP) (fun U hU hW => SF.go hZ hS hU hW (fun _ h => h.elim)) hl.1 rfl rfl (Nat.le_of_ble_eq_true rfl) dX7_changeMarks_2 ⟨Nat.le_of_ble_eq_true rfl, Nat.le_of_ble_eq_true rfl⟩ ?_
  refine lv_if_ne (tgt := 10) C.1 C.2.1 dX7_changeMarks_5 (by decide) (fun c2 => ?_) (fun c2 => ?_)
  · rw [if_neg c2] at hf
    refine lv_aload_n C.1 C.2.1 dX7_changeMarks_10 rfl (lv_at hl 0 rfl) ?_
    refine gtc_X7_marks C hP wF_X7_19 dX7_changeMarks_11 ?_
    refine lv_iload_n C.1 C.2.1 dX7_changeMarks_14 rfl (lv_at hl 1 rfl) ?_
    obtain ⟨v3, hv3, hf⟩ := Option.bind_eq_some_iff.mp hf
    refine ldc_10 C hP hv3 dX7_changeMarks_15 ?_
    refine lv_istore_n (lv' := [(3, .int v3), (0, .ref (ad 2)), (1, .int x1), (2, .int x2)]) C.1 C.2.1 dX7_changeMarks_16 rfl hl (by decide) rfl (fun ls hl => ?_)
    refine lv_aload_n C.1 C.2.1 dX7_changeMarks_17 rfl (lv_at hl 1 rfl) ?_
    refine gtc_X7_marks C hP wF_X7_19 dX7_changeMarks_18 ?_
    refine lv_iload_n C.1 C.2.1 dX7_changeMarks_21 rfl (lv_at hl 2 rfl) ?_
    refine lv_iload_n C.1 C.2.1 dX7_changeMarks_22 rfl (lv_at hl 3 rfl) ?_
    obtain ⟨u4, hu4, hf⟩ := Option.bind_eq_some_iff.mp hf
    refine stc_10 C hP hD hS hu4 dX7_changeMarks_23 (fun H locs hP hD hS => ?_)
    refine lv_iload_n C.1 C.2.1 dX7_changeMarks_24 rfl (lv_at hl 0 rfl) ?_
    exact endWi C hP hD hS (Nat.le_refl _) (Nat.le_refl _) hf dX7_changeMarks_25
  · rw [if_pos c2] at hf
    refine lv_iconst (v := -1) C.1 C.2.1 dX7_changeMarks_8 (by decide) ?_
    exact endWi C hP hD hS (Nat.le_refl _) (Nat.le_refl _) hf dX7_changeMarks_9
end
theorem vX7_changeMarks : YV yX7_changeMarks cX7_changeMarks 4 (some .int) 2 := ⟨⟨wK_X7_changeMarks, wZ_X7, by decide +kernel⟩, wI_X7_changeMarks, wV_X7_changeMarks⟩
def fX6_leastFree_L2 (u : ST) : Nat → Int32 → Option Int32
  | 0, _ => none
  | n + 1, x1 =>
    if 60 ≤ x1 then
      some (-2)
    else
      (rdI u 15 60 x1).bind fun v2 =>
      if v2 = (-2) then
        some x1
      else
        fX6_leastFree_L2 u n (x1 + 1)
def fX6_leastFree (u : ST) : Option Int32 :=
  fX6_leastFree_L2 u 5000 0
section
variable {p : Program} {l : Launch} {e : Env} {s : State} {m : MethodId} {args : Array Value} {below : List Frame} {meth : Method} {c : Code} {H : Heap} {locs : List Loc} {g : GP} {ls : Array Slot} {A : Nat → Prop} {ad : Nat → Nat} {u : ST}
set_option maxRecDepth 100000 in
set_option maxHeartbeats 4000000 in
theorem bX6_leastFree_L2 {r0 : Int32} (C : Cx p s m args meth c cX6_leastFree 2 RX6 (some .int) g) (hZ : SF (fun _ => False) s) (n : Nat) : ∀ (x1 : Int32), va_P g.1 vwCl (cW g ad u) s.heap → ∀ (ls : Array Slot), lv_has ls 2 [(0, .ref (ad 3)), (1, .int x1)] → fX6_leastFree_L2 u n x1 = some r0 → W p l e (rmR 0 0) s m args below meth c s.heap [] 0 0 (MQ below (vp_Si (fun r => r = r0)) args s 0 0 (fun _ => False)) (F0 m 2 ls []) := by
  induction n with
  | zero =>
    intro x1 hP ls hl hf
    exact absurd hf (by simp [fX6_leastFree_L2])
  | succ n ih0 =>
    intro x1 hP ls hl hf
    have ih := fun (x1 : Int32) => ih0 x1 hP
    rw [fX6_leastFree_L2] at hf
    refine lv_iload_n C.1 C.2.1 dX6_leastFree_2 rfl (lv_at hl 1 rfl) ?_
    refine lv_bipush (v := 60) C.1 C.2.1 dX6_leastFree_3 (by decide) ?_
    refine lv_icmp_ge (tgt := 27) C.1 C.2.1 dX6_leastFree_5 (by decide) (fun c1 => ?_) (fun c1 => ?_)
    · rw [if_pos c1] at hf
      refine lv_bipush (v := -2) C.1 C.2.1 dX6_leastFree_27 (by decide) ?_
      exact endRi C hf dX6_leastFree_29
    · rw [if_neg c1] at hf
      refine lv_aload_n C.1 C.2.1 dX6_leastFree_8 rfl (lv_at hl 0 rfl) ?_
      refine gtc_X6_owner C hP wF_X6_11 dX6_leastFree_9 ?_
      refine lv_iload_n C.1 C.2.1 dX6_leastFree_12 rfl (lv_at hl 1 rfl) ?_
      obtain ⟨v2, hv2, hf⟩ := Option.bind_eq_some_iff.mp hf
      refine ldc_15 C hP hv2 dX6_leastFree_13 ?_
      refine lv_bipush (v := -2) C.1 C.2.1 dX6_leastFree_14 (by decide) ?_
      refine lv_icmp_ne (tgt := 21) C.1 C.2.1 dX6_leastFree_16 (by decide) (fun c3 => ?_) (fun c3 => ?_)
      · rw [if_neg c3] at hf
        refine lv_iinc (v := (x1 + 1)) (lv' := [(1, .int (x1 + 1)), (0, .ref (ad 3))]) C.1 C.2.1 dX6_leastFree_21 hl (k := 1) rfl rfl (by decide) rfl (fun ls hl => ?_)
        refine lv_goto (tgt := 2) C.1 C.2.1 dX6_leastFree_24 (by decide) ?_
        exact ih (x1 + 1) _ (lv_sub hl [1, 0] rfl) hf
      · rw [if_pos c3] at hf
        refine lv_iload_n C.1 C.2.1 dX6_leastFree_19 rfl (lv_at hl 1 rfl) ?_
        exact endRi C hf dX6_leastFree_20
set_option maxRecDepth 100000 in
set_option maxHeartbeats 4000000 in
theorem mX6_leastFree {r0 : Int32} (hf : fX6_leastFree u = some r0) : MRi l yX6_leastFree cX6_leastFree 2 (some .int) 0 0 [.ref (ad 3)] g (cW g ad u) r0 := by
  refine entR (by decide) (Nat.le_of_ble_eq_true rfl) ?_
  intro p e s m below meth c ls C hP hZ hl
  have hl : lv_has ls 2 [(0, .ref (ad 3))] := hl
  rw [fX6_leastFree] at hf
  refine lv_iconst (v := 0) C.1 C.2.1 dX6_leastFree_0 (by decide) ?_
  refine lv_istore_n (lv' := [(1, .int 0), (0, .ref (ad 3))]) C.1 C.2.1 dX6_leastFree_1 rfl hl (by decide) rfl (fun ls hl => ?_)
  exact bX6_leastFree_L2 C hZ 5000 0 hP _ (lv_sub hl [1, 0] rfl) hf
end
theorem vX6_leastFree : YV yX6_leastFree cX6_leastFree 2 (some .int) 0 := ⟨⟨wK_X6_leastFree, wZ_X6, by decide +kernel⟩, wI_X6_leastFree, wV_X6_leastFree⟩
def fX6_isMember (u : ST) (x1 : Int32) : Option Int32 :=
  if x1 < 0 then
    some 0
  else
    if 60 ≤ x1 then
      some 0
    else
      (rdI u 15 60 x1).bind fun v3 =>
      if v3 = (-2) then
        some 0
      else
        some 1
section
variable {p : Program} {l : Launch} {e : Env} {s : State} {m : MethodId} {args : Array Value} {below : List Frame} {meth : Method} {c : Code} {H : Heap} {locs : List Loc} {g : GP} {ls : Array Slot} {A : Nat → Prop} {ad : Nat → Nat} {u : ST}
set_option maxRecDepth 100000 in
set_option maxHeartbeats 4000000 in
theorem mX6_isMember {r0 : Int32} {x1 : Int32} (hf : fX6_isMember u x1 = some r0) : MRi l yX6_isMember cX6_isMember 2 (some .boolean) 0 0 [.ref (ad 3), .int x1] g (cW g ad u) r0 := by
  refine entR (by decide) (Nat.le_of_ble_eq_true rfl) ?_
  intro p e s m below meth c ls C hP hZ hl
  have hl : lv_has ls 2 [(0, .ref (ad 3)), (1, .int x1)] := hl
  rw [fX6_isMember] at hf
  refine lv_iload_n C.1 C.2.1 dX6_isMember_0 rfl (lv_at hl 1 rfl) ?_
  refine lv_if_lt (tgt := 25) C.1 C.2.1 dX6_isMember_1 (by decide) (fun c1 => ?_) (fun c1 => ?_)
  · rw [if_pos c1] at hf
    refine lv_iconst (v := 0) C.1 C.2.1 dX6_isMember_25 (by decide) ?_
    exact endRz C rfl hf dX6_isMember_26
  · rw [if_neg c1] at hf
    refine lv_iload_n C.1 C.2.1 dX6_isMember_4 rfl (lv_at hl 1 rfl) ?_
    refine lv_bipush (v := 60) C.1 C.2.1 dX6_isMember_5 (by decide) ?_
    refine lv_icmp_ge (tgt := 25) C.1 C.2.1 dX6_isMember_7 (by decide) (fun c2 => ?_) (fun c2 => ?_)
    · rw [if_pos c2] at hf
      refine lv_iconst (v := 0) C.1 C.2.1 dX6_isMember_25 (by decide) ?_
      exact endRz C rfl hf dX6_isMember_26
    · rw [if_neg c2] at hf
      refine lv_aload_n C.1 C.2.1 dX6_isMember_10 rfl (lv_at hl 0 rfl) ?_
      refine gtc_X6_owner C hP wF_X6_11 dX6_isMember_11 ?_
      refine lv_iload_n C.1 C.2.1 dX6_isMember_14 rfl (lv_at hl 1 rfl) ?_
      obtain ⟨v3, hv3, hf⟩ := Option.bind_eq_some_iff.mp hf
      refine ldc_15 C hP hv3 dX6_isMember_15 ?_
      refine lv_bipush (v := -2) C.1 C.2.1 dX6_isMember_16 (by decide) ?_
      refine lv_icmp_eq (tgt := 25) C.1 C.2.1 dX6_isMember_18 (by decide) (fun c4 => ?_) (fun c4 => ?_)
      · rw [if_pos c4] at hf
        refine lv_iconst (v := 0) C.1 C.2.1 dX6_isMember_25 (by decide) ?_
        exact endRz C rfl hf dX6_isMember_26
      · rw [if_neg c4] at hf
        refine lv_iconst (v := 1) C.1 C.2.1 dX6_isMember_21 (by decide) ?_
        refine lv_goto (tgt := 26) C.1 C.2.1 dX6_isMember_22 (by decide) ?_
        exact endRz C rfl hf dX6_isMember_26
end
theorem vX6_isMember : YV yX6_isMember cX6_isMember 2 (some .boolean) 1 := ⟨⟨wK_X6_isMember, wZ_X6, by decide +kernel⟩, wI_X6_isMember, wV_X6_isMember⟩
def fX3_comesOut (u : ST) (x0 : Int32) (x1 : Int64) : Option Int64 :=
  if x0 = 0 then
    if (lg_cmp x1 0) = 0 then
      some 0
    else
      some 1
  else
  if x0 = 1 then
    some (((((x1 : Int64).toInt32).toInt8.toInt32) : Int32).toInt64)
  else
  if x0 = 2 then
    some ((((((x1 : Int64).toInt32).toUInt32 % 65536).toInt32) : Int32).toInt64)
  else
  if x0 = 3 then
    some (((((x1 : Int64).toInt32).toInt16.toInt32) : Int32).toInt64)
  else
  if x0 = 4 then
    some ((((x1 : Int64).toInt32) : Int32).toInt64)
  else
  if x0 = 5 then
    some x1
  else
  if x0 = 6 then
    some (FP.f2l (FP.l2f x1))
  else
  if x0 = 7 then
    some (FP.d2l (FP.l2d x1))
  else
    some x1
section
variable {p : Program} {l : Launch} {e : Env} {s : State} {m : MethodId} {args : Array Value} {below : List Frame} {meth : Method} {c : Code} {H : Heap} {locs : List Loc} {g : GP} {ls : Array Slot} {A : Nat → Prop} {ad : Nat → Nat} {u : ST}
set_option maxRecDepth 100000 in
set_option maxHeartbeats 4000000 in
theorem mX3_comesOut {r0 : Int64} {x0 : Int32} {x1 : Int64} (hf : fX3_comesOut u x0 x1 = some r0) : MRl l yX3_comesOut cX3_comesOut 3 (some .long) 0 0 [.int x0, .long x1] g (cW g ad u) r0 := by
  refine entR (by decide) (Nat.le_of_ble_eq_true rfl) ?_
  intro p e s m below meth c ls C hP hZ hl
  have hl : lv_has ls 3 [(0, .int x0), (1, .long x1)] := hl
  rw [fX3_comesOut] at hf
  refine lv_iload_n C.1 C.2.1 dX3_comesOut_0 rfl (lv_at hl 0 rfl) ?_
  by_cases c1 : x0 = 0
  · rw [if_pos c1] at hf
    have e9 : (x0 : Int32).toInt = 0 := by rw [c1]; rfl
    refine lv_tableIn (off := 47) (tgt := 48) C.1 C.2.1 dX3_comesOut_1 (by rw [e9]; decide) (by rw [e9]; decide) (by rw [e9]; rfl) (by decide) ?_
    refine lv_lload_n C.1 C.2.1 dX3_comesOut_48 rfl (lv_at hl 1 rfl) ?_
    refine lv_lconst (v := 0) C.1 C.2.1 dX3_comesOut_49 (by decide) ?_
    refine W.lcmp C.1 C.2.1 dX3_comesOut_50 ?_
    refine lv_if_eq (tgt := 58) C.1 C.2.1 dX3_comesOut_51 (by decide) (fun c2 => ?_) (fun c2 => ?_)
    · rw [if_pos c2] at hf
      refine lv_lconst (v := 0) C.1 C.2.1 dX3_comesOut_58 (by decide) ?_
      exact endRl C hf dX3_comesOut_59
    · rw [if_neg c2] at hf
      refine lv_lconst (v := 1) C.1 C.2.1 dX3_comesOut_54 (by decide) ?_
      refine lv_goto (tgt := 59) C.1 C.2.1 dX3_comesOut_55 (by decide) ?_
      exact endRl C hf dX3_comesOut_59
  rw [if_neg c1] at hf
  by_cases c3 : x0 = 1
  · rw [if_pos c3] at hf
    have e9 : (x0 : Int32).toInt = 1 := by rw [c3]; rfl
    refine lv_tableIn (off := 59) (tgt := 60) C.1 C.2.1 dX3_comesOut_1 (by rw [e9]; decide) (by rw [e9]; decide) (by rw [e9]; rfl) (by decide) ?_
    refine lv_lload_n C.1 C.2.1 dX3_comesOut_60 rfl (lv_at hl 1 rfl) ?_
    refine lv_l2i C.1 C.2.1 dX3_comesOut_61 rfl ?_
    refine lv_i2b C.1 C.2.1 dX3_comesOut_62 rfl ?_
    refine lv_i2l C.1 C.2.1 dX3_comesOut_63 rfl ?_
    exact endRl C hf dX3_comesOut_64
  rw [if_neg c3] at hf
  by_cases c4 : x0 = 2
  · rw [if_pos c4] at hf
    have e9 : (x0 : Int32).toInt = 2 := by rw [c4]; rfl
    refine lv_tableIn (off := 64) (tgt := 65) C.1 C.2.1 dX3_comesOut_1 (by rw [e9]; decide) (by rw [e9]; decide) (by rw [e9]; rfl) (by decide) ?_
    refine lv_lload_n C.1 C.2.1 dX3_comesOut_65 rfl (lv_at hl 1 rfl) ?_
    refine lv_l2i C.1 C.2.1 dX3_comesOut_66 rfl ?_
    refine lv_i2c C.1 C.2.1 dX3_comesOut_67 rfl ?_
    refine lv_i2l C.1 C.2.1 dX3_comesOut_68 rfl ?_
    exact endRl C hf dX3_comesOut_69
  rw [if_neg c4] at hf
  by_cases c5 : x0 = 3
  · rw [if_pos c5] at hf
    have e9 : (x0 : Int32).toInt = 3 := by rw [c5]; rfl
    refine lv_tableIn (off := 69) (tgt := 70) C.1 C.2.1 dX3_comesOut_1 (by rw [e9]; decide) (by rw [e9]; decide) (by rw [e9]; rfl) (by decide) ?_
    refine lv_lload_n C.1 C.2.1 dX3_comesOut_70 rfl (lv_at hl 1 rfl) ?_
    refine lv_l2i C.1 C.2.1 dX3_comesOut_71 rfl ?_
    refine lv_i2s C.1 C.2.1 dX3_comesOut_72 rfl ?_
    refine lv_i2l C.1 C.2.1 dX3_comesOut_73 rfl ?_
    exact endRl C hf dX3_comesOut_74
  rw [if_neg c5] at hf
  by_cases c6 : x0 = 4
  · rw [if_pos c6] at hf
    have e9 : (x0 : Int32).toInt = 4 := by rw [c6]; rfl
    refine lv_tableIn (off := 74) (tgt := 75) C.1 C.2.1 dX3_comesOut_1 (by rw [e9]; decide) (by rw [e9]; decide) (by rw [e9]; rfl) (by decide) ?_
    refine lv_lload_n C.1 C.2.1 dX3_comesOut_75 rfl (lv_at hl 1 rfl) ?_
    refine lv_l2i C.1 C.2.1 dX3_comesOut_76 rfl ?_
    refine lv_i2l C.1 C.2.1 dX3_comesOut_77 rfl ?_
    exact endRl C hf dX3_comesOut_78
  rw [if_neg c6] at hf
  by_cases c7 : x0 = 5
  · rw [if_pos c7] at hf
    have e9 : (x0 : Int32).toInt = 5 := by rw [c7]; rfl
    refine lv_tableIn (off := 86) (tgt := 87) C.1 C.2.1 dX3_comesOut_1 (by rw [e9]; decide) (by rw [e9]; decide) (by rw [e9]; rfl) (by decide) ?_
    refine lv_lload_n C.1 C.2.1 dX3_comesOut_87 rfl (lv_at hl 1 rfl) ?_
    exact endRl C hf dX3_comesOut_88
  rw [if_neg c7] at hf
  by_cases c8 : x0 = 6
  · rw [if_pos c8] at hf
    have e9 : (x0 : Int32).toInt = 6 := by rw [c8]; rfl
    refine lv_tableIn (off := 78) (tgt := 79) C.1 C.2.1 dX3_comesOut_1 (by rw [e9]; decide) (by rw [e9]; decide) (by rw [e9]; rfl) (by decide) ?_
    refine lv_lload_n C.1 C.2.1 dX3_comesOut_79 rfl (lv_at hl 1 rfl) ?_
    refine lv_l2f C.1 C.2.1 dX3_comesOut_80 ?_
    refine lv_f2l C.1 C.2.1 dX3_comesOut_81 ?_
    exact endRl C hf dX3_comesOut_82
  rw [if_neg c8] at hf
  by_cases c9 : x0 = 7
  · rw [if_pos c9] at hf
    have e9 : (x0 : Int32).toInt = 7 := by rw [c9]; rfl
    refine lv_tableIn (off := 82) (tgt := 83) C.1 C.2.1 dX3_comesOut_1 (by rw [e9]; decide) (by rw [e9]; decide) (by rw [e9]; rfl) (by decide) ?_
    refine lv_lload_n C.1 C.2.1 dX3_comesOut_83 rfl (lv_at hl 1 rfl) ?_
    refine lv_l2d C.1 C.2.1 dX3_comesOut_84 ?_
    refine lv_d2l C.1 C.2.1 dX3_comesOut_85 ?_
    exact endRl C hf dX3_comesOut_86
  rw [if_neg c9] at hf
  refine lv_tableOut (tgt := 87) C.1 C.2.1 dX3_comesOut_1 (by have q0 := neI c1 (k := 0) rfl; have q1 := neI c3 (k := 1) rfl; have q2 := neI c4 (k := 2) rfl; have q3 := neI c5 (k := 3) rfl; have q4 := neI c6 (k := 4) rfl; have q5 := neI c7 (k := 5) rfl; have q6 := neI c8 (k := 6) rfl; have q7 := neI c9 (k := 7) rfl; omega) (by decide) ?_
  refine lv_lload_n C.1 C.2.1 dX3_comesOut_87 rfl (lv_at hl 1 rfl) ?_
  exact endRl C hf dX3_comesOut_88
end
theorem vX3_comesOut : YS yX3_comesOut cX3_comesOut 3 (some .long) 2 := ⟨⟨wK_X3_comesOut, wZ_X3, by decide +kernel⟩, wS_X3_comesOut⟩
def fX6_putValue_L40 (u : ST) (y1 : Int32) (y2 : Int64) : Option (Int32 × ST) :=
  (stL u 21 60 y1 y2).bind fun u7 =>
  some (1, u7)
def fX6_putValue (u : ST) (x1 : Int32) (x2 : Int64) : Option (Int32 × ST) :=
  (fX6_isMember u x1).bind fun v1 =>
  if v1 = 0 then
    some ((-1), u)
  else
    (rdI u 16 60 x1).bind fun v3 =>
    if v3 = 0 then
      (rdI u 19 60 x1).bind fun v5 =>
      (fX3_comesOut u v5 x2).bind fun v6 =>
      fX6_putValue_L40 u x1 v6
    else
      fX6_putValue_L40 u x1 ((((x2 : Int64).toInt32) : Int32).toInt64)
section
variable {p : Program} {l : Launch} {e : Env} {s : State} {m : MethodId} {args : Array Value} {below : List Frame} {meth : Method} {c : Code} {H : Heap} {locs : List Loc} {g : GP} {ls : Array Slot} {A : Nat → Prop} {ad : Nat → Nat} {u : ST}
set_option maxRecDepth 100000 in
set_option maxHeartbeats 4000000 in
theorem bX6_putValue_L40 {r0 : Int32} {u0 : ST} {y1 : Int32} {y2 : Int64} (C : Cx p s m args meth c cX6_putValue 4 RX6 (some .int) g) (hA : ∀ q, s.heap.size ≤ q → A q) (hZ : SF A s) (hP : va_P g.1 vwCl (cW g ad u) H) (hD : va_D A (cW g ad u)) (hS : va_S A s.heap H locs) (hl : lv_has ls 4 []) (hf : fX6_putValue_L40 u y1 y2 = some (r0, u0)) : W p l e (rmW 1 22 0 0) s m args below meth c H locs 0 0 (MQ below (va_Qi (fun r v => r = r0 ∧ v = u0) (BW g A (cW g ad)) A) args s 0 0 A) (F0 m 40 ls [.long y2, .int y1, .ref (ad 21)]) := by
  rw [fX6_putValue_L40] at hf
  obtain ⟨u7, hu7, hf⟩ := Option.bind_eq_some_iff.mp hf
  refine stc_21 C hP hD hS hu7 dX6_putValue_40 (fun H locs hP hD hS => ?_)
  refine lv_iconst (v := 1) C.1 C.2.1 dX6_putValue_41 (by decide) ?_
  exact endWi C hP hD hS (Nat.le_refl _) (Nat.le_refl _) hf dX6_putValue_42
set_option maxRecDepth 100000 in
set_option maxHeartbeats 4000000 in
theorem mX6_putValue {r0 : Int32} {u0 : ST} {x1 : Int32} {x2 : Int64} (hf : fX6_putValue u x1 x2 = some (r0, u0)) : MWi l yX6_putValue cX6_putValue 4 (some .int) 1 22 0 0 [.ref (ad 3), .int x1, .long x2] g (cW g ad) u r0 u0 := by
  refine entW (Qc := fun A => va_Qi (fun r v => r = r0 ∧ v = u0) (BW g A (cW g ad)) A) (by decide) (Nat.le_of_ble_eq_true rfl) ?_
  intro p e s m below meth c ls A C hP hD hS hA hZ hl
  have hl : lv_has ls 4 [(0, .ref (ad 3)), (1, .int x1), (2, .long x2)] := hl
  rw [fX6_putValue] at hf
  refine lv_aload_n C.1 C.2.1 dX6_putValue_0 rfl (lv_at hl 0 rfl) ?_
  refine lv_iload_n C.1 C.2.1 dX6_putValue_1 rfl (lv_at hl 1 rfl) ?_
  obtain ⟨v1, hv1, hf⟩ := Option.bind_eq_some_iff.mp hf
  refine cRi (As := [.int x1]) (rest := []) C (mX6_isMember hv1) vX6_isMember wM_X6_39 ⟨Nat.le_of_ble_eq_true rfl, Nat.le_of_ble_eq_true rfl⟩ hP (rcc_X6 C hP) (fun U hU hW => SF.go hZ hS hU hW (fun _ h => h.elim)) hl.1 rfl rfl (Nat.le_of_ble_eq_true rfl) dX6_putValue_2 ⟨Nat.le_of_ble_eq_true rfl, Nat.le_of_ble_eq_true rfl⟩ ?_
  refine lv_if_ne (tgt := 10) C.1 C.2.1 dX6_putValue_5 (by decide) (fun c2 => ?_) (fun c2 => ?_)
  · rw [if_neg c2] at hf
    refine lv_aload_n C.1 C.2.1 dX6_putValue_10 rfl (lv_at hl 0 rfl) ?_
    refine gtc_X6_value C hP wF_X6_31 dX6_putValue_11 ?_
    refine lv_iload_n C.1 C.2.1 dX6_putValue_14 rfl (lv_at hl 1 rfl) ?_
    refine lv_aload_n C.1 C.2.1 dX6_putValue_15 rfl (lv_at hl 0 rfl) ?_
    refine gtc_X6_isMethod C hP wF_X6_15 dX6_putValue_16 ?_
    refine lv_iload_n C.1 C.2.1 dX6_putValue_19 rfl (lv_at hl 1 rfl) ?_
    obtain ⟨v3, hv3, hf⟩ := Option.bind_eq_some_iff.mp hf
    refine ldc_16 C hP hv3 dX6_putValue_20 ?_
    refine lv_if_eq (tgt := 30) C.1 C.2.1 dX6_putValue_21 (by decide) (fun c4 => ?_) (fun c4 => ?_)
    · rw [if_pos c4] at hf
      refine lv_aload_n C.1 C.2.1 dX6_putValue_30 rfl (lv_at hl 0 rfl) ?_
      refine gtc_X6_first C hP wF_X6_25 dX6_putValue_31 ?_
      refine lv_iload_n C.1 C.2.1 dX6_putValue_34 rfl (lv_at hl 1 rfl) ?_
      obtain ⟨v5, hv5, hf⟩ := Option.bind_eq_some_iff.mp hf
      refine ldc_19 C hP hv5 dX6_putValue_35 ?_
      refine lv_lload_n C.1 C.2.1 dX6_putValue_36 rfl (lv_at hl 2 rfl) ?_
      obtain ⟨v6, hv6, hf⟩ := Option.bind_eq_some_iff.mp hf
      refine cSl (As := [.int v5, .long x2]) (rest := [.int x1, .ref (ad 21)]) C (mX3_comesOut hv6) vX3_comesOut wM_X6_80 ⟨Nat.le_of_ble_eq_true rfl, Nat.le_of_ble_eq_true rfl⟩ hP (fun U hU hW => SF.go hZ hS hU hW (fun _ h => h.elim)) hl.1 rfl rfl (Nat.le_of_ble_eq_true rfl) dX6_putValue_37 ⟨Nat.le_of_ble_eq_true rfl, Nat.le_of_ble_eq_true rfl⟩ ?_
      exact bX6_putValue_L40 C hA hZ hP hD hS (lv_sub hl [] rfl) hf
    · rw [if_neg c4] at hf
      refine lv_lload_n C.1 C.2.1 dX6_putValue_24 rfl (lv_at hl 2 rfl) ?_
      refine lv_l2i C.1 C.2.1 dX6_putValue_25 rfl ?_
      refine lv_i2l C.1 C.2.1 dX6_putValue_26 rfl ?_
      refine lv_goto (tgt := 40) C.1 C.2.1 dX6_putValue_27 (by decide) ?_
      exact bX6_putValue_L40 C hA hZ hP hD hS (lv_sub hl [] rfl) hf
  · rw [if_pos c2] at hf
    refine lv_iconst (v := -1) C.1 C.2.1 dX6_putValue_8 (by decide) ?_
    exact endWi C hP hD hS (Nat.le_refl _) (Nat.le_refl _) hf dX6_putValue_9
end
theorem vX6_putValue : YV yX6_putValue cX6_putValue 4 (some .int) 2 := ⟨⟨wK_X6_putValue, wZ_X6, by decide +kernel⟩, wI_X6_putValue, wV_X6_putValue⟩
def fX6_add (u : ST) (x1 : Int32) (x2 : Nat) : Option (Int32 × ST) :=
  (fX6_leastFree u).bind fun v1 =>
  if v1 = (-2) then
    some ((-3), u)
  else
    (some (uI u 300 ((sI u 300) + 1))).bind fun u3 =>
    (peI u3 x2 1).bind fun v4 =>
    (stI u3 15 60 v1 v4).bind fun u5 =>
    (stZ u5 16 60 v1 x1).bind fun u6 =>
    (peI u6 x2 2).bind fun v7 =>
    (stI u6 17 60 v1 v7).bind fun u8 =>
    (peI u8 x2 3).bind fun v9 =>
    (stI u8 19 60 v1 v9).bind fun u10 =>
    (peI u10 x2 4).bind fun v11 =>
    (stI u10 20 60 v1 v11).bind fun u12 =>
    (peI u12 x2 5).bind fun v13 =>
    (stI u12 18 60 v1 v13).bind fun u14 =>
    (peV u14 x2).bind fun v15 =>
    b2 (fX6_putValue u14 v1 v15) fun v17 u16 =>
    some (v1, u16)
section
variable {p : Program} {l : Launch} {e : Env} {s : State} {m : MethodId} {args : Array Value} {below : List Frame} {meth : Method} {c : Code} {H : Heap} {locs : List Loc} {g : GP} {ls : Array Slot} {A : Nat → Prop} {ad : Nat → Nat} {u : ST}
set_option maxRecDepth 100000 in
set_option maxHeartbeats 4000000 in
theorem mX6_add {r0 : Int32} {u0 : ST} {x1 : Int32} {x2 : Nat} (hf : fX6_add u x1 x2 = some (r0, u0)) : MWi l yX6_add cX6_add 4 (some .int) 2 45 0 0 [.ref (ad 3), .int x1, .ref x2] g (cW g ad) u r0 u0 := by
  refine entW (Qc := fun A => va_Qi (fun r v => r = r0 ∧ v = u0) (BW g A (cW g ad)) A) (by decide) (Nat.le_of_ble_eq_true rfl) ?_
  intro p e s m below meth c ls A C hP hD hS hA hZ hl
  have hl : lv_has ls 4 [(0, .ref (ad 3)), (1, .int x1), (2, .ref x2)] := hl
  rw [fX6_add] at hf
  refine lv_aload_n C.1 C.2.1 dX6_add_0 rfl (lv_at hl 0 rfl) ?_
  obtain ⟨v1, hv1, hf⟩ := Option.bind_eq_some_iff.mp hf
  refine cRi (As := []) (rest := []) C (mX6_leastFree hv1) vX6_leastFree wM_X6_51 ⟨Nat.le_of_ble_eq_true rfl, Nat.le_of_ble_eq_true rfl⟩ hP (rcc_X6 C hP) (fun U hU hW => SF.go hZ hS hU hW (fun _ h => h.elim)) hl.1 rfl rfl (Nat.le_of_ble_eq_true rfl) dX6_add_1 ⟨Nat.le_of_ble_eq_true rfl, Nat.le_of_ble_eq_true rfl⟩ ?_
  refine lv_istore_n (lv' := [(3, .int v1), (0, .ref (ad 3)), (1, .int x1), (2, .ref x2)]) C.1 C.2.1 dX6_add_4 rfl hl (by decide) rfl (fun ls hl => ?_)
  refine lv_iload_n C.1 C.2.1 dX6_add_5 rfl (lv_at hl 0 rfl) ?_
  refine lv_bipush (v := -2) C.1 C.2.1 dX6_add_6 (by decide) ?_
  refine lv_icmp_ne (tgt := 14) C.1 C.2.1 dX6_add_8 (by decide) (fun c2 => ?_) (fun c2 => ?_)
  · rw [if_neg c2] at hf
    refine lv_aload_n C.1 C.2.1 dX6_add_14 rfl (lv_at hl 1 rfl) ?_
    refine lv_dup C.1 C.2.1 dX6_add_15 rfl ?_
    refine gtc_X6_size C hP wF_X6_35 dX6_add_16 ?_
    refine lv_iconst (v := 1) C.1 C.2.1 dX6_add_19 (by decide) ?_
    refine lv_iadd C.1 C.2.1 dX6_add_20 ?_
    obtain ⟨u3, hu3, hf⟩ := Option.bind_eq_some_iff.mp hf
    refine ptc_X6_size C hP hD hS wF_X6_35 dX6_add_21 (fun H locs hP hD hS => ?_)
    rw [Option.some.inj hu3] at hP hD
    refine lv_aload_n C.1 C.2.1 dX6_add_24 rfl (lv_at hl 1 rfl) ?_
    refine gtc_X6_owner C hP wF_X6_11 dX6_add_25 ?_
    refine lv_iload_n C.1 C.2.1 dX6_add_28 rfl (lv_at hl 0 rfl) ?_
    refine lv_aload_n C.1 C.2.1 dX6_add_29 rfl (lv_at hl 3 rfl) ?_
    obtain ⟨v4, hv4, hf⟩ := Option.bind_eq_some_iff.mp hf
    refine gE_a C hP hv4 wF_X6_55 dX6_add_30 ?_
    obtain ⟨u5, hu5, hf⟩ := Option.bind_eq_some_iff.mp hf
    refine stc_15 C hP hD hS hu5 dX6_add_33 (fun H locs hP hD hS => ?_)
    refine lv_aload_n C.1 C.2.1 dX6_add_34 rfl (lv_at hl 1 rfl) ?_
    refine gtc_X6_isMethod C hP wF_X6_15 dX6_add_35 ?_
    refine lv_iload_n C.1 C.2.1 dX6_add_38 rfl (lv_at hl 0 rfl) ?_
    refine lv_iload_n C.1 C.2.1 dX6_add_39 rfl (lv_at hl 2 rfl) ?_
    obtain ⟨u6, hu6, hf⟩ := Option.bind_eq_some_iff.mp hf
    refine stc_16 C hP hD hS hu6 dX6_add_40 (fun H locs hP hD hS => ?_)
    refine lv_aload_n C.1 C.2.1 dX6_add_41 rfl (lv_at hl 1 rfl) ?_
    refine gtc_X6_name C hP wF_X6_19 dX6_add_42 ?_
    refine lv_iload_n C.1 C.2.1 dX6_add_45 rfl (lv_at hl 0 rfl) ?_
    refine lv_aload_n C.1 C.2.1 dX6_add_46 rfl (lv_at hl 3 rfl) ?_
    obtain ⟨v7, hv7, hf⟩ := Option.bind_eq_some_iff.mp hf
    refine gE_b C hP hv7 wF_X6_60 dX6_add_47 ?_
    obtain ⟨u8, hu8, hf⟩ := Option.bind_eq_some_iff.mp hf
    refine stc_17 C hP hD hS hu8 dX6_add_50 (fun H locs hP hD hS => ?_)
    refine lv_aload_n C.1 C.2.1 dX6_add_51 rfl (lv_at hl 1 rfl) ?_
    refine gtc_X6_first C hP wF_X6_25 dX6_add_52 ?_
    refine lv_iload_n C.1 C.2.1 dX6_add_55 rfl (lv_at hl 0 rfl) ?_
    refine lv_aload_n C.1 C.2.1 dX6_add_56 rfl (lv_at hl 3 rfl) ?_
    obtain ⟨v9, hv9, hf⟩ := Option.bind_eq_some_iff.mp hf
    refine gE_c C hP hv9 wF_X6_63 dX6_add_57 ?_
    obtain ⟨u10, hu10, hf⟩ := Option.bind_eq_some_iff.mp hf
    refine stc_19 C hP hD hS hu10 dX6_add_60 (fun H locs hP hD hS => ?_)
    refine lv_aload_n C.1 C.2.1 dX6_add_61 rfl (lv_at hl 1 rfl) ?_
    refine gtc_X6_second C hP wF_X6_28 dX6_add_62 ?_
    refine lv_iload_n C.1 C.2.1 dX6_add_65 rfl (lv_at hl 0 rfl) ?_
    refine lv_aload_n C.1 C.2.1 dX6_add_66 rfl (lv_at hl 3 rfl) ?_
    obtain ⟨v11, hv11, hf⟩ := Option.bind_eq_some_iff.mp hf
    refine gE_d C hP hv11 wF_X6_66 dX6_add_67 ?_
    obtain ⟨u12, hu12, hf⟩ := Option.bind_eq_some_iff.mp hf
    refine stc_20 C hP hD hS hu12 dX6_add_70 (fun H locs hP hD hS => ?_)
    refine lv_aload_n C.1 C.2.1 dX6_add_71 rfl (lv_at hl 1 rfl) ?_
    refine gtc_X6_marks C hP wF_X6_22 dX6_add_72 ?_
    refine lv_iload_n C.1 C.2.1 dX6_add_75 rfl (lv_at hl 0 rfl) ?_
    refine lv_aload_n C.1 C.2.1 dX6_add_76 rfl (lv_at hl 3 rfl) ?_
    obtain ⟨v13, hv13, hf⟩ := Option.bind_eq_some_iff.mp hf
    refine gE_e C hP hv13 wF_X6_69 dX6_add_77 ?_
    obtain ⟨u14, hu14, hf⟩ := Option.bind_eq_some_iff.mp hf
    refine stc_18 C hP hD hS hu14 dX6_add_80 (fun H locs hP hD hS => ?_)
    refine lv_aload_n C.1 C.2.1 dX6_add_81 rfl (lv_at hl 1 rfl) ?_
    refine lv_iload_n C.1 C.2.1 dX6_add_82 rfl (lv_at hl 0 rfl) ?_
    refine lv_aload_n C.1 C.2.1 dX6_add_83 rfl (lv_at hl 3 rfl) ?_
    obtain ⟨v15, hv15, hf⟩ := Option.bind_eq_some_iff.mp hf
    refine gE_v C hP hv15 wF_X6_72 dX6_add_84 ?_
    obtain ⟨v17, u16, hu16, hf⟩ := b2_some hf
    refine cWi (As := [.int v1, .long v15]) (rest := []) (mc := 0) (ms := 0) C (mX6_putValue hu16) vX6_putValue wM_X6_76 ⟨Nat.le_of_ble_eq_true rfl, Nat.le_of_ble_eq_true rfl⟩ hP hD hS hA hZ (rcc_X6 C hP) hl.1 rfl rfl (Nat.le_of_ble_eq_true rfl) dX6_add_87 ⟨Nat.le_of_ble_eq_true rfl, Nat.le_of_ble_eq_true rfl⟩ (fun H locs hP hD hS => ?_)
    refine lv_pop C.1 C.2.1 dX6_add_90 rfl ?_
    refine lv_iload_n C.1 C.2.1 dX6_add_91 rfl (lv_at hl 0 rfl) ?_
    exact endWi C hP hD hS (Nat.le_refl _) (Nat.le_refl _) hf dX6_add_92
  · rw [if_pos c2] at hf
    refine lv_bipush (v := -3) C.1 C.2.1 dX6_add_11 (by decide) ?_
    exact endWi C hP hD hS (Nat.le_refl _) (Nat.le_refl _) hf dX6_add_13
end
theorem vX6_add : YV yX6_add cX6_add 4 (some .int) 2 := ⟨⟨wK_X6_add, wZ_X6, by decide +kernel⟩, wI_X6_add, wV_X6_add⟩
def fX6_remove (u : ST) (x1 : Int32) : Option (Int32 × ST) :=
  (fX6_isMember u x1).bind fun v1 =>
  if v1 = 0 then
    some ((-1), u)
  else
    (stI u 15 60 x1 (-2)).bind fun u3 =>
    (some (uI u3 300 ((sI u3 300) - 1))).bind fun u4 =>
    some (1, u4)
section
variable {p : Program} {l : Launch} {e : Env} {s : State} {m : MethodId} {args : Array Value} {below : List Frame} {meth : Method} {c : Code} {H : Heap} {locs : List Loc} {g : GP} {ls : Array Slot} {A : Nat → Prop} {ad : Nat → Nat} {u : ST}
set_option maxRecDepth 100000 in
set_option maxHeartbeats 4000000 in
theorem mX6_remove {r0 : Int32} {u0 : ST} {x1 : Int32} (hf : fX6_remove u x1 = some (r0, u0)) : MWi l yX6_remove cX6_remove 2 (some .int) 1 21 0 0 [.ref (ad 3), .int x1] g (cW g ad) u r0 u0 := by
  refine entW (Qc := fun A => va_Qi (fun r v => r = r0 ∧ v = u0) (BW g A (cW g ad)) A) (by decide) (Nat.le_of_ble_eq_true rfl) ?_
  intro p e s m below meth c ls A C hP hD hS hA hZ hl
  have hl : lv_has ls 2 [(0, .ref (ad 3)), (1, .int x1)] := hl
  rw [fX6_remove] at hf
  refine lv_aload_n C.1 C.2.1 dX6_remove_0 rfl (lv_at hl 0 rfl) ?_
  refine lv_iload_n C.1 C.2.1 dX6_remove_1 rfl (lv_at hl 1 rfl) ?_
  obtain ⟨v1, hv1, hf⟩ := Option.bind_eq_some_iff.mp hf
  refine cRi (As := [.int x1]) (rest := []) C (mX6_isMember hv1) vX6_isMember wM_X6_39 ⟨Nat.le_of_ble_eq_true rfl, Nat.le_of_ble_eq_true rfl⟩ hP (rcc_X6 C hP) (fun U hU hW => SF.go hZ hS hU hW (fun _ h => h.elim)) hl.1 rfl rfl (Nat.le_of_ble_eq_true rfl) dX6_remove_2 ⟨Nat.le_of_ble_eq_true rfl, Nat.le_of_ble_eq_true rfl⟩ ?_
  refine lv_if_ne (tgt := 10) C.1 C.2.1 dX6_remove_5 (by decide) (fun c2 => ?_) (fun c2 => ?_)
  · rw [if_neg c2] at hf
    refine lv_aload_n C.1 C.2.1 dX6_remove_10 rfl (lv_at hl 0 rfl) ?_
    refine gtc_X6_owner C hP wF_X6_11 dX6_remove_11 ?_
    refine lv_iload_n C.1 C.2.1 dX6_remove_14 rfl (lv_at hl 1 rfl) ?_
    refine lv_bipush (v := -2) C.1 C.2.1 dX6_remove_15 (by decide) ?_
    obtain ⟨u3, hu3, hf⟩ := Option.bind_eq_some_iff.mp hf
    refine stc_15 C hP hD hS hu3 dX6_remove_17 (fun H locs hP hD hS => ?_)
    refine lv_aload_n C.1 C.2.1 dX6_remove_18 rfl (lv_at hl 0 rfl) ?_
    refine lv_dup C.1 C.2.1 dX6_remove_19 rfl ?_
    refine gtc_X6_size C hP wF_X6_35 dX6_remove_20 ?_
    refine lv_iconst (v := 1) C.1 C.2.1 dX6_remove_23 (by decide) ?_
    refine lv_isub C.1 C.2.1 dX6_remove_24 ?_
    obtain ⟨u4, hu4, hf⟩ := Option.bind_eq_some_iff.mp hf
    refine ptc_X6_size C hP hD hS wF_X6_35 dX6_remove_25 (fun H locs hP hD hS => ?_)
    rw [Option.some.inj hu4] at hP hD
    refine lv_iconst (v := 1) C.1 C.2.1 dX6_remove_28 (by decide) ?_
    exact endWi C hP hD hS (Nat.le_refl _) (Nat.le_refl _) hf dX6_remove_29
  · rw [if_pos c2] at hf
    refine lv_iconst (v := -1) C.1 C.2.1 dX6_remove_8 (by decide) ?_
    exact endWi C hP hD hS (Nat.le_refl _) (Nat.le_refl _) hf dX6_remove_9
end
theorem vX6_remove : YV yX6_remove cX6_remove 2 (some .int) 1 := ⟨⟨wK_X6_remove, wZ_X6, by decide +kernel⟩, wI_X6_remove, wV_X6_remove⟩
def fX6_changeMarks (u : ST) (x1 : Int32) (x2 : Int32) : Option (Int32 × ST) :=
  (fX6_isMember u x1).bind fun v1 =>
  if v1 = 0 then
    some ((-1), u)
  else
    (rdI u 18 60 x1).bind fun v3 =>
    (stI u 18 60 x1 x2).bind fun u4 =>
    some (v3, u4)
section
variable {p : Program} {l : Launch} {e : Env} {s : State} {m : MethodId} {args : Array Value} {below : List Frame} {meth : Method} {c : Code} {H : Heap} {locs : List Loc} {g : GP} {ls : Array Slot} {A : Nat → Prop} {ad : Nat → Nat} {u : ST}
set_option maxRecDepth 100000 in
set_option maxHeartbeats 4000000 in
theorem mX6_changeMarks {r0 : Int32} {u0 : ST} {x1 : Int32} {x2 : Int32} (hf : fX6_changeMarks u x1 x2 = some (r0, u0)) : MWi l yX6_changeMarks cX6_changeMarks 4 (some .int) 1 21 0 0 [.ref (ad 3), .int x1, .int x2] g (cW g ad) u r0 u0 := by
  refine entW (Qc := fun A => va_Qi (fun r v => r = r0 ∧ v = u0) (BW g A (cW g ad)) A) (by decide) (Nat.le_of_ble_eq_true rfl) ?_
  intro p e s m below meth c ls A C hP hD hS hA hZ hl
  have hl : lv_has ls 4 [(0, .ref (ad 3)), (1, .int x1), (2, .int x2)] := hl
  rw [fX6_changeMarks] at hf
  refine lv_aload_n C.1 C.2.1 dX6_changeMarks_0 rfl (lv_at hl 0 rfl) ?_
  refine lv_iload_n C.1 C.2.1 dX6_changeMarks_1 rfl (lv_at hl 1 rfl) ?_
  obtain ⟨v1, hv1, hf⟩ := Option.bind_eq_some_iff.mp hf
  refine cRi (As := [.int x1]) (rest := []) C (mX6_isMember hv1) vX6_isMember wM_X6_39 ⟨Nat.le_of_ble_eq_true rfl, Nat.le_of_ble_eq_true rfl⟩ hP (rcc_X6 C hP) (fun U hU hW => SF.go hZ hS hU hW (fun _ h => h.elim)) hl.1 rfl rfl (Nat.le_of_ble_eq_true rfl) dX6_changeMarks_2 ⟨Nat.le_of_ble_eq_true rfl, Nat.le_of_ble_eq_true rfl⟩ ?_
  refine lv_if_ne (tgt := 10) C.1 C.2.1 dX6_changeMarks_5 (by decide) (fun c2 => ?_) (fun c2 => ?_)
  · rw [if_neg c2] at hf
    refine lv_aload_n C.1 C.2.1 dX6_changeMarks_10 rfl (lv_at hl 0 rfl) ?_
    refine gtc_X6_marks C hP wF_X6_22 dX6_changeMarks_11 ?_
    refine lv_iload_n C.1 C.2.1 dX6_changeMarks_14 rfl (lv_at hl 1 rfl) ?_
    obtain ⟨v3, hv3, hf⟩ := Option.bind_eq_some_iff.mp hf
    refine ldc_18 C hP hv3 dX6_changeMarks_15 ?_
    refine lv_istore_n (lv' := [(3, .int v3), (0, .ref (ad 3)), (1, .int x1), (2, .int x2)]) C.1 C.2.1 dX6_changeMarks_16 rfl hl (by decide) rfl (fun ls hl => ?_)
    refine lv_aload_n C.1 C.2.1 dX6_changeMarks_17 rfl (lv_at hl 1 rfl) ?_
    refine gtc_X6_marks C hP wF_X6_22 dX6_changeMarks_18 ?_
    refine lv_iload_n C.1 C.2.1 dX6_changeMarks_21 rfl (lv_at hl 2 rfl) ?_
    refine lv_iload_n C.1 C.2.1 dX6_changeMarks_22 rfl (lv_at hl 3 rfl) ?_
    obtain ⟨u4, hu4, hf⟩ := Option.bind_eq_some_iff.mp hf
    refine stc_18 C hP hD hS hu4 dX6_changeMarks_23 (fun H locs hP hD hS => ?_)
    refine lv_iload_n C.1 C.2.1 dX6_changeMarks_24 rfl (lv_at hl 0 rfl) ?_
    exact endWi C hP hD hS (Nat.le_refl _) (Nat.le_refl _) hf dX6_changeMarks_25
  · rw [if_pos c2] at hf
    refine lv_iconst (v := -1) C.1 C.2.1 dX6_changeMarks_8 (by decide) ?_
    exact endWi C hP hD hS (Nat.le_refl _) (Nat.le_refl _) hf dX6_changeMarks_9
end
theorem vX6_changeMarks : YV yX6_changeMarks cX6_changeMarks 4 (some .int) 2 := ⟨⟨wK_X6_changeMarks, wZ_X6, by decide +kernel⟩, wI_X6_changeMarks, wV_X6_changeMarks⟩
def fX6_isField (u : ST) (x1 : Int32) : Option Int32 :=
  if x1 < 0 then
    some 0
  else
    if 60 ≤ x1 then
      some 0
    else
      (rdI u 15 60 x1).bind fun v3 =>
      if v3 = (-2) then
        some 0
      else
        (rdI u 16 60 x1).bind fun v5 =>
        if v5 = 0 then
          some 1
        else
          some 0
section
variable {p : Program} {l : Launch} {e : Env} {s : State} {m : MethodId} {args : Array Value} {below : List Frame} {meth : Method} {c : Code} {H : Heap} {locs : List Loc} {g : GP} {ls : Array Slot} {A : Nat → Prop} {ad : Nat → Nat} {u : ST}
set_option maxRecDepth 100000 in
set_option maxHeartbeats 4000000 in
theorem mX6_isField {r0 : Int32} {x1 : Int32} (hf : fX6_isField u x1 = some r0) : MRi l yX6_isField cX6_isField 2 (some .boolean) 0 0 [.ref (ad 3), .int x1] g (cW g ad u) r0 := by
  refine entR (by decide) (Nat.le_of_ble_eq_true rfl) ?_
  intro p e s m below meth c ls C hP hZ hl
  have hl : lv_has ls 2 [(0, .ref (ad 3)), (1, .int x1)] := hl
  rw [fX6_isField] at hf
  refine lv_iload_n C.1 C.2.1 dX6_isField_0 rfl (lv_at hl 1 rfl) ?_
  refine lv_if_lt (tgt := 34) C.1 C.2.1 dX6_isField_1 (by decide) (fun c1 => ?_) (fun c1 => ?_)
  · rw [if_pos c1] at hf
    refine lv_iconst (v := 0) C.1 C.2.1 dX6_isField_34 (by decide) ?_
    exact endRz C rfl hf dX6_isField_35
  · rw [if_neg c1] at hf
    refine lv_iload_n C.1 C.2.1 dX6_isField_4 rfl (lv_at hl 1 rfl) ?_
    refine lv_bipush (v := 60) C.1 C.2.1 dX6_isField_5 (by decide) ?_
    refine lv_icmp_ge (tgt := 34) C.1 C.2.1 dX6_isField_7 (by decide) (fun c2 => ?_) (fun c2 => ?_)
    · rw [if_pos c2] at hf
      refine lv_iconst (v := 0) C.1 C.2.1 dX6_isField_34 (by decide) ?_
      exact endRz C rfl hf dX6_isField_35
    · rw [if_neg c2] at hf
      refine lv_aload_n C.1 C.2.1 dX6_isField_10 rfl (lv_at hl 0 rfl) ?_
      refine gtc_X6_owner C hP wF_X6_11 dX6_isField_11 ?_
      refine lv_iload_n C.1 C.2.1 dX6_isField_14 rfl (lv_at hl 1 rfl) ?_
      obtain ⟨v3, hv3, hf⟩ := Option.bind_eq_some_iff.mp hf
      refine ldc_15 C hP hv3 dX6_isField_15 ?_
      refine lv_bipush (v := -2) C.1 C.2.1 dX6_isField_16 (by decide) ?_
      refine lv_icmp_eq (tgt := 34) C.1 C.2.1 dX6_isField_18 (by decide) (fun c4 => ?_) (fun c4 => ?_)
      · rw [if_pos c4] at hf
        refine lv_iconst (v := 0) C.1 C.2.1 dX6_isField_34 (by decide) ?_
        exact endRz C rfl hf dX6_isField_35
      · rw [if_neg c4] at hf
        refine lv_aload_n C.1 C.2.1 dX6_isField_21 rfl (lv_at hl 0 rfl) ?_
        refine gtc_X6_isMethod C hP wF_X6_15 dX6_isField_22 ?_
        refine lv_iload_n C.1 C.2.1 dX6_isField_25 rfl (lv_at hl 1 rfl) ?_
        obtain ⟨v5, hv5, hf⟩ := Option.bind_eq_some_iff.mp hf
        refine ldc_16 C hP hv5 dX6_isField_26 ?_
        refine lv_if_ne (tgt := 34) C.1 C.2.1 dX6_isField_27 (by decide) (fun c6 => ?_) (fun c6 => ?_)
        · rw [if_neg c6] at hf
          refine lv_iconst (v := 0) C.1 C.2.1 dX6_isField_34 (by decide) ?_
          exact endRz C rfl hf dX6_isField_35
        · rw [if_pos c6] at hf
          refine lv_iconst (v := 1) C.1 C.2.1 dX6_isField_30 (by decide) ?_
          refine lv_goto (tgt := 35) C.1 C.2.1 dX6_isField_31 (by decide) ?_
          exact endRz C rfl hf dX6_isField_35
end
theorem vX6_isField : YV yX6_isField cX6_isField 2 (some .boolean) 1 := ⟨⟨wK_X6_isField, wZ_X6, by decide +kernel⟩, wI_X6_isField, wV_X6_isField⟩
def fX6_changeKind (u : ST) (x1 : Int32) (x2 : Int32) (x3 : Int64) : Option (Int32 × ST) :=
  (fX6_isField u x1).bind fun v1 =>
  if v1 = 0 then
    some ((-1), u)
  else
    (stI u 19 60 x1 x2).bind fun u3 =>
    b2 (fX6_putValue u3 x1 x3) fun v5 u4 =>
    some (v5, u4)
section
variable {p : Program} {l : Launch} {e : Env} {s : State} {m : MethodId} {args : Array Value} {below : List Frame} {meth : Method} {c : Code} {H : Heap} {locs : List Loc} {g : GP} {ls : Array Slot} {A : Nat → Prop} {ad : Nat → Nat} {u : ST}
set_option maxRecDepth 100000 in
set_option maxHeartbeats 4000000 in
theorem mX6_changeKind {r0 : Int32} {u0 : ST} {x1 : Int32} {x2 : Int32} {x3 : Int64} (hf : fX6_changeKind u x1 x2 x3 = some (r0, u0)) : MWi l yX6_changeKind cX6_changeKind 5 (some .int) 2 45 0 0 [.ref (ad 3), .int x1, .int x2, .long x3] g (cW g ad) u r0 u0 := by
  refine entW (Qc := fun A => va_Qi (fun r v => r = r0 ∧ v = u0) (BW g A (cW g ad)) A) (by decide) (Nat.le_of_ble_eq_true rfl) ?_
  intro p e s m below meth c ls A C hP hD hS hA hZ hl
  have hl : lv_has ls 5 [(0, .ref (ad 3)), (1, .int x1), (2, .int x2), (3, .long x3)] := hl
  rw [fX6_changeKind] at hf
  refine lv_aload_n C.1 C.2.1 dX6_changeKind_0 rfl (lv_at hl 0 rfl) ?_
  refine lv_iload_n C.1 C.2.1 dX6_changeKind_1 rfl (lv_at hl 1 rfl) ?_
  obtain ⟨v1, hv1, hf⟩ := Option.bind_eq_some_iff.mp hf
  refine cRi (As := [.int x1]) (rest := []) C (mX6_isField hv1) vX6_isField wM_X6_86 ⟨Nat.le_of_ble_eq_true rfl, Nat.le_of_ble_eq_true rfl⟩ hP (rcc_X6 C hP) (fun U hU hW => SF.go hZ hS hU hW (fun _ h => h.elim)) hl.1 rfl rfl (Nat.le_of_ble_eq_true rfl) dX6_changeKind_2 ⟨Nat.le_of_ble_eq_true rfl, Nat.le_of_ble_eq_true rfl⟩ ?_
  refine lv_if_ne (tgt := 10) C.1 C.2.1 dX6_changeKind_5 (by decide) (fun c2 => ?_) (fun c2 => ?_)
  · rw [if_neg c2] at hf
    refine lv_aload_n C.1 C.2.1 dX6_changeKind_10 rfl (lv_at hl 0 rfl) ?_
    refine gtc_X6_first C hP wF_X6_25 dX6_changeKind_11 ?_
    refine lv_iload_n C.1 C.2.1 dX6_changeKind_14 rfl (lv_at hl 1 rfl) ?_
    refine lv_iload_n C.1 C.2.1 dX6_changeKind_15 rfl (lv_at hl 2 rfl) ?_
    obtain ⟨u3, hu3, hf⟩ := Option.bind_eq_some_iff.mp hf
    refine stc_19 C hP hD hS hu3 dX6_changeKind_16 (fun H locs hP hD hS => ?_)
    refine lv_aload_n C.1 C.2.1 dX6_changeKind_17 rfl (lv_at hl 0 rfl) ?_
    refine lv_iload_n C.1 C.2.1 dX6_changeKind_18 rfl (lv_at hl 1 rfl) ?_
    refine lv_lload_n C.1 C.2.1 dX6_changeKind_19 rfl (lv_at hl 3 rfl) ?_
    obtain ⟨v5, u4, hu4, hf⟩ := b2_some hf
    refine cWi (As := [.int x1, .long x3]) (rest := []) (mc := 0) (ms := 0) C (mX6_putValue hu4) vX6_putValue wM_X6_76 ⟨Nat.le_of_ble_eq_true rfl, Nat.le_of_ble_eq_true rfl⟩ hP hD hS hA hZ (rcc_X6 C hP) hl.1 rfl rfl (Nat.le_of_ble_eq_true rfl) dX6_changeKind_20 ⟨Nat.le_of_ble_eq_true rfl, Nat.le_of_ble_eq_true rfl⟩ (fun H locs hP hD hS => ?_)
    exact endWi C hP hD hS (Nat.le_refl _) (Nat.le_refl _) hf dX6_changeKind_23
  · rw [if_pos c2] at hf
    refine lv_iconst (v := -1) C.1 C.2.1 dX6_changeKind_8 (by decide) ?_
    exact endWi C hP hD hS (Nat.le_refl _) (Nat.le_refl _) hf dX6_changeKind_9
end
theorem vX6_changeKind : YV yX6_changeKind cX6_changeKind 5 (some .int) 3 := ⟨⟨wK_X6_changeKind, wZ_X6, by decide +kernel⟩, wI_X6_changeKind, wV_X6_changeKind⟩
def fX6_changeOwner (u : ST) (x1 : Int32) (x2 : Int32) : Option (Int32 × ST) :=
  (fX6_isMember u x1).bind fun v1 =>
  if v1 = 0 then
    some ((-1), u)
  else
    (stI u 15 60 x1 x2).bind fun u3 =>
    some (1, u3)
section
variable {p : Program} {l : Launch} {e : Env} {s : State} {m : MethodId} {args : Array Value} {below : List Frame} {meth : Method} {c : Code} {H : Heap} {locs : List Loc} {g : GP} {ls : Array Slot} {A : Nat → Prop} {ad : Nat → Nat} {u : ST}
set_option maxRecDepth 100000 in
set_option maxHeartbeats 4000000 in
theorem mX6_changeOwner {r0 : Int32} {u0 : ST} {x1 : Int32} {x2 : Int32} (hf : fX6_changeOwner u x1 x2 = some (r0, u0)) : MWi l yX6_changeOwner cX6_changeOwner 3 (some .int) 1 21 0 0 [.ref (ad 3), .int x1, .int x2] g (cW g ad) u r0 u0 := by
  refine entW (Qc := fun A => va_Qi (fun r v => r = r0 ∧ v = u0) (BW g A (cW g ad)) A) (by decide) (Nat.le_of_ble_eq_true rfl) ?_
  intro p e s m below meth c ls A C hP hD hS hA hZ hl
  have hl : lv_has ls 3 [(0, .ref (ad 3)), (1, .int x1), (2, .int x2)] := hl
  rw [fX6_changeOwner] at hf
  refine lv_aload_n C.1 C.2.1 dX6_changeOwner_0 rfl (lv_at hl 0 rfl) ?_
  refine lv_iload_n C.1 C.2.1 dX6_changeOwner_1 rfl (lv_at hl 1 rfl) ?_
  obtain ⟨v1, hv1, hf⟩ := Option.bind_eq_some_iff.mp hf
  refine cRi (As := [.int x1]) (rest := []) C (mX6_isMember hv1) vX6_isMember wM_X6_39 ⟨Nat.le_of_ble_eq_true rfl, Nat.le_of_ble_eq_true rfl⟩ hP (rcc_X6 C hP) (fun U hU hW => SF.go hZ hS hU hW (fun _ h => h.elim)) hl.1 rfl rfl (Nat.le_of_ble_eq_true rfl) dX6_changeOwner_2 ⟨Nat.le_of_ble_eq_true rfl, Nat.le_of_ble_eq_true rfl⟩ ?_
  refine lv_if_ne (tgt := 10) C.1 C.2.1 dX6_changeOwner_5 (by decide) (fun c2 => ?_) (fun c2 => ?_)
  · rw [if_neg c2] at hf
    refine lv_aload_n C.1 C.2.1 dX6_changeOwner_10 rfl (lv_at hl 0 rfl) ?_
    refine gtc_X6_owner C hP wF_X6_11 dX6_changeOwner_11 ?_
    refine lv_iload_n C.1 C.2.1 dX6_changeOwner_14 rfl (lv_at hl 1 rfl) ?_
    refine lv_iload_n C.1 C.2.1 dX6_changeOwner_15 rfl (lv_at hl 2 rfl) ?_
    obtain ⟨u3, hu3, hf⟩ := Option.bind_eq_some_iff.mp hf
    refine stc_15 C hP hD hS hu3 dX6_changeOwner_16 (fun H locs hP hD hS => ?_)
    refine lv_iconst (v := 1) C.1 C.2.1 dX6_changeOwner_17 (by decide) ?_
    exact endWi C hP hD hS (Nat.le_refl _) (Nat.le_refl _) hf dX6_changeOwner_18
  · rw [if_pos c2] at hf
    refine lv_iconst (v := -1) C.1 C.2.1 dX6_changeOwner_8 (by decide) ?_
    exact endWi C hP hD hS (Nat.le_refl _) (Nat.le_refl _) hf dX6_changeOwner_9
end
theorem vX6_changeOwner : YV yX6_changeOwner cX6_changeOwner 3 (some .int) 2 := ⟨⟨wK_X6_changeOwner, wZ_X6, by decide +kernel⟩, wI_X6_changeOwner, wV_X6_changeOwner⟩
def fX2_carryOut_L84 (u : ST) (x1 : Nat) (y1 : Int32) : Option (Int32 × ST) :=
  (peI u x1 2).bind fun v5 =>
  (peI u x1 3).bind fun v6 =>
  b2 (fX7_add u y1 v5 v6) fun v8 u7 =>
  some (v8, u7)
def fX2_carryOut (u : ST) (x1 : Nat) : Option (Int32 × ST) :=
  (peI u x1 0).bind fun v1 =>
  if v1 = 0 then
    (peI u x1 1).bind fun v3 =>
    if v3 = 0 then
      fX2_carryOut_L84 u x1 0
    else
      fX2_carryOut_L84 u x1 1
  else
  if v1 = 1 then
    (peI u x1 1).bind fun v10 =>
    (peI u x1 2).bind fun v11 =>
    b2 (fX7_putAbove u v10 v11) fun v13 u12 =>
    some (v13, u12)
  else
  if v1 = 2 then
    (peI u x1 1).bind fun v15 =>
    (peI u x1 2).bind fun v16 =>
    b2 (fX7_addFace u v15 v16) fun v18 u17 =>
    some (v18, u17)
  else
  if v1 = 3 then
    (peI u x1 1).bind fun v20 =>
    (peI u x1 2).bind fun v21 =>
    b2 (fX7_removeFace u v20 v21) fun v23 u22 =>
    some (v23, u22)
  else
  if v1 = 4 then
    (peI u x1 1).bind fun v25 =>
    (peI u x1 2).bind fun v26 =>
    b2 (fX7_changeMarks u v25 v26) fun v28 u27 =>
    some (v28, u27)
  else
  if v1 = 5 then
    b2 (fX6_add u 0 x1) fun v31 u30 =>
    some (v31, u30)
  else
  if v1 = 6 then
    b2 (fX6_add u 1 x1) fun v34 u33 =>
    some (v34, u33)
  else
  if v1 = 7 then
    (peI u x1 1).bind fun v36 =>
    b2 (fX6_remove u v36) fun v38 u37 =>
    some (v38, u37)
  else
  if v1 = 8 then
    (peI u x1 1).bind fun v40 =>
    (peI u x1 2).bind fun v41 =>
    b2 (fX6_changeMarks u v40 v41) fun v43 u42 =>
    some (v43, u42)
  else
  if v1 = 9 then
    (peI u x1 1).bind fun v45 =>
    (peV u x1).bind fun v46 =>
    b2 (fX6_putValue u v45 v46) fun v48 u47 =>
    some (v48, u47)
  else
  if v1 = 10 then
    (peI u x1 1).bind fun v50 =>
    (peI u x1 2).bind fun v51 =>
    (peV u x1).bind fun v52 =>
    b2 (fX6_changeKind u v50 v51 v52) fun v54 u53 =>
    some (v54, u53)
  else
  if v1 = 11 then
    (peI u x1 1).bind fun v56 =>
    (peI u x1 2).bind fun v57 =>
    b2 (fX6_changeOwner u v56 v57) fun v59 u58 =>
    some (v59, u58)
  else
    some ((-1), u)
section
variable {p : Program} {l : Launch} {e : Env} {s : State} {m : MethodId} {args : Array Value} {below : List Frame} {meth : Method} {c : Code} {H : Heap} {locs : List Loc} {g : GP} {ls : Array Slot} {A : Nat → Prop} {ad : Nat → Nat} {u : ST}
set_option maxRecDepth 100000 in
set_option maxHeartbeats 4000000 in
theorem bX2_carryOut_L84 {r0 : Int32} {u0 : ST} {x1 : Nat} {y1 : Int32} (C : Cx p s m args meth c cX2_carryOut 2 RX2 (some .int) g) (hA : ∀ q, s.heap.size ≤ q → A q) (hZ : SF A s) (hP : va_P g.1 vwCl (cW g ad u) H) (hD : va_D A (cW g ad u)) (hS : va_S A s.heap H locs) (hl : lv_has ls 2 [(1, .ref x1)]) (hf : fX2_carryOut_L84 u x1 y1 = some (r0, u0)) : W p l e (rmW 4 95 0 0) s m args below meth c H locs 0 0 (MQ below (va_Qi (fun r v => r = r0 ∧ v = u0) (BW g A (cW g ad)) A) args s 0 0 A) (F0 m 84 ls [.int y1, .ref (ad 2)]) := by
  rw [fX2_carryOut_L84] at hf
  refine lv_aload_n C.1 C.2.1 dX2_carryOut_84 rfl (lv_at hl 0 rfl) ?_
  obtain ⟨v5, hv5, hf⟩ := Option.bind_eq_some_iff.mp hf
  refine gE_b C hP hv5 wF_X2_38 dX2_carryOut_85 ?_
  refine lv_aload_n C.1 C.2.1 dX2_carryOut_88 rfl (lv_at hl 0 rfl) ?_
  obtain ⟨v6, hv6, hf⟩ := Option.bind_eq_some_iff.mp hf
  refine gE_c C hP hv6 wF_X2_41 dX2_carryOut_89 ?_
  obtain ⟨v8, u7, hu7, hf⟩ := b2_some hf
  refine cWi (As := [.int y1, .int v5, .int v6]) (rest := []) (mc := 0) (ms := 0) C (mX7_add hu7) vX7_add wM_X2_44 ⟨Nat.le_of_ble_eq_true rfl, Nat.le_of_ble_eq_true rfl⟩ hP hD hS hA hZ (rcc_X7 C hP) hl.1 rfl rfl (Nat.le_of_ble_eq_true rfl) dX2_carryOut_92 ⟨Nat.le_of_ble_eq_true rfl, Nat.le_of_ble_eq_true rfl⟩ (fun H locs hP hD hS => ?_)
  exact endWi C hP hD hS (Nat.le_refl _) (Nat.le_refl _) hf dX2_carryOut_95
set_option maxRecDepth 100000 in
set_option maxHeartbeats 4000000 in
theorem mX2_carryOut {r0 : Int32} {u0 : ST} {x1 : Nat} (hf : fX2_carryOut u x1 = some (r0, u0)) : MWi l yX2_carryOut cX2_carryOut 2 (some .int) 4 95 0 0 [.ref (ad 1), .ref x1] g (cW g ad) u r0 u0 := by
  refine entW (Qc := fun A => va_Qi (fun r v => r = r0 ∧ v = u0) (BW g A (cW g ad)) A) (by decide) (Nat.le_of_ble_eq_true rfl) ?_
  intro p e s m below meth c ls A C hP hD hS hA hZ hl
  have hl : lv_has ls 2 [(0, .ref (ad 1)), (1, .ref x1)] := hl
  rw [fX2_carryOut] at hf
  refine lv_aload_n C.1 C.2.1 dX2_carryOut_0 rfl (lv_at hl 1 rfl) ?_
  obtain ⟨v1, hv1, hf⟩ := Option.bind_eq_some_iff.mp hf
  refine gE_sort C hP hv1 wF_X2_29 dX2_carryOut_1 ?_
  by_cases c2 : v1 = 0
  · rw [if_pos c2] at hf
    have e9 : (v1 : Int32).toInt = 0 := by rw [c2]; rfl
    refine lv_tableIn (off := 64) (tgt := 68) C.1 C.2.1 dX2_carryOut_4 (by rw [e9]; decide) (by rw [e9]; decide) (by rw [e9]; rfl) (by decide) ?_
    refine lv_aload_n C.1 C.2.1 dX2_carryOut_68 rfl (lv_at hl 0 rfl) ?_
    refine gtc_X2_types C hP wF_X2_12 dX2_carryOut_69 ?_
    refine lv_aload_n C.1 C.2.1 dX2_carryOut_72 rfl (lv_at hl 1 rfl) ?_
    obtain ⟨v3, hv3, hf⟩ := Option.bind_eq_some_iff.mp hf
    refine gE_a C hP hv3 wF_X2_35 dX2_carryOut_73 ?_
    refine lv_if_eq (tgt := 83) C.1 C.2.1 dX2_carryOut_76 (by decide) (fun c4 => ?_) (fun c4 => ?_)
    · rw [if_pos c4] at hf
      refine lv_iconst (v := 0) C.1 C.2.1 dX2_carryOut_83 (by decide) ?_
      exact bX2_carryOut_L84 C hA hZ hP hD hS (lv_sub hl [1] rfl) hf
    · rw [if_neg c4] at hf
      refine lv_iconst (v := 1) C.1 C.2.1 dX2_carryOut_79 (by decide) ?_
      refine lv_goto (tgt := 84) C.1 C.2.1 dX2_carryOut_80 (by decide) ?_
      exact bX2_carryOut_L84 C hA hZ hP hD hS (lv_sub hl [1] rfl) hf
  rw [if_neg c2] at hf
  by_cases c9 : v1 = 1
  · rw [if_pos c9] at hf
    have e9 : (v1 : Int32).toInt = 1 := by rw [c9]; rfl
    refine lv_tableIn (off := 92) (tgt := 96) C.1 C.2.1 dX2_carryOut_4 (by rw [e9]; decide) (by rw [e9]; decide) (by rw [e9]; rfl) (by decide) ?_
    refine lv_aload_n C.1 C.2.1 dX2_carryOut_96 rfl (lv_at hl 0 rfl) ?_
    refine gtc_X2_types C hP wF_X2_12 dX2_carryOut_97 ?_
    refine lv_aload_n C.1 C.2.1 dX2_carryOut_100 rfl (lv_at hl 1 rfl) ?_
    obtain ⟨v10, hv10, hf⟩ := Option.bind_eq_some_iff.mp hf
    refine gE_a C hP hv10 wF_X2_35 dX2_carryOut_101 ?_
    refine lv_aload_n C.1 C.2.1 dX2_carryOut_104 rfl (lv_at hl 1 rfl) ?_
    obtain ⟨v11, hv11, hf⟩ := Option.bind_eq_some_iff.mp hf
    refine gE_b C hP hv11 wF_X2_38 dX2_carryOut_105 ?_
    obtain ⟨v13, u12, hu12, hf⟩ := b2_some hf
    refine cWi (As := [.int v10, .int v11]) (rest := []) (mc := 0) (ms := 0) C (mX7_putAbove hu12) vX7_putAbove wM_X2_48 ⟨Nat.le_of_ble_eq_true rfl, Nat.le_of_ble_eq_true rfl⟩ hP hD hS hA hZ (rcc_X7 C hP) hl.1 rfl rfl (Nat.le_of_ble_eq_true rfl) dX2_carryOut_108 ⟨Nat.le_of_ble_eq_true rfl, Nat.le_of_ble_eq_true rfl⟩ (fun H locs hP hD hS => ?_)
    exact endWi C hP hD hS (Nat.le_refl _) (Nat.le_refl _) hf dX2_carryOut_111
  rw [if_neg c9] at hf
  by_cases c14 : v1 = 2
  · rw [if_pos c14] at hf
    have e9 : (v1 : Int32).toInt = 2 := by rw [c14]; rfl
    refine lv_tableIn (off := 108) (tgt := 112) C.1 C.2.1 dX2_carryOut_4 (by rw [e9]; decide) (by rw [e9]; decide) (by rw [e9]; rfl) (by decide) ?_
    refine lv_aload_n C.1 C.2.1 dX2_carryOut_112 rfl (lv_at hl 0 rfl) ?_
    refine gtc_X2_types C hP wF_X2_12 dX2_carryOut_113 ?_
    refine lv_aload_n C.1 C.2.1 dX2_carryOut_116 rfl (lv_at hl 1 rfl) ?_
    obtain ⟨v15, hv15, hf⟩ := Option.bind_eq_some_iff.mp hf
    refine gE_a C hP hv15 wF_X2_35 dX2_carryOut_117 ?_
    refine lv_aload_n C.1 C.2.1 dX2_carryOut_120 rfl (lv_at hl 1 rfl) ?_
    obtain ⟨v16, hv16, hf⟩ := Option.bind_eq_some_iff.mp hf
    refine gE_b C hP hv16 wF_X2_38 dX2_carryOut_121 ?_
    obtain ⟨v18, u17, hu17, hf⟩ := b2_some hf
    refine cWi (As := [.int v15, .int v16]) (rest := []) (mc := 0) (ms := 0) C (mX7_addFace hu17) vX7_addFace wM_X2_52 ⟨Nat.le_of_ble_eq_true rfl, Nat.le_of_ble_eq_true rfl⟩ hP hD hS hA hZ (rcc_X7 C hP) hl.1 rfl rfl (Nat.le_of_ble_eq_true rfl) dX2_carryOut_124 ⟨Nat.le_of_ble_eq_true rfl, Nat.le_of_ble_eq_true rfl⟩ (fun H locs hP hD hS => ?_)
    exact endWi C hP hD hS (Nat.le_refl _) (Nat.le_refl _) hf dX2_carryOut_127
  rw [if_neg c14] at hf
  by_cases c19 : v1 = 3
  · rw [if_pos c19] at hf
    have e9 : (v1 : Int32).toInt = 3 := by rw [c19]; rfl
    refine lv_tableIn (off := 124) (tgt := 128) C.1 C.2.1 dX2_carryOut_4 (by rw [e9]; decide) (by rw [e9]; decide) (by rw [e9]; rfl) (by decide) ?_
    refine lv_aload_n C.1 C.2.1 dX2_carryOut_128 rfl (lv_at hl 0 rfl) ?_
    refine gtc_X2_types C hP wF_X2_12 dX2_carryOut_129 ?_
    refine lv_aload_n C.1 C.2.1 dX2_carryOut_132 rfl (lv_at hl 1 rfl) ?_
    obtain ⟨v20, hv20, hf⟩ := Option.bind_eq_some_iff.mp hf
    refine gE_a C hP hv20 wF_X2_35 dX2_carryOut_133 ?_
    refine lv_aload_n C.1 C.2.1 dX2_carryOut_136 rfl (lv_at hl 1 rfl) ?_
    obtain ⟨v21, hv21, hf⟩ := Option.bind_eq_some_iff.mp hf
    refine gE_b C hP hv21 wF_X2_38 dX2_carryOut_137 ?_
    obtain ⟨v23, u22, hu22, hf⟩ := b2_some hf
    refine cWi (As := [.int v20, .int v21]) (rest := []) (mc := 0) (ms := 0) C (mX7_removeFace hu22) vX7_removeFace wM_X2_55 ⟨Nat.le_of_ble_eq_true rfl, Nat.le_of_ble_eq_true rfl⟩ hP hD hS hA hZ (rcc_X7 C hP) hl.1 rfl rfl (Nat.le_of_ble_eq_true rfl) dX2_carryOut_140 ⟨Nat.le_of_ble_eq_true rfl, Nat.le_of_ble_eq_true rfl⟩ (fun H locs hP hD hS => ?_)
    exact endWi C hP hD hS (Nat.le_refl _) (Nat.le_refl _) hf dX2_carryOut_143
  rw [if_neg c19] at hf
  by_cases c24 : v1 = 4
  · rw [if_pos c24] at hf
    have e9 : (v1 : Int32).toInt = 4 := by rw [c24]; rfl
    refine lv_tableIn (off := 140) (tgt := 144) C.1 C.2.1 dX2_carryOut_4 (by rw [e9]; decide) (by rw [e9]; decide) (by rw [e9]; rfl) (by decide) ?_
    refine lv_aload_n C.1 C.2.1 dX2_carryOut_144 rfl (lv_at hl 0 rfl) ?_
    refine gtc_X2_types C hP wF_X2_12 dX2_carryOut_145 ?_
    refine lv_aload_n C.1 C.2.1 dX2_carryOut_148 rfl (lv_at hl 1 rfl) ?_
    obtain ⟨v25, hv25, hf⟩ := Option.bind_eq_some_iff.mp hf
    refine gE_a C hP hv25 wF_X2_35 dX2_carryOut_149 ?_
    refine lv_aload_n C.1 C.2.1 dX2_carryOut_152 rfl (lv_at hl 1 rfl) ?_
    obtain ⟨v26, hv26, hf⟩ := Option.bind_eq_some_iff.mp hf
    refine gE_b C hP hv26 wF_X2_38 dX2_carryOut_153 ?_
    obtain ⟨v28, u27, hu27, hf⟩ := b2_some hf
    refine cWi (As := [.int v25, .int v26]) (rest := []) (mc := 0) (ms := 0) C (mX7_changeMarks hu27) vX7_changeMarks wM_X2_58 ⟨Nat.le_of_ble_eq_true rfl, Nat.le_of_ble_eq_true rfl⟩ hP hD hS hA hZ (rcc_X7 C hP) hl.1 rfl rfl (Nat.le_of_ble_eq_true rfl) dX2_carryOut_156 ⟨Nat.le_of_ble_eq_true rfl, Nat.le_of_ble_eq_true rfl⟩ (fun H locs hP hD hS => ?_)
    exact endWi C hP hD hS (Nat.le_refl _) (Nat.le_refl _) hf dX2_carryOut_159
  rw [if_neg c24] at hf
  by_cases c29 : v1 = 5
  · rw [if_pos c29] at hf
    have e9 : (v1 : Int32).toInt = 5 := by rw [c29]; rfl
    refine lv_tableIn (off := 156) (tgt := 160) C.1 C.2.1 dX2_carryOut_4 (by rw [e9]; decide) (by rw [e9]; decide) (by rw [e9]; rfl) (by decide) ?_
    refine lv_aload_n C.1 C.2.1 dX2_carryOut_160 rfl (lv_at hl 0 rfl) ?_
    refine gtc_X2_members C hP wF_X2_21 dX2_carryOut_161 ?_
    refine lv_iconst (v := 0) C.1 C.2.1 dX2_carryOut_164 (by decide) ?_
    refine lv_aload_n C.1 C.2.1 dX2_carryOut_165 rfl (lv_at hl 1 rfl) ?_
    obtain ⟨v31, u30, hu30, hf⟩ := b2_some hf
    refine cWi (As := [.int 0, .ref x1]) (rest := []) (mc := 0) (ms := 0) C (mX6_add hu30) vX6_add wM_X2_61 ⟨Nat.le_of_ble_eq_true rfl, Nat.le_of_ble_eq_true rfl⟩ hP hD hS hA hZ (rcc_X6 C hP) hl.1 rfl rfl (Nat.le_of_ble_eq_true rfl) dX2_carryOut_166 ⟨Nat.le_of_ble_eq_true rfl, Nat.le_of_ble_eq_true rfl⟩ (fun H locs hP hD hS => ?_)
    exact endWi C hP hD hS (Nat.le_refl _) (Nat.le_refl _) hf dX2_carryOut_169
  rw [if_neg c29] at hf
  by_cases c32 : v1 = 6
  · rw [if_pos c32] at hf
    have e9 : (v1 : Int32).toInt = 6 := by rw [c32]; rfl
    refine lv_tableIn (off := 166) (tgt := 170) C.1 C.2.1 dX2_carryOut_4 (by rw [e9]; decide) (by rw [e9]; decide) (by rw [e9]; rfl) (by decide) ?_
    refine lv_aload_n C.1 C.2.1 dX2_carryOut_170 rfl (lv_at hl 0 rfl) ?_
    refine gtc_X2_members C hP wF_X2_21 dX2_carryOut_171 ?_
    refine lv_iconst (v := 1) C.1 C.2.1 dX2_carryOut_174 (by decide) ?_
    refine lv_aload_n C.1 C.2.1 dX2_carryOut_175 rfl (lv_at hl 1 rfl) ?_
    obtain ⟨v34, u33, hu33, hf⟩ := b2_some hf
    refine cWi (As := [.int 1, .ref x1]) (rest := []) (mc := 0) (ms := 0) C (mX6_add hu33) vX6_add wM_X2_61 ⟨Nat.le_of_ble_eq_true rfl, Nat.le_of_ble_eq_true rfl⟩ hP hD hS hA hZ (rcc_X6 C hP) hl.1 rfl rfl (Nat.le_of_ble_eq_true rfl) dX2_carryOut_176 ⟨Nat.le_of_ble_eq_true rfl, Nat.le_of_ble_eq_true rfl⟩ (fun H locs hP hD hS => ?_)
    exact endWi C hP hD hS (Nat.le_refl _) (Nat.le_refl _) hf dX2_carryOut_179
  rw [if_neg c32] at hf
  by_cases c35 : v1 = 7
  · rw [if_pos c35] at hf
    have e9 : (v1 : Int32).toInt = 7 := by rw [c35]; rfl
    refine lv_tableIn (off := 176) (tgt := 180) C.1 C.2.1 dX2_carryOut_4 (by rw [e9]; decide) (by rw [e9]; decide) (by rw [e9]; rfl) (by decide) ?_
    refine lv_aload_n C.1 C.2.1 dX2_carryOut_180 rfl (lv_at hl 0 rfl) ?_
    refine gtc_X2_members C hP wF_X2_21 dX2_carryOut_181 ?_
    refine lv_aload_n C.1 C.2.1 dX2_carryOut_184 rfl (lv_at hl 1 rfl) ?_
    obtain ⟨v36, hv36, hf⟩ := Option.bind_eq_some_iff.mp hf
    refine gE_a C hP hv36 wF_X2_35 dX2_carryOut_185 ?_
    obtain ⟨v38, u37, hu37, hf⟩ := b2_some hf
    refine cWi (As := [.int v36]) (rest := []) (mc := 0) (ms := 0) C (mX6_remove hu37) vX6_remove wM_X2_64 ⟨Nat.le_of_ble_eq_true rfl, Nat.le_of_ble_eq_true rfl⟩ hP hD hS hA hZ (rcc_X6 C hP) hl.1 rfl rfl (Nat.le_of_ble_eq_true rfl) dX2_carryOut_188 ⟨Nat.le_of_ble_eq_true rfl, Nat.le_of_ble_eq_true rfl⟩ (fun H locs hP hD hS => ?_)
    exact endWi C hP hD hS (Nat.le_refl _) (Nat.le_refl _) hf dX2_carryOut_191
  rw [if_neg c35] at hf
  by_cases c39 : v1 = 8
  · rw [if_pos c39] at hf
    have e9 : (v1 : Int32).toInt = 8 := by rw [c39]; rfl
    refine lv_tableIn (off := 188) (tgt := 192) C.1 C.2.1 dX2_carryOut_4 (by rw [e9]; decide) (by rw [e9]; decide) (by rw [e9]; rfl) (by decide) ?_
    refine lv_aload_n C.1 C.2.1 dX2_carryOut_192 rfl (lv_at hl 0 rfl) ?_
    refine gtc_X2_members C hP wF_X2_21 dX2_carryOut_193 ?_
    refine lv_aload_n C.1 C.2.1 dX2_carryOut_196 rfl (lv_at hl 1 rfl) ?_
    obtain ⟨v40, hv40, hf⟩ := Option.bind_eq_some_iff.mp hf
    refine gE_a C hP hv40 wF_X2_35 dX2_carryOut_197 ?_
    refine lv_aload_n C.1 C.2.1 dX2_carryOut_200 rfl (lv_at hl 1 rfl) ?_
    obtain ⟨v41, hv41, hf⟩ := Option.bind_eq_some_iff.mp hf
    refine gE_b C hP hv41 wF_X2_38 dX2_carryOut_201 ?_
    obtain ⟨v43, u42, hu42, hf⟩ := b2_some hf
    refine cWi (As := [.int v40, .int v41]) (rest := []) (mc := 0) (ms := 0) C (mX6_changeMarks hu42) vX6_changeMarks wM_X2_68 ⟨Nat.le_of_ble_eq_true rfl, Nat.le_of_ble_eq_true rfl⟩ hP hD hS hA hZ (rcc_X6 C hP) hl.1 rfl rfl (Nat.le_of_ble_eq_true rfl) dX2_carryOut_204 ⟨Nat.le_of_ble_eq_true rfl, Nat.le_of_ble_eq_true rfl⟩ (fun H locs hP hD hS => ?_)
    exact endWi C hP hD hS (Nat.le_refl _) (Nat.le_refl _) hf dX2_carryOut_207
  rw [if_neg c39] at hf
  by_cases c44 : v1 = 9
  · rw [if_pos c44] at hf
    have e9 : (v1 : Int32).toInt = 9 := by rw [c44]; rfl
    refine lv_tableIn (off := 204) (tgt := 208) C.1 C.2.1 dX2_carryOut_4 (by rw [e9]; decide) (by rw [e9]; decide) (by rw [e9]; rfl) (by decide) ?_
    refine lv_aload_n C.1 C.2.1 dX2_carryOut_208 rfl (lv_at hl 0 rfl) ?_
    refine gtc_X2_members C hP wF_X2_21 dX2_carryOut_209 ?_
    refine lv_aload_n C.1 C.2.1 dX2_carryOut_212 rfl (lv_at hl 1 rfl) ?_
    obtain ⟨v45, hv45, hf⟩ := Option.bind_eq_some_iff.mp hf
    refine gE_a C hP hv45 wF_X2_35 dX2_carryOut_213 ?_
    refine lv_aload_n C.1 C.2.1 dX2_carryOut_216 rfl (lv_at hl 1 rfl) ?_
    obtain ⟨v46, hv46, hf⟩ := Option.bind_eq_some_iff.mp hf
    refine gE_v C hP hv46 wF_X2_69 dX2_carryOut_217 ?_
    obtain ⟨v48, u47, hu47, hf⟩ := b2_some hf
    refine cWi (As := [.int v45, .long v46]) (rest := []) (mc := 0) (ms := 0) C (mX6_putValue hu47) vX6_putValue wM_X2_73 ⟨Nat.le_of_ble_eq_true rfl, Nat.le_of_ble_eq_true rfl⟩ hP hD hS hA hZ (rcc_X6 C hP) hl.1 rfl rfl (Nat.le_of_ble_eq_true rfl) dX2_carryOut_220 ⟨Nat.le_of_ble_eq_true rfl, Nat.le_of_ble_eq_true rfl⟩ (fun H locs hP hD hS => ?_)
    exact endWi C hP hD hS (Nat.le_refl _) (Nat.le_refl _) hf dX2_carryOut_223
  rw [if_neg c44] at hf
  by_cases c49 : v1 = 10
  · rw [if_pos c49] at hf
    have e9 : (v1 : Int32).toInt = 10 := by rw [c49]; rfl
    refine lv_tableIn (off := 220) (tgt := 224) C.1 C.2.1 dX2_carryOut_4 (by rw [e9]; decide) (by rw [e9]; decide) (by rw [e9]; rfl) (by decide) ?_
    refine lv_aload_n C.1 C.2.1 dX2_carryOut_224 rfl (lv_at hl 0 rfl) ?_
    refine gtc_X2_members C hP wF_X2_21 dX2_carryOut_225 ?_
    refine lv_aload_n C.1 C.2.1 dX2_carryOut_228 rfl (lv_at hl 1 rfl) ?_
    obtain ⟨v50, hv50, hf⟩ := Option.bind_eq_some_iff.mp hf
    refine gE_a C hP hv50 wF_X2_35 dX2_carryOut_229 ?_
    refine lv_aload_n C.1 C.2.1 dX2_carryOut_232 rfl (lv_at hl 1 rfl) ?_
    obtain ⟨v51, hv51, hf⟩ := Option.bind_eq_some_iff.mp hf
    refine gE_b C hP hv51 wF_X2_38 dX2_carryOut_233 ?_
    refine lv_aload_n C.1 C.2.1 dX2_carryOut_236 rfl (lv_at hl 1 rfl) ?_
    obtain ⟨v52, hv52, hf⟩ := Option.bind_eq_some_iff.mp hf
    refine gE_v C hP hv52 wF_X2_69 dX2_carryOut_237 ?_
    obtain ⟨v54, u53, hu53, hf⟩ := b2_some hf
    refine cWi (As := [.int v50, .int v51, .long v52]) (rest := []) (mc := 0) (ms := 0) C (mX6_changeKind hu53) vX6_changeKind wM_X2_77 ⟨Nat.le_of_ble_eq_true rfl, Nat.le_of_ble_eq_true rfl⟩ hP hD hS hA hZ (rcc_X6 C hP) hl.1 rfl rfl (Nat.le_of_ble_eq_true rfl) dX2_carryOut_240 ⟨Nat.le_of_ble_eq_true rfl, Nat.le_of_ble_eq_true rfl⟩ (fun H locs hP hD hS => ?_)
    exact endWi C hP hD hS (Nat.le_refl _) (Nat.le_refl _) hf dX2_carryOut_243
  rw [if_neg c49] at hf
  by_cases c55 : v1 = 11
  · rw [if_pos c55] at hf
    have e9 : (v1 : Int32).toInt = 11 := by rw [c55]; rfl
    refine lv_tableIn (off := 240) (tgt := 244) C.1 C.2.1 dX2_carryOut_4 (by rw [e9]; decide) (by rw [e9]; decide) (by rw [e9]; rfl) (by decide) ?_
    refine lv_aload_n C.1 C.2.1 dX2_carryOut_244 rfl (lv_at hl 0 rfl) ?_
    refine gtc_X2_members C hP wF_X2_21 dX2_carryOut_245 ?_
    refine lv_aload_n C.1 C.2.1 dX2_carryOut_248 rfl (lv_at hl 1 rfl) ?_
    obtain ⟨v56, hv56, hf⟩ := Option.bind_eq_some_iff.mp hf
    refine gE_a C hP hv56 wF_X2_35 dX2_carryOut_249 ?_
    refine lv_aload_n C.1 C.2.1 dX2_carryOut_252 rfl (lv_at hl 1 rfl) ?_
    obtain ⟨v57, hv57, hf⟩ := Option.bind_eq_some_iff.mp hf
    refine gE_b C hP hv57 wF_X2_38 dX2_carryOut_253 ?_
    obtain ⟨v59, u58, hu58, hf⟩ := b2_some hf
    refine cWi (As := [.int v56, .int v57]) (rest := []) (mc := 0) (ms := 0) C (mX6_changeOwner hu58) vX6_changeOwner wM_X2_81 ⟨Nat.le_of_ble_eq_true rfl, Nat.le_of_ble_eq_true rfl⟩ hP hD hS hA hZ (rcc_X6 C hP) hl.1 rfl rfl (Nat.le_of_ble_eq_true rfl) dX2_carryOut_256 ⟨Nat.le_of_ble_eq_true rfl, Nat.le_of_ble_eq_true rfl⟩ (fun H locs hP hD hS => ?_)
    exact endWi C hP hD hS (Nat.le_refl _) (Nat.le_refl _) hf dX2_carryOut_259
  rw [if_neg c55] at hf
  refine lv_tableOut (tgt := 260) C.1 C.2.1 dX2_carryOut_4 (by have q0 := neI c2 (k := 0) rfl; have q1 := neI c9 (k := 1) rfl; have q2 := neI c14 (k := 2) rfl; have q3 := neI c19 (k := 3) rfl; have q4 := neI c24 (k := 4) rfl; have q5 := neI c29 (k := 5) rfl; have q6 := neI c32 (k := 6) rfl; have q7 := neI c35 (k := 7) rfl; have q8 := neI c39 (k := 8) rfl; have q9 := neI c44 (k := 9) rfl; have q10 := neI c49 (k := 10) rfl; have q11 := neI c55 (k := 11) rfl; omega) (by decide) ?_
  refine lv_iconst (v := -1) C.1 C.2.1 dX2_carryOut_260 (by decide) ?_
  exact endWi C hP hD hS (Nat.le_refl _) (Nat.le_refl _) hf dX2_carryOut_261
end
theorem vX2_carryOut : YV yX2_carryOut cX2_carryOut 2 (some .int) 1 := ⟨⟨wK_X2_carryOut, wZ_X2, by decide +kernel⟩, wI_X2_carryOut, wV_X2_carryOut⟩
def fX8_carryOut (u : ST) (x1 : Nat) : Option (Int32 × ST) :=
  if (sI u 4) < 120 then
    (stE u 6 120 (sI u 4) x1).bind fun u2 =>
    (some (uI u2 4 ((sI u2 4) + 1))).bind fun u3 =>
    b2 (fX2_carryOut u3 x1) fun v5 u4 =>
    some (v5, u4)
  else
    some ((-3), u)
section
variable {p : Program} {l : Launch} {e : Env} {s : State} {m : MethodId} {args : Array Value} {below : List Frame} {meth : Method} {c : Code} {H : Heap} {locs : List Loc} {g : GP} {ls : Array Slot} {A : Nat → Prop} {ad : Nat → Nat} {u : ST}
set_option maxRecDepth 100000 in
set_option maxHeartbeats 4000000 in
theorem mX8_carryOut {r0 : Int32} {u0 : ST} {x1 : Nat} (hf : fX8_carryOut u x1 = some (r0, u0)) : MWi l yX8_carryOut cX8_carryOut 2 (some .int) 5 116 0 0 [.ref (ad 0), .ref x1] g (cW g ad) u r0 u0 := by
  refine entW (Qc := fun A => va_Qi (fun r v => r = r0 ∧ v = u0) (BW g A (cW g ad)) A) (by decide) (Nat.le_of_ble_eq_true rfl) ?_
  intro p e s m below meth c ls A C hP hD hS hA hZ hl
  have hl : lv_has ls 2 [(0, .ref (ad 0)), (1, .ref x1)] := hl
  rw [fX8_carryOut] at hf
  refine lv_aload_n C.1 C.2.1 dX8_carryOut_0 rfl (lv_at hl 0 rfl) ?_
  refine gtc_X8_editCount C hP wF_X8_126 dX8_carryOut_1 ?_
  refine lv_bipush (v := 120) C.1 C.2.1 dX8_carryOut_4 (by decide) ?_
  refine lv_icmp_lt (tgt := 12) C.1 C.2.1 dX8_carryOut_6 (by decide) (fun c1 => ?_) (fun c1 => ?_)
  · rw [if_pos c1] at hf
    refine lv_aload_n C.1 C.2.1 dX8_carryOut_12 rfl (lv_at hl 0 rfl) ?_
    refine gtc_X8_edits C hP wF_X8_34 dX8_carryOut_13 ?_
    refine lv_aload_n C.1 C.2.1 dX8_carryOut_16 rfl (lv_at hl 0 rfl) ?_
    refine gtc_X8_editCount C hP wF_X8_126 dX8_carryOut_17 ?_
    refine lv_aload_n C.1 C.2.1 dX8_carryOut_20 rfl (lv_at hl 1 rfl) ?_
    obtain ⟨u2, hu2, hf⟩ := Option.bind_eq_some_iff.mp hf
    refine stcR_6 C hP hD hS hu2 dX8_carryOut_21 (fun H locs hP hD hS => ?_)
    refine lv_aload_n C.1 C.2.1 dX8_carryOut_22 rfl (lv_at hl 0 rfl) ?_
    refine lv_dup C.1 C.2.1 dX8_carryOut_23 rfl ?_
    refine gtc_X8_editCount C hP wF_X8_126 dX8_carryOut_24 ?_
    refine lv_iconst (v := 1) C.1 C.2.1 dX8_carryOut_27 (by decide) ?_
    refine lv_iadd C.1 C.2.1 dX8_carryOut_28 ?_
    obtain ⟨u3, hu3, hf⟩ := Option.bind_eq_some_iff.mp hf
    refine ptc_X8_editCount C hP hD hS wF_X8_126 dX8_carryOut_29 (fun H locs hP hD hS => ?_)
    rw [Option.some.inj hu3] at hP hD
    refine lv_aload_n C.1 C.2.1 dX8_carryOut_32 rfl (lv_at hl 0 rfl) ?_
    refine gtc_X8_house C hP wF_X8_10 dX8_carryOut_33 ?_
    refine lv_aload_n C.1 C.2.1 dX8_carryOut_36 rfl (lv_at hl 1 rfl) ?_
    obtain ⟨v5, u4, hu4, hf⟩ := b2_some hf
    refine cWi (As := [.ref x1]) (rest := []) (mc := 0) (ms := 0) C (mX2_carryOut hu4) vX2_carryOut wM_X8_223 ⟨Nat.le_of_ble_eq_true rfl, Nat.le_of_ble_eq_true rfl⟩ hP hD hS hA hZ (rcc_X2 C hP) hl.1 rfl rfl (Nat.le_of_ble_eq_true rfl) dX8_carryOut_37 ⟨Nat.le_of_ble_eq_true rfl, Nat.le_of_ble_eq_true rfl⟩ (fun H locs hP hD hS => ?_)
    exact endWi C hP hD hS (Nat.le_refl _) (Nat.le_refl _) hf dX8_carryOut_40
  · rw [if_neg c1] at hf
    refine lv_bipush (v := -3) C.1 C.2.1 dX8_carryOut_9 (by decide) ?_
    exact endWi C hP hD hS (Nat.le_refl _) (Nat.le_refl _) hf dX8_carryOut_11
end
theorem vX8_carryOut : YV yX8_carryOut cX8_carryOut 2 (some .int) 1 := ⟨⟨wK_X8_carryOut, wZ_X8, by decide +kernel⟩, wI_X8_carryOut, wV_X8_carryOut⟩
def fX8_type (u : ST) (x1 : Int32) (x2 : Int32) (x3 : Int32) : Option NR :=
  (fX7_mayCome u x1 x2 x3).bind fun v1 =>
  if v1 = 0 then
    some (.inl ((-1), u))
  else
    if (sI u 200) < 12 then
      some (.inr fun q4 =>
        (some (qN u q4 true)).bind fun u5 =>
        if x1 = 0 then
          (fX1_init u5 q4 0 0 x2 x3 0 0 0).bind fun u7 =>
          b2 (fX8_carryOut u7 q4) fun v9 u8 =>
          some (v9, u8)
        else
          (fX1_init u5 q4 0 1 x2 x3 0 0 0).bind fun u10 =>
          b2 (fX8_carryOut u10 q4) fun v12 u11 =>
          some (v12, u11))
    else
      some (.inl ((-3), u))
section
variable {p : Program} {l : Launch} {e : Env} {s : State} {m : MethodId} {args : Array Value} {below : List Frame} {meth : Method} {c : Code} {H : Heap} {locs : List Loc} {g : GP} {ls : Array Slot} {A : Nat → Prop} {ad : Nat → Nat} {u : ST}
set_option maxRecDepth 100000 in
set_option maxHeartbeats 4000000 in
theorem mX8_type {x : NR} {x1 : Int32} {x2 : Int32} {x3 : Int32} (hf : fX8_type u x1 x2 x3 = some x) (hok : okN u x) : MNi l yX8_type cX8_type 4 (some .int) 6 137 1 7 [.ref (ad 0), .int x1, .int x2, .int x3] g (cW g ad) u x := by
  refine entW (Qc := fun A => va_Qi (poN u x) (BW g A (cW g ad)) A) (by decide) (Nat.le_of_ble_eq_true rfl) ?_
  intro p e s m below meth c ls A C hP hD hS hA hZ hl
  have hl : lv_has ls 4 [(0, .ref (ad 0)), (1, .int x1), (2, .int x2), (3, .int x3)] := hl
  rw [fX8_type] at hf
  refine lv_aload_n C.1 C.2.1 dX8_type_0 rfl (lv_at hl 0 rfl) ?_
  refine gtc_X8_house C hP wF_X8_10 dX8_type_1 ?_
  refine gtc_X2_types C hP wF_X8_49 dX8_type_4 ?_
  refine lv_iload_n C.1 C.2.1 dX8_type_7 rfl (lv_at hl 1 rfl) ?_
  refine lv_iload_n C.1 C.2.1 dX8_type_8 rfl (lv_at hl 2 rfl) ?_
  refine lv_iload_n C.1 C.2.1 dX8_type_9 rfl (lv_at hl 3 rfl) ?_
  obtain ⟨v1, hv1, hf⟩ := Option.bind_eq_some_iff.mp hf
  refine cRi (As := [.int x1, .int x2, .int x3]) (rest := []) C (mX7_mayCome hv1) vX7_mayCome wM_X8_53 ⟨Nat.le_of_ble_eq_true rfl, Nat.le_of_ble_eq_true rfl⟩ hP (rcc_X7 C hP) (fun U hU hW => SF.go hZ hS hU hW (fun _ h => h.elim)) hl.1 rfl rfl (Nat.le_of_ble_eq_true rfl) dX8_type_10 ⟨Nat.le_of_ble_eq_true rfl, Nat.le_of_ble_eq_true rfl⟩ ?_
  refine lv_if_ne (tgt := 18) C.1 C.2.1 dX8_type_13 (by decide) (fun c2 => ?_) (fun c2 => ?_)
  · rw [if_neg c2] at hf
    refine lv_aload_n C.1 C.2.1 dX8_type_18 rfl (lv_at hl 0 rfl) ?_
    refine gtc_X8_house C hP wF_X8_10 dX8_type_19 ?_
    refine gtc_X2_types C hP wF_X8_49 dX8_type_22 ?_
    refine gtc_X7_size C hP wF_X8_59 dX8_type_25 ?_
    refine lv_bipush (v := 12) C.1 C.2.1 dX8_type_28 (by decide) ?_
    refine lv_icmp_lt (tgt := 36) C.1 C.2.1 dX8_type_30 (by decide) (fun c3 => ?_) (fun c3 => ?_)
    · rw [if_pos c3] at hf
      refine lv_aload_n C.1 C.2.1 dX8_type_36 rfl (lv_at hl 0 rfl) ?_
      cases hf
      refine nwE C hP hD hS hA wC_X8_32 (Nat.le_of_ble_eq_true rfl) (Nat.le_of_ble_eq_true rfl) dX8_type_37 (fun q4 H hq hP hD hS => ?_)
      obtain ⟨r0, u0, hf⟩ := hok _ rfl q4 hq
      refine Wmono (Nmono hq hf) ?_
      obtain ⟨u5, hu5, hf⟩ := Option.bind_eq_some_iff.mp hf
      rw [Option.some.inj hu5] at hP hD
      refine lv_dup C.1 C.2.1 dX8_type_40 rfl ?_
      refine lv_iconst (v := 0) C.1 C.2.1 dX8_type_41 (by decide) ?_
      refine lv_iload_n C.1 C.2.1 dX8_type_42 rfl (lv_at hl 1 rfl) ?_
      refine lv_if_eq (tgt := 50) C.1 C.2.1 dX8_type_43 (by decide) (fun c6 => ?_) (fun c6 => ?_)
      · rw [if_pos c6] at hf
        refine lv_iconst (v := 0) C.1 C.2.1 dX8_type_50 (by decide) ?_
        refine lv_iload_n C.1 C.2.1 dX8_type_51 rfl (lv_at hl 2 rfl) ?_
        refine lv_iload_n C.1 C.2.1 dX8_type_52 rfl (lv_at hl 3 rfl) ?_
        refine lv_iconst (v := 0) C.1 C.2.1 dX8_type_53 (by decide) ?_
        refine lv_iconst (v := 0) C.1 C.2.1 dX8_type_54 (by decide) ?_
        refine lv_lconst (v := 0) C.1 C.2.1 dX8_type_55 (by decide) ?_
        obtain ⟨u7, hu7, hf⟩ := Option.bind_eq_some_iff.mp hf
        refine cIv (As := [.int 0, .int 0, .int x2, .int x3, .int 0, .int 0, .long 0]) (rest := [.ref q4, .ref (ad 0)]) (mc := 0) (ms := 0) C (mX1_init hu7) vX1_init wM_X8_63 ⟨Nat.le_of_ble_eq_true rfl, Nat.le_of_ble_eq_true rfl⟩ hP hD hS hA hZ hl.1 rfl rfl (Nat.le_of_ble_eq_true rfl) dX8_type_56 ⟨Nat.le_of_ble_eq_true rfl, Nat.le_of_ble_eq_true rfl⟩ (fun H locs hP hD hS => ?_)
        obtain ⟨v9, u8, hu8, hf⟩ := b2_some hf
        refine cWi (As := [.ref q4]) (rest := []) (mc := 0) (ms := 0) C (mX8_carryOut hu8) vX8_carryOut wM_X8_66 ⟨Nat.le_of_ble_eq_true rfl, Nat.le_of_ble_eq_true rfl⟩ hP hD hS hA hZ (rcc_X8 C hP) hl.1 rfl rfl (Nat.le_of_ble_eq_true rfl) dX8_type_59 ⟨Nat.le_of_ble_eq_true rfl, Nat.le_of_ble_eq_true rfl⟩ (fun H locs hP hD hS => ?_)
        exact endWi C hP hD hS (Nat.le_refl _) (Nat.le_refl _) hf dX8_type_62
      · rw [if_neg c6] at hf
        refine lv_iconst (v := 1) C.1 C.2.1 dX8_type_46 (by decide) ?_
        refine lv_goto (tgt := 51) C.1 C.2.1 dX8_type_47 (by decide) ?_
        refine lv_iload_n C.1 C.2.1 dX8_type_51 rfl (lv_at hl 2 rfl) ?_
        refine lv_iload_n C.1 C.2.1 dX8_type_52 rfl (lv_at hl 3 rfl) ?_
        refine lv_iconst (v := 0) C.1 C.2.1 dX8_type_53 (by decide) ?_
        refine lv_iconst (v := 0) C.1 C.2.1 dX8_type_54 (by decide) ?_
        refine lv_lconst (v := 0) C.1 C.2.1 dX8_type_55 (by decide) ?_
        obtain ⟨u10, hu10, hf⟩ := Option.bind_eq_some_iff.mp hf
        refine cIv (As := [.int 0, .int 1, .int x2, .int x3, .int 0, .int 0, .long 0]) (rest := [.ref q4, .ref (ad 0)]) (mc := 0) (ms := 0) C (mX1_init hu10) vX1_init wM_X8_63 ⟨Nat.le_of_ble_eq_true rfl, Nat.le_of_ble_eq_true rfl⟩ hP hD hS hA hZ hl.1 rfl rfl (Nat.le_of_ble_eq_true rfl) dX8_type_56 ⟨Nat.le_of_ble_eq_true rfl, Nat.le_of_ble_eq_true rfl⟩ (fun H locs hP hD hS => ?_)
        obtain ⟨v12, u11, hu11, hf⟩ := b2_some hf
        refine cWi (As := [.ref q4]) (rest := []) (mc := 0) (ms := 0) C (mX8_carryOut hu11) vX8_carryOut wM_X8_66 ⟨Nat.le_of_ble_eq_true rfl, Nat.le_of_ble_eq_true rfl⟩ hP hD hS hA hZ (rcc_X8 C hP) hl.1 rfl rfl (Nat.le_of_ble_eq_true rfl) dX8_type_59 ⟨Nat.le_of_ble_eq_true rfl, Nat.le_of_ble_eq_true rfl⟩ (fun H locs hP hD hS => ?_)
        exact endWi C hP hD hS (Nat.le_refl _) (Nat.le_refl _) hf dX8_type_62
    · rw [if_neg c3] at hf
      refine lv_bipush (v := -3) C.1 C.2.1 dX8_type_33 (by decide) ?_
      exact endN C hP hD hS (Nat.zero_le _) (Nat.zero_le _) hf dX8_type_35
  · rw [if_pos c2] at hf
    refine lv_iconst (v := -1) C.1 C.2.1 dX8_type_16 (by decide) ?_
    exact endN C hP hD hS (Nat.zero_le _) (Nat.zero_le _) hf dX8_type_17
end
theorem vX8_type : YV yX8_type cX8_type 4 (some .int) 3 := ⟨⟨wK_X8_type, wZ_X8, by decide +kernel⟩, wI_X8_type, wV_X8_type⟩
def fX7_isBelow (u : ST) (x1 : Int32) (x2 : Int32) : Option Int32 :=
  if x1 < 0 then
    some 0
  else
    if (sI u 200) ≤ x1 then
      some 0
    else
      if x2 < 0 then
        some 0
      else
        if (sI u 200) ≤ x2 then
          some 0
        else
          (rdI u 13 12 x1).bind fun v5 =>
          if ((v5 >>> (x2 &&& 31)) &&& 1) = 0 then
            some 0
          else
            some 1
section
variable {p : Program} {l : Launch} {e : Env} {s : State} {m : MethodId} {args : Array Value} {below : List Frame} {meth : Method} {c : Code} {H : Heap} {locs : List Loc} {g : GP} {ls : Array Slot} {A : Nat → Prop} {ad : Nat → Nat} {u : ST}
set_option maxRecDepth 100000 in
set_option maxHeartbeats 4000000 in
theorem mX7_isBelow {r0 : Int32} {x1 : Int32} {x2 : Int32} (hf : fX7_isBelow u x1 x2 = some r0) : MRi l yX7_isBelow cX7_isBelow 3 (some .boolean) 0 0 [.ref (ad 2), .int x1, .int x2] g (cW g ad u) r0 := by
  refine entR (by decide) (Nat.le_of_ble_eq_true rfl) ?_
  intro p e s m below meth c ls C hP hZ hl
  have hl : lv_has ls 3 [(0, .ref (ad 2)), (1, .int x1), (2, .int x2)] := hl
  rw [fX7_isBelow] at hf
  refine lv_iload_n C.1 C.2.1 dX7_isBelow_0 rfl (lv_at hl 1 rfl) ?_
  refine lv_if_lt (tgt := 41) C.1 C.2.1 dX7_isBelow_1 (by decide) (fun c1 => ?_) (fun c1 => ?_)
  · rw [if_pos c1] at hf
    refine lv_iconst (v := 0) C.1 C.2.1 dX7_isBelow_41 (by decide) ?_
    exact endRz C rfl hf dX7_isBelow_42
  · rw [if_neg c1] at hf
    refine lv_iload_n C.1 C.2.1 dX7_isBelow_4 rfl (lv_at hl 1 rfl) ?_
    refine lv_aload_n C.1 C.2.1 dX7_isBelow_5 rfl (lv_at hl 0 rfl) ?_
    refine gtc_X7_size C hP wF_X7_34 dX7_isBelow_6 ?_
    refine lv_icmp_ge (tgt := 41) C.1 C.2.1 dX7_isBelow_9 (by decide) (fun c2 => ?_) (fun c2 => ?_)
    · rw [if_pos c2] at hf
      refine lv_iconst (v := 0) C.1 C.2.1 dX7_isBelow_41 (by decide) ?_
      exact endRz C rfl hf dX7_isBelow_42
    · rw [if_neg c2] at hf
      refine lv_iload_n C.1 C.2.1 dX7_isBelow_12 rfl (lv_at hl 2 rfl) ?_
      refine lv_if_lt (tgt := 41) C.1 C.2.1 dX7_isBelow_13 (by decide) (fun c3 => ?_) (fun c3 => ?_)
      · rw [if_pos c3] at hf
        refine lv_iconst (v := 0) C.1 C.2.1 dX7_isBelow_41 (by decide) ?_
        exact endRz C rfl hf dX7_isBelow_42
      · rw [if_neg c3] at hf
        refine lv_iload_n C.1 C.2.1 dX7_isBelow_16 rfl (lv_at hl 2 rfl) ?_
        refine lv_aload_n C.1 C.2.1 dX7_isBelow_17 rfl (lv_at hl 0 rfl) ?_
        refine gtc_X7_size C hP wF_X7_34 dX7_isBelow_18 ?_
        refine lv_icmp_ge (tgt := 41) C.1 C.2.1 dX7_isBelow_21 (by decide) (fun c4 => ?_) (fun c4 => ?_)
        · rw [if_pos c4] at hf
          refine lv_iconst (v := 0) C.1 C.2.1 dX7_isBelow_41 (by decide) ?_
          exact endRz C rfl hf dX7_isBelow_42
        · rw [if_neg c4] at hf
          refine lv_aload_n C.1 C.2.1 dX7_isBelow_24 rfl (lv_at hl 0 rfl) ?_
          refine gtc_X7_over C hP wF_X7_28 dX7_isBelow_25 ?_
          refine lv_iload_n C.1 C.2.1 dX7_isBelow_28 rfl (lv_at hl 1 rfl) ?_
          obtain ⟨v5, hv5, hf⟩ := Option.bind_eq_some_iff.mp hf
          refine ldc_13 C hP hv5 dX7_isBelow_29 ?_
          refine lv_iload_n C.1 C.2.1 dX7_isBelow_30 rfl (lv_at hl 2 rfl) ?_
          refine lv_ishr C.1 C.2.1 dX7_isBelow_31 ?_
          refine lv_iconst (v := 1) C.1 C.2.1 dX7_isBelow_32 (by decide) ?_
          refine lv_iand C.1 C.2.1 dX7_isBelow_33 ?_
          refine lv_if_eq (tgt := 41) C.1 C.2.1 dX7_isBelow_34 (by decide) (fun c6 => ?_) (fun c6 => ?_)
          · rw [if_pos c6] at hf
            refine lv_iconst (v := 0) C.1 C.2.1 dX7_isBelow_41 (by decide) ?_
            exact endRz C rfl hf dX7_isBelow_42
          · rw [if_neg c6] at hf
            refine lv_iconst (v := 1) C.1 C.2.1 dX7_isBelow_37 (by decide) ?_
            refine lv_goto (tgt := 42) C.1 C.2.1 dX7_isBelow_38 (by decide) ?_
            exact endRz C rfl hf dX7_isBelow_42
end
theorem vX7_isBelow : YV yX7_isBelow cX7_isBelow 3 (some .boolean) 2 := ⟨⟨wK_X7_isBelow, wZ_X7, by decide +kernel⟩, wI_X7_isBelow, wV_X7_isBelow⟩
def fX8_above (u : ST) (x1 : Int32) (x2 : Int32) : Option NR :=
  (fX7_isClass u x1).bind fun v1 =>
  if v1 = 0 then
    some (.inl ((-1), u))
  else
    if x2 = (-2) then
      (fX7_isBelow u x2 x1).bind fun v4 =>
      if v4 = 0 then
        some (.inr fun q6 =>
          (some (qN u q6 true)).bind fun u7 =>
          (fX1_init u7 q6 1 x1 x2 0 0 0 0).bind fun u8 =>
          b2 (fX8_carryOut u8 q6) fun v10 u9 =>
          some (v10, u9))
      else
        some (.inl ((-4), u))
    else
      (fX7_isClass u x2).bind fun v11 =>
      if v11 = 0 then
        some (.inl ((-1), u))
      else
        (fX7_isBelow u x2 x1).bind fun v13 =>
        if v13 = 0 then
          some (.inr fun q15 =>
            (some (qN u q15 true)).bind fun u16 =>
            (fX1_init u16 q15 1 x1 x2 0 0 0 0).bind fun u17 =>
            b2 (fX8_carryOut u17 q15) fun v19 u18 =>
            some (v19, u18))
        else
          some (.inl ((-4), u))
section
variable {p : Program} {l : Launch} {e : Env} {s : State} {m : MethodId} {args : Array Value} {below : List Frame} {meth : Method} {c : Code} {H : Heap} {locs : List Loc} {g : GP} {ls : Array Slot} {A : Nat → Prop} {ad : Nat → Nat} {u : ST}
set_option maxRecDepth 100000 in
set_option maxHeartbeats 4000000 in
theorem mX8_above {x : NR} {x1 : Int32} {x2 : Int32} (hf : fX8_above u x1 x2 = some x) (hok : okN u x) : MNi l yX8_above cX8_above 3 (some .int) 6 137 1 7 [.ref (ad 0), .int x1, .int x2] g (cW g ad) u x := by
  refine entW (Qc := fun A => va_Qi (poN u x) (BW g A (cW g ad)) A) (by decide) (Nat.le_of_ble_eq_true rfl) ?_
  intro p e s m below meth c ls A C hP hD hS hA hZ hl
  have hl : lv_has ls 3 [(0, .ref (ad 0)), (1, .int x1), (2, .int x2)] := hl
  rw [fX8_above] at hf
  refine lv_aload_n C.1 C.2.1 dX8_above_0 rfl (lv_at hl 0 rfl) ?_
  refine gtc_X8_house C hP wF_X8_10 dX8_above_1 ?_
  refine gtc_X2_types C hP wF_X8_49 dX8_above_4 ?_
  refine lv_iload_n C.1 C.2.1 dX8_above_7 rfl (lv_at hl 1 rfl) ?_
  obtain ⟨v1, hv1, hf⟩ := Option.bind_eq_some_iff.mp hf
  refine cRi (As := [.int x1]) (rest := []) C (mX7_isClass hv1) vX7_isClass wM_X8_70 ⟨Nat.le_of_ble_eq_true rfl, Nat.le_of_ble_eq_true rfl⟩ hP (rcc_X7 C hP) (fun U hU hW => SF.go hZ hS hU hW (fun _ h => h.elim)) hl.1 rfl rfl (Nat.le_of_ble_eq_true rfl) dX8_above_8 ⟨Nat.le_of_ble_eq_true rfl, Nat.le_of_ble_eq_true rfl⟩ ?_
  refine lv_if_eq (tgt := 34) C.1 C.2.1 dX8_above_11 (by decide) (fun c2 => ?_) (fun c2 => ?_)
  · rw [if_pos c2] at hf
    refine lv_iconst (v := -1) C.1 C.2.1 dX8_above_34 (by decide) ?_
    exact endN C hP hD hS (Nat.zero_le _) (Nat.zero_le _) hf dX8_above_35
  · rw [if_neg c2] at hf
    refine lv_iload_n C.1 C.2.1 dX8_above_14 rfl (lv_at hl 2 rfl) ?_
    refine lv_bipush (v := -2) C.1 C.2.1 dX8_above_15 (by decide) ?_
    refine lv_icmp_eq (tgt := 36) C.1 C.2.1 dX8_above_17 (by decide) (fun c3 => ?_) (fun c3 => ?_)
    · rw [if_pos c3] at hf
      refine lv_aload_n C.1 C.2.1 dX8_above_36 rfl (lv_at hl 0 rfl) ?_
      refine gtc_X8_house C hP wF_X8_10 dX8_above_37 ?_
      refine gtc_X2_types C hP wF_X8_49 dX8_above_40 ?_
      refine lv_iload_n C.1 C.2.1 dX8_above_43 rfl (lv_at hl 2 rfl) ?_
      refine lv_iload_n C.1 C.2.1 dX8_above_44 rfl (lv_at hl 1 rfl) ?_
      obtain ⟨v4, hv4, hf⟩ := Option.bind_eq_some_iff.mp hf
      refine cRi (As := [.int x2, .int x1]) (rest := []) C (mX7_isBelow hv4) vX7_isBelow wM_X8_74 ⟨Nat.le_of_ble_eq_true rfl, Nat.le_of_ble_eq_true rfl⟩ hP (rcc_X7 C hP) (fun U hU hW => SF.go hZ hS hU hW (fun _ h => h.elim)) hl.1 rfl rfl (Nat.le_of_ble_eq_true rfl) dX8_above_45 ⟨Nat.le_of_ble_eq_true rfl, Nat.le_of_ble_eq_true rfl⟩ ?_
      refine lv_if_eq (tgt := 54) C.1 C.2.1 dX8_above_48 (by decide) (fun c5 => ?_) (fun c5 => ?_)
      · rw [if_pos c5] at hf
        refine lv_aload_n C.1 C.2.1 dX8_above_54 rfl (lv_at hl 0 rfl) ?_
        cases hf
        refine nwE C hP hD hS hA wC_X8_32 (Nat.le_of_ble_eq_true rfl) (Nat.le_of_ble_eq_true rfl) dX8_above_55 (fun q6 H hq hP hD hS => ?_)
        obtain ⟨r0, u0, hf⟩ := hok _ rfl q6 hq
        refine Wmono (Nmono hq hf) ?_
        obtain ⟨u7, hu7, hf⟩ := Option.bind_eq_some_iff.mp hf
        rw [Option.some.inj hu7] at hP hD
        refine lv_dup C.1 C.2.1 dX8_above_58 rfl ?_
        refine lv_iconst (v := 1) C.1 C.2.1 dX8_above_59 (by decide) ?_
        refine lv_iload_n C.1 C.2.1 dX8_above_60 rfl (lv_at hl 1 rfl) ?_
        refine lv_iload_n C.1 C.2.1 dX8_above_61 rfl (lv_at hl 2 rfl) ?_
        refine lv_iconst (v := 0) C.1 C.2.1 dX8_above_62 (by decide) ?_
        refine lv_iconst (v := 0) C.1 C.2.1 dX8_above_63 (by decide) ?_
        refine lv_iconst (v := 0) C.1 C.2.1 dX8_above_64 (by decide) ?_
        refine lv_lconst (v := 0) C.1 C.2.1 dX8_above_65 (by decide) ?_
        obtain ⟨u8, hu8, hf⟩ := Option.bind_eq_some_iff.mp hf
        refine cIv (As := [.int 1, .int x1, .int x2, .int 0, .int 0, .int 0, .long 0]) (rest := [.ref q6, .ref (ad 0)]) (mc := 0) (ms := 0) C (mX1_init hu8) vX1_init wM_X8_63 ⟨Nat.le_of_ble_eq_true rfl, Nat.le_of_ble_eq_true rfl⟩ hP hD hS hA hZ hl.1 rfl rfl (Nat.le_of_ble_eq_true rfl) dX8_above_66 ⟨Nat.le_of_ble_eq_true rfl, Nat.le_of_ble_eq_true rfl⟩ (fun H locs hP hD hS => ?_)
        obtain ⟨v10, u9, hu9, hf⟩ := b2_some hf
        refine cWi (As := [.ref q6]) (rest := []) (mc := 0) (ms := 0) C (mX8_carryOut hu9) vX8_carryOut wM_X8_66 ⟨Nat.le_of_ble_eq_true rfl, Nat.le_of_ble_eq_true rfl⟩ hP hD hS hA hZ (rcc_X8 C hP) hl.1 rfl rfl (Nat.le_of_ble_eq_true rfl) dX8_above_69 ⟨Nat.le_of_ble_eq_true rfl, Nat.le_of_ble_eq_true rfl⟩ (fun H locs hP hD hS => ?_)
        exact endWi C hP hD hS (Nat.le_refl _) (Nat.le_refl _) hf dX8_above_72
      · rw [if_neg c5] at hf
        refine lv_bipush (v := -4) C.1 C.2.1 dX8_above_51 (by decide) ?_
        exact endN C hP hD hS (Nat.zero_le _) (Nat.zero_le _) hf dX8_above_53
    · rw [if_neg c3] at hf
      refine lv_aload_n C.1 C.2.1 dX8_above_20 rfl (lv_at hl 0 rfl) ?_
      refine gtc_X8_house C hP wF_X8_10 dX8_above_21 ?_
      refine gtc_X2_types C hP wF_X8_49 dX8_above_24 ?_
      refine lv_iload_n C.1 C.2.1 dX8_above_27 rfl (lv_at hl 2 rfl) ?_
      obtain ⟨v11, hv11, hf⟩ := Option.bind_eq_some_iff.mp hf
      refine cRi (As := [.int x2]) (rest := []) C (mX7_isClass hv11) vX7_isClass wM_X8_70 ⟨Nat.le_of_ble_eq_true rfl, Nat.le_of_ble_eq_true rfl⟩ hP (rcc_X7 C hP) (fun U hU hW => SF.go hZ hS hU hW (fun _ h => h.elim)) hl.1 rfl rfl (Nat.le_of_ble_eq_true rfl) dX8_above_28 ⟨Nat.le_of_ble_eq_true rfl, Nat.le_of_ble_eq_true rfl⟩ ?_
      refine lv_if_ne (tgt := 36) C.1 C.2.1 dX8_above_31 (by decide) (fun c12 => ?_) (fun c12 => ?_)
      · rw [if_neg c12] at hf
        refine lv_aload_n C.1 C.2.1 dX8_above_36 rfl (lv_at hl 0 rfl) ?_
        refine gtc_X8_house C hP wF_X8_10 dX8_above_37 ?_
        refine gtc_X2_types C hP wF_X8_49 dX8_above_40 ?_
        refine lv_iload_n C.1 C.2.1 dX8_above_43 rfl (lv_at hl 2 rfl) ?_
        refine lv_iload_n C.1 C.2.1 dX8_above_44 rfl (lv_at hl 1 rfl) ?_
        obtain ⟨v13, hv13, hf⟩ := Option.bind_eq_some_iff.mp hf
        refine cRi (As := [.int x2, .int x1]) (rest := []) C (mX7_isBelow hv13) vX7_isBelow wM_X8_74 ⟨Nat.le_of_ble_eq_true rfl, Nat.le_of_ble_eq_true rfl⟩ hP (rcc_X7 C hP) (fun U hU hW => SF.go hZ hS hU hW (fun _ h => h.elim)) hl.1 rfl rfl (Nat.le_of_ble_eq_true rfl) dX8_above_45 ⟨Nat.le_of_ble_eq_true rfl, Nat.le_of_ble_eq_true rfl⟩ ?_
        refine lv_if_eq (tgt := 54) C.1 C.2.1 dX8_above_48 (by decide) (fun c14 => ?_) (fun c14 => ?_)
        · rw [if_pos c14] at hf
          refine lv_aload_n C.1 C.2.1 dX8_above_54 rfl (lv_at hl 0 rfl) ?_
          cases hf
          refine nwE C hP hD hS hA wC_X8_32 (Nat.le_of_ble_eq_true rfl) (Nat.le_of_ble_eq_true rfl) dX8_above_55 (fun q15 H hq hP hD hS => ?_)
          obtain ⟨r0, u0, hf⟩ := hok _ rfl q15 hq
          refine Wmono (Nmono hq hf) ?_
          obtain ⟨u16, hu16, hf⟩ := Option.bind_eq_some_iff.mp hf
          rw [Option.some.inj hu16] at hP hD
          refine lv_dup C.1 C.2.1 dX8_above_58 rfl ?_
          refine lv_iconst (v := 1) C.1 C.2.1 dX8_above_59 (by decide) ?_
          refine lv_iload_n C.1 C.2.1 dX8_above_60 rfl (lv_at hl 1 rfl) ?_
          refine lv_iload_n C.1 C.2.1 dX8_above_61 rfl (lv_at hl 2 rfl) ?_
          refine lv_iconst (v := 0) C.1 C.2.1 dX8_above_62 (by decide) ?_
          refine lv_iconst (v := 0) C.1 C.2.1 dX8_above_63 (by decide) ?_
          refine lv_iconst (v := 0) C.1 C.2.1 dX8_above_64 (by decide) ?_
          refine lv_lconst (v := 0) C.1 C.2.1 dX8_above_65 (by decide) ?_
          obtain ⟨u17, hu17, hf⟩ := Option.bind_eq_some_iff.mp hf
          refine cIv (As := [.int 1, .int x1, .int x2, .int 0, .int 0, .int 0, .long 0]) (rest := [.ref q15, .ref (ad 0)]) (mc := 0) (ms := 0) C (mX1_init hu17) vX1_init wM_X8_63 ⟨Nat.le_of_ble_eq_true rfl, Nat.le_of_ble_eq_true rfl⟩ hP hD hS hA hZ hl.1 rfl rfl (Nat.le_of_ble_eq_true rfl) dX8_above_66 ⟨Nat.le_of_ble_eq_true rfl, Nat.le_of_ble_eq_true rfl⟩ (fun H locs hP hD hS => ?_)
          obtain ⟨v19, u18, hu18, hf⟩ := b2_some hf
          refine cWi (As := [.ref q15]) (rest := []) (mc := 0) (ms := 0) C (mX8_carryOut hu18) vX8_carryOut wM_X8_66 ⟨Nat.le_of_ble_eq_true rfl, Nat.le_of_ble_eq_true rfl⟩ hP hD hS hA hZ (rcc_X8 C hP) hl.1 rfl rfl (Nat.le_of_ble_eq_true rfl) dX8_above_69 ⟨Nat.le_of_ble_eq_true rfl, Nat.le_of_ble_eq_true rfl⟩ (fun H locs hP hD hS => ?_)
          exact endWi C hP hD hS (Nat.le_refl _) (Nat.le_refl _) hf dX8_above_72
        · rw [if_neg c14] at hf
          refine lv_bipush (v := -4) C.1 C.2.1 dX8_above_51 (by decide) ?_
          exact endN C hP hD hS (Nat.zero_le _) (Nat.zero_le _) hf dX8_above_53
      · rw [if_pos c12] at hf
        refine lv_iconst (v := -1) C.1 C.2.1 dX8_above_34 (by decide) ?_
        exact endN C hP hD hS (Nat.zero_le _) (Nat.zero_le _) hf dX8_above_35
end
theorem vX8_above : YV yX8_above cX8_above 3 (some .int) 2 := ⟨⟨wK_X8_above, wZ_X8, by decide +kernel⟩, wI_X8_above, wV_X8_above⟩
def fX7_isFace (u : ST) (x1 : Int32) : Option Int32 :=
  if x1 < 0 then
    some 0
  else
    if (sI u 200) ≤ x1 then
      some 0
    else
      (rdI u 8 12 x1).bind fun v3 =>
      if v3 = 0 then
        some 0
      else
        some 1
section
variable {p : Program} {l : Launch} {e : Env} {s : State} {m : MethodId} {args : Array Value} {below : List Frame} {meth : Method} {c : Code} {H : Heap} {locs : List Loc} {g : GP} {ls : Array Slot} {A : Nat → Prop} {ad : Nat → Nat} {u : ST}
set_option maxRecDepth 100000 in
set_option maxHeartbeats 4000000 in
theorem mX7_isFace {r0 : Int32} {x1 : Int32} (hf : fX7_isFace u x1 = some r0) : MRi l yX7_isFace cX7_isFace 2 (some .boolean) 0 0 [.ref (ad 2), .int x1] g (cW g ad u) r0 := by
  refine entR (by decide) (Nat.le_of_ble_eq_true rfl) ?_
  intro p e s m below meth c ls C hP hZ hl
  have hl : lv_has ls 2 [(0, .ref (ad 2)), (1, .int x1)] := hl
  rw [fX7_isFace] at hf
  refine lv_iload_n C.1 C.2.1 dX7_isFace_0 rfl (lv_at hl 1 rfl) ?_
  refine lv_if_lt (tgt := 25) C.1 C.2.1 dX7_isFace_1 (by decide) (fun c1 => ?_) (fun c1 => ?_)
  · rw [if_pos c1] at hf
    refine lv_iconst (v := 0) C.1 C.2.1 dX7_isFace_25 (by decide) ?_
    exact endRz C rfl hf dX7_isFace_26
  · rw [if_neg c1] at hf
    refine lv_iload_n C.1 C.2.1 dX7_isFace_4 rfl (lv_at hl 1 rfl) ?_
    refine lv_aload_n C.1 C.2.1 dX7_isFace_5 rfl (lv_at hl 0 rfl) ?_
    refine gtc_X7_size C hP wF_X7_34 dX7_isFace_6 ?_
    refine lv_icmp_ge (tgt := 25) C.1 C.2.1 dX7_isFace_9 (by decide) (fun c2 => ?_) (fun c2 => ?_)
    · rw [if_pos c2] at hf
      refine lv_iconst (v := 0) C.1 C.2.1 dX7_isFace_25 (by decide) ?_
      exact endRz C rfl hf dX7_isFace_26
    · rw [if_neg c2] at hf
      refine lv_aload_n C.1 C.2.1 dX7_isFace_12 rfl (lv_at hl 0 rfl) ?_
      refine gtc_X7_isFace C hP wF_X7_11 dX7_isFace_13 ?_
      refine lv_iload_n C.1 C.2.1 dX7_isFace_16 rfl (lv_at hl 1 rfl) ?_
      obtain ⟨v3, hv3, hf⟩ := Option.bind_eq_some_iff.mp hf
      refine ldc_8 C hP hv3 dX7_isFace_17 ?_
      refine lv_if_eq (tgt := 25) C.1 C.2.1 dX7_isFace_18 (by decide) (fun c4 => ?_) (fun c4 => ?_)
      · rw [if_pos c4] at hf
        refine lv_iconst (v := 0) C.1 C.2.1 dX7_isFace_25 (by decide) ?_
        exact endRz C rfl hf dX7_isFace_26
      · rw [if_neg c4] at hf
        refine lv_iconst (v := 1) C.1 C.2.1 dX7_isFace_21 (by decide) ?_
        refine lv_goto (tgt := 26) C.1 C.2.1 dX7_isFace_22 (by decide) ?_
        exact endRz C rfl hf dX7_isFace_26
end
theorem vX7_isFace : YV yX7_isFace cX7_isFace 2 (some .boolean) 1 := ⟨⟨wK_X7_isFace, wZ_X7, by decide +kernel⟩, wI_X7_isFace, wV_X7_isFace⟩
def fX7_hasFace_L2 (u : ST) : Nat → Int32 → Int32 → Int32 → Option Int32
  | 0, _, _, _ => none
  | n + 1, x1, x2, x3 =>
    if 3 ≤ x3 then
      some 0
    else
      (fX7_faceAt u x1 x3).bind fun v2 =>
      if v2 = x2 then
        some 1
      else
        fX7_hasFace_L2 u n x1 x2 (x3 + 1)
def fX7_hasFace (u : ST) (x1 : Int32) (x2 : Int32) : Option Int32 :=
  fX7_hasFace_L2 u 5000 x1 x2 0
section
variable {p : Program} {l : Launch} {e : Env} {s : State} {m : MethodId} {args : Array Value} {below : List Frame} {meth : Method} {c : Code} {H : Heap} {locs : List Loc} {g : GP} {ls : Array Slot} {A : Nat → Prop} {ad : Nat → Nat} {u : ST}
set_option maxRecDepth 100000 in
set_option maxHeartbeats 4000000 in
theorem bX7_hasFace_L2 {r0 : Int32} (C : Cx p s m args meth c cX7_hasFace 4 RX7 (some .boolean) g) (hZ : SF (fun _ => False) s) (n : Nat) : ∀ (x1 : Int32) (x2 : Int32) (x3 : Int32), va_P g.1 vwCl (cW g ad u) s.heap → ∀ (ls : Array Slot), lv_has ls 4 [(0, .ref (ad 2)), (1, .int x1), (2, .int x2), (3, .int x3)] → fX7_hasFace_L2 u n x1 x2 x3 = some r0 → W p l e (rmR 1 22) s m args below meth c s.heap [] 0 0 (MQ below (vp_Si (fun r => r = r0)) args s 0 0 (fun _ => False)) (F0 m 2 ls []) := by
  induction n with
  | zero =>
    intro x1 x2 x3 hP ls hl hf
    exact absurd hf (by simp [fX7_hasFace_L2])
  | succ n ih0 =>
    intro x1 x2 x3 hP ls hl hf
    have ih := fun (x1 : Int32) (x2 : Int32) (x3 : Int32) => ih0 x1 x2 x3 hP
    rw [fX7_hasFace_L2] at hf
    refine lv_iload_n C.1 C.2.1 dX7_hasFace_2 rfl (lv_at hl 3 rfl) ?_
    refine lv_iconst (v := 3) C.1 C.2.1 dX7_hasFace_3 (by decide) ?_
    refine lv_icmp_ge (tgt := 25) C.1 C.2.1 dX7_hasFace_4 (by decide) (fun c1 => ?_) (fun c1 => ?_)
    · rw [if_pos c1] at hf
      refine lv_iconst (v := 0) C.1 C.2.1 dX7_hasFace_25 (by decide) ?_
      exact endRz C rfl hf dX7_hasFace_26
    · rw [if_neg c1] at hf
      refine lv_aload_n C.1 C.2.1 dX7_hasFace_7 rfl (lv_at hl 0 rfl) ?_
      refine lv_iload_n C.1 C.2.1 dX7_hasFace_8 rfl (lv_at hl 1 rfl) ?_
      refine lv_iload_n C.1 C.2.1 dX7_hasFace_9 rfl (lv_at hl 3 rfl) ?_
      obtain ⟨v2, hv2, hf⟩ := Option.bind_eq_some_iff.mp hf
      refine cRi (As := [.int x1, .int x3]) (rest := []) C (mX7_faceAt hv2) vX7_faceAt wM_X7_60 ⟨Nat.le_of_ble_eq_true rfl, Nat.le_of_ble_eq_true rfl⟩ hP (rcc_X7 C hP) (fun U hU hW => SF.go hZ va_S.rf hU hW (fun _ h => h)) hl.1 rfl rfl (Nat.le_of_ble_eq_true rfl) dX7_hasFace_10 ⟨Nat.le_of_ble_eq_true rfl, Nat.le_of_ble_eq_true rfl⟩ ?_
      refine lv_iload_n C.1 C.2.1 dX7_hasFace_13 rfl (lv_at hl 2 rfl) ?_
      refine lv_icmp_ne (tgt := 19) C.1 C.2.1 dX7_hasFace_14 (by decide) (fun c3 => ?_) (fun c3 => ?_)
      · rw [if_neg c3] at hf
        refine lv_iinc (v := (x3 + 1)) (lv' := [(3, .int (x3 + 1)), (0, .ref (ad 2)), (1, .int x1), (2, .int x2)]) C.1 C.2.1 dX7_hasFace_19 hl (k := 3) rfl rfl (by decide) rfl (fun ls hl => ?_)
        refine lv_goto (tgt := 2) C.1 C.2.1 dX7_hasFace_22 (by decide) ?_
        exact ih x1 x2 (x3 + 1) _ (lv_sub hl [1, 2, 3, 0] rfl) hf
      · rw [if_pos c3] at hf
        refine lv_iconst (v := 1) C.1 C.2.1 dX7_hasFace_17 (by decide) ?_
        exact endRz C rfl hf dX7_hasFace_18
set_option maxRecDepth 100000 in
set_option maxHeartbeats 4000000 in
theorem mX7_hasFace {r0 : Int32} {x1 : Int32} {x2 : Int32} (hf : fX7_hasFace u x1 x2 = some r0) : MRi l yX7_hasFace cX7_hasFace 4 (some .boolean) 1 22 [.ref (ad 2), .int x1, .int x2] g (cW g ad u) r0 := by
  refine entR (by decide) (Nat.le_of_ble_eq_true rfl) ?_
  intro p e s m below meth c ls C hP hZ hl
  have hl : lv_has ls 4 [(0, .ref (ad 2)), (1, .int x1), (2, .int x2)] := hl
  rw [fX7_hasFace] at hf
  refine lv_iconst (v := 0) C.1 C.2.1 dX7_hasFace_0 (by decide) ?_
  refine lv_istore_n (lv' := [(3, .int 0), (0, .ref (ad 2)), (1, .int x1), (2, .int x2)]) C.1 C.2.1 dX7_hasFace_1 rfl hl (by decide) rfl (fun ls hl => ?_)
  exact bX7_hasFace_L2 C hZ 5000 x1 x2 0 hP _ (lv_sub hl [1, 2, 3, 0] rfl) hf
end
theorem vX7_hasFace : YV yX7_hasFace cX7_hasFace 4 (some .boolean) 2 := ⟨⟨wK_X7_hasFace, wZ_X7, by decide +kernel⟩, wI_X7_hasFace, wV_X7_hasFace⟩
def fX7_mayHaveFace (u : ST) (x1 : Int32) (x2 : Int32) : Option Int32 :=
  (fX7_isType u x1).bind fun v1 =>
  if v1 = 0 then
    some 0
  else
    (fX7_isFace u x2).bind fun v3 =>
    if v3 = 0 then
      some 0
    else
      (rdI u 11 12 x1).bind fun v5 =>
      if 3 ≤ v5 then
        some 0
      else
        (fX7_hasFace u x1 x2).bind fun v7 =>
        if v7 = 0 then
          some 1
        else
          some 0
section
variable {p : Program} {l : Launch} {e : Env} {s : State} {m : MethodId} {args : Array Value} {below : List Frame} {meth : Method} {c : Code} {H : Heap} {locs : List Loc} {g : GP} {ls : Array Slot} {A : Nat → Prop} {ad : Nat → Nat} {u : ST}
set_option maxRecDepth 100000 in
set_option maxHeartbeats 4000000 in
theorem mX7_mayHaveFace {r0 : Int32} {x1 : Int32} {x2 : Int32} (hf : fX7_mayHaveFace u x1 x2 = some r0) : MRi l yX7_mayHaveFace cX7_mayHaveFace 3 (some .boolean) 2 45 [.ref (ad 2), .int x1, .int x2] g (cW g ad u) r0 := by
  refine entR (by decide) (Nat.le_of_ble_eq_true rfl) ?_
  intro p e s m below meth c ls C hP hZ hl
  have hl : lv_has ls 3 [(0, .ref (ad 2)), (1, .int x1), (2, .int x2)] := hl
  rw [fX7_mayHaveFace] at hf
  refine lv_aload_n C.1 C.2.1 dX7_mayHaveFace_0 rfl (lv_at hl 0 rfl) ?_
  refine lv_iload_n C.1 C.2.1 dX7_mayHaveFace_1 rfl (lv_at hl 1 rfl) ?_
  obtain ⟨v1, hv1, hf⟩ := Option.bind_eq_some_iff.mp hf
  refine cRi (As := [.int x1]) (rest := []) C (mX7_isType hv1) vX7_isType wM_X7_45 ⟨Nat.le_of_ble_eq_true rfl, Nat.le_of_ble_eq_true rfl⟩ hP (rcc_X7 C hP) (fun U hU hW => SF.go hZ va_S.rf hU hW (fun _ h => h)) hl.1 rfl rfl (Nat.le_of_ble_eq_true rfl) dX7_mayHaveFace_2 ⟨Nat.le_of_ble_eq_true rfl, Nat.le_of_ble_eq_true rfl⟩ ?_
  refine lv_if_eq (tgt := 39) C.1 C.2.1 dX7_mayHaveFace_5 (by decide) (fun c2 => ?_) (fun c2 => ?_)
  · rw [if_pos c2] at hf
    refine lv_iconst (v := 0) C.1 C.2.1 dX7_mayHaveFace_39 (by decide) ?_
    exact endRz C rfl hf dX7_mayHaveFace_40
  · rw [if_neg c2] at hf
    refine lv_aload_n C.1 C.2.1 dX7_mayHaveFace_8 rfl (lv_at hl 0 rfl) ?_
    refine lv_iload_n C.1 C.2.1 dX7_mayHaveFace_9 rfl (lv_at hl 2 rfl) ?_
    obtain ⟨v3, hv3, hf⟩ := Option.bind_eq_some_iff.mp hf
    refine cRi (As := [.int x2]) (rest := []) C (mX7_isFace hv3) vX7_isFace wM_X7_55 ⟨Nat.le_of_ble_eq_true rfl, Nat.le_of_ble_eq_true rfl⟩ hP (rcc_X7 C hP) (fun U hU hW => SF.go hZ va_S.rf hU hW (fun _ h => h)) hl.1 rfl rfl (Nat.le_of_ble_eq_true rfl) dX7_mayHaveFace_10 ⟨Nat.le_of_ble_eq_true rfl, Nat.le_of_ble_eq_true rfl⟩ ?_
    refine lv_if_eq (tgt := 39) C.1 C.2.1 dX7_mayHaveFace_13 (by decide) (fun c4 => ?_) (fun c4 => ?_)
    · rw [if_pos c4] at hf
      refine lv_iconst (v := 0) C.1 C.2.1 dX7_mayHaveFace_39 (by decide) ?_
      exact endRz C rfl hf dX7_mayHaveFace_40
    · rw [if_neg c4] at hf
      refine lv_aload_n C.1 C.2.1 dX7_mayHaveFace_16 rfl (lv_at hl 0 rfl) ?_
      refine gtc_X7_faceCount C hP wF_X7_22 dX7_mayHaveFace_17 ?_
      refine lv_iload_n C.1 C.2.1 dX7_mayHaveFace_20 rfl (lv_at hl 1 rfl) ?_
      obtain ⟨v5, hv5, hf⟩ := Option.bind_eq_some_iff.mp hf
      refine ldc_11 C hP hv5 dX7_mayHaveFace_21 ?_
      refine lv_iconst (v := 3) C.1 C.2.1 dX7_mayHaveFace_22 (by decide) ?_
      refine lv_icmp_ge (tgt := 39) C.1 C.2.1 dX7_mayHaveFace_23 (by decide) (fun c6 => ?_) (fun c6 => ?_)
      · rw [if_pos c6] at hf
        refine lv_iconst (v := 0) C.1 C.2.1 dX7_mayHaveFace_39 (by decide) ?_
        exact endRz C rfl hf dX7_mayHaveFace_40
      · rw [if_neg c6] at hf
        refine lv_aload_n C.1 C.2.1 dX7_mayHaveFace_26 rfl (lv_at hl 0 rfl) ?_
        refine lv_iload_n C.1 C.2.1 dX7_mayHaveFace_27 rfl (lv_at hl 1 rfl) ?_
        refine lv_iload_n C.1 C.2.1 dX7_mayHaveFace_28 rfl (lv_at hl 2 rfl) ?_
        obtain ⟨v7, hv7, hf⟩ := Option.bind_eq_some_iff.mp hf
        refine cRi (As := [.int x1, .int x2]) (rest := []) C (mX7_hasFace hv7) vX7_hasFace wM_X7_57 ⟨Nat.le_of_ble_eq_true rfl, Nat.le_of_ble_eq_true rfl⟩ hP (rcc_X7 C hP) (fun U hU hW => SF.go hZ va_S.rf hU hW (fun _ h => h)) hl.1 rfl rfl (Nat.le_of_ble_eq_true rfl) dX7_mayHaveFace_29 ⟨Nat.le_of_ble_eq_true rfl, Nat.le_of_ble_eq_true rfl⟩ ?_
        refine lv_if_ne (tgt := 39) C.1 C.2.1 dX7_mayHaveFace_32 (by decide) (fun c8 => ?_) (fun c8 => ?_)
        · rw [if_neg c8] at hf
          refine lv_iconst (v := 0) C.1 C.2.1 dX7_mayHaveFace_39 (by decide) ?_
          exact endRz C rfl hf dX7_mayHaveFace_40
        · rw [if_pos c8] at hf
          refine lv_iconst (v := 1) C.1 C.2.1 dX7_mayHaveFace_35 (by decide) ?_
          refine lv_goto (tgt := 40) C.1 C.2.1 dX7_mayHaveFace_36 (by decide) ?_
          exact endRz C rfl hf dX7_mayHaveFace_40
end
theorem vX7_mayHaveFace : YV yX7_mayHaveFace cX7_mayHaveFace 3 (some .boolean) 2 := ⟨⟨wK_X7_mayHaveFace, wZ_X7, by decide +kernel⟩, wI_X7_mayHaveFace, wV_X7_mayHaveFace⟩
def fX8_face (u : ST) (x1 : Int32) (x2 : Int32) : Option NR :=
  (fX7_mayHaveFace u x1 x2).bind fun v1 =>
  if v1 = 0 then
    some (.inl ((-1), u))
  else
    (fX7_isBelow u x2 x1).bind fun v3 =>
    if v3 = 0 then
      some (.inr fun q5 =>
        (some (qN u q5 true)).bind fun u6 =>
        (fX1_init u6 q5 2 x1 x2 0 0 0 0).bind fun u7 =>
        b2 (fX8_carryOut u7 q5) fun v9 u8 =>
        some (v9, u8))
    else
      some (.inl ((-4), u))
section
variable {p : Program} {l : Launch} {e : Env} {s : State} {m : MethodId} {args : Array Value} {below : List Frame} {meth : Method} {c : Code} {H : Heap} {locs : List Loc} {g : GP} {ls : Array Slot} {A : Nat → Prop} {ad : Nat → Nat} {u : ST}
set_option maxRecDepth 100000 in
set_option maxHeartbeats 4000000 in
theorem mX8_face {x : NR} {x1 : Int32} {x2 : Int32} (hf : fX8_face u x1 x2 = some x) (hok : okN u x) : MNi l yX8_face cX8_face 3 (some .int) 6 137 1 7 [.ref (ad 0), .int x1, .int x2] g (cW g ad) u x := by
  refine entW (Qc := fun A => va_Qi (poN u x) (BW g A (cW g ad)) A) (by decide) (Nat.le_of_ble_eq_true rfl) ?_
  intro p e s m below meth c ls A C hP hD hS hA hZ hl
  have hl : lv_has ls 3 [(0, .ref (ad 0)), (1, .int x1), (2, .int x2)] := hl
  rw [fX8_face] at hf
  refine lv_aload_n C.1 C.2.1 dX8_face_0 rfl (lv_at hl 0 rfl) ?_
  refine gtc_X8_house C hP wF_X8_10 dX8_face_1 ?_
  refine gtc_X2_types C hP wF_X8_49 dX8_face_4 ?_
  refine lv_iload_n C.1 C.2.1 dX8_face_7 rfl (lv_at hl 1 rfl) ?_
  refine lv_iload_n C.1 C.2.1 dX8_face_8 rfl (lv_at hl 2 rfl) ?_
  obtain ⟨v1, hv1, hf⟩ := Option.bind_eq_some_iff.mp hf
  refine cRi (As := [.int x1, .int x2]) (rest := []) C (mX7_mayHaveFace hv1) vX7_mayHaveFace wM_X8_78 ⟨Nat.le_of_ble_eq_true rfl, Nat.le_of_ble_eq_true rfl⟩ hP (rcc_X7 C hP) (fun U hU hW => SF.go hZ hS hU hW (fun _ h => h.elim)) hl.1 rfl rfl (Nat.le_of_ble_eq_true rfl) dX8_face_9 ⟨Nat.le_of_ble_eq_true rfl, Nat.le_of_ble_eq_true rfl⟩ ?_
  refine lv_if_ne (tgt := 17) C.1 C.2.1 dX8_face_12 (by decide) (fun c2 => ?_) (fun c2 => ?_)
  · rw [if_neg c2] at hf
    refine lv_aload_n C.1 C.2.1 dX8_face_17 rfl (lv_at hl 0 rfl) ?_
    refine gtc_X8_house C hP wF_X8_10 dX8_face_18 ?_
    refine gtc_X2_types C hP wF_X8_49 dX8_face_21 ?_
    refine lv_iload_n C.1 C.2.1 dX8_face_24 rfl (lv_at hl 2 rfl) ?_
    refine lv_iload_n C.1 C.2.1 dX8_face_25 rfl (lv_at hl 1 rfl) ?_
    obtain ⟨v3, hv3, hf⟩ := Option.bind_eq_some_iff.mp hf
    refine cRi (As := [.int x2, .int x1]) (rest := []) C (mX7_isBelow hv3) vX7_isBelow wM_X8_74 ⟨Nat.le_of_ble_eq_true rfl, Nat.le_of_ble_eq_true rfl⟩ hP (rcc_X7 C hP) (fun U hU hW => SF.go hZ hS hU hW (fun _ h => h.elim)) hl.1 rfl rfl (Nat.le_of_ble_eq_true rfl) dX8_face_26 ⟨Nat.le_of_ble_eq_true rfl, Nat.le_of_ble_eq_true rfl⟩ ?_
    refine lv_if_eq (tgt := 35) C.1 C.2.1 dX8_face_29 (by decide) (fun c4 => ?_) (fun c4 => ?_)
    · rw [if_pos c4] at hf
      refine lv_aload_n C.1 C.2.1 dX8_face_35 rfl (lv_at hl 0 rfl) ?_
      cases hf
      refine nwE C hP hD hS hA wC_X8_32 (Nat.le_of_ble_eq_true rfl) (Nat.le_of_ble_eq_true rfl) dX8_face_36 (fun q5 H hq hP hD hS => ?_)
      obtain ⟨r0, u0, hf⟩ := hok _ rfl q5 hq
      refine Wmono (Nmono hq hf) ?_
      obtain ⟨u6, hu6, hf⟩ := Option.bind_eq_some_iff.mp hf
      rw [Option.some.inj hu6] at hP hD
      refine lv_dup C.1 C.2.1 dX8_face_39 rfl ?_
      refine lv_iconst (v := 2) C.1 C.2.1 dX8_face_40 (by decide) ?_
      refine lv_iload_n C.1 C.2.1 dX8_face_41 rfl (lv_at hl 1 rfl) ?_
      refine lv_iload_n C.1 C.2.1 dX8_face_42 rfl (lv_at hl 2 rfl) ?_
      refine lv_iconst (v := 0) C.1 C.2.1 dX8_face_43 (by decide) ?_
      refine lv_iconst (v := 0) C.1 C.2.1 dX8_face_44 (by decide) ?_
      refine lv_iconst (v := 0) C.1 C.2.1 dX8_face_45 (by decide) ?_
      refine lv_lconst (v := 0) C.1 C.2.1 dX8_face_46 (by decide) ?_
      obtain ⟨u7, hu7, hf⟩ := Option.bind_eq_some_iff.mp hf
      refine cIv (As := [.int 2, .int x1, .int x2, .int 0, .int 0, .int 0, .long 0]) (rest := [.ref q5, .ref (ad 0)]) (mc := 0) (ms := 0) C (mX1_init hu7) vX1_init wM_X8_63 ⟨Nat.le_of_ble_eq_true rfl, Nat.le_of_ble_eq_true rfl⟩ hP hD hS hA hZ hl.1 rfl rfl (Nat.le_of_ble_eq_true rfl) dX8_face_47 ⟨Nat.le_of_ble_eq_true rfl, Nat.le_of_ble_eq_true rfl⟩ (fun H locs hP hD hS => ?_)
      obtain ⟨v9, u8, hu8, hf⟩ := b2_some hf
      refine cWi (As := [.ref q5]) (rest := []) (mc := 0) (ms := 0) C (mX8_carryOut hu8) vX8_carryOut wM_X8_66 ⟨Nat.le_of_ble_eq_true rfl, Nat.le_of_ble_eq_true rfl⟩ hP hD hS hA hZ (rcc_X8 C hP) hl.1 rfl rfl (Nat.le_of_ble_eq_true rfl) dX8_face_50 ⟨Nat.le_of_ble_eq_true rfl, Nat.le_of_ble_eq_true rfl⟩ (fun H locs hP hD hS => ?_)
      exact endWi C hP hD hS (Nat.le_refl _) (Nat.le_refl _) hf dX8_face_53
    · rw [if_neg c4] at hf
      refine lv_bipush (v := -4) C.1 C.2.1 dX8_face_32 (by decide) ?_
      exact endN C hP hD hS (Nat.zero_le _) (Nat.zero_le _) hf dX8_face_34
  · rw [if_pos c2] at hf
    refine lv_iconst (v := -1) C.1 C.2.1 dX8_face_15 (by decide) ?_
    exact endN C hP hD hS (Nat.zero_le _) (Nat.zero_le _) hf dX8_face_16
end
theorem vX8_face : YV yX8_face cX8_face 3 (some .int) 2 := ⟨⟨wK_X8_face, wZ_X8, by decide +kernel⟩, wI_X8_face, wV_X8_face⟩
def fX8_unface (u : ST) (x1 : Int32) (x2 : Int32) : Option NR :=
  (fX7_faceAt u x1 x2).bind fun v1 =>
  if v1 = (-2) then
    some (.inl ((-1), u))
  else
    some (.inr fun q3 =>
      (some (qN u q3 true)).bind fun u4 =>
      (fX1_init u4 q3 3 x1 x2 0 0 0 0).bind fun u5 =>
      b2 (fX8_carryOut u5 q3) fun v7 u6 =>
      some (v7, u6))
section
variable {p : Program} {l : Launch} {e : Env} {s : State} {m : MethodId} {args : Array Value} {below : List Frame} {meth : Method} {c : Code} {H : Heap} {locs : List Loc} {g : GP} {ls : Array Slot} {A : Nat → Prop} {ad : Nat → Nat} {u : ST}
set_option maxRecDepth 100000 in
set_option maxHeartbeats 4000000 in
theorem mX8_unface {x : NR} {x1 : Int32} {x2 : Int32} (hf : fX8_unface u x1 x2 = some x) (hok : okN u x) : MNi l yX8_unface cX8_unface 3 (some .int) 6 137 1 7 [.ref (ad 0), .int x1, .int x2] g (cW g ad) u x := by
  refine entW (Qc := fun A => va_Qi (poN u x) (BW g A (cW g ad)) A) (by decide) (Nat.le_of_ble_eq_true rfl) ?_
  intro p e s m below meth c ls A C hP hD hS hA hZ hl
  have hl : lv_has ls 3 [(0, .ref (ad 0)), (1, .int x1), (2, .int x2)] := hl
  rw [fX8_unface] at hf
  refine lv_aload_n C.1 C.2.1 dX8_unface_0 rfl (lv_at hl 0 rfl) ?_
  refine gtc_X8_house C hP wF_X8_10 dX8_unface_1 ?_
  refine gtc_X2_types C hP wF_X8_49 dX8_unface_4 ?_
  refine lv_iload_n C.1 C.2.1 dX8_unface_7 rfl (lv_at hl 1 rfl) ?_
  refine lv_iload_n C.1 C.2.1 dX8_unface_8 rfl (lv_at hl 2 rfl) ?_
  obtain ⟨v1, hv1, hf⟩ := Option.bind_eq_some_iff.mp hf
  refine cRi (As := [.int x1, .int x2]) (rest := []) C (mX7_faceAt hv1) vX7_faceAt wM_X8_81 ⟨Nat.le_of_ble_eq_true rfl, Nat.le_of_ble_eq_true rfl⟩ hP (rcc_X7 C hP) (fun U hU hW => SF.go hZ hS hU hW (fun _ h => h.elim)) hl.1 rfl rfl (Nat.le_of_ble_eq_true rfl) dX8_unface_9 ⟨Nat.le_of_ble_eq_true rfl, Nat.le_of_ble_eq_true rfl⟩ ?_
  refine lv_bipush (v := -2) C.1 C.2.1 dX8_unface_12 (by decide) ?_
  refine lv_icmp_ne (tgt := 19) C.1 C.2.1 dX8_unface_14 (by decide) (fun c2 => ?_) (fun c2 => ?_)
  · rw [if_neg c2] at hf
    refine lv_aload_n C.1 C.2.1 dX8_unface_19 rfl (lv_at hl 0 rfl) ?_
    cases hf
    refine nwE C hP hD hS hA wC_X8_32 (Nat.le_of_ble_eq_true rfl) (Nat.le_of_ble_eq_true rfl) dX8_unface_20 (fun q3 H hq hP hD hS => ?_)
    obtain ⟨r0, u0, hf⟩ := hok _ rfl q3 hq
    refine Wmono (Nmono hq hf) ?_
    obtain ⟨u4, hu4, hf⟩ := Option.bind_eq_some_iff.mp hf
    rw [Option.some.inj hu4] at hP hD
    refine lv_dup C.1 C.2.1 dX8_unface_23 rfl ?_
    refine lv_iconst (v := 3) C.1 C.2.1 dX8_unface_24 (by decide) ?_
    refine lv_iload_n C.1 C.2.1 dX8_unface_25 rfl (lv_at hl 1 rfl) ?_
    refine lv_iload_n C.1 C.2.1 dX8_unface_26 rfl (lv_at hl 2 rfl) ?_
    refine lv_iconst (v := 0) C.1 C.2.1 dX8_unface_27 (by decide) ?_
    refine lv_iconst (v := 0) C.1 C.2.1 dX8_unface_28 (by decide) ?_
    refine lv_iconst (v := 0) C.1 C.2.1 dX8_unface_29 (by decide) ?_
    refine lv_lconst (v := 0) C.1 C.2.1 dX8_unface_30 (by decide) ?_
    obtain ⟨u5, hu5, hf⟩ := Option.bind_eq_some_iff.mp hf
    refine cIv (As := [.int 3, .int x1, .int x2, .int 0, .int 0, .int 0, .long 0]) (rest := [.ref q3, .ref (ad 0)]) (mc := 0) (ms := 0) C (mX1_init hu5) vX1_init wM_X8_63 ⟨Nat.le_of_ble_eq_true rfl, Nat.le_of_ble_eq_true rfl⟩ hP hD hS hA hZ hl.1 rfl rfl (Nat.le_of_ble_eq_true rfl) dX8_unface_31 ⟨Nat.le_of_ble_eq_true rfl, Nat.le_of_ble_eq_true rfl⟩ (fun H locs hP hD hS => ?_)
    obtain ⟨v7, u6, hu6, hf⟩ := b2_some hf
    refine cWi (As := [.ref q3]) (rest := []) (mc := 0) (ms := 0) C (mX8_carryOut hu6) vX8_carryOut wM_X8_66 ⟨Nat.le_of_ble_eq_true rfl, Nat.le_of_ble_eq_true rfl⟩ hP hD hS hA hZ (rcc_X8 C hP) hl.1 rfl rfl (Nat.le_of_ble_eq_true rfl) dX8_unface_34 ⟨Nat.le_of_ble_eq_true rfl, Nat.le_of_ble_eq_true rfl⟩ (fun H locs hP hD hS => ?_)
    exact endWi C hP hD hS (Nat.le_refl _) (Nat.le_refl _) hf dX8_unface_37
  · rw [if_pos c2] at hf
    refine lv_iconst (v := -1) C.1 C.2.1 dX8_unface_17 (by decide) ?_
    exact endN C hP hD hS (Nat.zero_le _) (Nat.zero_le _) hf dX8_unface_18
end
theorem vX8_unface : YV yX8_unface cX8_unface 3 (some .int) 2 := ⟨⟨wK_X8_unface, wZ_X8, by decide +kernel⟩, wI_X8_unface, wV_X8_unface⟩
def fX8_marks (u : ST) (x1 : Int32) (x2 : Int32) : Option NR :=
  (fX7_isType u x1).bind fun v1 =>
  if v1 = 0 then
    some (.inl ((-1), u))
  else
    (fX7_areMarks u x2).bind fun v3 =>
    if v3 = 0 then
      some (.inl ((-1), u))
    else
      some (.inr fun q5 =>
        (some (qN u q5 true)).bind fun u6 =>
        (fX1_init u6 q5 4 x1 x2 0 0 0 0).bind fun u7 =>
        b2 (fX8_carryOut u7 q5) fun v9 u8 =>
        some (v9, u8))
section
variable {p : Program} {l : Launch} {e : Env} {s : State} {m : MethodId} {args : Array Value} {below : List Frame} {meth : Method} {c : Code} {H : Heap} {locs : List Loc} {g : GP} {ls : Array Slot} {A : Nat → Prop} {ad : Nat → Nat} {u : ST}
set_option maxRecDepth 100000 in
set_option maxHeartbeats 4000000 in
theorem mX8_marks {x : NR} {x1 : Int32} {x2 : Int32} (hf : fX8_marks u x1 x2 = some x) (hok : okN u x) : MNi l yX8_marks cX8_marks 3 (some .int) 6 137 1 7 [.ref (ad 0), .int x1, .int x2] g (cW g ad) u x := by
  refine entW (Qc := fun A => va_Qi (poN u x) (BW g A (cW g ad)) A) (by decide) (Nat.le_of_ble_eq_true rfl) ?_
  intro p e s m below meth c ls A C hP hD hS hA hZ hl
  have hl : lv_has ls 3 [(0, .ref (ad 0)), (1, .int x1), (2, .int x2)] := hl
  rw [fX8_marks] at hf
  refine lv_aload_n C.1 C.2.1 dX8_marks_0 rfl (lv_at hl 0 rfl) ?_
  refine gtc_X8_house C hP wF_X8_10 dX8_marks_1 ?_
  refine gtc_X2_types C hP wF_X8_49 dX8_marks_4 ?_
  refine lv_iload_n C.1 C.2.1 dX8_marks_7 rfl (lv_at hl 1 rfl) ?_
  obtain ⟨v1, hv1, hf⟩ := Option.bind_eq_some_iff.mp hf
  refine cRi (As := [.int x1]) (rest := []) C (mX7_isType hv1) vX7_isType wM_X8_85 ⟨Nat.le_of_ble_eq_true rfl, Nat.le_of_ble_eq_true rfl⟩ hP (rcc_X7 C hP) (fun U hU hW => SF.go hZ hS hU hW (fun _ h => h.elim)) hl.1 rfl rfl (Nat.le_of_ble_eq_true rfl) dX8_marks_8 ⟨Nat.le_of_ble_eq_true rfl, Nat.le_of_ble_eq_true rfl⟩ ?_
  refine lv_if_eq (tgt := 21) C.1 C.2.1 dX8_marks_11 (by decide) (fun c2 => ?_) (fun c2 => ?_)
  · rw [if_pos c2] at hf
    refine lv_iconst (v := -1) C.1 C.2.1 dX8_marks_21 (by decide) ?_
    exact endN C hP hD hS (Nat.zero_le _) (Nat.zero_le _) hf dX8_marks_22
  · rw [if_neg c2] at hf
    refine lv_iload_n C.1 C.2.1 dX8_marks_14 rfl (lv_at hl 2 rfl) ?_
    obtain ⟨v3, hv3, hf⟩ := Option.bind_eq_some_iff.mp hf
    refine cSi (As := [.int x2]) (rest := []) C (mX7_areMarks hv3) vX7_areMarks wM_X8_88 ⟨Nat.le_of_ble_eq_true rfl, Nat.le_of_ble_eq_true rfl⟩ hP (fun U hU hW => SF.go hZ hS hU hW (fun _ h => h.elim)) hl.1 rfl rfl (Nat.le_of_ble_eq_true rfl) dX8_marks_15 ⟨Nat.le_of_ble_eq_true rfl, Nat.le_of_ble_eq_true rfl⟩ ?_
    refine lv_if_ne (tgt := 23) C.1 C.2.1 dX8_marks_18 (by decide) (fun c4 => ?_) (fun c4 => ?_)
    · rw [if_neg c4] at hf
      refine lv_aload_n C.1 C.2.1 dX8_marks_23 rfl (lv_at hl 0 rfl) ?_
      cases hf
      refine nwE C hP hD hS hA wC_X8_32 (Nat.le_of_ble_eq_true rfl) (Nat.le_of_ble_eq_true rfl) dX8_marks_24 (fun q5 H hq hP hD hS => ?_)
      obtain ⟨r0, u0, hf⟩ := hok _ rfl q5 hq
      refine Wmono (Nmono hq hf) ?_
      obtain ⟨u6, hu6, hf⟩ := Option.bind_eq_some_iff.mp hf
      rw [Option.some.inj hu6] at hP hD
      refine lv_dup C.1 C.2.1 dX8_marks_27 rfl ?_
      refine lv_iconst (v := 4) C.1 C.2.1 dX8_marks_28 (by decide) ?_
      refine lv_iload_n C.1 C.2.1 dX8_marks_29 rfl (lv_at hl 1 rfl) ?_
      refine lv_iload_n C.1 C.2.1 dX8_marks_30 rfl (lv_at hl 2 rfl) ?_
      refine lv_iconst (v := 0) C.1 C.2.1 dX8_marks_31 (by decide) ?_
      refine lv_iconst (v := 0) C.1 C.2.1 dX8_marks_32 (by decide) ?_
      refine lv_iconst (v := 0) C.1 C.2.1 dX8_marks_33 (by decide) ?_
      refine lv_lconst (v := 0) C.1 C.2.1 dX8_marks_34 (by decide) ?_
      obtain ⟨u7, hu7, hf⟩ := Option.bind_eq_some_iff.mp hf
      refine cIv (As := [.int 4, .int x1, .int x2, .int 0, .int 0, .int 0, .long 0]) (rest := [.ref q5, .ref (ad 0)]) (mc := 0) (ms := 0) C (mX1_init hu7) vX1_init wM_X8_63 ⟨Nat.le_of_ble_eq_true rfl, Nat.le_of_ble_eq_true rfl⟩ hP hD hS hA hZ hl.1 rfl rfl (Nat.le_of_ble_eq_true rfl) dX8_marks_35 ⟨Nat.le_of_ble_eq_true rfl, Nat.le_of_ble_eq_true rfl⟩ (fun H locs hP hD hS => ?_)
      obtain ⟨v9, u8, hu8, hf⟩ := b2_some hf
      refine cWi (As := [.ref q5]) (rest := []) (mc := 0) (ms := 0) C (mX8_carryOut hu8) vX8_carryOut wM_X8_66 ⟨Nat.le_of_ble_eq_true rfl, Nat.le_of_ble_eq_true rfl⟩ hP hD hS hA hZ (rcc_X8 C hP) hl.1 rfl rfl (Nat.le_of_ble_eq_true rfl) dX8_marks_38 ⟨Nat.le_of_ble_eq_true rfl, Nat.le_of_ble_eq_true rfl⟩ (fun H locs hP hD hS => ?_)
      exact endWi C hP hD hS (Nat.le_refl _) (Nat.le_refl _) hf dX8_marks_41
    · rw [if_pos c4] at hf
      refine lv_iconst (v := -1) C.1 C.2.1 dX8_marks_21 (by decide) ?_
      exact endN C hP hD hS (Nat.zero_le _) (Nat.zero_le _) hf dX8_marks_22
end
theorem vX8_marks : YV yX8_marks cX8_marks 3 (some .int) 2 := ⟨⟨wK_X8_marks, wZ_X8, by decide +kernel⟩, wI_X8_marks, wV_X8_marks⟩
def fX6_isName (u : ST) (x0 : Int32) : Option Int32 :=
  if x0 < 0 then
    some 0
  else
    if 9 < x0 then
      some 0
    else
      some 1
section
variable {p : Program} {l : Launch} {e : Env} {s : State} {m : MethodId} {args : Array Value} {below : List Frame} {meth : Method} {c : Code} {H : Heap} {locs : List Loc} {g : GP} {ls : Array Slot} {A : Nat → Prop} {ad : Nat → Nat} {u : ST}
set_option maxRecDepth 100000 in
set_option maxHeartbeats 4000000 in
theorem mX6_isName {r0 : Int32} {x0 : Int32} (hf : fX6_isName u x0 = some r0) : MRi l yX6_isName cX6_isName 1 (some .boolean) 0 0 [.int x0] g (cW g ad u) r0 := by
  refine entR (by decide) (Nat.le_of_ble_eq_true rfl) ?_
  intro p e s m below meth c ls C hP hZ hl
  have hl : lv_has ls 1 [(0, .int x0)] := hl
  rw [fX6_isName] at hf
  refine lv_iload_n C.1 C.2.1 dX6_isName_0 rfl (lv_at hl 0 rfl) ?_
  refine lv_if_lt (tgt := 14) C.1 C.2.1 dX6_isName_1 (by decide) (fun c1 => ?_) (fun c1 => ?_)
  · rw [if_pos c1] at hf
    refine lv_iconst (v := 0) C.1 C.2.1 dX6_isName_14 (by decide) ?_
    exact endRz C rfl hf dX6_isName_15
  · rw [if_neg c1] at hf
    refine lv_iload_n C.1 C.2.1 dX6_isName_4 rfl (lv_at hl 0 rfl) ?_
    refine lv_bipush (v := 9) C.1 C.2.1 dX6_isName_5 (by decide) ?_
    refine lv_icmp_gt (tgt := 14) C.1 C.2.1 dX6_isName_7 (by decide) (fun c2 => ?_) (fun c2 => ?_)
    · rw [if_pos c2] at hf
      refine lv_iconst (v := 0) C.1 C.2.1 dX6_isName_14 (by decide) ?_
      exact endRz C rfl hf dX6_isName_15
    · rw [if_neg c2] at hf
      refine lv_iconst (v := 1) C.1 C.2.1 dX6_isName_10 (by decide) ?_
      refine lv_goto (tgt := 15) C.1 C.2.1 dX6_isName_11 (by decide) ?_
      exact endRz C rfl hf dX6_isName_15
end
theorem vX6_isName : YS yX6_isName cX6_isName 1 (some .boolean) 1 := ⟨⟨wK_X6_isName, wZ_X6, by decide +kernel⟩, wS_X6_isName⟩
def fX3_isKind (u : ST) (x0 : Int32) : Option Int32 :=
  if x0 < 0 then
    some 0
  else
    if 8 ≤ x0 then
      some 0
    else
      some 1
section
variable {p : Program} {l : Launch} {e : Env} {s : State} {m : MethodId} {args : Array Value} {below : List Frame} {meth : Method} {c : Code} {H : Heap} {locs : List Loc} {g : GP} {ls : Array Slot} {A : Nat → Prop} {ad : Nat → Nat} {u : ST}
set_option maxRecDepth 100000 in
set_option maxHeartbeats 4000000 in
theorem mX3_isKind {r0 : Int32} {x0 : Int32} (hf : fX3_isKind u x0 = some r0) : MRi l yX3_isKind cX3_isKind 1 (some .boolean) 0 0 [.int x0] g (cW g ad u) r0 := by
  refine entR (by decide) (Nat.le_of_ble_eq_true rfl) ?_
  intro p e s m below meth c ls C hP hZ hl
  have hl : lv_has ls 1 [(0, .int x0)] := hl
  rw [fX3_isKind] at hf
  refine lv_iload_n C.1 C.2.1 dX3_isKind_0 rfl (lv_at hl 0 rfl) ?_
  refine lv_if_lt (tgt := 16) C.1 C.2.1 dX3_isKind_1 (by decide) (fun c1 => ?_) (fun c1 => ?_)
  · rw [if_pos c1] at hf
    refine lv_iconst (v := 0) C.1 C.2.1 dX3_isKind_16 (by decide) ?_
    exact endRz C rfl hf dX3_isKind_17
  · rw [if_neg c1] at hf
    refine lv_iload_n C.1 C.2.1 dX3_isKind_4 rfl (lv_at hl 0 rfl) ?_
    obtain ⟨hN, tw, hz1, hz2⟩ := id hZ
    refine va_gets C.1 C.2.1 hz1 va_S.rf C.2.2.2.1 (C.2.2.2.2.1 _ wF_X3_7) (fun _ h9 => h9) dX3_isKind_5 ?_
    refine va_tlen (v := 8) C.1 C.2.1 hz2 va_S.rf rfl dX3_isKind_8 ?_
    refine lv_icmp_ge (tgt := 16) C.1 C.2.1 dX3_isKind_9 (by decide) (fun c2 => ?_) (fun c2 => ?_)
    · rw [if_pos c2] at hf
      refine lv_iconst (v := 0) C.1 C.2.1 dX3_isKind_16 (by decide) ?_
      exact endRz C rfl hf dX3_isKind_17
    · rw [if_neg c2] at hf
      refine lv_iconst (v := 1) C.1 C.2.1 dX3_isKind_12 (by decide) ?_
      refine lv_goto (tgt := 17) C.1 C.2.1 dX3_isKind_13 (by decide) ?_
      exact endRz C rfl hf dX3_isKind_17
end
theorem vX3_isKind : YS yX3_isKind cX3_isKind 1 (some .boolean) 1 := ⟨⟨wK_X3_isKind, wZ_X3, by decide +kernel⟩, wS_X3_isKind⟩
def fX2_areFieldMarks_L15 (u : ST) (x1 : Int32) (x2 : Int32) (y0 : Int32) : Option Int32 :=
  if y0 = 0 then
    some 0
  else
    (fX7_isClass u x1).bind fun v3 =>
    if v3 = 0 then
      if (x2 &&& 1) = 0 then
        some 0
      else
        some 1
    else
      some 1
def fX2_areFieldMarks_L14 (u : ST) (x1 : Int32) (x2 : Int32) : Option Int32 :=
  fX2_areFieldMarks_L15 u x1 x2 0
def fX2_areFieldMarks (u : ST) (x1 : Int32) (x2 : Int32) : Option Int32 :=
  if x2 < 0 then
    fX2_areFieldMarks_L14 u x1 x2
  else
    if 8 ≤ x2 then
      fX2_areFieldMarks_L14 u x1 x2
    else
      fX2_areFieldMarks_L15 u x1 x2 1
section
variable {p : Program} {l : Launch} {e : Env} {s : State} {m : MethodId} {args : Array Value} {below : List Frame} {meth : Method} {c : Code} {H : Heap} {locs : List Loc} {g : GP} {ls : Array Slot} {A : Nat → Prop} {ad : Nat → Nat} {u : ST}
set_option maxRecDepth 100000 in
set_option maxHeartbeats 4000000 in
theorem bX2_areFieldMarks_L15 {r0 : Int32} {x1 : Int32} {x2 : Int32} {y0 : Int32} (C : Cx p s m args meth c cX2_areFieldMarks 4 RX2 (some .boolean) g) (hZ : SF (fun _ => False) s) (hP : va_P g.1 vwCl (cW g ad u) s.heap) (hl : lv_has ls 4 [(0, .ref (ad 1)), (1, .int x1), (2, .int x2)]) (hf : fX2_areFieldMarks_L15 u x1 x2 y0 = some r0) : W p l e (rmR 1 21) s m args below meth c s.heap [] 0 0 (MQ below (vp_Si (fun r => r = r0)) args s 0 0 (fun _ => False)) (F0 m 15 ls [.int y0]) := by
  rw [fX2_areFieldMarks_L15] at hf
  refine lv_istore_n (lv' := [(3, .int y0), (0, .ref (ad 1)), (1, .int x1), (2, .int x2)]) C.1 C.2.1 dX2_areFieldMarks_15 rfl hl (by decide) rfl (fun ls hl => ?_)
  refine lv_iload_n C.1 C.2.1 dX2_areFieldMarks_16 rfl (lv_at hl 0 rfl) ?_
  refine lv_if_eq (tgt := 41) C.1 C.2.1 dX2_areFieldMarks_17 (by decide) (fun c2 => ?_) (fun c2 => ?_)
  · rw [if_pos c2] at hf
    refine lv_iconst (v := 0) C.1 C.2.1 dX2_areFieldMarks_41 (by decide) ?_
    exact endRz C rfl hf dX2_areFieldMarks_42
  · rw [if_neg c2] at hf
    refine lv_aload_n C.1 C.2.1 dX2_areFieldMarks_20 rfl (lv_at hl 1 rfl) ?_
    refine gtc_X2_types C hP wF_X2_12 dX2_areFieldMarks_21 ?_
    refine lv_iload_n C.1 C.2.1 dX2_areFieldMarks_24 rfl (lv_at hl 2 rfl) ?_
    obtain ⟨v3, hv3, hf⟩ := Option.bind_eq_some_iff.mp hf
    refine cRi (As := [.int x1]) (rest := []) C (mX7_isClass hv3) vX7_isClass wM_X2_129 ⟨Nat.le_of_ble_eq_true rfl, Nat.le_of_ble_eq_true rfl⟩ hP (rcc_X7 C hP) (fun U hU hW => SF.go hZ va_S.rf hU hW (fun _ h => h)) hl.1 rfl rfl (Nat.le_of_ble_eq_true rfl) dX2_areFieldMarks_25 ⟨Nat.le_of_ble_eq_true rfl, Nat.le_of_ble_eq_true rfl⟩ ?_
    refine lv_if_ne (tgt := 37) C.1 C.2.1 dX2_areFieldMarks_28 (by decide) (fun c4 => ?_) (fun c4 => ?_)
    · rw [if_neg c4] at hf
      refine lv_iconst (v := 1) C.1 C.2.1 dX2_areFieldMarks_37 (by decide) ?_
      refine lv_goto (tgt := 42) C.1 C.2.1 dX2_areFieldMarks_38 (by decide) ?_
      exact endRz C rfl hf dX2_areFieldMarks_42
    · rw [if_pos c4] at hf
      refine lv_iload_n C.1 C.2.1 dX2_areFieldMarks_31 rfl (lv_at hl 3 rfl) ?_
      refine lv_iconst (v := 1) C.1 C.2.1 dX2_areFieldMarks_32 (by decide) ?_
      refine lv_iand C.1 C.2.1 dX2_areFieldMarks_33 ?_
      refine lv_if_eq (tgt := 41) C.1 C.2.1 dX2_areFieldMarks_34 (by decide) (fun c5 => ?_) (fun c5 => ?_)
      · rw [if_pos c5] at hf
        refine lv_iconst (v := 0) C.1 C.2.1 dX2_areFieldMarks_41 (by decide) ?_
        exact endRz C rfl hf dX2_areFieldMarks_42
      · rw [if_neg c5] at hf
        refine lv_iconst (v := 1) C.1 C.2.1 dX2_areFieldMarks_37 (by decide) ?_
        refine lv_goto (tgt := 42) C.1 C.2.1 dX2_areFieldMarks_38 (by decide) ?_
        exact endRz C rfl hf dX2_areFieldMarks_42
set_option maxRecDepth 100000 in
set_option maxHeartbeats 4000000 in
theorem bX2_areFieldMarks_L14 {r0 : Int32} {x1 : Int32} {x2 : Int32} (C : Cx p s m args meth c cX2_areFieldMarks 4 RX2 (some .boolean) g) (hZ : SF (fun _ => False) s) (hP : va_P g.1 vwCl (cW g ad u) s.heap) (hl : lv_has ls 4 [(0, .ref (ad 1)), (1, .int x1), (2, .int x2)]) (hf : fX2_areFieldMarks_L14 u x1 x2 = some r0) : W p l e (rmR 1 21) s m args below meth c s.heap [] 0 0 (MQ below (vp_Si (fun r => r = r0)) args s 0 0 (fun _ => False)) (F0 m 14 ls []) := by
  rw [fX2_areFieldMarks_L14] at hf
  refine lv_iconst (v := 0) C.1 C.2.1 dX2_areFieldMarks_14 (by decide) ?_
  exact bX2_areFieldMarks_L15 C hZ hP (lv_sub hl [0, 1, 2] rfl) hf
set_option maxRecDepth 100000 in
set_option maxHeartbeats 4000000 in
theorem mX2_areFieldMarks {r0 : Int32} {x1 : Int32} {x2 : Int32} (hf : fX2_areFieldMarks u x1 x2 = some r0) : MRi l yX2_areFieldMarks cX2_areFieldMarks 4 (some .boolean) 1 21 [.ref (ad 1), .int x1, .int x2] g (cW g ad u) r0 := by
  refine entR (by decide) (Nat.le_of_ble_eq_true rfl) ?_
  intro p e s m below meth c ls C hP hZ hl
  have hl : lv_has ls 4 [(0, .ref (ad 1)), (1, .int x1), (2, .int x2)] := hl
  rw [fX2_areFieldMarks] at hf
  refine lv_iload_n C.1 C.2.1 dX2_areFieldMarks_0 rfl (lv_at hl 2 rfl) ?_
  refine lv_if_lt (tgt := 14) C.1 C.2.1 dX2_areFieldMarks_1 (by decide) (fun c1 => ?_) (fun c1 => ?_)
  · rw [if_pos c1] at hf
    exact bX2_areFieldMarks_L14 C hZ hP (lv_sub hl [0, 1, 2] rfl) hf
  · rw [if_neg c1] at hf
    refine lv_iload_n C.1 C.2.1 dX2_areFieldMarks_4 rfl (lv_at hl 2 rfl) ?_
    refine lv_bipush (v := 8) C.1 C.2.1 dX2_areFieldMarks_5 (by decide) ?_
    refine lv_icmp_ge (tgt := 14) C.1 C.2.1 dX2_areFieldMarks_7 (by decide) (fun c6 => ?_) (fun c6 => ?_)
    · rw [if_pos c6] at hf
      exact bX2_areFieldMarks_L14 C hZ hP (lv_sub hl [0, 1, 2] rfl) hf
    · rw [if_neg c6] at hf
      refine lv_iconst (v := 1) C.1 C.2.1 dX2_areFieldMarks_10 (by decide) ?_
      refine lv_goto (tgt := 15) C.1 C.2.1 dX2_areFieldMarks_11 (by decide) ?_
      exact bX2_areFieldMarks_L15 C hZ hP (lv_sub hl [0, 1, 2] rfl) hf
end
theorem vX2_areFieldMarks : YV yX2_areFieldMarks cX2_areFieldMarks 4 (some .boolean) 2 := ⟨⟨wK_X2_areFieldMarks, wZ_X2, by decide +kernel⟩, wI_X2_areFieldMarks, wV_X2_areFieldMarks⟩
def fX6_fieldOf_L39 (u : ST) (K2 : Int32 → Int32 → Int32 → Option Int32) (x1 : Int32) (x2 : Int32) (x3 : Int32) : Option Int32 :=
  K2 x1 x2 (x3 + 1)
def fX6_fieldOf_L2 (u : ST) : Nat → Int32 → Int32 → Int32 → Option Int32
  | 0, _, _, _ => none
  | n + 1, x1, x2, x3 =>
    if 60 ≤ x3 then
      some (-2)
    else
      (rdI u 15 60 x3).bind fun v2 =>
      if v2 = x1 then
        (rdI u 16 60 x3).bind fun v4 =>
        if v4 = 0 then
          (rdI u 17 60 x3).bind fun v6 =>
          if v6 = x2 then
            some x3
          else
            fX6_fieldOf_L39 u (fX6_fieldOf_L2 u n) x1 x2 x3
        else
          fX6_fieldOf_L39 u (fX6_fieldOf_L2 u n) x1 x2 x3
      else
        fX6_fieldOf_L39 u (fX6_fieldOf_L2 u n) x1 x2 x3
def fX6_fieldOf (u : ST) (x1 : Int32) (x2 : Int32) : Option Int32 :=
  fX6_fieldOf_L2 u 5000 x1 x2 0
section
variable {p : Program} {l : Launch} {e : Env} {s : State} {m : MethodId} {args : Array Value} {below : List Frame} {meth : Method} {c : Code} {H : Heap} {locs : List Loc} {g : GP} {ls : Array Slot} {A : Nat → Prop} {ad : Nat → Nat} {u : ST}
set_option maxRecDepth 100000 in
set_option maxHeartbeats 4000000 in
theorem bX6_fieldOf_L39 {r0 : Int32} {K2 : Int32 → Int32 → Int32 → Option Int32} {x1 : Int32} {x2 : Int32} {x3 : Int32} (C : Cx p s m args meth c cX6_fieldOf 4 RX6 (some .int) g) (hZ : SF (fun _ => False) s) (hK2 : ∀ (x1 : Int32) (x2 : Int32) (x3 : Int32), ∀ (ls : Array Slot), lv_has ls 4 [(0, .ref (ad 3)), (1, .int x1), (2, .int x2), (3, .int x3)] → K2 x1 x2 x3 = some r0 → W p l e (rmR 0 0) s m args below meth c s.heap [] 0 0 (MQ below (vp_Si (fun r => r = r0)) args s 0 0 (fun _ => False)) (F0 m 2 ls [])) (hP : va_P g.1 vwCl (cW g ad u) s.heap) (hl : lv_has ls 4 [(0, .ref (ad 3)), (1, .int x1), (2, .int x2), (3, .int x3)]) (hf : fX6_fieldOf_L39 u K2 x1 x2 x3 = some r0) : W p l e (rmR 0 0) s m args below meth c s.heap [] 0 0 (MQ below (vp_Si (fun r => r = r0)) args s 0 0 (fun _ => False)) (F0 m 39 ls []) := by
  rw [fX6_fieldOf_L39] at hf
  refine lv_iinc (v := (x3 + 1)) (lv' := [(3, .int (x3 + 1)), (0, .ref (ad 3)), (1, .int x1), (2, .int x2)]) C.1 C.2.1 dX6_fieldOf_39 hl (k := 3) rfl rfl (by decide) rfl (fun ls hl => ?_)
  refine lv_goto (tgt := 2) C.1 C.2.1 dX6_fieldOf_42 (by decide) ?_
  exact hK2 x1 x2 (x3 + 1) _ (lv_sub hl [1, 2, 3, 0] rfl) hf
set_option maxRecDepth 100000 in
set_option maxHeartbeats 4000000 in
theorem bX6_fieldOf_L2 {r0 : Int32} (C : Cx p s m args meth c cX6_fieldOf 4 RX6 (some .int) g) (hZ : SF (fun _ => False) s) (n : Nat) : ∀ (x1 : Int32) (x2 : Int32) (x3 : Int32), va_P g.1 vwCl (cW g ad u) s.heap → ∀ (ls : Array Slot), lv_has ls 4 [(0, .ref (ad 3)), (1, .int x1), (2, .int x2), (3, .int x3)] → fX6_fieldOf_L2 u n x1 x2 x3 = some r0 → W p l e (rmR 0 0) s m args below meth c s.heap [] 0 0 (MQ below (vp_Si (fun r => r = r0)) args s 0 0 (fun _ => False)) (F0 m 2 ls []) := by
  induction n with
  | zero =>
    intro x1 x2 x3 hP ls hl hf
    exact absurd hf (by simp [fX6_fieldOf_L2])
  | succ n ih0 =>
    intro x1 x2 x3 hP ls hl hf
    have ih := fun (x1 : Int32) (x2 : Int32) (x3 : Int32) => ih0 x1 x2 x3 hP
    rw [fX6_fieldOf_L2] at hf
    refine lv_iload_n C.1 C.2.1 dX6_fieldOf_2 rfl (lv_at hl 3 rfl) ?_
    refine lv_bipush (v := 60) C.1 C.2.1 dX6_fieldOf_3 (by decide) ?_
    refine lv_icmp_ge (tgt := 45) C.1 C.2.1 dX6_fieldOf_5 (by decide) (fun c1 => ?_) (fun c1 => ?_)
    · rw [if_pos c1] at hf
      refine lv_bipush (v := -2) C.1 C.2.1 dX6_fieldOf_45 (by decide) ?_
      exact endRi C hf dX6_fieldOf_47
    · rw [if_neg c1] at hf
      refine lv_aload_n C.1 C.2.1 dX6_fieldOf_8 rfl (lv_at hl 0 rfl) ?_
      refine gtc_X6_owner C hP wF_X6_11 dX6_fieldOf_9 ?_
      refine lv_iload_n C.1 C.2.1 dX6_fieldOf_12 rfl (lv_at hl 3 rfl) ?_
      obtain ⟨v2, hv2, hf⟩ := Option.bind_eq_some_iff.mp hf
      refine ldc_15 C hP hv2 dX6_fieldOf_13 ?_
      refine lv_iload_n C.1 C.2.1 dX6_fieldOf_14 rfl (lv_at hl 1 rfl) ?_
      refine lv_icmp_ne (tgt := 39) C.1 C.2.1 dX6_fieldOf_15 (by decide) (fun c3 => ?_) (fun c3 => ?_)
      · rw [if_neg c3] at hf
        exact bX6_fieldOf_L39 C hZ ih hP (lv_sub hl [0, 1, 2, 3] rfl) hf
      · rw [if_pos c3] at hf
        refine lv_aload_n C.1 C.2.1 dX6_fieldOf_18 rfl (lv_at hl 0 rfl) ?_
        refine gtc_X6_isMethod C hP wF_X6_15 dX6_fieldOf_19 ?_
        refine lv_iload_n C.1 C.2.1 dX6_fieldOf_22 rfl (lv_at hl 3 rfl) ?_
        obtain ⟨v4, hv4, hf⟩ := Option.bind_eq_some_iff.mp hf
        refine ldc_16 C hP hv4 dX6_fieldOf_23 ?_
        refine lv_if_ne (tgt := 39) C.1 C.2.1 dX6_fieldOf_24 (by decide) (fun c5 => ?_) (fun c5 => ?_)
        · rw [if_neg c5] at hf
          exact bX6_fieldOf_L39 C hZ ih hP (lv_sub hl [0, 1, 2, 3] rfl) hf
        · rw [if_pos c5] at hf
          refine lv_aload_n C.1 C.2.1 dX6_fieldOf_27 rfl (lv_at hl 0 rfl) ?_
          refine gtc_X6_name C hP wF_X6_19 dX6_fieldOf_28 ?_
          refine lv_iload_n C.1 C.2.1 dX6_fieldOf_31 rfl (lv_at hl 3 rfl) ?_
          obtain ⟨v6, hv6, hf⟩ := Option.bind_eq_some_iff.mp hf
          refine ldc_17 C hP hv6 dX6_fieldOf_32 ?_
          refine lv_iload_n C.1 C.2.1 dX6_fieldOf_33 rfl (lv_at hl 2 rfl) ?_
          refine lv_icmp_ne (tgt := 39) C.1 C.2.1 dX6_fieldOf_34 (by decide) (fun c7 => ?_) (fun c7 => ?_)
          · rw [if_neg c7] at hf
            exact bX6_fieldOf_L39 C hZ ih hP (lv_sub hl [0, 1, 2, 3] rfl) hf
          · rw [if_pos c7] at hf
            refine lv_iload_n C.1 C.2.1 dX6_fieldOf_37 rfl (lv_at hl 3 rfl) ?_
            exact endRi C hf dX6_fieldOf_38
set_option maxRecDepth 100000 in
set_option maxHeartbeats 4000000 in
theorem mX6_fieldOf {r0 : Int32} {x1 : Int32} {x2 : Int32} (hf : fX6_fieldOf u x1 x2 = some r0) : MRi l yX6_fieldOf cX6_fieldOf 4 (some .int) 0 0 [.ref (ad 3), .int x1, .int x2] g (cW g ad u) r0 := by
  refine entR (by decide) (Nat.le_of_ble_eq_true rfl) ?_
  intro p e s m below meth c ls C hP hZ hl
  have hl : lv_has ls 4 [(0, .ref (ad 3)), (1, .int x1), (2, .int x2)] := hl
  rw [fX6_fieldOf] at hf
  refine lv_iconst (v := 0) C.1 C.2.1 dX6_fieldOf_0 (by decide) ?_
  refine lv_istore_n (lv' := [(3, .int 0), (0, .ref (ad 3)), (1, .int x1), (2, .int x2)]) C.1 C.2.1 dX6_fieldOf_1 rfl hl (by decide) rfl (fun ls hl => ?_)
  exact bX6_fieldOf_L2 C hZ 5000 x1 x2 0 hP _ (lv_sub hl [1, 2, 3, 0] rfl) hf
end
theorem vX6_fieldOf : YV yX6_fieldOf cX6_fieldOf 4 (some .int) 2 := ⟨⟨wK_X6_fieldOf, wZ_X6, by decide +kernel⟩, wI_X6_fieldOf, wV_X6_fieldOf⟩
def fX2_fieldMayCome (u : ST) (x1 : Int32) (x2 : Int32) (x3 : Int32) (x4 : Int32) : Option Int32 :=
  (fX7_isType u x1).bind fun v1 =>
  if v1 = 0 then
    some 0
  else
    (fX6_isName u x2).bind fun v3 =>
    if v3 = 0 then
      some 0
    else
      (fX3_isKind u x3).bind fun v5 =>
      if v5 = 0 then
        some 0
      else
        (fX2_areFieldMarks u x1 x4).bind fun v7 =>
        if v7 = 0 then
          some 0
        else
          (fX6_fieldOf u x1 x2).bind fun v9 =>
          if v9 = (-2) then
            some 1
          else
            some 0
section
variable {p : Program} {l : Launch} {e : Env} {s : State} {m : MethodId} {args : Array Value} {below : List Frame} {meth : Method} {c : Code} {H : Heap} {locs : List Loc} {g : GP} {ls : Array Slot} {A : Nat → Prop} {ad : Nat → Nat} {u : ST}
set_option maxRecDepth 100000 in
set_option maxHeartbeats 4000000 in
theorem mX2_fieldMayCome {r0 : Int32} {x1 : Int32} {x2 : Int32} {x3 : Int32} {x4 : Int32} (hf : fX2_fieldMayCome u x1 x2 x3 x4 = some r0) : MRi l yX2_fieldMayCome cX2_fieldMayCome 5 (some .boolean) 2 44 [.ref (ad 1), .int x1, .int x2, .int x3, .int x4] g (cW g ad u) r0 := by
  refine entR (by decide) (Nat.le_of_ble_eq_true rfl) ?_
  intro p e s m below meth c ls C hP hZ hl
  have hl : lv_has ls 5 [(0, .ref (ad 1)), (1, .int x1), (2, .int x2), (3, .int x3), (4, .int x4)] := hl
  rw [fX2_fieldMayCome] at hf
  refine lv_aload_n C.1 C.2.1 dX2_fieldMayCome_0 rfl (lv_at hl 0 rfl) ?_
  refine gtc_X2_types C hP wF_X2_12 dX2_fieldMayCome_1 ?_
  refine lv_iload_n C.1 C.2.1 dX2_fieldMayCome_4 rfl (lv_at hl 1 rfl) ?_
  obtain ⟨v1, hv1, hf⟩ := Option.bind_eq_some_iff.mp hf
  refine cRi (As := [.int x1]) (rest := []) C (mX7_isType hv1) vX7_isType wM_X2_84 ⟨Nat.le_of_ble_eq_true rfl, Nat.le_of_ble_eq_true rfl⟩ hP (rcc_X7 C hP) (fun U hU hW => SF.go hZ va_S.rf hU hW (fun _ h => h)) hl.1 rfl rfl (Nat.le_of_ble_eq_true rfl) dX2_fieldMayCome_5 ⟨Nat.le_of_ble_eq_true rfl, Nat.le_of_ble_eq_true rfl⟩ ?_
  refine lv_if_eq (tgt := 53) C.1 C.2.1 dX2_fieldMayCome_8 (by decide) (fun c2 => ?_) (fun c2 => ?_)
  · rw [if_pos c2] at hf
    refine lv_iconst (v := 0) C.1 C.2.1 dX2_fieldMayCome_53 (by decide) ?_
    exact endRz C rfl hf dX2_fieldMayCome_54
  · rw [if_neg c2] at hf
    refine lv_iload_n C.1 C.2.1 dX2_fieldMayCome_11 rfl (lv_at hl 2 rfl) ?_
    obtain ⟨v3, hv3, hf⟩ := Option.bind_eq_some_iff.mp hf
    refine cSi (As := [.int x2]) (rest := []) C (mX6_isName hv3) vX6_isName wM_X2_88 ⟨Nat.le_of_ble_eq_true rfl, Nat.le_of_ble_eq_true rfl⟩ hP (fun U hU hW => SF.go hZ va_S.rf hU hW (fun _ h => h)) hl.1 rfl rfl (Nat.le_of_ble_eq_true rfl) dX2_fieldMayCome_12 ⟨Nat.le_of_ble_eq_true rfl, Nat.le_of_ble_eq_true rfl⟩ ?_
    refine lv_if_eq (tgt := 53) C.1 C.2.1 dX2_fieldMayCome_15 (by decide) (fun c4 => ?_) (fun c4 => ?_)
    · rw [if_pos c4] at hf
      refine lv_iconst (v := 0) C.1 C.2.1 dX2_fieldMayCome_53 (by decide) ?_
      exact endRz C rfl hf dX2_fieldMayCome_54
    · rw [if_neg c4] at hf
      refine lv_iload_n C.1 C.2.1 dX2_fieldMayCome_18 rfl (lv_at hl 3 rfl) ?_
      obtain ⟨v5, hv5, hf⟩ := Option.bind_eq_some_iff.mp hf
      refine cSi (As := [.int x3]) (rest := []) C (mX3_isKind hv5) vX3_isKind wM_X2_91 ⟨Nat.le_of_ble_eq_true rfl, Nat.le_of_ble_eq_true rfl⟩ hP (fun U hU hW => SF.go hZ va_S.rf hU hW (fun _ h => h)) hl.1 rfl rfl (Nat.le_of_ble_eq_true rfl) dX2_fieldMayCome_19 ⟨Nat.le_of_ble_eq_true rfl, Nat.le_of_ble_eq_true rfl⟩ ?_
      refine lv_if_eq (tgt := 53) C.1 C.2.1 dX2_fieldMayCome_22 (by decide) (fun c6 => ?_) (fun c6 => ?_)
      · rw [if_pos c6] at hf
        refine lv_iconst (v := 0) C.1 C.2.1 dX2_fieldMayCome_53 (by decide) ?_
        exact endRz C rfl hf dX2_fieldMayCome_54
      · rw [if_neg c6] at hf
        refine lv_aload_n C.1 C.2.1 dX2_fieldMayCome_25 rfl (lv_at hl 0 rfl) ?_
        refine lv_iload_n C.1 C.2.1 dX2_fieldMayCome_26 rfl (lv_at hl 1 rfl) ?_
        refine lv_iload C.1 C.2.1 dX2_fieldMayCome_27 (lv_at hl 4 rfl) ?_
        obtain ⟨v7, hv7, hf⟩ := Option.bind_eq_some_iff.mp hf
        refine cRi (As := [.int x1, .int x4]) (rest := []) C (mX2_areFieldMarks hv7) vX2_areFieldMarks wM_X2_96 ⟨Nat.le_of_ble_eq_true rfl, Nat.le_of_ble_eq_true rfl⟩ hP (rcc_X2 C hP) (fun U hU hW => SF.go hZ va_S.rf hU hW (fun _ h => h)) hl.1 rfl rfl (Nat.le_of_ble_eq_true rfl) dX2_fieldMayCome_29 ⟨Nat.le_of_ble_eq_true rfl, Nat.le_of_ble_eq_true rfl⟩ ?_
        refine lv_if_eq (tgt := 53) C.1 C.2.1 dX2_fieldMayCome_32 (by decide) (fun c8 => ?_) (fun c8 => ?_)
        · rw [if_pos c8] at hf
          refine lv_iconst (v := 0) C.1 C.2.1 dX2_fieldMayCome_53 (by decide) ?_
          exact endRz C rfl hf dX2_fieldMayCome_54
        · rw [if_neg c8] at hf
          refine lv_aload_n C.1 C.2.1 dX2_fieldMayCome_35 rfl (lv_at hl 0 rfl) ?_
          refine gtc_X2_members C hP wF_X2_21 dX2_fieldMayCome_36 ?_
          refine lv_iload_n C.1 C.2.1 dX2_fieldMayCome_39 rfl (lv_at hl 1 rfl) ?_
          refine lv_iload_n C.1 C.2.1 dX2_fieldMayCome_40 rfl (lv_at hl 2 rfl) ?_
          obtain ⟨v9, hv9, hf⟩ := Option.bind_eq_some_iff.mp hf
          refine cRi (As := [.int x1, .int x2]) (rest := []) C (mX6_fieldOf hv9) vX6_fieldOf wM_X2_100 ⟨Nat.le_of_ble_eq_true rfl, Nat.le_of_ble_eq_true rfl⟩ hP (rcc_X6 C hP) (fun U hU hW => SF.go hZ va_S.rf hU hW (fun _ h => h)) hl.1 rfl rfl (Nat.le_of_ble_eq_true rfl) dX2_fieldMayCome_41 ⟨Nat.le_of_ble_eq_true rfl, Nat.le_of_ble_eq_true rfl⟩ ?_
          refine lv_bipush (v := -2) C.1 C.2.1 dX2_fieldMayCome_44 (by decide) ?_
          refine lv_icmp_ne (tgt := 53) C.1 C.2.1 dX2_fieldMayCome_46 (by decide) (fun c10 => ?_) (fun c10 => ?_)
          · rw [if_neg c10] at hf
            refine lv_iconst (v := 0) C.1 C.2.1 dX2_fieldMayCome_53 (by decide) ?_
            exact endRz C rfl hf dX2_fieldMayCome_54
          · rw [if_pos c10] at hf
            refine lv_iconst (v := 1) C.1 C.2.1 dX2_fieldMayCome_49 (by decide) ?_
            refine lv_goto (tgt := 54) C.1 C.2.1 dX2_fieldMayCome_50 (by decide) ?_
            exact endRz C rfl hf dX2_fieldMayCome_54
end
theorem vX2_fieldMayCome : YV yX2_fieldMayCome cX2_fieldMayCome 5 (some .boolean) 4 := ⟨⟨wK_X2_fieldMayCome, wZ_X2, by decide +kernel⟩, wI_X2_fieldMayCome, wV_X2_fieldMayCome⟩
def fX6_isFull (u : ST) : Option Int32 :=
  if (sI u 300) < 60 then
    some 0
  else
    some 1
section
variable {p : Program} {l : Launch} {e : Env} {s : State} {m : MethodId} {args : Array Value} {below : List Frame} {meth : Method} {c : Code} {H : Heap} {locs : List Loc} {g : GP} {ls : Array Slot} {A : Nat → Prop} {ad : Nat → Nat} {u : ST}
set_option maxRecDepth 100000 in
set_option maxHeartbeats 4000000 in
theorem mX6_isFull {r0 : Int32} (hf : fX6_isFull u = some r0) : MRi l yX6_isFull cX6_isFull 1 (some .boolean) 0 0 [.ref (ad 3)] g (cW g ad u) r0 := by
  refine entR (by decide) (Nat.le_of_ble_eq_true rfl) ?_
  intro p e s m below meth c ls C hP hZ hl
  have hl : lv_has ls 1 [(0, .ref (ad 3))] := hl
  rw [fX6_isFull] at hf
  refine lv_aload_n C.1 C.2.1 dX6_isFull_0 rfl (lv_at hl 0 rfl) ?_
  refine gtc_X6_size C hP wF_X6_35 dX6_isFull_1 ?_
  refine lv_bipush (v := 60) C.1 C.2.1 dX6_isFull_4 (by decide) ?_
  refine lv_icmp_lt (tgt := 13) C.1 C.2.1 dX6_isFull_6 (by decide) (fun c1 => ?_) (fun c1 => ?_)
  · rw [if_pos c1] at hf
    refine lv_iconst (v := 0) C.1 C.2.1 dX6_isFull_13 (by decide) ?_
    exact endRz C rfl hf dX6_isFull_14
  · rw [if_neg c1] at hf
    refine lv_iconst (v := 1) C.1 C.2.1 dX6_isFull_9 (by decide) ?_
    refine lv_goto (tgt := 14) C.1 C.2.1 dX6_isFull_10 (by decide) ?_
    exact endRz C rfl hf dX6_isFull_14
end
theorem vX6_isFull : YV yX6_isFull cX6_isFull 1 (some .boolean) 0 := ⟨⟨wK_X6_isFull, wZ_X6, by decide +kernel⟩, wI_X6_isFull, wV_X6_isFull⟩
def fX8_field (u : ST) (x1 : Int32) (x2 : Int32) (x3 : Int32) (x4 : Int32) (x5 : Int64) : Option NR :=
  (fX2_fieldMayCome u x1 x2 x3 x4).bind fun v1 =>
  if v1 = 0 then
    some (.inl ((-1), u))
  else
    (fX6_isFull u).bind fun v3 =>
    if v3 = 0 then
      some (.inr fun q5 =>
        (some (qN u q5 true)).bind fun u6 =>
        (fX1_init u6 q5 5 x1 x2 x3 (-2) x4 x5).bind fun u7 =>
        b2 (fX8_carryOut u7 q5) fun v9 u8 =>
        some (v9, u8))
    else
      some (.inl ((-3), u))
section
variable {p : Program} {l : Launch} {e : Env} {s : State} {m : MethodId} {args : Array Value} {below : List Frame} {meth : Method} {c : Code} {H : Heap} {locs : List Loc} {g : GP} {ls : Array Slot} {A : Nat → Prop} {ad : Nat → Nat} {u : ST}
set_option maxRecDepth 100000 in
set_option maxHeartbeats 4000000 in
theorem mX8_field {x : NR} {x1 : Int32} {x2 : Int32} {x3 : Int32} {x4 : Int32} {x5 : Int64} (hf : fX8_field u x1 x2 x3 x4 x5 = some x) (hok : okN u x) : MNi l yX8_field cX8_field 7 (some .int) 6 137 1 7 [.ref (ad 0), .int x1, .int x2, .int x3, .int x4, .long x5] g (cW g ad) u x := by
  refine entW (Qc := fun A => va_Qi (poN u x) (BW g A (cW g ad)) A) (by decide) (Nat.le_of_ble_eq_true rfl) ?_
  intro p e s m below meth c ls A C hP hD hS hA hZ hl
  have hl : lv_has ls 7 [(0, .ref (ad 0)), (1, .int x1), (2, .int x2), (3, .int x3), (4, .int x4), (5, .long x5)] := hl
  rw [fX8_field] at hf
  refine lv_aload_n C.1 C.2.1 dX8_field_0 rfl (lv_at hl 0 rfl) ?_
  refine gtc_X8_house C hP wF_X8_10 dX8_field_1 ?_
  refine lv_iload_n C.1 C.2.1 dX8_field_4 rfl (lv_at hl 1 rfl) ?_
  refine lv_iload_n C.1 C.2.1 dX8_field_5 rfl (lv_at hl 2 rfl) ?_
  refine lv_iload_n C.1 C.2.1 dX8_field_6 rfl (lv_at hl 3 rfl) ?_
  refine lv_iload C.1 C.2.1 dX8_field_7 (lv_at hl 4 rfl) ?_
  obtain ⟨v1, hv1, hf⟩ := Option.bind_eq_some_iff.mp hf
  refine cRi (As := [.int x1, .int x2, .int x3, .int x4]) (rest := []) C (mX2_fieldMayCome hv1) vX2_fieldMayCome wM_X8_91 ⟨Nat.le_of_ble_eq_true rfl, Nat.le_of_ble_eq_true rfl⟩ hP (rcc_X2 C hP) (fun U hU hW => SF.go hZ hS hU hW (fun _ h => h.elim)) hl.1 rfl rfl (Nat.le_of_ble_eq_true rfl) dX8_field_9 ⟨Nat.le_of_ble_eq_true rfl, Nat.le_of_ble_eq_true rfl⟩ ?_
  refine lv_if_ne (tgt := 17) C.1 C.2.1 dX8_field_12 (by decide) (fun c2 => ?_) (fun c2 => ?_)
  · rw [if_neg c2] at hf
    refine lv_aload_n C.1 C.2.1 dX8_field_17 rfl (lv_at hl 0 rfl) ?_
    refine gtc_X8_house C hP wF_X8_10 dX8_field_18 ?_
    refine gtc_X2_members C hP wF_X8_95 dX8_field_21 ?_
    obtain ⟨v3, hv3, hf⟩ := Option.bind_eq_some_iff.mp hf
    refine cRi (As := []) (rest := []) C (mX6_isFull hv3) vX6_isFull wM_X8_99 ⟨Nat.le_of_ble_eq_true rfl, Nat.le_of_ble_eq_true rfl⟩ hP (rcc_X6 C hP) (fun U hU hW => SF.go hZ hS hU hW (fun _ h => h.elim)) hl.1 rfl rfl (Nat.le_of_ble_eq_true rfl) dX8_field_24 ⟨Nat.le_of_ble_eq_true rfl, Nat.le_of_ble_eq_true rfl⟩ ?_
    refine lv_if_eq (tgt := 33) C.1 C.2.1 dX8_field_27 (by decide) (fun c4 => ?_) (fun c4 => ?_)
    · rw [if_pos c4] at hf
      refine lv_aload_n C.1 C.2.1 dX8_field_33 rfl (lv_at hl 0 rfl) ?_
      cases hf
      refine nwE C hP hD hS hA wC_X8_32 (Nat.le_of_ble_eq_true rfl) (Nat.le_of_ble_eq_true rfl) dX8_field_34 (fun q5 H hq hP hD hS => ?_)
      obtain ⟨r0, u0, hf⟩ := hok _ rfl q5 hq
      refine Wmono (Nmono hq hf) ?_
      obtain ⟨u6, hu6, hf⟩ := Option.bind_eq_some_iff.mp hf
      rw [Option.some.inj hu6] at hP hD
      refine lv_dup C.1 C.2.1 dX8_field_37 rfl ?_
      refine lv_iconst (v := 5) C.1 C.2.1 dX8_field_38 (by decide) ?_
      refine lv_iload_n C.1 C.2.1 dX8_field_39 rfl (lv_at hl 1 rfl) ?_
      refine lv_iload_n C.1 C.2.1 dX8_field_40 rfl (lv_at hl 2 rfl) ?_
      refine lv_iload_n C.1 C.2.1 dX8_field_41 rfl (lv_at hl 3 rfl) ?_
      refine lv_bipush (v := -2) C.1 C.2.1 dX8_field_42 (by decide) ?_
      refine lv_iload C.1 C.2.1 dX8_field_44 (lv_at hl 4 rfl) ?_
      refine lv_lload C.1 C.2.1 dX8_field_46 (lv_at hl 5 rfl) ?_
      obtain ⟨u7, hu7, hf⟩ := Option.bind_eq_some_iff.mp hf
      refine cIv (As := [.int 5, .int x1, .int x2, .int x3, .int (-2), .int x4, .long x5]) (rest := [.ref q5, .ref (ad 0)]) (mc := 0) (ms := 0) C (mX1_init hu7) vX1_init wM_X8_63 ⟨Nat.le_of_ble_eq_true rfl, Nat.le_of_ble_eq_true rfl⟩ hP hD hS hA hZ hl.1 rfl rfl (Nat.le_of_ble_eq_true rfl) dX8_field_48 ⟨Nat.le_of_ble_eq_true rfl, Nat.le_of_ble_eq_true rfl⟩ (fun H locs hP hD hS => ?_)
      obtain ⟨v9, u8, hu8, hf⟩ := b2_some hf
      refine cWi (As := [.ref q5]) (rest := []) (mc := 0) (ms := 0) C (mX8_carryOut hu8) vX8_carryOut wM_X8_66 ⟨Nat.le_of_ble_eq_true rfl, Nat.le_of_ble_eq_true rfl⟩ hP hD hS hA hZ (rcc_X8 C hP) hl.1 rfl rfl (Nat.le_of_ble_eq_true rfl) dX8_field_51 ⟨Nat.le_of_ble_eq_true rfl, Nat.le_of_ble_eq_true rfl⟩ (fun H locs hP hD hS => ?_)
      exact endWi C hP hD hS (Nat.le_refl _) (Nat.le_refl _) hf dX8_field_54
    · rw [if_neg c4] at hf
      refine lv_bipush (v := -3) C.1 C.2.1 dX8_field_30 (by decide) ?_
      exact endN C hP hD hS (Nat.zero_le _) (Nat.zero_le _) hf dX8_field_32
  · rw [if_pos c2] at hf
    refine lv_iconst (v := -1) C.1 C.2.1 dX8_field_15 (by decide) ?_
    exact endN C hP hD hS (Nat.zero_le _) (Nat.zero_le _) hf dX8_field_16
end
theorem vX8_field : YV yX8_field cX8_field 7 (some .int) 5 := ⟨⟨wK_X8_field, wZ_X8, by decide +kernel⟩, wI_X8_field, wV_X8_field⟩
def fX7_areParameters (u : ST) (x1 : Int32) (x2 : Int32) : Option Int32 :=
  if x1 = (-2) then
    if x2 = (-2) then
      some 1
    else
      some 0
  else
    (fX7_isType u x1).bind fun v2 =>
    if v2 = 0 then
      some 0
    else
      if x2 = (-2) then
        some 1
      else
        (fX7_isType u x2).bind fun v5 =>
        if v5 = 0 then
          some 0
        else
          some 1
section
variable {p : Program} {l : Launch} {e : Env} {s : State} {m : MethodId} {args : Array Value} {below : List Frame} {meth : Method} {c : Code} {H : Heap} {locs : List Loc} {g : GP} {ls : Array Slot} {A : Nat → Prop} {ad : Nat → Nat} {u : ST}
set_option maxRecDepth 100000 in
set_option maxHeartbeats 4000000 in
theorem mX7_areParameters {r0 : Int32} {x1 : Int32} {x2 : Int32} (hf : fX7_areParameters u x1 x2 = some r0) : MRi l yX7_areParameters cX7_areParameters 3 (some .boolean) 1 21 [.ref (ad 2), .int x1, .int x2] g (cW g ad u) r0 := by
  refine entR (by decide) (Nat.le_of_ble_eq_true rfl) ?_
  intro p e s m below meth c ls C hP hZ hl
  have hl : lv_has ls 3 [(0, .ref (ad 2)), (1, .int x1), (2, .int x2)] := hl
  rw [fX7_areParameters] at hf
  refine lv_iload_n C.1 C.2.1 dX7_areParameters_0 rfl (lv_at hl 1 rfl) ?_
  refine lv_bipush (v := -2) C.1 C.2.1 dX7_areParameters_1 (by decide) ?_
  refine lv_icmp_ne (tgt := 20) C.1 C.2.1 dX7_areParameters_3 (by decide) (fun c1 => ?_) (fun c1 => ?_)
  · rw [if_neg c1] at hf
    refine lv_aload_n C.1 C.2.1 dX7_areParameters_20 rfl (lv_at hl 0 rfl) ?_
    refine lv_iload_n C.1 C.2.1 dX7_areParameters_21 rfl (lv_at hl 1 rfl) ?_
    obtain ⟨v2, hv2, hf⟩ := Option.bind_eq_some_iff.mp hf
    refine cRi (As := [.int x1]) (rest := []) C (mX7_isType hv2) vX7_isType wM_X7_45 ⟨Nat.le_of_ble_eq_true rfl, Nat.le_of_ble_eq_true rfl⟩ hP (rcc_X7 C hP) (fun U hU hW => SF.go hZ va_S.rf hU hW (fun _ h => h)) hl.1 rfl rfl (Nat.le_of_ble_eq_true rfl) dX7_areParameters_22 ⟨Nat.le_of_ble_eq_true rfl, Nat.le_of_ble_eq_true rfl⟩ ?_
    refine lv_if_eq (tgt := 46) C.1 C.2.1 dX7_areParameters_25 (by decide) (fun c3 => ?_) (fun c3 => ?_)
    · rw [if_pos c3] at hf
      refine lv_iconst (v := 0) C.1 C.2.1 dX7_areParameters_46 (by decide) ?_
      exact endRz C rfl hf dX7_areParameters_47
    · rw [if_neg c3] at hf
      refine lv_iload_n C.1 C.2.1 dX7_areParameters_28 rfl (lv_at hl 2 rfl) ?_
      refine lv_bipush (v := -2) C.1 C.2.1 dX7_areParameters_29 (by decide) ?_
      refine lv_icmp_eq (tgt := 42) C.1 C.2.1 dX7_areParameters_31 (by decide) (fun c4 => ?_) (fun c4 => ?_)
      · rw [if_pos c4] at hf
        refine lv_iconst (v := 1) C.1 C.2.1 dX7_areParameters_42 (by decide) ?_
        refine lv_goto (tgt := 47) C.1 C.2.1 dX7_areParameters_43 (by decide) ?_
        exact endRz C rfl hf dX7_areParameters_47
      · rw [if_neg c4] at hf
        refine lv_aload_n C.1 C.2.1 dX7_areParameters_34 rfl (lv_at hl 0 rfl) ?_
        refine lv_iload_n C.1 C.2.1 dX7_areParameters_35 rfl (lv_at hl 2 rfl) ?_
        obtain ⟨v5, hv5, hf⟩ := Option.bind_eq_some_iff.mp hf
        refine cRi (As := [.int x2]) (rest := []) C (mX7_isType hv5) vX7_isType wM_X7_45 ⟨Nat.le_of_ble_eq_true rfl, Nat.le_of_ble_eq_true rfl⟩ hP (rcc_X7 C hP) (fun U hU hW => SF.go hZ va_S.rf hU hW (fun _ h => h)) hl.1 rfl rfl (Nat.le_of_ble_eq_true rfl) dX7_areParameters_36 ⟨Nat.le_of_ble_eq_true rfl, Nat.le_of_ble_eq_true rfl⟩ ?_
        refine lv_if_eq (tgt := 46) C.1 C.2.1 dX7_areParameters_39 (by decide) (fun c6 => ?_) (fun c6 => ?_)
        · rw [if_pos c6] at hf
          refine lv_iconst (v := 0) C.1 C.2.1 dX7_areParameters_46 (by decide) ?_
          exact endRz C rfl hf dX7_areParameters_47
        · rw [if_neg c6] at hf
          refine lv_iconst (v := 1) C.1 C.2.1 dX7_areParameters_42 (by decide) ?_
          refine lv_goto (tgt := 47) C.1 C.2.1 dX7_areParameters_43 (by decide) ?_
          exact endRz C rfl hf dX7_areParameters_47
  · rw [if_pos c1] at hf
    refine lv_iload_n C.1 C.2.1 dX7_areParameters_6 rfl (lv_at hl 2 rfl) ?_
    refine lv_bipush (v := -2) C.1 C.2.1 dX7_areParameters_7 (by decide) ?_
    refine lv_icmp_ne (tgt := 16) C.1 C.2.1 dX7_areParameters_9 (by decide) (fun c7 => ?_) (fun c7 => ?_)
    · rw [if_neg c7] at hf
      refine lv_iconst (v := 0) C.1 C.2.1 dX7_areParameters_16 (by decide) ?_
      refine lv_goto (tgt := 47) C.1 C.2.1 dX7_areParameters_17 (by decide) ?_
      exact endRz C rfl hf dX7_areParameters_47
    · rw [if_pos c7] at hf
      refine lv_iconst (v := 1) C.1 C.2.1 dX7_areParameters_12 (by decide) ?_
      refine lv_goto (tgt := 47) C.1 C.2.1 dX7_areParameters_13 (by decide) ?_
      exact endRz C rfl hf dX7_areParameters_47
end
theorem vX7_areParameters : YV yX7_areParameters cX7_areParameters 3 (some .boolean) 2 := ⟨⟨wK_X7_areParameters, wZ_X7, by decide +kernel⟩, wI_X7_areParameters, wV_X7_areParameters⟩
def fX2_areMethodMarks (u : ST) (x0 : Int32) : Option Int32 :=
  if x0 < 0 then
    some 0
  else
    if 8 < x0 then
      some 0
    else
      some 1
section
variable {p : Program} {l : Launch} {e : Env} {s : State} {m : MethodId} {args : Array Value} {below : List Frame} {meth : Method} {c : Code} {H : Heap} {locs : List Loc} {g : GP} {ls : Array Slot} {A : Nat → Prop} {ad : Nat → Nat} {u : ST}
set_option maxRecDepth 100000 in
set_option maxHeartbeats 4000000 in
theorem mX2_areMethodMarks {r0 : Int32} {x0 : Int32} (hf : fX2_areMethodMarks u x0 = some r0) : MRi l yX2_areMethodMarks cX2_areMethodMarks 1 (some .boolean) 0 0 [.int x0] g (cW g ad u) r0 := by
  refine entR (by decide) (Nat.le_of_ble_eq_true rfl) ?_
  intro p e s m below meth c ls C hP hZ hl
  have hl : lv_has ls 1 [(0, .int x0)] := hl
  rw [fX2_areMethodMarks] at hf
  refine lv_iload_n C.1 C.2.1 dX2_areMethodMarks_0 rfl (lv_at hl 0 rfl) ?_
  refine lv_if_lt (tgt := 14) C.1 C.2.1 dX2_areMethodMarks_1 (by decide) (fun c1 => ?_) (fun c1 => ?_)
  · rw [if_pos c1] at hf
    refine lv_iconst (v := 0) C.1 C.2.1 dX2_areMethodMarks_14 (by decide) ?_
    exact endRz C rfl hf dX2_areMethodMarks_15
  · rw [if_neg c1] at hf
    refine lv_iload_n C.1 C.2.1 dX2_areMethodMarks_4 rfl (lv_at hl 0 rfl) ?_
    refine lv_bipush (v := 8) C.1 C.2.1 dX2_areMethodMarks_5 (by decide) ?_
    refine lv_icmp_gt (tgt := 14) C.1 C.2.1 dX2_areMethodMarks_7 (by decide) (fun c2 => ?_) (fun c2 => ?_)
    · rw [if_pos c2] at hf
      refine lv_iconst (v := 0) C.1 C.2.1 dX2_areMethodMarks_14 (by decide) ?_
      exact endRz C rfl hf dX2_areMethodMarks_15
    · rw [if_neg c2] at hf
      refine lv_iconst (v := 1) C.1 C.2.1 dX2_areMethodMarks_10 (by decide) ?_
      refine lv_goto (tgt := 15) C.1 C.2.1 dX2_areMethodMarks_11 (by decide) ?_
      exact endRz C rfl hf dX2_areMethodMarks_15
end
theorem vX2_areMethodMarks : YS yX2_areMethodMarks cX2_areMethodMarks 1 (some .boolean) 1 := ⟨⟨wK_X2_areMethodMarks, wZ_X2, by decide +kernel⟩, wS_X2_areMethodMarks⟩
def fX6_methodOf_L68 (u : ST) (K3 : Int32 → Int32 → Int32 → Int32 → Int32 → Option Int32) (x1 : Int32) (x2 : Int32) (x3 : Int32) (x4 : Int32) (x5 : Int32) : Option Int32 :=
  K3 x1 x2 x3 x4 (x5 + 1)
def fX6_methodOf_L3 (u : ST) : Nat → Int32 → Int32 → Int32 → Int32 → Int32 → Option Int32
  | 0, _, _, _, _, _ => none
  | n + 1, x1, x2, x3, x4, x5 =>
    if 60 ≤ x5 then
      some (-2)
    else
      (rdI u 15 60 x5).bind fun v2 =>
      if v2 = x1 then
        (rdI u 16 60 x5).bind fun v4 =>
        if v4 = 0 then
          fX6_methodOf_L68 u (fX6_methodOf_L3 u n) x1 x2 x3 x4 x5
        else
          (rdI u 17 60 x5).bind fun v6 =>
          if v6 = x2 then
            (rdI u 19 60 x5).bind fun v8 =>
            if v8 = x3 then
              (rdI u 20 60 x5).bind fun v10 =>
              if v10 = x4 then
                some x5
              else
                fX6_methodOf_L68 u (fX6_methodOf_L3 u n) x1 x2 x3 x4 x5
            else
              fX6_methodOf_L68 u (fX6_methodOf_L3 u n) x1 x2 x3 x4 x5
          else
            fX6_methodOf_L68 u (fX6_methodOf_L3 u n) x1 x2 x3 x4 x5
      else
        fX6_methodOf_L68 u (fX6_methodOf_L3 u n) x1 x2 x3 x4 x5
def fX6_methodOf (u : ST) (x1 : Int32) (x2 : Int32) (x3 : Int32) (x4 : Int32) : Option Int32 :=
  fX6_methodOf_L3 u 5000 x1 x2 x3 x4 0
section
variable {p : Program} {l : Launch} {e : Env} {s : State} {m : MethodId} {args : Array Value} {below : List Frame} {meth : Method} {c : Code} {H : Heap} {locs : List Loc} {g : GP} {ls : Array Slot} {A : Nat → Prop} {ad : Nat → Nat} {u : ST}
set_option maxRecDepth 100000 in
set_option maxHeartbeats 4000000 in
theorem bX6_methodOf_L68 {r0 : Int32} {K3 : Int32 → Int32 → Int32 → Int32 → Int32 → Option Int32} {x1 : Int32} {x2 : Int32} {x3 : Int32} {x4 : Int32} {x5 : Int32} (C : Cx p s m args meth c cX6_methodOf 6 RX6 (some .int) g) (hZ : SF (fun _ => False) s) (hK3 : ∀ (x1 : Int32) (x2 : Int32) (x3 : Int32) (x4 : Int32) (x5 : Int32), ∀ (ls : Array Slot), lv_has ls 6 [(0, .ref (ad 3)), (1, .int x1), (2, .int x2), (3, .int x3), (4, .int x4), (5, .int x5)] → K3 x1 x2 x3 x4 x5 = some r0 → W p l e (rmR 0 0) s m args below meth c s.heap [] 0 0 (MQ below (vp_Si (fun r => r = r0)) args s 0 0 (fun _ => False)) (F0 m 3 ls [])) (hP : va_P g.1 vwCl (cW g ad u) s.heap) (hl : lv_has ls 6 [(0, .ref (ad 3)), (1, .int x1), (2, .int x2), (3, .int x3), (4, .int x4), (5, .int x5)]) (hf : fX6_methodOf_L68 u K3 x1 x2 x3 x4 x5 = some r0) : W p l e (rmR 0 0) s m args below meth c s.heap [] 0 0 (MQ below (vp_Si (fun r => r = r0)) args s 0 0 (fun _ => False)) (F0 m 68 ls []) := by
  rw [fX6_methodOf_L68] at hf
  refine lv_iinc (v := (x5 + 1)) (lv' := [(5, .int (x5 + 1)), (0, .ref (ad 3)), (1, .int x1), (2, .int x2), (3, .int x3), (4, .int x4)]) C.1 C.2.1 dX6_methodOf_68 hl (k := 5) rfl rfl (by decide) rfl (fun ls hl => ?_)
  refine lv_goto (tgt := 3) C.1 C.2.1 dX6_methodOf_71 (by decide) ?_
  exact hK3 x1 x2 x3 x4 (x5 + 1) _ (lv_sub hl [1, 2, 3, 4, 5, 0] rfl) hf
set_option maxRecDepth 100000 in
set_option maxHeartbeats 4000000 in
theorem bX6_methodOf_L3 {r0 : Int32} (C : Cx p s m args meth c cX6_methodOf 6 RX6 (some .int) g) (hZ : SF (fun _ => False) s) (n : Nat) : ∀ (x1 : Int32) (x2 : Int32) (x3 : Int32) (x4 : Int32) (x5 : Int32), va_P g.1 vwCl (cW g ad u) s.heap → ∀ (ls : Array Slot), lv_has ls 6 [(0, .ref (ad 3)), (1, .int x1), (2, .int x2), (3, .int x3), (4, .int x4), (5, .int x5)] → fX6_methodOf_L3 u n x1 x2 x3 x4 x5 = some r0 → W p l e (rmR 0 0) s m args below meth c s.heap [] 0 0 (MQ below (vp_Si (fun r => r = r0)) args s 0 0 (fun _ => False)) (F0 m 3 ls []) := by
  induction n with
  | zero =>
    intro x1 x2 x3 x4 x5 hP ls hl hf
    exact absurd hf (by simp [fX6_methodOf_L3])
  | succ n ih0 =>
    intro x1 x2 x3 x4 x5 hP ls hl hf
    have ih := fun (x1 : Int32) (x2 : Int32) (x3 : Int32) (x4 : Int32) (x5 : Int32) => ih0 x1 x2 x3 x4 x5 hP
    rw [fX6_methodOf_L3] at hf
    refine lv_iload C.1 C.2.1 dX6_methodOf_3 (lv_at hl 5 rfl) ?_
    refine lv_bipush (v := 60) C.1 C.2.1 dX6_methodOf_5 (by decide) ?_
    refine lv_icmp_ge (tgt := 74) C.1 C.2.1 dX6_methodOf_7 (by decide) (fun c1 => ?_) (fun c1 => ?_)
    · rw [if_pos c1] at hf
      refine lv_bipush (v := -2) C.1 C.2.1 dX6_methodOf_74 (by decide) ?_
      exact endRi C hf dX6_methodOf_76
    · rw [if_neg c1] at hf
      refine lv_aload_n C.1 C.2.1 dX6_methodOf_10 rfl (lv_at hl 0 rfl) ?_
      refine gtc_X6_owner C hP wF_X6_11 dX6_methodOf_11 ?_
      refine lv_iload C.1 C.2.1 dX6_methodOf_14 (lv_at hl 5 rfl) ?_
      obtain ⟨v2, hv2, hf⟩ := Option.bind_eq_some_iff.mp hf
      refine ldc_15 C hP hv2 dX6_methodOf_16 ?_
      refine lv_iload_n C.1 C.2.1 dX6_methodOf_17 rfl (lv_at hl 1 rfl) ?_
      refine lv_icmp_ne (tgt := 68) C.1 C.2.1 dX6_methodOf_18 (by decide) (fun c3 => ?_) (fun c3 => ?_)
      · rw [if_neg c3] at hf
        exact bX6_methodOf_L68 C hZ ih hP (lv_sub hl [0, 1, 2, 3, 4, 5] rfl) hf
      · rw [if_pos c3] at hf
        refine lv_aload_n C.1 C.2.1 dX6_methodOf_21 rfl (lv_at hl 0 rfl) ?_
        refine gtc_X6_isMethod C hP wF_X6_15 dX6_methodOf_22 ?_
        refine lv_iload C.1 C.2.1 dX6_methodOf_25 (lv_at hl 5 rfl) ?_
        obtain ⟨v4, hv4, hf⟩ := Option.bind_eq_some_iff.mp hf
        refine ldc_16 C hP hv4 dX6_methodOf_27 ?_
        refine lv_if_eq (tgt := 68) C.1 C.2.1 dX6_methodOf_28 (by decide) (fun c5 => ?_) (fun c5 => ?_)
        · rw [if_pos c5] at hf
          exact bX6_methodOf_L68 C hZ ih hP (lv_sub hl [0, 1, 2, 3, 4, 5] rfl) hf
        · rw [if_neg c5] at hf
          refine lv_aload_n C.1 C.2.1 dX6_methodOf_31 rfl (lv_at hl 0 rfl) ?_
          refine gtc_X6_name C hP wF_X6_19 dX6_methodOf_32 ?_
          refine lv_iload C.1 C.2.1 dX6_methodOf_35 (lv_at hl 5 rfl) ?_
          obtain ⟨v6, hv6, hf⟩ := Option.bind_eq_some_iff.mp hf
          refine ldc_17 C hP hv6 dX6_methodOf_37 ?_
          refine lv_iload_n C.1 C.2.1 dX6_methodOf_38 rfl (lv_at hl 2 rfl) ?_
          refine lv_icmp_ne (tgt := 68) C.1 C.2.1 dX6_methodOf_39 (by decide) (fun c7 => ?_) (fun c7 => ?_)
          · rw [if_neg c7] at hf
            exact bX6_methodOf_L68 C hZ ih hP (lv_sub hl [0, 1, 2, 3, 4, 5] rfl) hf
          · rw [if_pos c7] at hf
            refine lv_aload_n C.1 C.2.1 dX6_methodOf_42 rfl (lv_at hl 0 rfl) ?_
            refine gtc_X6_first C hP wF_X6_25 dX6_methodOf_43 ?_
            refine lv_iload C.1 C.2.1 dX6_methodOf_46 (lv_at hl 5 rfl) ?_
            obtain ⟨v8, hv8, hf⟩ := Option.bind_eq_some_iff.mp hf
            refine ldc_19 C hP hv8 dX6_methodOf_48 ?_
            refine lv_iload_n C.1 C.2.1 dX6_methodOf_49 rfl (lv_at hl 3 rfl) ?_
            refine lv_icmp_ne (tgt := 68) C.1 C.2.1 dX6_methodOf_50 (by decide) (fun c9 => ?_) (fun c9 => ?_)
            · rw [if_neg c9] at hf
              exact bX6_methodOf_L68 C hZ ih hP (lv_sub hl [0, 1, 2, 3, 4, 5] rfl) hf
            · rw [if_pos c9] at hf
              refine lv_aload_n C.1 C.2.1 dX6_methodOf_53 rfl (lv_at hl 0 rfl) ?_
              refine gtc_X6_second C hP wF_X6_28 dX6_methodOf_54 ?_
              refine lv_iload C.1 C.2.1 dX6_methodOf_57 (lv_at hl 5 rfl) ?_
              obtain ⟨v10, hv10, hf⟩ := Option.bind_eq_some_iff.mp hf
              refine ldc_20 C hP hv10 dX6_methodOf_59 ?_
              refine lv_iload C.1 C.2.1 dX6_methodOf_60 (lv_at hl 4 rfl) ?_
              refine lv_icmp_ne (tgt := 68) C.1 C.2.1 dX6_methodOf_62 (by decide) (fun c11 => ?_) (fun c11 => ?_)
              · rw [if_neg c11] at hf
                exact bX6_methodOf_L68 C hZ ih hP (lv_sub hl [0, 1, 2, 3, 4, 5] rfl) hf
              · rw [if_pos c11] at hf
                refine lv_iload C.1 C.2.1 dX6_methodOf_65 (lv_at hl 5 rfl) ?_
                exact endRi C hf dX6_methodOf_67
set_option maxRecDepth 100000 in
set_option maxHeartbeats 4000000 in
theorem mX6_methodOf {r0 : Int32} {x1 : Int32} {x2 : Int32} {x3 : Int32} {x4 : Int32} (hf : fX6_methodOf u x1 x2 x3 x4 = some r0) : MRi l yX6_methodOf cX6_methodOf 6 (some .int) 0 0 [.ref (ad 3), .int x1, .int x2, .int x3, .int x4] g (cW g ad u) r0 := by
  refine entR (by decide) (Nat.le_of_ble_eq_true rfl) ?_
  intro p e s m below meth c ls C hP hZ hl
  have hl : lv_has ls 6 [(0, .ref (ad 3)), (1, .int x1), (2, .int x2), (3, .int x3), (4, .int x4)] := hl
  rw [fX6_methodOf] at hf
  refine lv_iconst (v := 0) C.1 C.2.1 dX6_methodOf_0 (by decide) ?_
  refine lv_istore (lv' := [(5, .int 0), (0, .ref (ad 3)), (1, .int x1), (2, .int x2), (3, .int x3), (4, .int x4)]) C.1 C.2.1 dX6_methodOf_1 hl (by decide) rfl (fun ls hl => ?_)
  exact bX6_methodOf_L3 C hZ 5000 x1 x2 x3 x4 0 hP _ (lv_sub hl [1, 2, 3, 4, 5, 0] rfl) hf
end
theorem vX6_methodOf : YV yX6_methodOf cX6_methodOf 6 (some .int) 4 := ⟨⟨wK_X6_methodOf, wZ_X6, by decide +kernel⟩, wI_X6_methodOf, wV_X6_methodOf⟩
def fX2_methodMayCome (u : ST) (x1 : Int32) (x2 : Int32) (x3 : Int32) (x4 : Int32) (x5 : Int32) : Option Int32 :=
  (fX7_isType u x1).bind fun v1 =>
  if v1 = 0 then
    some 0
  else
    (fX6_isName u x2).bind fun v3 =>
    if v3 = 0 then
      some 0
    else
      (fX7_areParameters u x3 x4).bind fun v5 =>
      if v5 = 0 then
        some 0
      else
        (fX2_areMethodMarks u x5).bind fun v7 =>
        if v7 = 0 then
          some 0
        else
          (fX6_methodOf u x1 x2 x3 x4).bind fun v9 =>
          if v9 = (-2) then
            some 1
          else
            some 0
section
variable {p : Program} {l : Launch} {e : Env} {s : State} {m : MethodId} {args : Array Value} {below : List Frame} {meth : Method} {c : Code} {H : Heap} {locs : List Loc} {g : GP} {ls : Array Slot} {A : Nat → Prop} {ad : Nat → Nat} {u : ST}
set_option maxRecDepth 100000 in
set_option maxHeartbeats 4000000 in
theorem mX2_methodMayCome {r0 : Int32} {x1 : Int32} {x2 : Int32} {x3 : Int32} {x4 : Int32} {x5 : Int32} (hf : fX2_methodMayCome u x1 x2 x3 x4 x5 = some r0) : MRi l yX2_methodMayCome cX2_methodMayCome 6 (some .boolean) 2 43 [.ref (ad 1), .int x1, .int x2, .int x3, .int x4, .int x5] g (cW g ad u) r0 := by
  refine entR (by decide) (Nat.le_of_ble_eq_true rfl) ?_
  intro p e s m below meth c ls C hP hZ hl
  have hl : lv_has ls 6 [(0, .ref (ad 1)), (1, .int x1), (2, .int x2), (3, .int x3), (4, .int x4), (5, .int x5)] := hl
  rw [fX2_methodMayCome] at hf
  refine lv_aload_n C.1 C.2.1 dX2_methodMayCome_0 rfl (lv_at hl 0 rfl) ?_
  refine gtc_X2_types C hP wF_X2_12 dX2_methodMayCome_1 ?_
  refine lv_iload_n C.1 C.2.1 dX2_methodMayCome_4 rfl (lv_at hl 1 rfl) ?_
  obtain ⟨v1, hv1, hf⟩ := Option.bind_eq_some_iff.mp hf
  refine cRi (As := [.int x1]) (rest := []) C (mX7_isType hv1) vX7_isType wM_X2_84 ⟨Nat.le_of_ble_eq_true rfl, Nat.le_of_ble_eq_true rfl⟩ hP (rcc_X7 C hP) (fun U hU hW => SF.go hZ va_S.rf hU hW (fun _ h => h)) hl.1 rfl rfl (Nat.le_of_ble_eq_true rfl) dX2_methodMayCome_5 ⟨Nat.le_of_ble_eq_true rfl, Nat.le_of_ble_eq_true rfl⟩ ?_
  refine lv_if_eq (tgt := 60) C.1 C.2.1 dX2_methodMayCome_8 (by decide) (fun c2 => ?_) (fun c2 => ?_)
  · rw [if_pos c2] at hf
    refine lv_iconst (v := 0) C.1 C.2.1 dX2_methodMayCome_60 (by decide) ?_
    exact endRz C rfl hf dX2_methodMayCome_61
  · rw [if_neg c2] at hf
    refine lv_iload_n C.1 C.2.1 dX2_methodMayCome_11 rfl (lv_at hl 2 rfl) ?_
    obtain ⟨v3, hv3, hf⟩ := Option.bind_eq_some_iff.mp hf
    refine cSi (As := [.int x2]) (rest := []) C (mX6_isName hv3) vX6_isName wM_X2_88 ⟨Nat.le_of_ble_eq_true rfl, Nat.le_of_ble_eq_true rfl⟩ hP (fun U hU hW => SF.go hZ va_S.rf hU hW (fun _ h => h)) hl.1 rfl rfl (Nat.le_of_ble_eq_true rfl) dX2_methodMayCome_12 ⟨Nat.le_of_ble_eq_true rfl, Nat.le_of_ble_eq_true rfl⟩ ?_
    refine lv_if_eq (tgt := 60) C.1 C.2.1 dX2_methodMayCome_15 (by decide) (fun c4 => ?_) (fun c4 => ?_)
    · rw [if_pos c4] at hf
      refine lv_iconst (v := 0) C.1 C.2.1 dX2_methodMayCome_60 (by decide) ?_
      exact endRz C rfl hf dX2_methodMayCome_61
    · rw [if_neg c4] at hf
      refine lv_aload_n C.1 C.2.1 dX2_methodMayCome_18 rfl (lv_at hl 0 rfl) ?_
      refine gtc_X2_types C hP wF_X2_12 dX2_methodMayCome_19 ?_
      refine lv_iload_n C.1 C.2.1 dX2_methodMayCome_22 rfl (lv_at hl 3 rfl) ?_
      refine lv_iload C.1 C.2.1 dX2_methodMayCome_23 (lv_at hl 4 rfl) ?_
      obtain ⟨v5, hv5, hf⟩ := Option.bind_eq_some_iff.mp hf
      refine cRi (As := [.int x3, .int x4]) (rest := []) C (mX7_areParameters hv5) vX7_areParameters wM_X2_103 ⟨Nat.le_of_ble_eq_true rfl, Nat.le_of_ble_eq_true rfl⟩ hP (rcc_X7 C hP) (fun U hU hW => SF.go hZ va_S.rf hU hW (fun _ h => h)) hl.1 rfl rfl (Nat.le_of_ble_eq_true rfl) dX2_methodMayCome_25 ⟨Nat.le_of_ble_eq_true rfl, Nat.le_of_ble_eq_true rfl⟩ ?_
      refine lv_if_eq (tgt := 60) C.1 C.2.1 dX2_methodMayCome_28 (by decide) (fun c6 => ?_) (fun c6 => ?_)
      · rw [if_pos c6] at hf
        refine lv_iconst (v := 0) C.1 C.2.1 dX2_methodMayCome_60 (by decide) ?_
        exact endRz C rfl hf dX2_methodMayCome_61
      · rw [if_neg c6] at hf
        refine lv_iload C.1 C.2.1 dX2_methodMayCome_31 (lv_at hl 5 rfl) ?_
        obtain ⟨v7, hv7, hf⟩ := Option.bind_eq_some_iff.mp hf
        refine cSi (As := [.int x5]) (rest := []) C (mX2_areMethodMarks hv7) vX2_areMethodMarks wM_X2_106 ⟨Nat.le_of_ble_eq_true rfl, Nat.le_of_ble_eq_true rfl⟩ hP (fun U hU hW => SF.go hZ va_S.rf hU hW (fun _ h => h)) hl.1 rfl rfl (Nat.le_of_ble_eq_true rfl) dX2_methodMayCome_33 ⟨Nat.le_of_ble_eq_true rfl, Nat.le_of_ble_eq_true rfl⟩ ?_
        refine lv_if_eq (tgt := 60) C.1 C.2.1 dX2_methodMayCome_36 (by decide) (fun c8 => ?_) (fun c8 => ?_)
        · rw [if_pos c8] at hf
          refine lv_iconst (v := 0) C.1 C.2.1 dX2_methodMayCome_60 (by decide) ?_
          exact endRz C rfl hf dX2_methodMayCome_61
        · rw [if_neg c8] at hf
          refine lv_aload_n C.1 C.2.1 dX2_methodMayCome_39 rfl (lv_at hl 0 rfl) ?_
          refine gtc_X2_members C hP wF_X2_21 dX2_methodMayCome_40 ?_
          refine lv_iload_n C.1 C.2.1 dX2_methodMayCome_43 rfl (lv_at hl 1 rfl) ?_
          refine lv_iload_n C.1 C.2.1 dX2_methodMayCome_44 rfl (lv_at hl 2 rfl) ?_
          refine lv_iload_n C.1 C.2.1 dX2_methodMayCome_45 rfl (lv_at hl 3 rfl) ?_
          refine lv_iload C.1 C.2.1 dX2_methodMayCome_46 (lv_at hl 4 rfl) ?_
          obtain ⟨v9, hv9, hf⟩ := Option.bind_eq_some_iff.mp hf
          refine cRi (As := [.int x1, .int x2, .int x3, .int x4]) (rest := []) C (mX6_methodOf hv9) vX6_methodOf wM_X2_109 ⟨Nat.le_of_ble_eq_true rfl, Nat.le_of_ble_eq_true rfl⟩ hP (rcc_X6 C hP) (fun U hU hW => SF.go hZ va_S.rf hU hW (fun _ h => h)) hl.1 rfl rfl (Nat.le_of_ble_eq_true rfl) dX2_methodMayCome_48 ⟨Nat.le_of_ble_eq_true rfl, Nat.le_of_ble_eq_true rfl⟩ ?_
          refine lv_bipush (v := -2) C.1 C.2.1 dX2_methodMayCome_51 (by decide) ?_
          refine lv_icmp_ne (tgt := 60) C.1 C.2.1 dX2_methodMayCome_53 (by decide) (fun c10 => ?_) (fun c10 => ?_)
          · rw [if_neg c10] at hf
            refine lv_iconst (v := 0) C.1 C.2.1 dX2_methodMayCome_60 (by decide) ?_
            exact endRz C rfl hf dX2_methodMayCome_61
          · rw [if_pos c10] at hf
            refine lv_iconst (v := 1) C.1 C.2.1 dX2_methodMayCome_56 (by decide) ?_
            refine lv_goto (tgt := 61) C.1 C.2.1 dX2_methodMayCome_57 (by decide) ?_
            exact endRz C rfl hf dX2_methodMayCome_61
end
theorem vX2_methodMayCome : YV yX2_methodMayCome cX2_methodMayCome 6 (some .boolean) 5 := ⟨⟨wK_X2_methodMayCome, wZ_X2, by decide +kernel⟩, wI_X2_methodMayCome, wV_X2_methodMayCome⟩
def fX8_method (u : ST) (x1 : Int32) (x2 : Int32) (x3 : Int32) (x4 : Int32) (x5 : Int32) (x6 : Int32) : Option NR :=
  (fX2_methodMayCome u x1 x2 x3 x4 x5).bind fun v1 =>
  if v1 = 0 then
    some (.inl ((-1), u))
  else
    (fX6_isFull u).bind fun v3 =>
    if v3 = 0 then
      some (.inr fun q5 =>
        (some (qN u q5 true)).bind fun u6 =>
        (fX1_init u6 q5 6 x1 x2 x3 x4 x5 ((x6 : Int32).toInt64)).bind fun u7 =>
        b2 (fX8_carryOut u7 q5) fun v9 u8 =>
        some (v9, u8))
    else
      some (.inl ((-3), u))
section
variable {p : Program} {l : Launch} {e : Env} {s : State} {m : MethodId} {args : Array Value} {below : List Frame} {meth : Method} {c : Code} {H : Heap} {locs : List Loc} {g : GP} {ls : Array Slot} {A : Nat → Prop} {ad : Nat → Nat} {u : ST}
set_option maxRecDepth 100000 in
set_option maxHeartbeats 4000000 in
theorem mX8_method {x : NR} {x1 : Int32} {x2 : Int32} {x3 : Int32} {x4 : Int32} {x5 : Int32} {x6 : Int32} (hf : fX8_method u x1 x2 x3 x4 x5 x6 = some x) (hok : okN u x) : MNi l yX8_method cX8_method 7 (some .int) 6 137 1 7 [.ref (ad 0), .int x1, .int x2, .int x3, .int x4, .int x5, .int x6] g (cW g ad) u x := by
  refine entW (Qc := fun A => va_Qi (poN u x) (BW g A (cW g ad)) A) (by decide) (Nat.le_of_ble_eq_true rfl) ?_
  intro p e s m below meth c ls A C hP hD hS hA hZ hl
  have hl : lv_has ls 7 [(0, .ref (ad 0)), (1, .int x1), (2, .int x2), (3, .int x3), (4, .int x4), (5, .int x5), (6, .int x6)] := hl
  rw [fX8_method] at hf
  refine lv_aload_n C.1 C.2.1 dX8_method_0 rfl (lv_at hl 0 rfl) ?_
  refine gtc_X8_house C hP wF_X8_10 dX8_method_1 ?_
  refine lv_iload_n C.1 C.2.1 dX8_method_4 rfl (lv_at hl 1 rfl) ?_
  refine lv_iload_n C.1 C.2.1 dX8_method_5 rfl (lv_at hl 2 rfl) ?_
  refine lv_iload_n C.1 C.2.1 dX8_method_6 rfl (lv_at hl 3 rfl) ?_
  refine lv_iload C.1 C.2.1 dX8_method_7 (lv_at hl 4 rfl) ?_
  refine lv_iload C.1 C.2.1 dX8_method_9 (lv_at hl 5 rfl) ?_
  obtain ⟨v1, hv1, hf⟩ := Option.bind_eq_some_iff.mp hf
  refine cRi (As := [.int x1, .int x2, .int x3, .int x4, .int x5]) (rest := []) C (mX2_methodMayCome hv1) vX2_methodMayCome wM_X8_105 ⟨Nat.le_of_ble_eq_true rfl, Nat.le_of_ble_eq_true rfl⟩ hP (rcc_X2 C hP) (fun U hU hW => SF.go hZ hS hU hW (fun _ h => h.elim)) hl.1 rfl rfl (Nat.le_of_ble_eq_true rfl) dX8_method_11 ⟨Nat.le_of_ble_eq_true rfl, Nat.le_of_ble_eq_true rfl⟩ ?_
  refine lv_if_ne (tgt := 19) C.1 C.2.1 dX8_method_14 (by decide) (fun c2 => ?_) (fun c2 => ?_)
  · rw [if_neg c2] at hf
    refine lv_aload_n C.1 C.2.1 dX8_method_19 rfl (lv_at hl 0 rfl) ?_
    refine gtc_X8_house C hP wF_X8_10 dX8_method_20 ?_
    refine gtc_X2_members C hP wF_X8_95 dX8_method_23 ?_
    obtain ⟨v3, hv3, hf⟩ := Option.bind_eq_some_iff.mp hf
    refine cRi (As := []) (rest := []) C (mX6_isFull hv3) vX6_isFull wM_X8_99 ⟨Nat.le_of_ble_eq_true rfl, Nat.le_of_ble_eq_true rfl⟩ hP (rcc_X6 C hP) (fun U hU hW => SF.go hZ hS hU hW (fun _ h => h.elim)) hl.1 rfl rfl (Nat.le_of_ble_eq_true rfl) dX8_method_26 ⟨Nat.le_of_ble_eq_true rfl, Nat.le_of_ble_eq_true rfl⟩ ?_
    refine lv_if_eq (tgt := 35) C.1 C.2.1 dX8_method_29 (by decide) (fun c4 => ?_) (fun c4 => ?_)
    · rw [if_pos c4] at hf
      refine lv_aload_n C.1 C.2.1 dX8_method_35 rfl (lv_at hl 0 rfl) ?_
      cases hf
      refine nwE C hP hD hS hA wC_X8_32 (Nat.le_of_ble_eq_true rfl) (Nat.le_of_ble_eq_true rfl) dX8_method_36 (fun q5 H hq hP hD hS => ?_)
      obtain ⟨r0, u0, hf⟩ := hok _ rfl q5 hq
      refine Wmono (Nmono hq hf) ?_
      obtain ⟨u6, hu6, hf⟩ := Option.bind_eq_some_iff.mp hf
      rw [Option.some.inj hu6] at hP hD
      refine lv_dup C.1 C.2.1 dX8_method_39 rfl ?_
      refine lv_bipush (v := 6) C.1 C.2.1 dX8_method_40 (by decide) ?_
      refine lv_iload_n C.1 C.2.1 dX8_method_42 rfl (lv_at hl 1 rfl) ?_
      refine lv_iload_n C.1 C.2.1 dX8_method_43 rfl (lv_at hl 2 rfl) ?_
      refine lv_iload_n C.1 C.2.1 dX8_method_44 rfl (lv_at hl 3 rfl) ?_
      refine lv_iload C.1 C.2.1 dX8_method_45 (lv_at hl 4 rfl) ?_
      refine lv_iload C.1 C.2.1 dX8_method_47 (lv_at hl 5 rfl) ?_
      refine lv_iload C.1 C.2.1 dX8_method_49 (lv_at hl 6 rfl) ?_
      refine lv_i2l C.1 C.2.1 dX8_method_51 rfl ?_
      obtain ⟨u7, hu7, hf⟩ := Option.bind_eq_some_iff.mp hf
      refine cIv (As := [.int 6, .int x1, .int x2, .int x3, .int x4, .int x5, .long ((x6 : Int32).toInt64)]) (rest := [.ref q5, .ref (ad 0)]) (mc := 0) (ms := 0) C (mX1_init hu7) vX1_init wM_X8_63 ⟨Nat.le_of_ble_eq_true rfl, Nat.le_of_ble_eq_true rfl⟩ hP hD hS hA hZ hl.1 rfl rfl (Nat.le_of_ble_eq_true rfl) dX8_method_52 ⟨Nat.le_of_ble_eq_true rfl, Nat.le_of_ble_eq_true rfl⟩ (fun H locs hP hD hS => ?_)
      obtain ⟨v9, u8, hu8, hf⟩ := b2_some hf
      refine cWi (As := [.ref q5]) (rest := []) (mc := 0) (ms := 0) C (mX8_carryOut hu8) vX8_carryOut wM_X8_66 ⟨Nat.le_of_ble_eq_true rfl, Nat.le_of_ble_eq_true rfl⟩ hP hD hS hA hZ (rcc_X8 C hP) hl.1 rfl rfl (Nat.le_of_ble_eq_true rfl) dX8_method_55 ⟨Nat.le_of_ble_eq_true rfl, Nat.le_of_ble_eq_true rfl⟩ (fun H locs hP hD hS => ?_)
      exact endWi C hP hD hS (Nat.le_refl _) (Nat.le_refl _) hf dX8_method_58
    · rw [if_neg c4] at hf
      refine lv_bipush (v := -3) C.1 C.2.1 dX8_method_32 (by decide) ?_
      exact endN C hP hD hS (Nat.zero_le _) (Nat.zero_le _) hf dX8_method_34
  · rw [if_pos c2] at hf
    refine lv_iconst (v := -1) C.1 C.2.1 dX8_method_17 (by decide) ?_
    exact endN C hP hD hS (Nat.zero_le _) (Nat.zero_le _) hf dX8_method_18
end
theorem vX8_method : YV yX8_method cX8_method 7 (some .int) 6 := ⟨⟨wK_X8_method, wZ_X8, by decide +kernel⟩, wI_X8_method, wV_X8_method⟩
def fX8_drop (u : ST) (x1 : Int32) : Option NR :=
  (fX6_isMember u x1).bind fun v1 =>
  if v1 = 0 then
    some (.inl ((-1), u))
  else
    some (.inr fun q3 =>
      (some (qN u q3 true)).bind fun u4 =>
      (fX1_init u4 q3 7 x1 0 0 0 0 0).bind fun u5 =>
      b2 (fX8_carryOut u5 q3) fun v7 u6 =>
      some (v7, u6))
section
variable {p : Program} {l : Launch} {e : Env} {s : State} {m : MethodId} {args : Array Value} {below : List Frame} {meth : Method} {c : Code} {H : Heap} {locs : List Loc} {g : GP} {ls : Array Slot} {A : Nat → Prop} {ad : Nat → Nat} {u : ST}
set_option maxRecDepth 100000 in
set_option maxHeartbeats 4000000 in
theorem mX8_drop {x : NR} {x1 : Int32} (hf : fX8_drop u x1 = some x) (hok : okN u x) : MNi l yX8_drop cX8_drop 2 (some .int) 6 137 1 7 [.ref (ad 0), .int x1] g (cW g ad) u x := by
  refine entW (Qc := fun A => va_Qi (poN u x) (BW g A (cW g ad)) A) (by decide) (Nat.le_of_ble_eq_true rfl) ?_
  intro p e s m below meth c ls A C hP hD hS hA hZ hl
  have hl : lv_has ls 2 [(0, .ref (ad 0)), (1, .int x1)] := hl
  rw [fX8_drop] at hf
  refine lv_aload_n C.1 C.2.1 dX8_drop_0 rfl (lv_at hl 0 rfl) ?_
  refine gtc_X8_house C hP wF_X8_10 dX8_drop_1 ?_
  refine gtc_X2_members C hP wF_X8_95 dX8_drop_4 ?_
  refine lv_iload_n C.1 C.2.1 dX8_drop_7 rfl (lv_at hl 1 rfl) ?_
  obtain ⟨v1, hv1, hf⟩ := Option.bind_eq_some_iff.mp hf
  refine cRi (As := [.int x1]) (rest := []) C (mX6_isMember hv1) vX6_isMember wM_X8_109 ⟨Nat.le_of_ble_eq_true rfl, Nat.le_of_ble_eq_true rfl⟩ hP (rcc_X6 C hP) (fun U hU hW => SF.go hZ hS hU hW (fun _ h => h.elim)) hl.1 rfl rfl (Nat.le_of_ble_eq_true rfl) dX8_drop_8 ⟨Nat.le_of_ble_eq_true rfl, Nat.le_of_ble_eq_true rfl⟩ ?_
  refine lv_if_ne (tgt := 16) C.1 C.2.1 dX8_drop_11 (by decide) (fun c2 => ?_) (fun c2 => ?_)
  · rw [if_neg c2] at hf
    refine lv_aload_n C.1 C.2.1 dX8_drop_16 rfl (lv_at hl 0 rfl) ?_
    cases hf
    refine nwE C hP hD hS hA wC_X8_32 (Nat.le_of_ble_eq_true rfl) (Nat.le_of_ble_eq_true rfl) dX8_drop_17 (fun q3 H hq hP hD hS => ?_)
    obtain ⟨r0, u0, hf⟩ := hok _ rfl q3 hq
    refine Wmono (Nmono hq hf) ?_
    obtain ⟨u4, hu4, hf⟩ := Option.bind_eq_some_iff.mp hf
    rw [Option.some.inj hu4] at hP hD
    refine lv_dup C.1 C.2.1 dX8_drop_20 rfl ?_
    refine lv_bipush (v := 7) C.1 C.2.1 dX8_drop_21 (by decide) ?_
    refine lv_iload_n C.1 C.2.1 dX8_drop_23 rfl (lv_at hl 1 rfl) ?_
    refine lv_iconst (v := 0) C.1 C.2.1 dX8_drop_24 (by decide) ?_
    refine lv_iconst (v := 0) C.1 C.2.1 dX8_drop_25 (by decide) ?_
    refine lv_iconst (v := 0) C.1 C.2.1 dX8_drop_26 (by decide) ?_
    refine lv_iconst (v := 0) C.1 C.2.1 dX8_drop_27 (by decide) ?_
    refine lv_lconst (v := 0) C.1 C.2.1 dX8_drop_28 (by decide) ?_
    obtain ⟨u5, hu5, hf⟩ := Option.bind_eq_some_iff.mp hf
    refine cIv (As := [.int 7, .int x1, .int 0, .int 0, .int 0, .int 0, .long 0]) (rest := [.ref q3, .ref (ad 0)]) (mc := 0) (ms := 0) C (mX1_init hu5) vX1_init wM_X8_63 ⟨Nat.le_of_ble_eq_true rfl, Nat.le_of_ble_eq_true rfl⟩ hP hD hS hA hZ hl.1 rfl rfl (Nat.le_of_ble_eq_true rfl) dX8_drop_29 ⟨Nat.le_of_ble_eq_true rfl, Nat.le_of_ble_eq_true rfl⟩ (fun H locs hP hD hS => ?_)
    obtain ⟨v7, u6, hu6, hf⟩ := b2_some hf
    refine cWi (As := [.ref q3]) (rest := []) (mc := 0) (ms := 0) C (mX8_carryOut hu6) vX8_carryOut wM_X8_66 ⟨Nat.le_of_ble_eq_true rfl, Nat.le_of_ble_eq_true rfl⟩ hP hD hS hA hZ (rcc_X8 C hP) hl.1 rfl rfl (Nat.le_of_ble_eq_true rfl) dX8_drop_32 ⟨Nat.le_of_ble_eq_true rfl, Nat.le_of_ble_eq_true rfl⟩ (fun H locs hP hD hS => ?_)
    exact endWi C hP hD hS (Nat.le_refl _) (Nat.le_refl _) hf dX8_drop_35
  · rw [if_pos c2] at hf
    refine lv_iconst (v := -1) C.1 C.2.1 dX8_drop_14 (by decide) ?_
    exact endN C hP hD hS (Nat.zero_le _) (Nat.zero_le _) hf dX8_drop_15
end
theorem vX8_drop : YV yX8_drop cX8_drop 2 (some .int) 1 := ⟨⟨wK_X8_drop, wZ_X8, by decide +kernel⟩, wI_X8_drop, wV_X8_drop⟩
def fX6_isMethod (u : ST) (x1 : Int32) : Option Int32 :=
  if x1 < 0 then
    some 0
  else
    if 60 ≤ x1 then
      some 0
    else
      (rdI u 15 60 x1).bind fun v3 =>
      if v3 = (-2) then
        some 0
      else
        (rdI u 16 60 x1).bind fun v5 =>
        if v5 = 0 then
          some 0
        else
          some 1
section
variable {p : Program} {l : Launch} {e : Env} {s : State} {m : MethodId} {args : Array Value} {below : List Frame} {meth : Method} {c : Code} {H : Heap} {locs : List Loc} {g : GP} {ls : Array Slot} {A : Nat → Prop} {ad : Nat → Nat} {u : ST}
set_option maxRecDepth 100000 in
set_option maxHeartbeats 4000000 in
theorem mX6_isMethod {r0 : Int32} {x1 : Int32} (hf : fX6_isMethod u x1 = some r0) : MRi l yX6_isMethod cX6_isMethod 2 (some .boolean) 0 0 [.ref (ad 3), .int x1] g (cW g ad u) r0 := by
  refine entR (by decide) (Nat.le_of_ble_eq_true rfl) ?_
  intro p e s m below meth c ls C hP hZ hl
  have hl : lv_has ls 2 [(0, .ref (ad 3)), (1, .int x1)] := hl
  rw [fX6_isMethod] at hf
  refine lv_iload_n C.1 C.2.1 dX6_isMethod_0 rfl (lv_at hl 1 rfl) ?_
  refine lv_if_lt (tgt := 34) C.1 C.2.1 dX6_isMethod_1 (by decide) (fun c1 => ?_) (fun c1 => ?_)
  · rw [if_pos c1] at hf
    refine lv_iconst (v := 0) C.1 C.2.1 dX6_isMethod_34 (by decide) ?_
    exact endRz C rfl hf dX6_isMethod_35
  · rw [if_neg c1] at hf
    refine lv_iload_n C.1 C.2.1 dX6_isMethod_4 rfl (lv_at hl 1 rfl) ?_
    refine lv_bipush (v := 60) C.1 C.2.1 dX6_isMethod_5 (by decide) ?_
    refine lv_icmp_ge (tgt := 34) C.1 C.2.1 dX6_isMethod_7 (by decide) (fun c2 => ?_) (fun c2 => ?_)
    · rw [if_pos c2] at hf
      refine lv_iconst (v := 0) C.1 C.2.1 dX6_isMethod_34 (by decide) ?_
      exact endRz C rfl hf dX6_isMethod_35
    · rw [if_neg c2] at hf
      refine lv_aload_n C.1 C.2.1 dX6_isMethod_10 rfl (lv_at hl 0 rfl) ?_
      refine gtc_X6_owner C hP wF_X6_11 dX6_isMethod_11 ?_
      refine lv_iload_n C.1 C.2.1 dX6_isMethod_14 rfl (lv_at hl 1 rfl) ?_
      obtain ⟨v3, hv3, hf⟩ := Option.bind_eq_some_iff.mp hf
      refine ldc_15 C hP hv3 dX6_isMethod_15 ?_
      refine lv_bipush (v := -2) C.1 C.2.1 dX6_isMethod_16 (by decide) ?_
      refine lv_icmp_eq (tgt := 34) C.1 C.2.1 dX6_isMethod_18 (by decide) (fun c4 => ?_) (fun c4 => ?_)
      · rw [if_pos c4] at hf
        refine lv_iconst (v := 0) C.1 C.2.1 dX6_isMethod_34 (by decide) ?_
        exact endRz C rfl hf dX6_isMethod_35
      · rw [if_neg c4] at hf
        refine lv_aload_n C.1 C.2.1 dX6_isMethod_21 rfl (lv_at hl 0 rfl) ?_
        refine gtc_X6_isMethod C hP wF_X6_15 dX6_isMethod_22 ?_
        refine lv_iload_n C.1 C.2.1 dX6_isMethod_25 rfl (lv_at hl 1 rfl) ?_
        obtain ⟨v5, hv5, hf⟩ := Option.bind_eq_some_iff.mp hf
        refine ldc_16 C hP hv5 dX6_isMethod_26 ?_
        refine lv_if_eq (tgt := 34) C.1 C.2.1 dX6_isMethod_27 (by decide) (fun c6 => ?_) (fun c6 => ?_)
        · rw [if_pos c6] at hf
          refine lv_iconst (v := 0) C.1 C.2.1 dX6_isMethod_34 (by decide) ?_
          exact endRz C rfl hf dX6_isMethod_35
        · rw [if_neg c6] at hf
          refine lv_iconst (v := 1) C.1 C.2.1 dX6_isMethod_30 (by decide) ?_
          refine lv_goto (tgt := 35) C.1 C.2.1 dX6_isMethod_31 (by decide) ?_
          exact endRz C rfl hf dX6_isMethod_35
end
theorem vX6_isMethod : YV yX6_isMethod cX6_isMethod 2 (some .boolean) 1 := ⟨⟨wK_X6_isMethod, wZ_X6, by decide +kernel⟩, wI_X6_isMethod, wV_X6_isMethod⟩
def fX2_mayBeMarked (u : ST) (x1 : Int32) (x2 : Int32) : Option Int32 :=
  (fX6_isMember u x1).bind fun v1 =>
  if v1 = 0 then
    some 0
  else
    (fX6_isMethod u x1).bind fun v3 =>
    if v3 = 0 then
      (rdI u 15 60 x1).bind fun v5 =>
      (fX2_areFieldMarks u v5 x2).bind fun v6 =>
      ck (isB v6) (some v6)
    else
      (fX2_areMethodMarks u x2).bind fun v7 =>
      ck (isB v7) (some v7)
section
variable {p : Program} {l : Launch} {e : Env} {s : State} {m : MethodId} {args : Array Value} {below : List Frame} {meth : Method} {c : Code} {H : Heap} {locs : List Loc} {g : GP} {ls : Array Slot} {A : Nat → Prop} {ad : Nat → Nat} {u : ST}
set_option maxRecDepth 100000 in
set_option maxHeartbeats 4000000 in
theorem mX2_mayBeMarked {r0 : Int32} {x1 : Int32} {x2 : Int32} (hf : fX2_mayBeMarked u x1 x2 = some r0) : MRi l yX2_mayBeMarked cX2_mayBeMarked 3 (some .boolean) 2 44 [.ref (ad 1), .int x1, .int x2] g (cW g ad u) r0 := by
  refine entR (by decide) (Nat.le_of_ble_eq_true rfl) ?_
  intro p e s m below meth c ls C hP hZ hl
  have hl : lv_has ls 3 [(0, .ref (ad 1)), (1, .int x1), (2, .int x2)] := hl
  rw [fX2_mayBeMarked] at hf
  refine lv_aload_n C.1 C.2.1 dX2_mayBeMarked_0 rfl (lv_at hl 0 rfl) ?_
  refine gtc_X2_members C hP wF_X2_21 dX2_mayBeMarked_1 ?_
  refine lv_iload_n C.1 C.2.1 dX2_mayBeMarked_4 rfl (lv_at hl 1 rfl) ?_
  obtain ⟨v1, hv1, hf⟩ := Option.bind_eq_some_iff.mp hf
  refine cRi (As := [.int x1]) (rest := []) C (mX6_isMember hv1) vX6_isMember wM_X2_113 ⟨Nat.le_of_ble_eq_true rfl, Nat.le_of_ble_eq_true rfl⟩ hP (rcc_X6 C hP) (fun U hU hW => SF.go hZ va_S.rf hU hW (fun _ h => h)) hl.1 rfl rfl (Nat.le_of_ble_eq_true rfl) dX2_mayBeMarked_5 ⟨Nat.le_of_ble_eq_true rfl, Nat.le_of_ble_eq_true rfl⟩ ?_
  refine lv_if_ne (tgt := 13) C.1 C.2.1 dX2_mayBeMarked_8 (by decide) (fun c2 => ?_) (fun c2 => ?_)
  · rw [if_neg c2] at hf
    refine lv_aload_n C.1 C.2.1 dX2_mayBeMarked_13 rfl (lv_at hl 0 rfl) ?_
    refine gtc_X2_members C hP wF_X2_21 dX2_mayBeMarked_14 ?_
    refine lv_iload_n C.1 C.2.1 dX2_mayBeMarked_17 rfl (lv_at hl 1 rfl) ?_
    obtain ⟨v3, hv3, hf⟩ := Option.bind_eq_some_iff.mp hf
    refine cRi (As := [.int x1]) (rest := []) C (mX6_isMethod hv3) vX6_isMethod wM_X2_116 ⟨Nat.le_of_ble_eq_true rfl, Nat.le_of_ble_eq_true rfl⟩ hP (rcc_X6 C hP) (fun U hU hW => SF.go hZ va_S.rf hU hW (fun _ h => h)) hl.1 rfl rfl (Nat.le_of_ble_eq_true rfl) dX2_mayBeMarked_18 ⟨Nat.le_of_ble_eq_true rfl, Nat.le_of_ble_eq_true rfl⟩ ?_
    refine lv_if_eq (tgt := 31) C.1 C.2.1 dX2_mayBeMarked_21 (by decide) (fun c4 => ?_) (fun c4 => ?_)
    · rw [if_pos c4] at hf
      refine lv_aload_n C.1 C.2.1 dX2_mayBeMarked_31 rfl (lv_at hl 0 rfl) ?_
      refine lv_aload_n C.1 C.2.1 dX2_mayBeMarked_32 rfl (lv_at hl 0 rfl) ?_
      refine gtc_X2_members C hP wF_X2_21 dX2_mayBeMarked_33 ?_
      refine gtc_X6_owner C hP wF_X2_119 dX2_mayBeMarked_36 ?_
      refine lv_iload_n C.1 C.2.1 dX2_mayBeMarked_39 rfl (lv_at hl 1 rfl) ?_
      obtain ⟨v5, hv5, hf⟩ := Option.bind_eq_some_iff.mp hf
      refine ldc_15 C hP hv5 dX2_mayBeMarked_40 ?_
      refine lv_iload_n C.1 C.2.1 dX2_mayBeMarked_41 rfl (lv_at hl 2 rfl) ?_
      obtain ⟨v6, hv6, hf⟩ := Option.bind_eq_some_iff.mp hf
      refine cRi (As := [.int v5, .int x2]) (rest := []) C (mX2_areFieldMarks hv6) vX2_areFieldMarks wM_X2_96 ⟨Nat.le_of_ble_eq_true rfl, Nat.le_of_ble_eq_true rfl⟩ hP (rcc_X2 C hP) (fun U hU hW => SF.go hZ va_S.rf hU hW (fun _ h => h)) hl.1 rfl rfl (Nat.le_of_ble_eq_true rfl) dX2_mayBeMarked_42 ⟨Nat.le_of_ble_eq_true rfl, Nat.le_of_ble_eq_true rfl⟩ ?_
      obtain ⟨hB, hf⟩ := ck_some hf
      exact endRz C hB hf dX2_mayBeMarked_45
    · rw [if_neg c4] at hf
      refine lv_iload_n C.1 C.2.1 dX2_mayBeMarked_24 rfl (lv_at hl 2 rfl) ?_
      obtain ⟨v7, hv7, hf⟩ := Option.bind_eq_some_iff.mp hf
      refine cSi (As := [.int x2]) (rest := []) C (mX2_areMethodMarks hv7) vX2_areMethodMarks wM_X2_106 ⟨Nat.le_of_ble_eq_true rfl, Nat.le_of_ble_eq_true rfl⟩ hP (fun U hU hW => SF.go hZ va_S.rf hU hW (fun _ h => h)) hl.1 rfl rfl (Nat.le_of_ble_eq_true rfl) dX2_mayBeMarked_25 ⟨Nat.le_of_ble_eq_true rfl, Nat.le_of_ble_eq_true rfl⟩ ?_
      refine lv_goto (tgt := 45) C.1 C.2.1 dX2_mayBeMarked_28 (by decide) ?_
      obtain ⟨hB, hf⟩ := ck_some hf
      exact endRz C hB hf dX2_mayBeMarked_45
  · rw [if_pos c2] at hf
    refine lv_iconst (v := 0) C.1 C.2.1 dX2_mayBeMarked_11 (by decide) ?_
    exact endRz C rfl hf dX2_mayBeMarked_12
end
theorem vX2_mayBeMarked : YV yX2_mayBeMarked cX2_mayBeMarked 3 (some .boolean) 2 := ⟨⟨wK_X2_mayBeMarked, wZ_X2, by decide +kernel⟩, wI_X2_mayBeMarked, wV_X2_mayBeMarked⟩
def fX8_mark (u : ST) (x1 : Int32) (x2 : Int32) : Option NR :=
  (fX2_mayBeMarked u x1 x2).bind fun v1 =>
  if v1 = 0 then
    some (.inl ((-1), u))
  else
    some (.inr fun q3 =>
      (some (qN u q3 true)).bind fun u4 =>
      (fX1_init u4 q3 8 x1 x2 0 0 0 0).bind fun u5 =>
      b2 (fX8_carryOut u5 q3) fun v7 u6 =>
      some (v7, u6))
section
variable {p : Program} {l : Launch} {e : Env} {s : State} {m : MethodId} {args : Array Value} {below : List Frame} {meth : Method} {c : Code} {H : Heap} {locs : List Loc} {g : GP} {ls : Array Slot} {A : Nat → Prop} {ad : Nat → Nat} {u : ST}
set_option maxRecDepth 100000 in
set_option maxHeartbeats 4000000 in
theorem mX8_mark {x : NR} {x1 : Int32} {x2 : Int32} (hf : fX8_mark u x1 x2 = some x) (hok : okN u x) : MNi l yX8_mark cX8_mark 3 (some .int) 6 137 1 7 [.ref (ad 0), .int x1, .int x2] g (cW g ad) u x := by
  refine entW (Qc := fun A => va_Qi (poN u x) (BW g A (cW g ad)) A) (by decide) (Nat.le_of_ble_eq_true rfl) ?_
  intro p e s m below meth c ls A C hP hD hS hA hZ hl
  have hl : lv_has ls 3 [(0, .ref (ad 0)), (1, .int x1), (2, .int x2)] := hl
  rw [fX8_mark] at hf
  refine lv_aload_n C.1 C.2.1 dX8_mark_0 rfl (lv_at hl 0 rfl) ?_
  refine gtc_X8_house C hP wF_X8_10 dX8_mark_1 ?_
  refine lv_iload_n C.1 C.2.1 dX8_mark_4 rfl (lv_at hl 1 rfl) ?_
  refine lv_iload_n C.1 C.2.1 dX8_mark_5 rfl (lv_at hl 2 rfl) ?_
  obtain ⟨v1, hv1, hf⟩ := Option.bind_eq_some_iff.mp hf
  refine cRi (As := [.int x1, .int x2]) (rest := []) C (mX2_mayBeMarked hv1) vX2_mayBeMarked wM_X8_112 ⟨Nat.le_of_ble_eq_true rfl, Nat.le_of_ble_eq_true rfl⟩ hP (rcc_X2 C hP) (fun U hU hW => SF.go hZ hS hU hW (fun _ h => h.elim)) hl.1 rfl rfl (Nat.le_of_ble_eq_true rfl) dX8_mark_6 ⟨Nat.le_of_ble_eq_true rfl, Nat.le_of_ble_eq_true rfl⟩ ?_
  refine lv_if_ne (tgt := 14) C.1 C.2.1 dX8_mark_9 (by decide) (fun c2 => ?_) (fun c2 => ?_)
  · rw [if_neg c2] at hf
    refine lv_aload_n C.1 C.2.1 dX8_mark_14 rfl (lv_at hl 0 rfl) ?_
    cases hf
    refine nwE C hP hD hS hA wC_X8_32 (Nat.le_of_ble_eq_true rfl) (Nat.le_of_ble_eq_true rfl) dX8_mark_15 (fun q3 H hq hP hD hS => ?_)
    obtain ⟨r0, u0, hf⟩ := hok _ rfl q3 hq
    refine Wmono (Nmono hq hf) ?_
    obtain ⟨u4, hu4, hf⟩ := Option.bind_eq_some_iff.mp hf
    rw [Option.some.inj hu4] at hP hD
    refine lv_dup C.1 C.2.1 dX8_mark_18 rfl ?_
    refine lv_bipush (v := 8) C.1 C.2.1 dX8_mark_19 (by decide) ?_
    refine lv_iload_n C.1 C.2.1 dX8_mark_21 rfl (lv_at hl 1 rfl) ?_
    refine lv_iload_n C.1 C.2.1 dX8_mark_22 rfl (lv_at hl 2 rfl) ?_
    refine lv_iconst (v := 0) C.1 C.2.1 dX8_mark_23 (by decide) ?_
    refine lv_iconst (v := 0) C.1 C.2.1 dX8_mark_24 (by decide) ?_
    refine lv_iconst (v := 0) C.1 C.2.1 dX8_mark_25 (by decide) ?_
    refine lv_lconst (v := 0) C.1 C.2.1 dX8_mark_26 (by decide) ?_
    obtain ⟨u5, hu5, hf⟩ := Option.bind_eq_some_iff.mp hf
    refine cIv (As := [.int 8, .int x1, .int x2, .int 0, .int 0, .int 0, .long 0]) (rest := [.ref q3, .ref (ad 0)]) (mc := 0) (ms := 0) C (mX1_init hu5) vX1_init wM_X8_63 ⟨Nat.le_of_ble_eq_true rfl, Nat.le_of_ble_eq_true rfl⟩ hP hD hS hA hZ hl.1 rfl rfl (Nat.le_of_ble_eq_true rfl) dX8_mark_27 ⟨Nat.le_of_ble_eq_true rfl, Nat.le_of_ble_eq_true rfl⟩ (fun H locs hP hD hS => ?_)
    obtain ⟨v7, u6, hu6, hf⟩ := b2_some hf
    refine cWi (As := [.ref q3]) (rest := []) (mc := 0) (ms := 0) C (mX8_carryOut hu6) vX8_carryOut wM_X8_66 ⟨Nat.le_of_ble_eq_true rfl, Nat.le_of_ble_eq_true rfl⟩ hP hD hS hA hZ (rcc_X8 C hP) hl.1 rfl rfl (Nat.le_of_ble_eq_true rfl) dX8_mark_30 ⟨Nat.le_of_ble_eq_true rfl, Nat.le_of_ble_eq_true rfl⟩ (fun H locs hP hD hS => ?_)
    exact endWi C hP hD hS (Nat.le_refl _) (Nat.le_refl _) hf dX8_mark_33
  · rw [if_pos c2] at hf
    refine lv_iconst (v := -1) C.1 C.2.1 dX8_mark_12 (by decide) ?_
    exact endN C hP hD hS (Nat.zero_le _) (Nat.zero_le _) hf dX8_mark_13
end
theorem vX8_mark : YV yX8_mark cX8_mark 3 (some .int) 2 := ⟨⟨wK_X8_mark, wZ_X8, by decide +kernel⟩, wI_X8_mark, wV_X8_mark⟩
def fX8_set (u : ST) (x1 : Int32) (x2 : Int64) : Option NR :=
  (fX6_isMember u x1).bind fun v1 =>
  if v1 = 0 then
    some (.inl ((-1), u))
  else
    some (.inr fun q3 =>
      (some (qN u q3 true)).bind fun u4 =>
      (fX1_init u4 q3 9 x1 0 0 0 0 x2).bind fun u5 =>
      b2 (fX8_carryOut u5 q3) fun v7 u6 =>
      some (v7, u6))
section
variable {p : Program} {l : Launch} {e : Env} {s : State} {m : MethodId} {args : Array Value} {below : List Frame} {meth : Method} {c : Code} {H : Heap} {locs : List Loc} {g : GP} {ls : Array Slot} {A : Nat → Prop} {ad : Nat → Nat} {u : ST}
set_option maxRecDepth 100000 in
set_option maxHeartbeats 4000000 in
theorem mX8_set {x : NR} {x1 : Int32} {x2 : Int64} (hf : fX8_set u x1 x2 = some x) (hok : okN u x) : MNi l yX8_set cX8_set 4 (some .int) 6 137 1 7 [.ref (ad 0), .int x1, .long x2] g (cW g ad) u x := by
  refine entW (Qc := fun A => va_Qi (poN u x) (BW g A (cW g ad)) A) (by decide) (Nat.le_of_ble_eq_true rfl) ?_
  intro p e s m below meth c ls A C hP hD hS hA hZ hl
  have hl : lv_has ls 4 [(0, .ref (ad 0)), (1, .int x1), (2, .long x2)] := hl
  rw [fX8_set] at hf
  refine lv_aload_n C.1 C.2.1 dX8_set_0 rfl (lv_at hl 0 rfl) ?_
  refine gtc_X8_house C hP wF_X8_10 dX8_set_1 ?_
  refine gtc_X2_members C hP wF_X8_95 dX8_set_4 ?_
  refine lv_iload_n C.1 C.2.1 dX8_set_7 rfl (lv_at hl 1 rfl) ?_
  obtain ⟨v1, hv1, hf⟩ := Option.bind_eq_some_iff.mp hf
  refine cRi (As := [.int x1]) (rest := []) C (mX6_isMember hv1) vX6_isMember wM_X8_109 ⟨Nat.le_of_ble_eq_true rfl, Nat.le_of_ble_eq_true rfl⟩ hP (rcc_X6 C hP) (fun U hU hW => SF.go hZ hS hU hW (fun _ h => h.elim)) hl.1 rfl rfl (Nat.le_of_ble_eq_true rfl) dX8_set_8 ⟨Nat.le_of_ble_eq_true rfl, Nat.le_of_ble_eq_true rfl⟩ ?_
  refine lv_if_ne (tgt := 16) C.1 C.2.1 dX8_set_11 (by decide) (fun c2 => ?_) (fun c2 => ?_)
  · rw [if_neg c2] at hf
    refine lv_aload_n C.1 C.2.1 dX8_set_16 rfl (lv_at hl 0 rfl) ?_
    cases hf
    refine nwE C hP hD hS hA wC_X8_32 (Nat.le_of_ble_eq_true rfl) (Nat.le_of_ble_eq_true rfl) dX8_set_17 (fun q3 H hq hP hD hS => ?_)
    obtain ⟨r0, u0, hf⟩ := hok _ rfl q3 hq
    refine Wmono (Nmono hq hf) ?_
    obtain ⟨u4, hu4, hf⟩ := Option.bind_eq_some_iff.mp hf
    rw [Option.some.inj hu4] at hP hD
    refine lv_dup C.1 C.2.1 dX8_set_20 rfl ?_
    refine lv_bipush (v := 9) C.1 C.2.1 dX8_set_21 (by decide) ?_
    refine lv_iload_n C.1 C.2.1 dX8_set_23 rfl (lv_at hl 1 rfl) ?_
    refine lv_iconst (v := 0) C.1 C.2.1 dX8_set_24 (by decide) ?_
    refine lv_iconst (v := 0) C.1 C.2.1 dX8_set_25 (by decide) ?_
    refine lv_iconst (v := 0) C.1 C.2.1 dX8_set_26 (by decide) ?_
    refine lv_iconst (v := 0) C.1 C.2.1 dX8_set_27 (by decide) ?_
    refine lv_lload_n C.1 C.2.1 dX8_set_28 rfl (lv_at hl 2 rfl) ?_
    obtain ⟨u5, hu5, hf⟩ := Option.bind_eq_some_iff.mp hf
    refine cIv (As := [.int 9, .int x1, .int 0, .int 0, .int 0, .int 0, .long x2]) (rest := [.ref q3, .ref (ad 0)]) (mc := 0) (ms := 0) C (mX1_init hu5) vX1_init wM_X8_63 ⟨Nat.le_of_ble_eq_true rfl, Nat.le_of_ble_eq_true rfl⟩ hP hD hS hA hZ hl.1 rfl rfl (Nat.le_of_ble_eq_true rfl) dX8_set_29 ⟨Nat.le_of_ble_eq_true rfl, Nat.le_of_ble_eq_true rfl⟩ (fun H locs hP hD hS => ?_)
    obtain ⟨v7, u6, hu6, hf⟩ := b2_some hf
    refine cWi (As := [.ref q3]) (rest := []) (mc := 0) (ms := 0) C (mX8_carryOut hu6) vX8_carryOut wM_X8_66 ⟨Nat.le_of_ble_eq_true rfl, Nat.le_of_ble_eq_true rfl⟩ hP hD hS hA hZ (rcc_X8 C hP) hl.1 rfl rfl (Nat.le_of_ble_eq_true rfl) dX8_set_32 ⟨Nat.le_of_ble_eq_true rfl, Nat.le_of_ble_eq_true rfl⟩ (fun H locs hP hD hS => ?_)
    exact endWi C hP hD hS (Nat.le_refl _) (Nat.le_refl _) hf dX8_set_35
  · rw [if_pos c2] at hf
    refine lv_iconst (v := -1) C.1 C.2.1 dX8_set_14 (by decide) ?_
    exact endN C hP hD hS (Nat.zero_le _) (Nat.zero_le _) hf dX8_set_15
end
theorem vX8_set : YV yX8_set cX8_set 4 (some .int) 2 := ⟨⟨wK_X8_set, wZ_X8, by decide +kernel⟩, wI_X8_set, wV_X8_set⟩
def fX8_retype (u : ST) (x1 : Int32) (x2 : Int32) (x3 : Int64) : Option NR :=
  (fX6_isField u x1).bind fun v1 =>
  if v1 = 0 then
    some (.inl ((-1), u))
  else
    (fX3_isKind u x2).bind fun v3 =>
    if v3 = 0 then
      some (.inl ((-1), u))
    else
      some (.inr fun q5 =>
        (some (qN u q5 true)).bind fun u6 =>
        (fX1_init u6 q5 10 x1 x2 0 0 0 x3).bind fun u7 =>
        b2 (fX8_carryOut u7 q5) fun v9 u8 =>
        some (v9, u8))
section
variable {p : Program} {l : Launch} {e : Env} {s : State} {m : MethodId} {args : Array Value} {below : List Frame} {meth : Method} {c : Code} {H : Heap} {locs : List Loc} {g : GP} {ls : Array Slot} {A : Nat → Prop} {ad : Nat → Nat} {u : ST}
set_option maxRecDepth 100000 in
set_option maxHeartbeats 4000000 in
theorem mX8_retype {x : NR} {x1 : Int32} {x2 : Int32} {x3 : Int64} (hf : fX8_retype u x1 x2 x3 = some x) (hok : okN u x) : MNi l yX8_retype cX8_retype 5 (some .int) 6 137 1 7 [.ref (ad 0), .int x1, .int x2, .long x3] g (cW g ad) u x := by
  refine entW (Qc := fun A => va_Qi (poN u x) (BW g A (cW g ad)) A) (by decide) (Nat.le_of_ble_eq_true rfl) ?_
  intro p e s m below meth c ls A C hP hD hS hA hZ hl
  have hl : lv_has ls 5 [(0, .ref (ad 0)), (1, .int x1), (2, .int x2), (3, .long x3)] := hl
  rw [fX8_retype] at hf
  refine lv_aload_n C.1 C.2.1 dX8_retype_0 rfl (lv_at hl 0 rfl) ?_
  refine gtc_X8_house C hP wF_X8_10 dX8_retype_1 ?_
  refine gtc_X2_members C hP wF_X8_95 dX8_retype_4 ?_
  refine lv_iload_n C.1 C.2.1 dX8_retype_7 rfl (lv_at hl 1 rfl) ?_
  obtain ⟨v1, hv1, hf⟩ := Option.bind_eq_some_iff.mp hf
  refine cRi (As := [.int x1]) (rest := []) C (mX6_isField hv1) vX6_isField wM_X8_115 ⟨Nat.le_of_ble_eq_true rfl, Nat.le_of_ble_eq_true rfl⟩ hP (rcc_X6 C hP) (fun U hU hW => SF.go hZ hS hU hW (fun _ h => h.elim)) hl.1 rfl rfl (Nat.le_of_ble_eq_true rfl) dX8_retype_8 ⟨Nat.le_of_ble_eq_true rfl, Nat.le_of_ble_eq_true rfl⟩ ?_
  refine lv_if_eq (tgt := 21) C.1 C.2.1 dX8_retype_11 (by decide) (fun c2 => ?_) (fun c2 => ?_)
  · rw [if_pos c2] at hf
    refine lv_iconst (v := -1) C.1 C.2.1 dX8_retype_21 (by decide) ?_
    exact endN C hP hD hS (Nat.zero_le _) (Nat.zero_le _) hf dX8_retype_22
  · rw [if_neg c2] at hf
    refine lv_iload_n C.1 C.2.1 dX8_retype_14 rfl (lv_at hl 2 rfl) ?_
    obtain ⟨v3, hv3, hf⟩ := Option.bind_eq_some_iff.mp hf
    refine cSi (As := [.int x2]) (rest := []) C (mX3_isKind hv3) vX3_isKind wM_X8_118 ⟨Nat.le_of_ble_eq_true rfl, Nat.le_of_ble_eq_true rfl⟩ hP (fun U hU hW => SF.go hZ hS hU hW (fun _ h => h.elim)) hl.1 rfl rfl (Nat.le_of_ble_eq_true rfl) dX8_retype_15 ⟨Nat.le_of_ble_eq_true rfl, Nat.le_of_ble_eq_true rfl⟩ ?_
    refine lv_if_ne (tgt := 23) C.1 C.2.1 dX8_retype_18 (by decide) (fun c4 => ?_) (fun c4 => ?_)
    · rw [if_neg c4] at hf
      refine lv_aload_n C.1 C.2.1 dX8_retype_23 rfl (lv_at hl 0 rfl) ?_
      cases hf
      refine nwE C hP hD hS hA wC_X8_32 (Nat.le_of_ble_eq_true rfl) (Nat.le_of_ble_eq_true rfl) dX8_retype_24 (fun q5 H hq hP hD hS => ?_)
      obtain ⟨r0, u0, hf⟩ := hok _ rfl q5 hq
      refine Wmono (Nmono hq hf) ?_
      obtain ⟨u6, hu6, hf⟩ := Option.bind_eq_some_iff.mp hf
      rw [Option.some.inj hu6] at hP hD
      refine lv_dup C.1 C.2.1 dX8_retype_27 rfl ?_
      refine lv_bipush (v := 10) C.1 C.2.1 dX8_retype_28 (by decide) ?_
      refine lv_iload_n C.1 C.2.1 dX8_retype_30 rfl (lv_at hl 1 rfl) ?_
      refine lv_iload_n C.1 C.2.1 dX8_retype_31 rfl (lv_at hl 2 rfl) ?_
      refine lv_iconst (v := 0) C.1 C.2.1 dX8_retype_32 (by decide) ?_
      refine lv_iconst (v := 0) C.1 C.2.1 dX8_retype_33 (by decide) ?_
      refine lv_iconst (v := 0) C.1 C.2.1 dX8_retype_34 (by decide) ?_
      refine lv_lload_n C.1 C.2.1 dX8_retype_35 rfl (lv_at hl 3 rfl) ?_
      obtain ⟨u7, hu7, hf⟩ := Option.bind_eq_some_iff.mp hf
      refine cIv (As := [.int 10, .int x1, .int x2, .int 0, .int 0, .int 0, .long x3]) (rest := [.ref q5, .ref (ad 0)]) (mc := 0) (ms := 0) C (mX1_init hu7) vX1_init wM_X8_63 ⟨Nat.le_of_ble_eq_true rfl, Nat.le_of_ble_eq_true rfl⟩ hP hD hS hA hZ hl.1 rfl rfl (Nat.le_of_ble_eq_true rfl) dX8_retype_36 ⟨Nat.le_of_ble_eq_true rfl, Nat.le_of_ble_eq_true rfl⟩ (fun H locs hP hD hS => ?_)
      obtain ⟨v9, u8, hu8, hf⟩ := b2_some hf
      refine cWi (As := [.ref q5]) (rest := []) (mc := 0) (ms := 0) C (mX8_carryOut hu8) vX8_carryOut wM_X8_66 ⟨Nat.le_of_ble_eq_true rfl, Nat.le_of_ble_eq_true rfl⟩ hP hD hS hA hZ (rcc_X8 C hP) hl.1 rfl rfl (Nat.le_of_ble_eq_true rfl) dX8_retype_39 ⟨Nat.le_of_ble_eq_true rfl, Nat.le_of_ble_eq_true rfl⟩ (fun H locs hP hD hS => ?_)
      exact endWi C hP hD hS (Nat.le_refl _) (Nat.le_refl _) hf dX8_retype_42
    · rw [if_pos c4] at hf
      refine lv_iconst (v := -1) C.1 C.2.1 dX8_retype_21 (by decide) ?_
      exact endN C hP hD hS (Nat.zero_le _) (Nat.zero_le _) hf dX8_retype_22
end
theorem vX8_retype : YV yX8_retype cX8_retype 5 (some .int) 3 := ⟨⟨wK_X8_retype, wZ_X8, by decide +kernel⟩, wI_X8_retype, wV_X8_retype⟩
def fX6_likeIn (u : ST) (x1 : Int32) (x2 : Int32) : Option Int32 :=
  (fX6_isMember u x2).bind fun v1 =>
  if v1 = 0 then
    some (-2)
  else
    (rdI u 16 60 x2).bind fun v3 =>
    if v3 = 0 then
      (rdI u 17 60 x2).bind fun v5 =>
      (fX6_fieldOf u x1 v5).bind fun v6 =>
      some v6
    else
      (rdI u 17 60 x2).bind fun v7 =>
      (rdI u 19 60 x2).bind fun v8 =>
      (rdI u 20 60 x2).bind fun v9 =>
      (fX6_methodOf u x1 v7 v8 v9).bind fun v10 =>
      some v10
section
variable {p : Program} {l : Launch} {e : Env} {s : State} {m : MethodId} {args : Array Value} {below : List Frame} {meth : Method} {c : Code} {H : Heap} {locs : List Loc} {g : GP} {ls : Array Slot} {A : Nat → Prop} {ad : Nat → Nat} {u : ST}
set_option maxRecDepth 100000 in
set_option maxHeartbeats 4000000 in
theorem mX6_likeIn {r0 : Int32} {x1 : Int32} {x2 : Int32} (hf : fX6_likeIn u x1 x2 = some r0) : MRi l yX6_likeIn cX6_likeIn 3 (some .int) 1 25 [.ref (ad 3), .int x1, .int x2] g (cW g ad u) r0 := by
  refine entR (by decide) (Nat.le_of_ble_eq_true rfl) ?_
  intro p e s m below meth c ls C hP hZ hl
  have hl : lv_has ls 3 [(0, .ref (ad 3)), (1, .int x1), (2, .int x2)] := hl
  rw [fX6_likeIn] at hf
  refine lv_aload_n C.1 C.2.1 dX6_likeIn_0 rfl (lv_at hl 0 rfl) ?_
  refine lv_iload_n C.1 C.2.1 dX6_likeIn_1 rfl (lv_at hl 2 rfl) ?_
  obtain ⟨v1, hv1, hf⟩ := Option.bind_eq_some_iff.mp hf
  refine cRi (As := [.int x2]) (rest := []) C (mX6_isMember hv1) vX6_isMember wM_X6_39 ⟨Nat.le_of_ble_eq_true rfl, Nat.le_of_ble_eq_true rfl⟩ hP (rcc_X6 C hP) (fun U hU hW => SF.go hZ va_S.rf hU hW (fun _ h => h)) hl.1 rfl rfl (Nat.le_of_ble_eq_true rfl) dX6_likeIn_2 ⟨Nat.le_of_ble_eq_true rfl, Nat.le_of_ble_eq_true rfl⟩ ?_
  refine lv_if_ne (tgt := 11) C.1 C.2.1 dX6_likeIn_5 (by decide) (fun c2 => ?_) (fun c2 => ?_)
  · rw [if_neg c2] at hf
    refine lv_aload_n C.1 C.2.1 dX6_likeIn_11 rfl (lv_at hl 0 rfl) ?_
    refine gtc_X6_isMethod C hP wF_X6_15 dX6_likeIn_12 ?_
    refine lv_iload_n C.1 C.2.1 dX6_likeIn_15 rfl (lv_at hl 2 rfl) ?_
    obtain ⟨v3, hv3, hf⟩ := Option.bind_eq_some_iff.mp hf
    refine ldc_16 C hP hv3 dX6_likeIn_16 ?_
    refine lv_if_eq (tgt := 46) C.1 C.2.1 dX6_likeIn_17 (by decide) (fun c4 => ?_) (fun c4 => ?_)
    · rw [if_pos c4] at hf
      refine lv_aload_n C.1 C.2.1 dX6_likeIn_46 rfl (lv_at hl 0 rfl) ?_
      refine lv_iload_n C.1 C.2.1 dX6_likeIn_47 rfl (lv_at hl 1 rfl) ?_
      refine lv_aload_n C.1 C.2.1 dX6_likeIn_48 rfl (lv_at hl 0 rfl) ?_
      refine gtc_X6_name C hP wF_X6_19 dX6_likeIn_49 ?_
      refine lv_iload_n C.1 C.2.1 dX6_likeIn_52 rfl (lv_at hl 2 rfl) ?_
      obtain ⟨v5, hv5, hf⟩ := Option.bind_eq_some_iff.mp hf
      refine ldc_17 C hP hv5 dX6_likeIn_53 ?_
      obtain ⟨v6, hv6, hf⟩ := Option.bind_eq_some_iff.mp hf
      refine cRi (As := [.int x1, .int v5]) (rest := []) C (mX6_fieldOf hv6) vX6_fieldOf wM_X6_47 ⟨Nat.le_of_ble_eq_true rfl, Nat.le_of_ble_eq_true rfl⟩ hP (rcc_X6 C hP) (fun U hU hW => SF.go hZ va_S.rf hU hW (fun _ h => h)) hl.1 rfl rfl (Nat.le_of_ble_eq_true rfl) dX6_likeIn_54 ⟨Nat.le_of_ble_eq_true rfl, Nat.le_of_ble_eq_true rfl⟩ ?_
      exact endRi C hf dX6_likeIn_57
    · rw [if_neg c4] at hf
      refine lv_aload_n C.1 C.2.1 dX6_likeIn_20 rfl (lv_at hl 0 rfl) ?_
      refine lv_iload_n C.1 C.2.1 dX6_likeIn_21 rfl (lv_at hl 1 rfl) ?_
      refine lv_aload_n C.1 C.2.1 dX6_likeIn_22 rfl (lv_at hl 0 rfl) ?_
      refine gtc_X6_name C hP wF_X6_19 dX6_likeIn_23 ?_
      refine lv_iload_n C.1 C.2.1 dX6_likeIn_26 rfl (lv_at hl 2 rfl) ?_
      obtain ⟨v7, hv7, hf⟩ := Option.bind_eq_some_iff.mp hf
      refine ldc_17 C hP hv7 dX6_likeIn_27 ?_
      refine lv_aload_n C.1 C.2.1 dX6_likeIn_28 rfl (lv_at hl 0 rfl) ?_
      refine gtc_X6_first C hP wF_X6_25 dX6_likeIn_29 ?_
      refine lv_iload_n C.1 C.2.1 dX6_likeIn_32 rfl (lv_at hl 2 rfl) ?_
      obtain ⟨v8, hv8, hf⟩ := Option.bind_eq_some_iff.mp hf
      refine ldc_19 C hP hv8 dX6_likeIn_33 ?_
      refine lv_aload_n C.1 C.2.1 dX6_likeIn_34 rfl (lv_at hl 0 rfl) ?_
      refine gtc_X6_second C hP wF_X6_28 dX6_likeIn_35 ?_
      refine lv_iload_n C.1 C.2.1 dX6_likeIn_38 rfl (lv_at hl 2 rfl) ?_
      obtain ⟨v9, hv9, hf⟩ := Option.bind_eq_some_iff.mp hf
      refine ldc_20 C hP hv9 dX6_likeIn_39 ?_
      obtain ⟨v10, hv10, hf⟩ := Option.bind_eq_some_iff.mp hf
      refine cRi (As := [.int x1, .int v7, .int v8, .int v9]) (rest := []) C (mX6_methodOf hv10) vX6_methodOf wM_X6_43 ⟨Nat.le_of_ble_eq_true rfl, Nat.le_of_ble_eq_true rfl⟩ hP (rcc_X6 C hP) (fun U hU hW => SF.go hZ va_S.rf hU hW (fun _ h => h)) hl.1 rfl rfl (Nat.le_of_ble_eq_true rfl) dX6_likeIn_40 ⟨Nat.le_of_ble_eq_true rfl, Nat.le_of_ble_eq_true rfl⟩ ?_
      refine lv_goto (tgt := 57) C.1 C.2.1 dX6_likeIn_43 (by decide) ?_
      exact endRi C hf dX6_likeIn_57
  · rw [if_pos c2] at hf
    refine lv_bipush (v := -2) C.1 C.2.1 dX6_likeIn_8 (by decide) ?_
    exact endRi C hf dX6_likeIn_10
end
theorem vX6_likeIn : YV yX6_likeIn cX6_likeIn 3 (some .int) 2 := ⟨⟨wK_X6_likeIn, wZ_X6, by decide +kernel⟩, wI_X6_likeIn, wV_X6_likeIn⟩
def fX2_mayMove (u : ST) (x1 : Int32) (x2 : Int32) : Option Int32 :=
  (fX6_isMember u x1).bind fun v1 =>
  if v1 = 0 then
    some 0
  else
    (fX7_isType u x2).bind fun v3 =>
    if v3 = 0 then
      some 0
    else
      (fX6_likeIn u x2 x1).bind fun v5 =>
      if v5 = (-2) then
        (fX6_isMethod u x1).bind fun v7 =>
        if v7 = 0 then
          (rdI u 18 60 x1).bind fun v9 =>
          (fX2_areFieldMarks u x2 v9).bind fun v10 =>
          if v10 = 0 then
            some 0
          else
            some 1
        else
          some 1
      else
        some 0
section
variable {p : Program} {l : Launch} {e : Env} {s : State} {m : MethodId} {args : Array Value} {below : List Frame} {meth : Method} {c : Code} {H : Heap} {locs : List Loc} {g : GP} {ls : Array Slot} {A : Nat → Prop} {ad : Nat → Nat} {u : ST}
set_option maxRecDepth 100000 in
set_option maxHeartbeats 4000000 in
theorem mX2_mayMove {r0 : Int32} {x1 : Int32} {x2 : Int32} (hf : fX2_mayMove u x1 x2 = some r0) : MRi l yX2_mayMove cX2_mayMove 3 (some .boolean) 2 47 [.ref (ad 1), .int x1, .int x2] g (cW g ad u) r0 := by
  refine entR (by decide) (Nat.le_of_ble_eq_true rfl) ?_
  intro p e s m below meth c ls C hP hZ hl
  have hl : lv_has ls 3 [(0, .ref (ad 1)), (1, .int x1), (2, .int x2)] := hl
  rw [fX2_mayMove] at hf
  refine lv_aload_n C.1 C.2.1 dX2_mayMove_0 rfl (lv_at hl 0 rfl) ?_
  refine gtc_X2_members C hP wF_X2_21 dX2_mayMove_1 ?_
  refine lv_iload_n C.1 C.2.1 dX2_mayMove_4 rfl (lv_at hl 1 rfl) ?_
  obtain ⟨v1, hv1, hf⟩ := Option.bind_eq_some_iff.mp hf
  refine cRi (As := [.int x1]) (rest := []) C (mX6_isMember hv1) vX6_isMember wM_X2_113 ⟨Nat.le_of_ble_eq_true rfl, Nat.le_of_ble_eq_true rfl⟩ hP (rcc_X6 C hP) (fun U hU hW => SF.go hZ va_S.rf hU hW (fun _ h => h)) hl.1 rfl rfl (Nat.le_of_ble_eq_true rfl) dX2_mayMove_5 ⟨Nat.le_of_ble_eq_true rfl, Nat.le_of_ble_eq_true rfl⟩ ?_
  refine lv_if_eq (tgt := 22) C.1 C.2.1 dX2_mayMove_8 (by decide) (fun c2 => ?_) (fun c2 => ?_)
  · rw [if_pos c2] at hf
    refine lv_iconst (v := 0) C.1 C.2.1 dX2_mayMove_22 (by decide) ?_
    exact endRz C rfl hf dX2_mayMove_23
  · rw [if_neg c2] at hf
    refine lv_aload_n C.1 C.2.1 dX2_mayMove_11 rfl (lv_at hl 0 rfl) ?_
    refine gtc_X2_types C hP wF_X2_12 dX2_mayMove_12 ?_
    refine lv_iload_n C.1 C.2.1 dX2_mayMove_15 rfl (lv_at hl 2 rfl) ?_
    obtain ⟨v3, hv3, hf⟩ := Option.bind_eq_some_iff.mp hf
    refine cRi (As := [.int x2]) (rest := []) C (mX7_isType hv3) vX7_isType wM_X2_84 ⟨Nat.le_of_ble_eq_true rfl, Nat.le_of_ble_eq_true rfl⟩ hP (rcc_X7 C hP) (fun U hU hW => SF.go hZ va_S.rf hU hW (fun _ h => h)) hl.1 rfl rfl (Nat.le_of_ble_eq_true rfl) dX2_mayMove_16 ⟨Nat.le_of_ble_eq_true rfl, Nat.le_of_ble_eq_true rfl⟩ ?_
    refine lv_if_ne (tgt := 24) C.1 C.2.1 dX2_mayMove_19 (by decide) (fun c4 => ?_) (fun c4 => ?_)
    · rw [if_neg c4] at hf
      refine lv_aload_n C.1 C.2.1 dX2_mayMove_24 rfl (lv_at hl 0 rfl) ?_
      refine gtc_X2_members C hP wF_X2_21 dX2_mayMove_25 ?_
      refine lv_iload_n C.1 C.2.1 dX2_mayMove_28 rfl (lv_at hl 2 rfl) ?_
      refine lv_iload_n C.1 C.2.1 dX2_mayMove_29 rfl (lv_at hl 1 rfl) ?_
      obtain ⟨v5, hv5, hf⟩ := Option.bind_eq_some_iff.mp hf
      refine cRi (As := [.int x2, .int x1]) (rest := []) C (mX6_likeIn hv5) vX6_likeIn wM_X2_123 ⟨Nat.le_of_ble_eq_true rfl, Nat.le_of_ble_eq_true rfl⟩ hP (rcc_X6 C hP) (fun U hU hW => SF.go hZ va_S.rf hU hW (fun _ h => h)) hl.1 rfl rfl (Nat.le_of_ble_eq_true rfl) dX2_mayMove_30 ⟨Nat.le_of_ble_eq_true rfl, Nat.le_of_ble_eq_true rfl⟩ ?_
      refine lv_bipush (v := -2) C.1 C.2.1 dX2_mayMove_33 (by decide) ?_
      refine lv_icmp_ne (tgt := 70) C.1 C.2.1 dX2_mayMove_35 (by decide) (fun c6 => ?_) (fun c6 => ?_)
      · rw [if_neg c6] at hf
        refine lv_iconst (v := 0) C.1 C.2.1 dX2_mayMove_70 (by decide) ?_
        exact endRz C rfl hf dX2_mayMove_71
      · rw [if_pos c6] at hf
        refine lv_aload_n C.1 C.2.1 dX2_mayMove_38 rfl (lv_at hl 0 rfl) ?_
        refine gtc_X2_members C hP wF_X2_21 dX2_mayMove_39 ?_
        refine lv_iload_n C.1 C.2.1 dX2_mayMove_42 rfl (lv_at hl 1 rfl) ?_
        obtain ⟨v7, hv7, hf⟩ := Option.bind_eq_some_iff.mp hf
        refine cRi (As := [.int x1]) (rest := []) C (mX6_isMethod hv7) vX6_isMethod wM_X2_116 ⟨Nat.le_of_ble_eq_true rfl, Nat.le_of_ble_eq_true rfl⟩ hP (rcc_X6 C hP) (fun U hU hW => SF.go hZ va_S.rf hU hW (fun _ h => h)) hl.1 rfl rfl (Nat.le_of_ble_eq_true rfl) dX2_mayMove_43 ⟨Nat.le_of_ble_eq_true rfl, Nat.le_of_ble_eq_true rfl⟩ ?_
        refine lv_if_ne (tgt := 66) C.1 C.2.1 dX2_mayMove_46 (by decide) (fun c8 => ?_) (fun c8 => ?_)
        · rw [if_neg c8] at hf
          refine lv_iconst (v := 1) C.1 C.2.1 dX2_mayMove_66 (by decide) ?_
          refine lv_goto (tgt := 71) C.1 C.2.1 dX2_mayMove_67 (by decide) ?_
          exact endRz C rfl hf dX2_mayMove_71
        · rw [if_pos c8] at hf
          refine lv_aload_n C.1 C.2.1 dX2_mayMove_49 rfl (lv_at hl 0 rfl) ?_
          refine lv_iload_n C.1 C.2.1 dX2_mayMove_50 rfl (lv_at hl 2 rfl) ?_
          refine lv_aload_n C.1 C.2.1 dX2_mayMove_51 rfl (lv_at hl 0 rfl) ?_
          refine gtc_X2_members C hP wF_X2_21 dX2_mayMove_52 ?_
          refine gtc_X6_marks C hP wF_X2_126 dX2_mayMove_55 ?_
          refine lv_iload_n C.1 C.2.1 dX2_mayMove_58 rfl (lv_at hl 1 rfl) ?_
          obtain ⟨v9, hv9, hf⟩ := Option.bind_eq_some_iff.mp hf
          refine ldc_18 C hP hv9 dX2_mayMove_59 ?_
          obtain ⟨v10, hv10, hf⟩ := Option.bind_eq_some_iff.mp hf
          refine cRi (As := [.int x2, .int v9]) (rest := []) C (mX2_areFieldMarks hv10) vX2_areFieldMarks wM_X2_96 ⟨Nat.le_of_ble_eq_true rfl, Nat.le_of_ble_eq_true rfl⟩ hP (rcc_X2 C hP) (fun U hU hW => SF.go hZ va_S.rf hU hW (fun _ h => h)) hl.1 rfl rfl (Nat.le_of_ble_eq_true rfl) dX2_mayMove_60 ⟨Nat.le_of_ble_eq_true rfl, Nat.le_of_ble_eq_true rfl⟩ ?_
          refine lv_if_eq (tgt := 70) C.1 C.2.1 dX2_mayMove_63 (by decide) (fun c11 => ?_) (fun c11 => ?_)
          · rw [if_pos c11] at hf
            refine lv_iconst (v := 0) C.1 C.2.1 dX2_mayMove_70 (by decide) ?_
            exact endRz C rfl hf dX2_mayMove_71
          · rw [if_neg c11] at hf
            refine lv_iconst (v := 1) C.1 C.2.1 dX2_mayMove_66 (by decide) ?_
            refine lv_goto (tgt := 71) C.1 C.2.1 dX2_mayMove_67 (by decide) ?_
            exact endRz C rfl hf dX2_mayMove_71
    · rw [if_pos c4] at hf
      refine lv_iconst (v := 0) C.1 C.2.1 dX2_mayMove_22 (by decide) ?_
      exact endRz C rfl hf dX2_mayMove_23
end
theorem vX2_mayMove : YV yX2_mayMove cX2_mayMove 3 (some .boolean) 2 := ⟨⟨wK_X2_mayMove, wZ_X2, by decide +kernel⟩, wI_X2_mayMove, wV_X2_mayMove⟩
def fX8_move (u : ST) (x1 : Int32) (x2 : Int32) : Option NR :=
  (fX2_mayMove u x1 x2).bind fun v1 =>
  if v1 = 0 then
    some (.inl ((-1), u))
  else
    some (.inr fun q3 =>
      (some (qN u q3 true)).bind fun u4 =>
      (fX1_init u4 q3 11 x1 x2 0 0 0 0).bind fun u5 =>
      b2 (fX8_carryOut u5 q3) fun v7 u6 =>
      some (v7, u6))
section
variable {p : Program} {l : Launch} {e : Env} {s : State} {m : MethodId} {args : Array Value} {below : List Frame} {meth : Method} {c : Code} {H : Heap} {locs : List Loc} {g : GP} {ls : Array Slot} {A : Nat → Prop} {ad : Nat → Nat} {u : ST}
set_option maxRecDepth 100000 in
set_option maxHeartbeats 4000000 in
theorem mX8_move {x : NR} {x1 : Int32} {x2 : Int32} (hf : fX8_move u x1 x2 = some x) (hok : okN u x) : MNi l yX8_move cX8_move 3 (some .int) 6 137 1 7 [.ref (ad 0), .int x1, .int x2] g (cW g ad) u x := by
  refine entW (Qc := fun A => va_Qi (poN u x) (BW g A (cW g ad)) A) (by decide) (Nat.le_of_ble_eq_true rfl) ?_
  intro p e s m below meth c ls A C hP hD hS hA hZ hl
  have hl : lv_has ls 3 [(0, .ref (ad 0)), (1, .int x1), (2, .int x2)] := hl
  rw [fX8_move] at hf
  refine lv_aload_n C.1 C.2.1 dX8_move_0 rfl (lv_at hl 0 rfl) ?_
  refine gtc_X8_house C hP wF_X8_10 dX8_move_1 ?_
  refine lv_iload_n C.1 C.2.1 dX8_move_4 rfl (lv_at hl 1 rfl) ?_
  refine lv_iload_n C.1 C.2.1 dX8_move_5 rfl (lv_at hl 2 rfl) ?_
  obtain ⟨v1, hv1, hf⟩ := Option.bind_eq_some_iff.mp hf
  refine cRi (As := [.int x1, .int x2]) (rest := []) C (mX2_mayMove hv1) vX2_mayMove wM_X8_123 ⟨Nat.le_of_ble_eq_true rfl, Nat.le_of_ble_eq_true rfl⟩ hP (rcc_X2 C hP) (fun U hU hW => SF.go hZ hS hU hW (fun _ h => h.elim)) hl.1 rfl rfl (Nat.le_of_ble_eq_true rfl) dX8_move_6 ⟨Nat.le_of_ble_eq_true rfl, Nat.le_of_ble_eq_true rfl⟩ ?_
  refine lv_if_ne (tgt := 14) C.1 C.2.1 dX8_move_9 (by decide) (fun c2 => ?_) (fun c2 => ?_)
  · rw [if_neg c2] at hf
    refine lv_aload_n C.1 C.2.1 dX8_move_14 rfl (lv_at hl 0 rfl) ?_
    cases hf
    refine nwE C hP hD hS hA wC_X8_32 (Nat.le_of_ble_eq_true rfl) (Nat.le_of_ble_eq_true rfl) dX8_move_15 (fun q3 H hq hP hD hS => ?_)
    obtain ⟨r0, u0, hf⟩ := hok _ rfl q3 hq
    refine Wmono (Nmono hq hf) ?_
    obtain ⟨u4, hu4, hf⟩ := Option.bind_eq_some_iff.mp hf
    rw [Option.some.inj hu4] at hP hD
    refine lv_dup C.1 C.2.1 dX8_move_18 rfl ?_
    refine lv_bipush (v := 11) C.1 C.2.1 dX8_move_19 (by decide) ?_
    refine lv_iload_n C.1 C.2.1 dX8_move_21 rfl (lv_at hl 1 rfl) ?_
    refine lv_iload_n C.1 C.2.1 dX8_move_22 rfl (lv_at hl 2 rfl) ?_
    refine lv_iconst (v := 0) C.1 C.2.1 dX8_move_23 (by decide) ?_
    refine lv_iconst (v := 0) C.1 C.2.1 dX8_move_24 (by decide) ?_
    refine lv_iconst (v := 0) C.1 C.2.1 dX8_move_25 (by decide) ?_
    refine lv_lconst (v := 0) C.1 C.2.1 dX8_move_26 (by decide) ?_
    obtain ⟨u5, hu5, hf⟩ := Option.bind_eq_some_iff.mp hf
    refine cIv (As := [.int 11, .int x1, .int x2, .int 0, .int 0, .int 0, .long 0]) (rest := [.ref q3, .ref (ad 0)]) (mc := 0) (ms := 0) C (mX1_init hu5) vX1_init wM_X8_63 ⟨Nat.le_of_ble_eq_true rfl, Nat.le_of_ble_eq_true rfl⟩ hP hD hS hA hZ hl.1 rfl rfl (Nat.le_of_ble_eq_true rfl) dX8_move_27 ⟨Nat.le_of_ble_eq_true rfl, Nat.le_of_ble_eq_true rfl⟩ (fun H locs hP hD hS => ?_)
    obtain ⟨v7, u6, hu6, hf⟩ := b2_some hf
    refine cWi (As := [.ref q3]) (rest := []) (mc := 0) (ms := 0) C (mX8_carryOut hu6) vX8_carryOut wM_X8_66 ⟨Nat.le_of_ble_eq_true rfl, Nat.le_of_ble_eq_true rfl⟩ hP hD hS hA hZ (rcc_X8 C hP) hl.1 rfl rfl (Nat.le_of_ble_eq_true rfl) dX8_move_30 ⟨Nat.le_of_ble_eq_true rfl, Nat.le_of_ble_eq_true rfl⟩ (fun H locs hP hD hS => ?_)
    exact endWi C hP hD hS (Nat.le_refl _) (Nat.le_refl _) hf dX8_move_33
  · rw [if_pos c2] at hf
    refine lv_iconst (v := -1) C.1 C.2.1 dX8_move_12 (by decide) ?_
    exact endN C hP hD hS (Nat.zero_le _) (Nat.zero_le _) hf dX8_move_13
end
theorem vX8_move : YV yX8_move cX8_move 3 (some .int) 2 := ⟨⟨wK_X8_move, wZ_X8, by decide +kernel⟩, wI_X8_move, wV_X8_move⟩
def fX7_clear (u : ST) : Option ST :=
  (some (uI u 200 0)).bind fun u1 =>
  (some (uI u1 207 0)).bind fun u2 =>
  some u2
section
variable {p : Program} {l : Launch} {e : Env} {s : State} {m : MethodId} {args : Array Value} {below : List Frame} {meth : Method} {c : Code} {H : Heap} {locs : List Loc} {g : GP} {ls : Array Slot} {A : Nat → Prop} {ad : Nat → Nat} {u : ST}
set_option maxRecDepth 100000 in
set_option maxHeartbeats 4000000 in
theorem mX7_clear {u0 : ST} (hf : fX7_clear u = some u0) : MWv l yX7_clear cX7_clear 1 none 0 0 0 0 [.ref (ad 2)] g (cW g ad) u u0 := by
  refine entW (Qc := fun A => va_Qv (fun v => v = u0) (BW g A (cW g ad)) A) (by decide) (Nat.le_of_ble_eq_true rfl) ?_
  intro p e s m below meth c ls A C hP hD hS hA hZ hl
  have hl : lv_has ls 1 [(0, .ref (ad 2))] := hl
  rw [fX7_clear] at hf
  refine lv_aload_n C.1 C.2.1 dX7_clear_0 rfl (lv_at hl 0 rfl) ?_
  refine lv_iconst (v := 0) C.1 C.2.1 dX7_clear_1 (by decide) ?_
  obtain ⟨u1, hu1, hf⟩ := Option.bind_eq_some_iff.mp hf
  refine ptc_X7_size C hP hD hS wF_X7_34 dX7_clear_2 (fun H locs hP hD hS => ?_)
  rw [Option.some.inj hu1] at hP hD
  refine lv_aload_n C.1 C.2.1 dX7_clear_5 rfl (lv_at hl 0 rfl) ?_
  refine lv_iconst (v := 0) C.1 C.2.1 dX7_clear_6 (by decide) ?_
  obtain ⟨u2, hu2, hf⟩ := Option.bind_eq_some_iff.mp hf
  refine ptc_X7_classes C hP hD hS wF_X7_38 dX7_clear_7 (fun H locs hP hD hS => ?_)
  rw [Option.some.inj hu2] at hP hD
  exact endWv C hP hD hS (Nat.le_refl _) (Nat.le_refl _) hf dX7_clear_10
end
theorem vX7_clear : YV yX7_clear cX7_clear 1 none 0 := ⟨⟨wK_X7_clear, wZ_X7, by decide +kernel⟩, wI_X7_clear, wV_X7_clear⟩
def fX6_clear_L7 : Nat → ST → Int32 → Option ST
  | 0, _, _ => none
  | n + 1, u, x1 =>
    if 60 ≤ x1 then
      some u
    else
      (stI u 15 60 x1 (-2)).bind fun u3 =>
      fX6_clear_L7 n u3 (x1 + 1)
def fX6_clear (u : ST) : Option ST :=
  (some (uI u 300 0)).bind fun u1 =>
  fX6_clear_L7 5000 u1 0
section
variable {p : Program} {l : Launch} {e : Env} {s : State} {m : MethodId} {args : Array Value} {below : List Frame} {meth : Method} {c : Code} {H : Heap} {locs : List Loc} {g : GP} {ls : Array Slot} {A : Nat → Prop} {ad : Nat → Nat} {u : ST}
set_option maxRecDepth 100000 in
set_option maxHeartbeats 4000000 in
theorem bX6_clear_L7 {u0 : ST} (C : Cx p s m args meth c cX6_clear 2 RX6 none g) (hA : ∀ q, s.heap.size ≤ q → A q) (hZ : SF A s) : ∀ (n : Nat), ∀ (u : ST) (x1 : Int32) (H : Heap) (locs : List Loc), va_P g.1 vwCl (cW g ad u) H → va_D A (cW g ad u) → va_S A s.heap H locs → ∀ (ls : Array Slot), lv_has ls 2 [(0, .ref (ad 3)), (1, .int x1)] → fX6_clear_L7 n u x1 = some u0 → W p l e (rmW 0 0 0 0) s m args below meth c H locs 0 0 (MQ below (va_Qv (fun v => v = u0) (BW g A (cW g ad)) A) args s 0 0 A) (F0 m 7 ls []) := by
  intro n
  induction n with
  | zero =>
    intro u x1 H locs hP hD hS ls hl hf
    exact absurd hf (by simp [fX6_clear_L7])
  | succ n ih =>
    intro u x1 H locs hP hD hS ls hl hf
    rw [fX6_clear_L7] at hf
    refine lv_iload_n C.1 C.2.1 dX6_clear_7 rfl (lv_at hl 1 rfl) ?_
    refine lv_bipush (v := 60) C.1 C.2.1 dX6_clear_8 (by decide) ?_
    refine lv_icmp_ge (tgt := 27) C.1 C.2.1 dX6_clear_10 (by decide) (fun c2 => ?_) (fun c2 => ?_)
    · rw [if_pos c2] at hf
      exact endWv C hP hD hS (Nat.le_refl _) (Nat.le_refl _) hf dX6_clear_27
    · rw [if_neg c2] at hf
      refine lv_aload_n C.1 C.2.1 dX6_clear_13 rfl (lv_at hl 0 rfl) ?_
      refine gtc_X6_owner C hP wF_X6_11 dX6_clear_14 ?_
      refine lv_iload_n C.1 C.2.1 dX6_clear_17 rfl (lv_at hl 1 rfl) ?_
      refine lv_bipush (v := -2) C.1 C.2.1 dX6_clear_18 (by decide) ?_
      obtain ⟨u3, hu3, hf⟩ := Option.bind_eq_some_iff.mp hf
      refine stc_15 C hP hD hS hu3 dX6_clear_20 (fun H locs hP hD hS => ?_)
      refine lv_iinc (v := (x1 + 1)) (lv' := [(1, .int (x1 + 1)), (0, .ref (ad 3))]) C.1 C.2.1 dX6_clear_21 hl (k := 1) rfl rfl (by decide) rfl (fun ls hl => ?_)
      refine lv_goto (tgt := 7) C.1 C.2.1 dX6_clear_24 (by decide) ?_
      exact ih u3 (x1 + 1) _ _ hP hD hS _ (lv_sub hl [1, 0] rfl) hf
set_option maxRecDepth 100000 in
set_option maxHeartbeats 4000000 in
theorem mX6_clear {u0 : ST} (hf : fX6_clear u = some u0) : MWv l yX6_clear cX6_clear 2 none 0 0 0 0 [.ref (ad 3)] g (cW g ad) u u0 := by
  refine entW (Qc := fun A => va_Qv (fun v => v = u0) (BW g A (cW g ad)) A) (by decide) (Nat.le_of_ble_eq_true rfl) ?_
  intro p e s m below meth c ls A C hP hD hS hA hZ hl
  have hl : lv_has ls 2 [(0, .ref (ad 3))] := hl
  rw [fX6_clear] at hf
  refine lv_aload_n C.1 C.2.1 dX6_clear_0 rfl (lv_at hl 0 rfl) ?_
  refine lv_iconst (v := 0) C.1 C.2.1 dX6_clear_1 (by decide) ?_
  obtain ⟨u1, hu1, hf⟩ := Option.bind_eq_some_iff.mp hf
  refine ptc_X6_size C hP hD hS wF_X6_35 dX6_clear_2 (fun H locs hP hD hS => ?_)
  rw [Option.some.inj hu1] at hP hD
  refine lv_iconst (v := 0) C.1 C.2.1 dX6_clear_5 (by decide) ?_
  refine lv_istore_n (lv' := [(1, .int 0), (0, .ref (ad 3))]) C.1 C.2.1 dX6_clear_6 rfl hl (by decide) rfl (fun ls hl => ?_)
  exact bX6_clear_L7 C hA hZ 5000 u1 0 _ _ hP hD hS _ (lv_sub hl [1, 0] rfl) hf
end
theorem vX6_clear : YV yX6_clear cX6_clear 2 none 0 := ⟨⟨wK_X6_clear, wZ_X6, by decide +kernel⟩, wI_X6_clear, wV_X6_clear⟩
def fX2_clear (u : ST) : Option ST :=
  (fX7_clear u).bind fun u1 =>
  (fX6_clear u1).bind fun u2 =>
  some u2
section
variable {p : Program} {l : Launch} {e : Env} {s : State} {m : MethodId} {args : Array Value} {below : List Frame} {meth : Method} {c : Code} {H : Heap} {locs : List Loc} {g : GP} {ls : Array Slot} {A : Nat → Prop} {ad : Nat → Nat} {u : ST}
set_option maxRecDepth 100000 in
set_option maxHeartbeats 4000000 in
theorem mX2_clear {u0 : ST} (hf : fX2_clear u = some u0) : MWv l yX2_clear cX2_clear 1 none 1 21 0 0 [.ref (ad 1)] g (cW g ad) u u0 := by
  refine entW (Qc := fun A => va_Qv (fun v => v = u0) (BW g A (cW g ad)) A) (by decide) (Nat.le_of_ble_eq_true rfl) ?_
  intro p e s m below meth c ls A C hP hD hS hA hZ hl
  have hl : lv_has ls 1 [(0, .ref (ad 1))] := hl
  rw [fX2_clear] at hf
  refine lv_aload_n C.1 C.2.1 dX2_clear_0 rfl (lv_at hl 0 rfl) ?_
  refine gtc_X2_types C hP wF_X2_12 dX2_clear_1 ?_
  obtain ⟨u1, hu1, hf⟩ := Option.bind_eq_some_iff.mp hf
  refine cWv (As := []) (rest := []) (mc := 0) (ms := 0) C (mX7_clear hu1) vX7_clear wM_X2_25 ⟨Nat.le_of_ble_eq_true rfl, Nat.le_of_ble_eq_true rfl⟩ hP hD hS hA hZ (rcc_X7 C hP) hl.1 rfl rfl (Nat.le_of_ble_eq_true rfl) dX2_clear_4 ⟨Nat.le_of_ble_eq_true rfl, Nat.le_of_ble_eq_true rfl⟩ (fun H locs hP hD hS => ?_)
  refine lv_aload_n C.1 C.2.1 dX2_clear_7 rfl (lv_at hl 0 rfl) ?_
  refine gtc_X2_members C hP wF_X2_21 dX2_clear_8 ?_
  obtain ⟨u2, hu2, hf⟩ := Option.bind_eq_some_iff.mp hf
  refine cWv (As := []) (rest := []) (mc := 0) (ms := 0) C (mX6_clear hu2) vX6_clear wM_X2_28 ⟨Nat.le_of_ble_eq_true rfl, Nat.le_of_ble_eq_true rfl⟩ hP hD hS hA hZ (rcc_X6 C hP) hl.1 rfl rfl (Nat.le_of_ble_eq_true rfl) dX2_clear_11 ⟨Nat.le_of_ble_eq_true rfl, Nat.le_of_ble_eq_true rfl⟩ (fun H locs hP hD hS => ?_)
  exact endWv C hP hD hS (Nat.le_refl _) (Nat.le_refl _) hf dX2_clear_14
end
theorem vX2_clear : YV yX2_clear cX2_clear 1 none 0 := ⟨⟨wK_X2_clear, wZ_X2, by decide +kernel⟩, wI_X2_clear, wV_X2_clear⟩
def fJ9_max_7cf53 (u : ST) (x0 : Int32) (x1 : Int32) : Option Int32 :=
  if x0 < x1 then
    some x1
  else
    some x0
section
variable {p : Program} {l : Launch} {e : Env} {s : State} {m : MethodId} {args : Array Value} {below : List Frame} {meth : Method} {c : Code} {H : Heap} {locs : List Loc} {g : GP} {ls : Array Slot} {A : Nat → Prop} {ad : Nat → Nat} {u : ST}
set_option maxRecDepth 100000 in
set_option maxHeartbeats 4000000 in
theorem mJ9_max_7cf53 {r0 : Int32} {x0 : Int32} {x1 : Int32} (hf : fJ9_max_7cf53 u x0 x1 = some r0) : MRi l yJ9_max_7cf53 cJ9_max_7cf53 2 (some .int) 0 0 [.int x0, .int x1] g (cW g ad u) r0 := by
  refine entRF (by decide +kernel) (Nat.le_of_ble_eq_true rfl) ?_
  intro p e s m below meth c ls C hP hZ hl
  have hl : lv_has ls 2 [(0, .int x0), (1, .int x1)] := hl
  rw [fJ9_max_7cf53] at hf
  refine lv_iload_n C.1 C.2.1 dJ9_max_7cf53_0 rfl (lv_at hl 0 rfl) ?_
  refine lv_iload_n C.1 C.2.1 dJ9_max_7cf53_1 rfl (lv_at hl 1 rfl) ?_
  refine lv_icmp_lt (tgt := 9) C.1 C.2.1 dJ9_max_7cf53_2 (by decide) (fun c1 => ?_) (fun c1 => ?_)
  · rw [if_pos c1] at hf
    refine lv_iload_n C.1 C.2.1 dJ9_max_7cf53_9 rfl (lv_at hl 1 rfl) ?_
    exact endRi C hf dJ9_max_7cf53_10
  · rw [if_neg c1] at hf
    refine lv_iload_n C.1 C.2.1 dJ9_max_7cf53_5 rfl (lv_at hl 0 rfl) ?_
    refine lv_goto (tgt := 10) C.1 C.2.1 dJ9_max_7cf53_6 (by decide) ?_
    exact endRi C hf dJ9_max_7cf53_10
end
theorem vJ9_max_7cf53 : YS yJ9_max_7cf53 cJ9_max_7cf53 2 (some .int) 2 := ⟨⟨wK_J9_max_7cf53, wZ_J9, by decide +kernel⟩, wS_J9_max_7cf53⟩
def fX8_redo_L43 (K6 : ST → Int32 → Int32 → Option ST) (u : ST) (x2 : Int32) (x3 : Int32) : Option ST :=
  K6 u x2 (x3 + 1)
def fX8_redo_L6 : Nat → ST → Int32 → Int32 → Option ST
  | 0, _, _, _ => none
  | n + 1, u, x2, x3 =>
    if x2 ≤ x3 then
      some u
    else
      if 120 ≤ x3 then
        some u
      else
        (rdR u 6 120 x3).bind fun v4 =>
        oC v4 (
          fX8_redo_L43 (fX8_redo_L6 n) u x2 x3) fun a5 =>
          b2 (fX2_carryOut u a5) fun v7 u6 =>
          fX8_redo_L43 (fX8_redo_L6 n) u6 x2 x3
def fX8_redo (u : ST) (x1 : Int32) (x2 : Int32) : Option ST :=
  (fJ9_max_7cf53 u x1 0).bind fun v1 =>
  fX8_redo_L6 5000 u x2 v1
section
variable {p : Program} {l : Launch} {e : Env} {s : State} {m : MethodId} {args : Array Value} {below : List Frame} {meth : Method} {c : Code} {H : Heap} {locs : List Loc} {g : GP} {ls : Array Slot} {A : Nat → Prop} {ad : Nat → Nat} {u : ST}
set_option maxRecDepth 100000 in
set_option maxHeartbeats 4000000 in
theorem bX8_redo_L43 {u0 : ST} {K6 : ST → Int32 → Int32 → Option ST} {x2 : Int32} {x3 : Int32} (C : Cx p s m args meth c cX8_redo 5 RX8 none g) (hA : ∀ q, s.heap.size ≤ q → A q) (hZ : SF A s) (hK6 : ∀ (u : ST) (x2 : Int32) (x3 : Int32) (H : Heap) (locs : List Loc), va_P g.1 vwCl (cW g ad u) H → va_D A (cW g ad u) → va_S A s.heap H locs → ∀ (ls : Array Slot), lv_has ls 5 [(0, .ref (ad 0)), (2, .int x2), (3, .int x3)] → K6 u x2 x3 = some u0 → W p l e (rmW 5 116 0 0) s m args below meth c H locs 0 0 (MQ below (va_Qv (fun v => v = u0) (BW g A (cW g ad)) A) args s 0 0 A) (F0 m 6 ls [])) (hP : va_P g.1 vwCl (cW g ad u) H) (hD : va_D A (cW g ad u)) (hS : va_S A s.heap H locs) (hl : lv_has ls 5 [(0, .ref (ad 0)), (2, .int x2), (3, .int x3)]) (hf : fX8_redo_L43 K6 u x2 x3 = some u0) : W p l e (rmW 5 116 0 0) s m args below meth c H locs 0 0 (MQ below (va_Qv (fun v => v = u0) (BW g A (cW g ad)) A) args s 0 0 A) (F0 m 43 ls []) := by
  rw [fX8_redo_L43] at hf
  refine lv_iinc (v := (x3 + 1)) (lv' := [(3, .int (x3 + 1)), (0, .ref (ad 0)), (2, .int x2)]) C.1 C.2.1 dX8_redo_43 hl (k := 2) rfl rfl (by decide) rfl (fun ls hl => ?_)
  refine lv_goto (tgt := 6) C.1 C.2.1 dX8_redo_46 (by decide) ?_
  exact hK6 u x2 (x3 + 1) _ _ hP hD hS _ (lv_sub hl [1, 2, 0] rfl) hf
set_option maxRecDepth 100000 in
set_option maxHeartbeats 4000000 in
theorem bX8_redo_L6 {u0 : ST} (C : Cx p s m args meth c cX8_redo 5 RX8 none g) (hA : ∀ q, s.heap.size ≤ q → A q) (hZ : SF A s) : ∀ (n : Nat), ∀ (u : ST) (x2 : Int32) (x3 : Int32) (H : Heap) (locs : List Loc), va_P g.1 vwCl (cW g ad u) H → va_D A (cW g ad u) → va_S A s.heap H locs → ∀ (ls : Array Slot), lv_has ls 5 [(0, .ref (ad 0)), (2, .int x2), (3, .int x3)] → fX8_redo_L6 n u x2 x3 = some u0 → W p l e (rmW 5 116 0 0) s m args below meth c H locs 0 0 (MQ below (va_Qv (fun v => v = u0) (BW g A (cW g ad)) A) args s 0 0 A) (F0 m 6 ls []) := by
  intro n
  induction n with
  | zero =>
    intro u x2 x3 H locs hP hD hS ls hl hf
    exact absurd hf (by simp [fX8_redo_L6])
  | succ n ih =>
    intro u x2 x3 H locs hP hD hS ls hl hf
    rw [fX8_redo_L6] at hf
    refine lv_iload_n C.1 C.2.1 dX8_redo_6 rfl (lv_at hl 2 rfl) ?_
    refine lv_iload_n C.1 C.2.1 dX8_redo_7 rfl (lv_at hl 1 rfl) ?_
    refine lv_icmp_ge (tgt := 49) C.1 C.2.1 dX8_redo_8 (by decide) (fun c2 => ?_) (fun c2 => ?_)
    · rw [if_pos c2] at hf
      exact endWv C hP hD hS (Nat.le_refl _) (Nat.le_refl _) hf dX8_redo_49
    · rw [if_neg c2] at hf
      refine lv_iload_n C.1 C.2.1 dX8_redo_11 rfl (lv_at hl 2 rfl) ?_
      refine lv_aload_n C.1 C.2.1 dX8_redo_12 rfl (lv_at hl 0 rfl) ?_
      refine gtc_X8_edits C hP wF_X8_34 dX8_redo_13 ?_
      refine lnc_6 C hP dX8_redo_16 ?_
      refine lv_icmp_ge (tgt := 49) C.1 C.2.1 dX8_redo_17 (by decide) (fun c3 => ?_) (fun c3 => ?_)
      · rw [if_pos c3] at hf
        exact endWv C hP hD hS (Nat.le_refl _) (Nat.le_refl _) hf dX8_redo_49
      · rw [if_neg c3] at hf
        refine lv_aload_n C.1 C.2.1 dX8_redo_20 rfl (lv_at hl 0 rfl) ?_
        refine gtc_X8_edits C hP wF_X8_34 dX8_redo_21 ?_
        refine lv_iload_n C.1 C.2.1 dX8_redo_24 rfl (lv_at hl 2 rfl) ?_
        obtain ⟨v4, hv4, hf⟩ := Option.bind_eq_some_iff.mp hf
        refine ldc_6 C hP hv4 dX8_redo_25 ?_
        cases v4 with
        | none =>
          dsimp only [oC] at hf
          refine lv_astoreN (lv' := [(4, .null), (0, .ref (ad 0)), (2, .int x2), (3, .int x3)]) C.1 C.2.1 dX8_redo_26 hl (by decide) rfl (fun ls hl => ?_)
          refine lv_aloadN C.1 C.2.1 dX8_redo_28 (lv_at hl 0 rfl) ?_
          refine lv_ifnullN (tgt := 43) C.1 C.2.1 dX8_redo_30 (by decide) ?_
          exact bX8_redo_L43 C hA hZ ih hP hD hS (lv_sub hl [1, 2, 3] rfl) hf
        | some a5 =>
          dsimp only [oC] at hf
          refine lv_astore (lv' := [(4, .ref a5), (0, .ref (ad 0)), (2, .int x2), (3, .int x3)]) C.1 C.2.1 dX8_redo_26 hl (by decide) rfl (fun ls hl => ?_)
          refine lv_aload C.1 C.2.1 dX8_redo_28 (lv_at hl 0 rfl) ?_
          refine lv_ifnull C.1 C.2.1 dX8_redo_30 ?_
          refine lv_aload_n C.1 C.2.1 dX8_redo_33 rfl (lv_at hl 1 rfl) ?_
          refine gtc_X8_house C hP wF_X8_10 dX8_redo_34 ?_
          refine lv_aload C.1 C.2.1 dX8_redo_37 (lv_at hl 0 rfl) ?_
          obtain ⟨v7, u6, hu6, hf⟩ := b2_some hf
          refine cWi (As := [.ref a5]) (rest := []) (mc := 0) (ms := 0) C (mX2_carryOut hu6) vX2_carryOut wM_X8_223 ⟨Nat.le_of_ble_eq_true rfl, Nat.le_of_ble_eq_true rfl⟩ hP hD hS hA hZ (rcc_X2 C hP) hl.1 rfl rfl (Nat.le_of_ble_eq_true rfl) dX8_redo_39 ⟨Nat.le_of_ble_eq_true rfl, Nat.le_of_ble_eq_true rfl⟩ (fun H locs hP hD hS => ?_)
          refine lv_pop C.1 C.2.1 dX8_redo_42 rfl ?_
          exact bX8_redo_L43 C hA hZ ih hP hD hS (lv_sub hl [1, 2, 3] rfl) hf
set_option maxRecDepth 100000 in
set_option maxHeartbeats 4000000 in
theorem mX8_redo {u0 : ST} {x1 : Int32} {x2 : Int32} (hf : fX8_redo u x1 x2 = some u0) : MWv l yX8_redo cX8_redo 5 none 5 116 0 0 [.ref (ad 0), .int x1, .int x2] g (cW g ad) u u0 := by
  refine entW (Qc := fun A => va_Qv (fun v => v = u0) (BW g A (cW g ad)) A) (by decide) (Nat.le_of_ble_eq_true rfl) ?_
  intro p e s m below meth c ls A C hP hD hS hA hZ hl
  have hl : lv_has ls 5 [(0, .ref (ad 0)), (1, .int x1), (2, .int x2)] := hl
  rw [fX8_redo] at hf
  refine lv_iload_n C.1 C.2.1 dX8_redo_0 rfl (lv_at hl 1 rfl) ?_
  refine lv_iconst (v := 0) C.1 C.2.1 dX8_redo_1 (by decide) ?_
  obtain ⟨v1, hv1, hf⟩ := Option.bind_eq_some_iff.mp hf
  refine cSi (As := [.int x1, .int 0]) (rest := []) C (mJ9_max_7cf53 hv1) vJ9_max_7cf53 wM_X8_224 ⟨Nat.le_of_ble_eq_true rfl, Nat.le_of_ble_eq_true rfl⟩ hP (fun U hU hW => SF.go hZ hS hU hW (fun _ h => h.elim)) hl.1 rfl rfl (Nat.le_of_ble_eq_true rfl) dX8_redo_2 ⟨Nat.le_of_ble_eq_true rfl, Nat.le_of_ble_eq_true rfl⟩ ?_
  refine lv_istore_n (lv' := [(3, .int v1), (0, .ref (ad 0)), (1, .int x1), (2, .int x2)]) C.1 C.2.1 dX8_redo_5 rfl hl (by decide) rfl (fun ls hl => ?_)
  exact bX8_redo_L6 C hA hZ 5000 u x2 v1 _ _ hP hD hS _ (lv_sub hl [1, 3, 0] rfl) hf
end
theorem vX8_redo : YV yX8_redo cX8_redo 5 none 2 := ⟨⟨wK_X8_redo, wZ_X8, by decide +kernel⟩, wI_X8_redo, wV_X8_redo⟩
def fX8_undo (u : ST) : Option (Int32 × ST) :=
  if 0 < (sI u 4) then
    (some (uI u 4 ((sI u 4) - 1))).bind fun u2 =>
    (stR u2 6 120 (sI u2 4) none).bind fun u3 =>
    (fX2_clear u3).bind fun u4 =>
    (fX8_redo u4 0 (sI u4 4)).bind fun u5 =>
    some ((sI u5 4), u5)
  else
    some ((-2), u)
section
variable {p : Program} {l : Launch} {e : Env} {s : State} {m : MethodId} {args : Array Value} {below : List Frame} {meth : Method} {c : Code} {H : Heap} {locs : List Loc} {g : GP} {ls : Array Slot} {A : Nat → Prop} {ad : Nat → Nat} {u : ST}
set_option maxRecDepth 100000 in
set_option maxHeartbeats 4000000 in
theorem mX8_undo {r0 : Int32} {u0 : ST} (hf : fX8_undo u = some (r0, u0)) : MWi l yX8_undo cX8_undo 1 (some .int) 6 140 0 0 [.ref (ad 0)] g (cW g ad) u r0 u0 := by
  refine entW (Qc := fun A => va_Qi (fun r v => r = r0 ∧ v = u0) (BW g A (cW g ad)) A) (by decide) (Nat.le_of_ble_eq_true rfl) ?_
  intro p e s m below meth c ls A C hP hD hS hA hZ hl
  have hl : lv_has ls 1 [(0, .ref (ad 0))] := hl
  rw [fX8_undo] at hf
  refine lv_aload_n C.1 C.2.1 dX8_undo_0 rfl (lv_at hl 0 rfl) ?_
  refine gtc_X8_editCount C hP wF_X8_126 dX8_undo_1 ?_
  refine lv_if_gt (tgt := 10) C.1 C.2.1 dX8_undo_4 (by decide) (fun c1 => ?_) (fun c1 => ?_)
  · rw [if_pos c1] at hf
    refine lv_aload_n C.1 C.2.1 dX8_undo_10 rfl (lv_at hl 0 rfl) ?_
    refine lv_dup C.1 C.2.1 dX8_undo_11 rfl ?_
    refine gtc_X8_editCount C hP wF_X8_126 dX8_undo_12 ?_
    refine lv_iconst (v := 1) C.1 C.2.1 dX8_undo_15 (by decide) ?_
    refine lv_isub C.1 C.2.1 dX8_undo_16 ?_
    obtain ⟨u2, hu2, hf⟩ := Option.bind_eq_some_iff.mp hf
    refine ptc_X8_editCount C hP hD hS wF_X8_126 dX8_undo_17 (fun H locs hP hD hS => ?_)
    rw [Option.some.inj hu2] at hP hD
    refine lv_aload_n C.1 C.2.1 dX8_undo_20 rfl (lv_at hl 0 rfl) ?_
    refine gtc_X8_edits C hP wF_X8_34 dX8_undo_21 ?_
    refine lv_aload_n C.1 C.2.1 dX8_undo_24 rfl (lv_at hl 0 rfl) ?_
    refine gtc_X8_editCount C hP wF_X8_126 dX8_undo_25 ?_
    refine lv_null C.1 C.2.1 dX8_undo_28 ?_
    obtain ⟨u3, hu3, hf⟩ := Option.bind_eq_some_iff.mp hf
    refine stcN_6 C hP hD hS hu3 dX8_undo_29 (fun H locs hP hD hS => ?_)
    refine lv_aload_n C.1 C.2.1 dX8_undo_30 rfl (lv_at hl 0 rfl) ?_
    refine gtc_X8_house C hP wF_X8_10 dX8_undo_31 ?_
    obtain ⟨u4, hu4, hf⟩ := Option.bind_eq_some_iff.mp hf
    refine cWv (As := []) (rest := []) (mc := 0) (ms := 0) C (mX2_clear hu4) vX2_clear wM_X8_129 ⟨Nat.le_of_ble_eq_true rfl, Nat.le_of_ble_eq_true rfl⟩ hP hD hS hA hZ (rcc_X2 C hP) hl.1 rfl rfl (Nat.le_of_ble_eq_true rfl) dX8_undo_34 ⟨Nat.le_of_ble_eq_true rfl, Nat.le_of_ble_eq_true rfl⟩ (fun H locs hP hD hS => ?_)
    refine lv_aload_n C.1 C.2.1 dX8_undo_37 rfl (lv_at hl 0 rfl) ?_
    refine lv_iconst (v := 0) C.1 C.2.1 dX8_undo_38 (by decide) ?_
    refine lv_aload_n C.1 C.2.1 dX8_undo_39 rfl (lv_at hl 0 rfl) ?_
    refine gtc_X8_editCount C hP wF_X8_126 dX8_undo_40 ?_
    obtain ⟨u5, hu5, hf⟩ := Option.bind_eq_some_iff.mp hf
    refine cWv (As := [.int 0, .int (sI u4 4)]) (rest := []) (mc := 0) (ms := 0) C (mX8_redo hu5) vX8_redo wM_X8_132 ⟨Nat.le_of_ble_eq_true rfl, Nat.le_of_ble_eq_true rfl⟩ hP hD hS hA hZ (rcc_X8 C hP) hl.1 rfl rfl (Nat.le_of_ble_eq_true rfl) dX8_undo_43 ⟨Nat.le_of_ble_eq_true rfl, Nat.le_of_ble_eq_true rfl⟩ (fun H locs hP hD hS => ?_)
    refine lv_aload_n C.1 C.2.1 dX8_undo_46 rfl (lv_at hl 0 rfl) ?_
    refine gtc_X8_editCount C hP wF_X8_126 dX8_undo_47 ?_
    exact endWi C hP hD hS (Nat.le_refl _) (Nat.le_refl _) hf dX8_undo_50
  · rw [if_neg c1] at hf
    refine lv_bipush (v := -2) C.1 C.2.1 dX8_undo_7 (by decide) ?_
    exact endWi C hP hD hS (Nat.le_refl _) (Nat.le_refl _) hf dX8_undo_9
end
theorem vX8_undo : YV yX8_undo cX8_undo 1 (some .int) 0 := ⟨⟨wK_X8_undo, wZ_X8, by decide +kernel⟩, wI_X8_undo, wV_X8_undo⟩
def fX0_name (u : ST) (x0 : Nat) (x1 : Int32) (x2 : Int32) (x3 : Int32) (x4 : Int32) (x5 : Int32) : Option ST :=
  (wcI u x0 0 x1).bind fun u1 =>
  (wcI u1 x0 1 x2).bind fun u2 =>
  (wcI u2 x0 2 x3).bind fun u3 =>
  (wcI u3 x0 3 x4).bind fun u4 =>
  (wcI u4 x0 4 x5).bind fun u5 =>
  (wcI u5 x0 5 (-2)).bind fun u6 =>
  (wcI u6 x0 6 (-2)).bind fun u7 =>
  (wcI u7 x0 7 0).bind fun u8 =>
  (wcZ u8 x0 8 0).bind fun u9 =>
  (wcZ u9 x0 9 0).bind fun u10 =>
  (wcZ u10 x0 10 0).bind fun u11 =>
  (wcV u11 x0 0).bind fun u12 =>
  some u12
section
variable {p : Program} {l : Launch} {e : Env} {s : State} {m : MethodId} {args : Array Value} {below : List Frame} {meth : Method} {c : Code} {H : Heap} {locs : List Loc} {g : GP} {ls : Array Slot} {A : Nat → Prop} {ad : Nat → Nat} {u : ST}
set_option maxRecDepth 100000 in
set_option maxHeartbeats 4000000 in
theorem mX0_name {u0 : ST} {x0 : Nat} {x1 : Int32} {x2 : Int32} {x3 : Int32} {x4 : Int32} {x5 : Int32} (hf : fX0_name u x0 x1 x2 x3 x4 x5 = some u0) : MWv l yX0_name cX0_name 6 none 0 0 0 0 [.ref x0, .int x1, .int x2, .int x3, .int x4, .int x5] g (cW g ad) u u0 := by
  refine entW (Qc := fun A => va_Qv (fun v => v = u0) (BW g A (cW g ad)) A) (by decide) (Nat.le_of_ble_eq_true rfl) ?_
  intro p e s m below meth c ls A C hP hD hS hA hZ hl
  have hl : lv_has ls 6 [(0, .ref x0), (1, .int x1), (2, .int x2), (3, .int x3), (4, .int x4), (5, .int x5)] := hl
  rw [fX0_name] at hf
  refine lv_aload_n C.1 C.2.1 dX0_name_0 rfl (lv_at hl 0 rfl) ?_
  refine lv_iload_n C.1 C.2.1 dX0_name_1 rfl (lv_at hl 1 rfl) ?_
  obtain ⟨u1, hu1, hf⟩ := Option.bind_eq_some_iff.mp hf
  refine pC_sort C hP hD hS hu1 wF_X0_9 dX0_name_2 (fun H locs hP hD hS => ?_)
  refine lv_aload_n C.1 C.2.1 dX0_name_5 rfl (lv_at hl 0 rfl) ?_
  refine lv_iload_n C.1 C.2.1 dX0_name_6 rfl (lv_at hl 2 rfl) ?_
  obtain ⟨u2, hu2, hf⟩ := Option.bind_eq_some_iff.mp hf
  refine pC_t C hP hD hS hu2 wF_X0_15 dX0_name_7 (fun H locs hP hD hS => ?_)
  refine lv_aload_n C.1 C.2.1 dX0_name_10 rfl (lv_at hl 0 rfl) ?_
  refine lv_iload_n C.1 C.2.1 dX0_name_11 rfl (lv_at hl 3 rfl) ?_
  obtain ⟨u3, hu3, hf⟩ := Option.bind_eq_some_iff.mp hf
  refine pC_n C hP hD hS hu3 wF_X0_18 dX0_name_12 (fun H locs hP hD hS => ?_)
  refine lv_aload_n C.1 C.2.1 dX0_name_15 rfl (lv_at hl 0 rfl) ?_
  refine lv_iload C.1 C.2.1 dX0_name_16 (lv_at hl 4 rfl) ?_
  obtain ⟨u4, hu4, hf⟩ := Option.bind_eq_some_iff.mp hf
  refine pC_a C hP hD hS hu4 wF_X0_21 dX0_name_18 (fun H locs hP hD hS => ?_)
  refine lv_aload_n C.1 C.2.1 dX0_name_21 rfl (lv_at hl 0 rfl) ?_
  refine lv_iload C.1 C.2.1 dX0_name_22 (lv_at hl 5 rfl) ?_
  obtain ⟨u5, hu5, hf⟩ := Option.bind_eq_some_iff.mp hf
  refine pC_b C hP hD hS hu5 wF_X0_24 dX0_name_24 (fun H locs hP hD hS => ?_)
  refine lv_aload_n C.1 C.2.1 dX0_name_27 rfl (lv_at hl 0 rfl) ?_
  refine lv_bipush (v := -2) C.1 C.2.1 dX0_name_28 (by decide) ?_
  obtain ⟨u6, hu6, hf⟩ := Option.bind_eq_some_iff.mp hf
  refine pC_first C hP hD hS hu6 wF_X0_27 dX0_name_30 (fun H locs hP hD hS => ?_)
  refine lv_aload_n C.1 C.2.1 dX0_name_33 rfl (lv_at hl 0 rfl) ?_
  refine lv_bipush (v := -2) C.1 C.2.1 dX0_name_34 (by decide) ?_
  obtain ⟨u7, hu7, hf⟩ := Option.bind_eq_some_iff.mp hf
  refine pC_second C hP hD hS hu7 wF_X0_30 dX0_name_36 (fun H locs hP hD hS => ?_)
  refine lv_aload_n C.1 C.2.1 dX0_name_39 rfl (lv_at hl 0 rfl) ?_
  refine lv_iconst (v := 0) C.1 C.2.1 dX0_name_40 (by decide) ?_
  obtain ⟨u8, hu8, hf⟩ := Option.bind_eq_some_iff.mp hf
  refine pC_kind C hP hD hS hu8 wF_X0_33 dX0_name_41 (fun H locs hP hD hS => ?_)
  refine lv_aload_n C.1 C.2.1 dX0_name_44 rfl (lv_at hl 0 rfl) ?_
  refine lv_iconst (v := 0) C.1 C.2.1 dX0_name_45 (by decide) ?_
  obtain ⟨u9, hu9, hf⟩ := Option.bind_eq_some_iff.mp hf
  refine pC_isStatic C hP hD hS hu9 wF_X0_36 dX0_name_46 (fun H locs hP hD hS => ?_)
  refine lv_aload_n C.1 C.2.1 dX0_name_49 rfl (lv_at hl 0 rfl) ?_
  refine lv_iconst (v := 0) C.1 C.2.1 dX0_name_50 (by decide) ?_
  obtain ⟨u10, hu10, hf⟩ := Option.bind_eq_some_iff.mp hf
  refine pC_onFace C hP hD hS hu10 wF_X0_40 dX0_name_51 (fun H locs hP hD hS => ?_)
  refine lv_aload_n C.1 C.2.1 dX0_name_54 rfl (lv_at hl 0 rfl) ?_
  refine lv_iconst (v := 0) C.1 C.2.1 dX0_name_55 (by decide) ?_
  obtain ⟨u11, hu11, hf⟩ := Option.bind_eq_some_iff.mp hf
  refine pC_keeps C hP hD hS hu11 wF_X0_43 dX0_name_56 (fun H locs hP hD hS => ?_)
  refine lv_aload_n C.1 C.2.1 dX0_name_59 rfl (lv_at hl 0 rfl) ?_
  refine lv_lconst (v := 0) C.1 C.2.1 dX0_name_60 (by decide) ?_
  obtain ⟨u12, hu12, hf⟩ := Option.bind_eq_some_iff.mp hf
  refine pC_kept C hP hD hS hu12 wF_X0_46 dX0_name_61 (fun H locs hP hD hS => ?_)
  exact endWv C hP hD hS (Nat.le_refl _) (Nat.le_refl _) hf dX0_name_64
end
theorem vX0_name : YV yX0_name cX0_name 6 none 5 := ⟨⟨wK_X0_name, wZ_X0, by decide +kernel⟩, wI_X0_name, wV_X0_name⟩
def fX7_walk_L92 (WK : ST → Int32 → Int32 → Int32 → Option ST) : Nat → ST → Int32 → Int32 → Int32 → Int32 → Option ST
  | 0, _, _, _, _, _ => none
  | n + 1, u, x1, x2, x3, x4 =>
    (rdI u 11 12 x1).bind fun v10 =>
    if v10 ≤ x4 then
      if x2 = 0 then
        some u
      else
        (rdI u 9 12 x1).bind fun v13 =>
        (WK u v13 1 (x3 + 1)).bind fun u14 =>
        some u14
    else
      (rdI u 12 36 ((x1 * 3) + x4)).bind fun v15 =>
      (WK u v15 x2 (x3 + 1)).bind fun u16 =>
      fX7_walk_L92 WK n u16 x1 x2 x3 (x4 + 1)
def fX7_walk_L89 (WK : ST → Int32 → Int32 → Int32 → Option ST) (u : ST) (x1 : Int32) (x2 : Int32) (x3 : Int32) : Option ST :=
  fX7_walk_L92 WK 5000 u x1 x2 x3 0
def fX7_walk_B (WK : ST → Int32 → Int32 → Int32 → Option ST) (u : ST) (x1 x2 x3 : Int32) : Option ST :=
  if x1 < 0 then
    some u
  else
    if (sI u 200) ≤ x1 then
      some u
    else
      if 12 ≤ x3 then
        some u
      else
        if 12 ≤ (sI u 209) then
          some u
        else
          if (((sI u 210) >>> (x1 &&& 31)) &&& 1) = 0 then
            (some (uI u 210 ((sI u 210) ||| (1 <<< (x1 &&& 31))))).bind fun u6 =>
            (stI u6 14 12 (sI u6 209) x1).bind fun u7 =>
            (some (uI u7 209 ((sI u7 209) + 1))).bind fun u8 =>
            if x2 = 0 then
              (rdI u8 9 12 x1).bind fun v17 =>
              (WK u8 v17 0 (x3 + 1)).bind fun u18 =>
              fX7_walk_L89 WK u18 x1 x2 x3
            else
              fX7_walk_L89 WK u8 x1 x2 x3
          else
            some u
def fX7_walk : Nat → ST → Int32 → Int32 → Int32 → Option ST
  | 0, _, _, _, _ => none
  | d + 1, u, x1, x2, x3 => fX7_walk_B (fX7_walk d) u x1 x2 x3
section
variable {p : Program} {l : Launch} {e : Env} {s : State} {m : MethodId} {args : Array Value} {below : List Frame} {meth : Method} {c : Code} {H : Heap} {locs : List Loc} {g : GP} {ls : Array Slot} {A : Nat → Prop} {ad : Nat → Nat} {u : ST}
theorem vX7_walk : YV yX7_walk cX7_walk 5 none 3 := ⟨⟨wK_X7_walk, wZ_X7, by decide +kernel⟩, wI_X7_walk, wV_X7_walk⟩
set_option maxRecDepth 100000 in
set_option maxHeartbeats 4000000 in
theorem bX7_walk_L92 {u0 : ST} {WK : ST → Int32 → Int32 → Int32 → Option ST} {fr kr : Nat} (hW : ∀ (u : ST) (x1 x2 x3 : Int32) (u0 : ST), WK u x1 x2 x3 = some u0 → MWv l yX7_walk cX7_walk 5 none fr kr 0 0 [.ref (ad 2), .int x1, .int x2, .int x3] g (cW g ad) u u0) (C : Cx p s m args meth c cX7_walk 5 RX7 none g) (hA : ∀ q, s.heap.size ≤ q → A q) (hZ : SF A s) : ∀ (n : Nat), ∀ (u : ST) (x1 : Int32) (x2 : Int32) (x3 : Int32) (x4 : Int32) (H : Heap) (locs : List Loc), va_P g.1 vwCl (cW g ad u) H → va_D A (cW g ad u) → va_S A s.heap H locs → ∀ (ls : Array Slot), lv_has ls 5 [(0, .ref (ad 2)), (1, .int x1), (2, .int x2), (3, .int x3), (4, .int x4)] → fX7_walk_L92 WK n u x1 x2 x3 x4 = some u0 → W p l e (rmW (fr + 1) (kr + 24) 0 0) s m args below meth c H locs 0 0 (MQ below (va_Qv (fun v => v = u0) (BW g A (cW g ad)) A) args s 0 0 A) (F0 m 92 ls []) := by
  intro n
  induction n with
  | zero =>
    intro u x1 x2 x3 x4 H locs hP hD hS ls hl hf
    exact absurd hf (by simp [fX7_walk_L92])
  | succ n ih =>
    intro u x1 x2 x3 x4 H locs hP hD hS ls hl hf
    rw [fX7_walk_L92] at hf
    refine lv_iload C.1 C.2.1 dX7_walk_92 (lv_at hl 4 rfl) ?_
    refine lv_aload_n C.1 C.2.1 dX7_walk_94 rfl (lv_at hl 0 rfl) ?_
    refine gtc_X7_faceCount C hP wF_X7_22 dX7_walk_95 ?_
    refine lv_iload_n C.1 C.2.1 dX7_walk_98 rfl (lv_at hl 1 rfl) ?_
    obtain ⟨v10, hv10, hf⟩ := Option.bind_eq_some_iff.mp hf
    refine ldc_11 C hP hv10 dX7_walk_99 ?_
    refine lv_icmp_ge (tgt := 128) C.1 C.2.1 dX7_walk_100 (by decide) (fun c11 => ?_) (fun c11 => ?_)
    · rw [if_pos c11] at hf
      refine lv_iload_n C.1 C.2.1 dX7_walk_128 rfl (lv_at hl 2 rfl) ?_
      refine lv_if_eq (tgt := 146) C.1 C.2.1 dX7_walk_129 (by decide) (fun c12 => ?_) (fun c12 => ?_)
      · rw [if_pos c12] at hf
        exact endWv C hP hD hS (Nat.le_refl _) (Nat.le_refl _) hf dX7_walk_146
      · rw [if_neg c12] at hf
        refine lv_aload_n C.1 C.2.1 dX7_walk_132 rfl (lv_at hl 0 rfl) ?_
        refine lv_aload_n C.1 C.2.1 dX7_walk_133 rfl (lv_at hl 0 rfl) ?_
        refine gtc_X7_above C hP wF_X7_15 dX7_walk_134 ?_
        refine lv_iload_n C.1 C.2.1 dX7_walk_137 rfl (lv_at hl 1 rfl) ?_
        obtain ⟨v13, hv13, hf⟩ := Option.bind_eq_some_iff.mp hf
        refine ldc_9 C hP hv13 dX7_walk_138 ?_
        refine lv_iconst (v := 1) C.1 C.2.1 dX7_walk_139 (by decide) ?_
        refine lv_iload_n C.1 C.2.1 dX7_walk_140 rfl (lv_at hl 3 rfl) ?_
        refine lv_iconst (v := 1) C.1 C.2.1 dX7_walk_141 (by decide) ?_
        refine lv_iadd C.1 C.2.1 dX7_walk_142 ?_
        obtain ⟨u14, hu14, hf⟩ := Option.bind_eq_some_iff.mp hf
        refine cWv (As := [.int v13, .int 1, .int (x3 + 1)]) (rest := []) (mc := 0) (ms := 0) C (hW _ _ _ _ _ hu14) vX7_walk wM_X7_80 ⟨Nat.le_refl _, by show 8 + (5 + 11) + kr ≤ kr + 24; omega⟩ hP hD hS hA hZ (rcc_X7 C hP) hl.1 rfl rfl (Nat.le_of_ble_eq_true rfl) dX7_walk_143 ⟨Nat.le_of_ble_eq_true rfl, Nat.le_of_ble_eq_true rfl⟩ (fun H locs hP hD hS => ?_)
        exact endWv C hP hD hS (Nat.le_refl _) (Nat.le_refl _) hf dX7_walk_146
    · rw [if_neg c11] at hf
      refine lv_aload_n C.1 C.2.1 dX7_walk_103 rfl (lv_at hl 0 rfl) ?_
      refine lv_aload_n C.1 C.2.1 dX7_walk_104 rfl (lv_at hl 0 rfl) ?_
      refine gtc_X7_faces C hP wF_X7_25 dX7_walk_105 ?_
      refine lv_iload_n C.1 C.2.1 dX7_walk_108 rfl (lv_at hl 1 rfl) ?_
      refine lv_iconst (v := 3) C.1 C.2.1 dX7_walk_109 (by decide) ?_
      refine lv_imul C.1 C.2.1 dX7_walk_110 ?_
      refine lv_iload C.1 C.2.1 dX7_walk_111 (lv_at hl 4 rfl) ?_
      refine lv_iadd C.1 C.2.1 dX7_walk_113 ?_
      obtain ⟨v15, hv15, hf⟩ := Option.bind_eq_some_iff.mp hf
      refine ldc_12 C hP hv15 dX7_walk_114 ?_
      refine lv_iload_n C.1 C.2.1 dX7_walk_115 rfl (lv_at hl 2 rfl) ?_
      refine lv_iload_n C.1 C.2.1 dX7_walk_116 rfl (lv_at hl 3 rfl) ?_
      refine lv_iconst (v := 1) C.1 C.2.1 dX7_walk_117 (by decide) ?_
      refine lv_iadd C.1 C.2.1 dX7_walk_118 ?_
      obtain ⟨u16, hu16, hf⟩ := Option.bind_eq_some_iff.mp hf
      refine cWv (As := [.int v15, .int x2, .int (x3 + 1)]) (rest := []) (mc := 0) (ms := 0) C (hW _ _ _ _ _ hu16) vX7_walk wM_X7_80 ⟨Nat.le_refl _, by show 8 + (5 + 11) + kr ≤ kr + 24; omega⟩ hP hD hS hA hZ (rcc_X7 C hP) hl.1 rfl rfl (Nat.le_of_ble_eq_true rfl) dX7_walk_119 ⟨Nat.le_of_ble_eq_true rfl, Nat.le_of_ble_eq_true rfl⟩ (fun H locs hP hD hS => ?_)
      refine lv_iinc (v := (x4 + 1)) (lv' := [(4, .int (x4 + 1)), (0, .ref (ad 2)), (1, .int x1), (2, .int x2), (3, .int x3)]) C.1 C.2.1 dX7_walk_122 hl (k := 4) rfl rfl (by decide) rfl (fun ls hl => ?_)
      refine lv_goto (tgt := 92) C.1 C.2.1 dX7_walk_125 (by decide) ?_
      exact ih u16 x1 x2 x3 (x4 + 1) _ _ hP hD hS _ (lv_sub hl [1, 2, 3, 4, 0] rfl) hf
set_option maxRecDepth 100000 in
set_option maxHeartbeats 4000000 in
theorem bX7_walk_L89 {u0 : ST} {WK : ST → Int32 → Int32 → Int32 → Option ST} {fr kr : Nat} {x1 : Int32} {x2 : Int32} {x3 : Int32} (hW : ∀ (u : ST) (x1 x2 x3 : Int32) (u0 : ST), WK u x1 x2 x3 = some u0 → MWv l yX7_walk cX7_walk 5 none fr kr 0 0 [.ref (ad 2), .int x1, .int x2, .int x3] g (cW g ad) u u0) (C : Cx p s m args meth c cX7_walk 5 RX7 none g) (hA : ∀ q, s.heap.size ≤ q → A q) (hZ : SF A s) (hP : va_P g.1 vwCl (cW g ad u) H) (hD : va_D A (cW g ad u)) (hS : va_S A s.heap H locs) (hl : lv_has ls 5 [(0, .ref (ad 2)), (1, .int x1), (2, .int x2), (3, .int x3)]) (hf : fX7_walk_L89 WK u x1 x2 x3 = some u0) : W p l e (rmW (fr + 1) (kr + 24) 0 0) s m args below meth c H locs 0 0 (MQ below (va_Qv (fun v => v = u0) (BW g A (cW g ad)) A) args s 0 0 A) (F0 m 89 ls []) := by
  rw [fX7_walk_L89] at hf
  refine lv_iconst (v := 0) C.1 C.2.1 dX7_walk_89 (by decide) ?_
  refine lv_istore (lv' := [(4, .int 0), (0, .ref (ad 2)), (1, .int x1), (2, .int x2), (3, .int x3)]) C.1 C.2.1 dX7_walk_90 hl (by decide) rfl (fun ls hl => ?_)
  exact bX7_walk_L92 hW C hA hZ 5000 u x1 x2 x3 0 _ _ hP hD hS _ (lv_sub hl [1, 2, 3, 4, 0] rfl) hf
set_option maxRecDepth 100000 in
set_option maxHeartbeats 4000000 in
theorem mX7_walk : ∀ (d : Nat) (u : ST) (x1 x2 x3 : Int32) (u0 : ST), fX7_walk d u x1 x2 x3 = some u0 → MWv l yX7_walk cX7_walk 5 none d (24 * d) 0 0 [.ref (ad 2), .int x1, .int x2, .int x3] g (cW g ad) u u0 := by
  intro d
  induction d with
  | zero =>
    intro u x1 x2 x3 u0 hf
    exact absurd hf (by simp [fX7_walk])
  | succ d hd =>
    intro u x1 x2 x3 u0 hf
    obtain ⟨fr, hfr⟩ : ∃ z, z = d := ⟨_, rfl⟩
    obtain ⟨kr, hkr⟩ : ∃ z, z = 24 * d := ⟨_, rfl⟩
    have hW : ∀ (u : ST) (x1 x2 x3 : Int32) (u0 : ST), fX7_walk d u x1 x2 x3 = some u0 → MWv l yX7_walk cX7_walk 5 none fr kr 0 0 [.ref (ad 2), .int x1, .int x2, .int x3] g (cW g ad) u u0 := by rw [hfr, hkr]; exact hd
    have e1 : 24 * (d + 1) = kr + 24 := by rw [hkr]; rfl
    rw [e1, ← hfr]
    refine entW (Qc := fun A => va_Qv (fun v => v = u0) (BW g A (cW g ad)) A) (by decide) (Nat.le_of_ble_eq_true rfl) ?_
    intro p e s m below meth c ls A C hP hD hS hA hZ hl
    have hl : lv_has ls 5 [(0, .ref (ad 2)), (1, .int x1), (2, .int x2), (3, .int x3)] := hl
    rw [fX7_walk] at hf
    generalize fX7_walk d = WK at hf hW
    rw [fX7_walk_B] at hf
    refine lv_iload_n C.1 C.2.1 dX7_walk_0 rfl (lv_at hl 1 rfl) ?_
    refine lv_if_lt (tgt := 38) C.1 C.2.1 dX7_walk_1 (by decide) (fun c1 => ?_) (fun c1 => ?_)
    · rw [if_pos c1] at hf
      exact endWv C hP hD hS (Nat.le_refl _) (Nat.le_refl _) hf dX7_walk_38
    · rw [if_neg c1] at hf
      refine lv_iload_n C.1 C.2.1 dX7_walk_4 rfl (lv_at hl 1 rfl) ?_
      refine lv_aload_n C.1 C.2.1 dX7_walk_5 rfl (lv_at hl 0 rfl) ?_
      refine gtc_X7_size C hP wF_X7_34 dX7_walk_6 ?_
      refine lv_icmp_ge (tgt := 38) C.1 C.2.1 dX7_walk_9 (by decide) (fun c2 => ?_) (fun c2 => ?_)
      · rw [if_pos c2] at hf
        exact endWv C hP hD hS (Nat.le_refl _) (Nat.le_refl _) hf dX7_walk_38
      · rw [if_neg c2] at hf
        refine lv_iload_n C.1 C.2.1 dX7_walk_12 rfl (lv_at hl 3 rfl) ?_
        refine lv_bipush (v := 12) C.1 C.2.1 dX7_walk_13 (by decide) ?_
        refine lv_icmp_ge (tgt := 38) C.1 C.2.1 dX7_walk_15 (by decide) (fun c3 => ?_) (fun c3 => ?_)
        · rw [if_pos c3] at hf
          exact endWv C hP hD hS (Nat.le_refl _) (Nat.le_refl _) hf dX7_walk_38
        · rw [if_neg c3] at hf
          refine lv_aload_n C.1 C.2.1 dX7_walk_18 rfl (lv_at hl 0 rfl) ?_
          refine gtc_X7_ordered C hP wF_X7_74 dX7_walk_19 ?_
          refine lv_bipush (v := 12) C.1 C.2.1 dX7_walk_22 (by decide) ?_
          refine lv_icmp_ge (tgt := 38) C.1 C.2.1 dX7_walk_24 (by decide) (fun c4 => ?_) (fun c4 => ?_)
          · rw [if_pos c4] at hf
            exact endWv C hP hD hS (Nat.le_refl _) (Nat.le_refl _) hf dX7_walk_38
          · rw [if_neg c4] at hf
            refine lv_aload_n C.1 C.2.1 dX7_walk_27 rfl (lv_at hl 0 rfl) ?_
            refine gtc_X7_seen C hP wF_X7_77 dX7_walk_28 ?_
            refine lv_iload_n C.1 C.2.1 dX7_walk_31 rfl (lv_at hl 1 rfl) ?_
            refine lv_ishr C.1 C.2.1 dX7_walk_32 ?_
            refine lv_iconst (v := 1) C.1 C.2.1 dX7_walk_33 (by decide) ?_
            refine lv_iand C.1 C.2.1 dX7_walk_34 ?_
            refine lv_if_eq (tgt := 39) C.1 C.2.1 dX7_walk_35 (by decide) (fun c5 => ?_) (fun c5 => ?_)
            · rw [if_pos c5] at hf
              refine lv_aload_n C.1 C.2.1 dX7_walk_39 rfl (lv_at hl 0 rfl) ?_
              refine lv_dup C.1 C.2.1 dX7_walk_40 rfl ?_
              refine gtc_X7_seen C hP wF_X7_77 dX7_walk_41 ?_
              refine lv_iconst (v := 1) C.1 C.2.1 dX7_walk_44 (by decide) ?_
              refine lv_iload_n C.1 C.2.1 dX7_walk_45 rfl (lv_at hl 1 rfl) ?_
              refine lv_ishl C.1 C.2.1 dX7_walk_46 ?_
              refine lv_ior C.1 C.2.1 dX7_walk_47 ?_
              obtain ⟨u6, hu6, hf⟩ := Option.bind_eq_some_iff.mp hf
              refine ptc_X7_seen C hP hD hS wF_X7_77 dX7_walk_48 (fun H locs hP hD hS => ?_)
              rw [Option.some.inj hu6] at hP hD
              refine lv_aload_n C.1 C.2.1 dX7_walk_51 rfl (lv_at hl 0 rfl) ?_
              refine gtc_X7_order C hP wF_X7_31 dX7_walk_52 ?_
              refine lv_aload_n C.1 C.2.1 dX7_walk_55 rfl (lv_at hl 0 rfl) ?_
              refine gtc_X7_ordered C hP wF_X7_74 dX7_walk_56 ?_
              refine lv_iload_n C.1 C.2.1 dX7_walk_59 rfl (lv_at hl 1 rfl) ?_
              obtain ⟨u7, hu7, hf⟩ := Option.bind_eq_some_iff.mp hf
              refine stc_14 C hP hD hS hu7 dX7_walk_60 (fun H locs hP hD hS => ?_)
              refine lv_aload_n C.1 C.2.1 dX7_walk_61 rfl (lv_at hl 0 rfl) ?_
              refine lv_dup C.1 C.2.1 dX7_walk_62 rfl ?_
              refine gtc_X7_ordered C hP wF_X7_74 dX7_walk_63 ?_
              refine lv_iconst (v := 1) C.1 C.2.1 dX7_walk_66 (by decide) ?_
              refine lv_iadd C.1 C.2.1 dX7_walk_67 ?_
              obtain ⟨u8, hu8, hf⟩ := Option.bind_eq_some_iff.mp hf
              refine ptc_X7_ordered C hP hD hS wF_X7_74 dX7_walk_68 (fun H locs hP hD hS => ?_)
              rw [Option.some.inj hu8] at hP hD
              refine lv_iload_n C.1 C.2.1 dX7_walk_71 rfl (lv_at hl 2 rfl) ?_
              refine lv_if_ne (tgt := 89) C.1 C.2.1 dX7_walk_72 (by decide) (fun c9 => ?_) (fun c9 => ?_)
              · rw [if_neg c9] at hf
                exact bX7_walk_L89 hW C hA hZ hP hD hS (lv_sub hl [0, 1, 2, 3] rfl) hf
              · rw [if_pos c9] at hf
                refine lv_aload_n C.1 C.2.1 dX7_walk_75 rfl (lv_at hl 0 rfl) ?_
                refine lv_aload_n C.1 C.2.1 dX7_walk_76 rfl (lv_at hl 0 rfl) ?_
                refine gtc_X7_above C hP wF_X7_15 dX7_walk_77 ?_
                refine lv_iload_n C.1 C.2.1 dX7_walk_80 rfl (lv_at hl 1 rfl) ?_
                obtain ⟨v17, hv17, hf⟩ := Option.bind_eq_some_iff.mp hf
                refine ldc_9 C hP hv17 dX7_walk_81 ?_
                refine lv_iconst (v := 0) C.1 C.2.1 dX7_walk_82 (by decide) ?_
                refine lv_iload_n C.1 C.2.1 dX7_walk_83 rfl (lv_at hl 3 rfl) ?_
                refine lv_iconst (v := 1) C.1 C.2.1 dX7_walk_84 (by decide) ?_
                refine lv_iadd C.1 C.2.1 dX7_walk_85 ?_
                obtain ⟨u18, hu18, hf⟩ := Option.bind_eq_some_iff.mp hf
                refine cWv (As := [.int v17, .int 0, .int (x3 + 1)]) (rest := []) (mc := 0) (ms := 0) C (hW _ _ _ _ _ hu18) vX7_walk wM_X7_80 ⟨Nat.le_refl _, by show 8 + (5 + 11) + kr ≤ kr + 24; omega⟩ hP hD hS hA hZ (rcc_X7 C hP) hl.1 rfl rfl (Nat.le_of_ble_eq_true rfl) dX7_walk_86 ⟨Nat.le_of_ble_eq_true rfl, Nat.le_of_ble_eq_true rfl⟩ (fun H locs hP hD hS => ?_)
                exact bX7_walk_L89 hW C hA hZ hP hD hS (lv_sub hl [0, 1, 2, 3] rfl) hf
            · rw [if_neg c5] at hf
              exact endWv C hP hD hS (Nat.le_refl _) (Nat.le_refl _) hf dX7_walk_38
end
def fX7_orderFrom (u : ST) (x1 : Int32) (x2 : Int32) : Option ST :=
  (some (uI u 209 0)).bind fun u1 =>
  (some (uI u1 210 0)).bind fun u2 =>
  (fX7_walk 14 u2 x1 x2 0).bind fun u3 =>
  some u3
section
variable {p : Program} {l : Launch} {e : Env} {s : State} {m : MethodId} {args : Array Value} {below : List Frame} {meth : Method} {c : Code} {H : Heap} {locs : List Loc} {g : GP} {ls : Array Slot} {A : Nat → Prop} {ad : Nat → Nat} {u : ST}
set_option maxRecDepth 100000 in
set_option maxHeartbeats 4000000 in
theorem mX7_orderFrom {u0 : ST} {x1 : Int32} {x2 : Int32} (hf : fX7_orderFrom u x1 x2 = some u0) : MWv l yX7_orderFrom cX7_orderFrom 3 none 15 360 0 0 [.ref (ad 2), .int x1, .int x2] g (cW g ad) u u0 := by
  refine entW (Qc := fun A => va_Qv (fun v => v = u0) (BW g A (cW g ad)) A) (by decide) (Nat.le_of_ble_eq_true rfl) ?_
  intro p e s m below meth c ls A C hP hD hS hA hZ hl
  have hl : lv_has ls 3 [(0, .ref (ad 2)), (1, .int x1), (2, .int x2)] := hl
  rw [fX7_orderFrom] at hf
  refine lv_aload_n C.1 C.2.1 dX7_orderFrom_0 rfl (lv_at hl 0 rfl) ?_
  refine lv_iconst (v := 0) C.1 C.2.1 dX7_orderFrom_1 (by decide) ?_
  obtain ⟨u1, hu1, hf⟩ := Option.bind_eq_some_iff.mp hf
  refine ptc_X7_ordered C hP hD hS wF_X7_74 dX7_orderFrom_2 (fun H locs hP hD hS => ?_)
  rw [Option.some.inj hu1] at hP hD
  refine lv_aload_n C.1 C.2.1 dX7_orderFrom_5 rfl (lv_at hl 0 rfl) ?_
  refine lv_iconst (v := 0) C.1 C.2.1 dX7_orderFrom_6 (by decide) ?_
  obtain ⟨u2, hu2, hf⟩ := Option.bind_eq_some_iff.mp hf
  refine ptc_X7_seen C hP hD hS wF_X7_77 dX7_orderFrom_7 (fun H locs hP hD hS => ?_)
  rw [Option.some.inj hu2] at hP hD
  refine lv_aload_n C.1 C.2.1 dX7_orderFrom_10 rfl (lv_at hl 0 rfl) ?_
  refine lv_iload_n C.1 C.2.1 dX7_orderFrom_11 rfl (lv_at hl 1 rfl) ?_
  refine lv_iload_n C.1 C.2.1 dX7_orderFrom_12 rfl (lv_at hl 2 rfl) ?_
  refine lv_iconst (v := 0) C.1 C.2.1 dX7_orderFrom_13 (by decide) ?_
  obtain ⟨u3, hu3, hf⟩ := Option.bind_eq_some_iff.mp hf
  refine cWv (As := [.int x1, .int x2, .int 0]) (rest := []) (mc := 0) (ms := 0) C (mX7_walk 14 _ _ _ _ _ hu3) vX7_walk wM_X7_80 ⟨Nat.le_of_ble_eq_true rfl, Nat.le_of_ble_eq_true rfl⟩ hP hD hS hA hZ (rcc_X7 C hP) hl.1 rfl rfl (Nat.le_of_ble_eq_true rfl) dX7_orderFrom_14 ⟨Nat.le_of_ble_eq_true rfl, Nat.le_of_ble_eq_true rfl⟩ (fun H locs hP hD hS => ?_)
  exact endWv C hP hD hS (Nat.le_refl _) (Nat.le_refl _) hf dX7_orderFrom_17
end
theorem vX7_orderFrom : YV yX7_orderFrom cX7_orderFrom 3 none 2 := ⟨⟨wK_X7_orderFrom, wZ_X7, by decide +kernel⟩, wI_X7_orderFrom, wV_X7_orderFrom⟩
def fX7_orderedAt (u : ST) (x1 : Int32) : Option Int32 :=
  if x1 < 0 then
    some (-2)
  else
    if (sI u 209) ≤ x1 then
      some (-2)
    else
      (rdI u 14 12 x1).bind fun v3 =>
      some v3
section
variable {p : Program} {l : Launch} {e : Env} {s : State} {m : MethodId} {args : Array Value} {below : List Frame} {meth : Method} {c : Code} {H : Heap} {locs : List Loc} {g : GP} {ls : Array Slot} {A : Nat → Prop} {ad : Nat → Nat} {u : ST}
set_option maxRecDepth 100000 in
set_option maxHeartbeats 4000000 in
theorem mX7_orderedAt {r0 : Int32} {x1 : Int32} (hf : fX7_orderedAt u x1 = some r0) : MRi l yX7_orderedAt cX7_orderedAt 2 (some .int) 0 0 [.ref (ad 2), .int x1] g (cW g ad u) r0 := by
  refine entR (by decide) (Nat.le_of_ble_eq_true rfl) ?_
  intro p e s m below meth c ls C hP hZ hl
  have hl : lv_has ls 2 [(0, .ref (ad 2)), (1, .int x1)] := hl
  rw [fX7_orderedAt] at hf
  refine lv_iload_n C.1 C.2.1 dX7_orderedAt_0 rfl (lv_at hl 1 rfl) ?_
  refine lv_if_lt (tgt := 21) C.1 C.2.1 dX7_orderedAt_1 (by decide) (fun c1 => ?_) (fun c1 => ?_)
  · rw [if_pos c1] at hf
    refine lv_bipush (v := -2) C.1 C.2.1 dX7_orderedAt_21 (by decide) ?_
    exact endRi C hf dX7_orderedAt_23
  · rw [if_neg c1] at hf
    refine lv_iload_n C.1 C.2.1 dX7_orderedAt_4 rfl (lv_at hl 1 rfl) ?_
    refine lv_aload_n C.1 C.2.1 dX7_orderedAt_5 rfl (lv_at hl 0 rfl) ?_
    refine gtc_X7_ordered C hP wF_X7_74 dX7_orderedAt_6 ?_
    refine lv_icmp_ge (tgt := 21) C.1 C.2.1 dX7_orderedAt_9 (by decide) (fun c2 => ?_) (fun c2 => ?_)
    · rw [if_pos c2] at hf
      refine lv_bipush (v := -2) C.1 C.2.1 dX7_orderedAt_21 (by decide) ?_
      exact endRi C hf dX7_orderedAt_23
    · rw [if_neg c2] at hf
      refine lv_aload_n C.1 C.2.1 dX7_orderedAt_12 rfl (lv_at hl 0 rfl) ?_
      refine gtc_X7_order C hP wF_X7_31 dX7_orderedAt_13 ?_
      refine lv_iload_n C.1 C.2.1 dX7_orderedAt_16 rfl (lv_at hl 1 rfl) ?_
      obtain ⟨v3, hv3, hf⟩ := Option.bind_eq_some_iff.mp hf
      refine ldc_14 C hP hv3 dX7_orderedAt_17 ?_
      refine lv_goto (tgt := 23) C.1 C.2.1 dX7_orderedAt_18 (by decide) ?_
      exact endRi C hf dX7_orderedAt_23
end
theorem vX7_orderedAt : YV yX7_orderedAt cX7_orderedAt 2 (some .int) 1 := ⟨⟨wK_X7_orderedAt, wZ_X7, by decide +kernel⟩, wI_X7_orderedAt, wV_X7_orderedAt⟩
def fX6_has (u : ST) (x1 : Int32) (x2 : Int32) : Option Int32 :=
  if x1 < 0 then
    some 0
  else
    if 60 ≤ x1 then
      some 0
    else
      (rdI u 15 60 x1).bind fun v3 =>
      if v3 = (-2) then
        some 0
      else
        (rdI u 18 60 x1).bind fun v5 =>
        if (v5 &&& x2) = 0 then
          some 0
        else
          some 1
section
variable {p : Program} {l : Launch} {e : Env} {s : State} {m : MethodId} {args : Array Value} {below : List Frame} {meth : Method} {c : Code} {H : Heap} {locs : List Loc} {g : GP} {ls : Array Slot} {A : Nat → Prop} {ad : Nat → Nat} {u : ST}
set_option maxRecDepth 100000 in
set_option maxHeartbeats 4000000 in
theorem mX6_has {r0 : Int32} {x1 : Int32} {x2 : Int32} (hf : fX6_has u x1 x2 = some r0) : MRi l yX6_has cX6_has 3 (some .boolean) 0 0 [.ref (ad 3), .int x1, .int x2] g (cW g ad u) r0 := by
  refine entR (by decide) (Nat.le_of_ble_eq_true rfl) ?_
  intro p e s m below meth c ls C hP hZ hl
  have hl : lv_has ls 3 [(0, .ref (ad 3)), (1, .int x1), (2, .int x2)] := hl
  rw [fX6_has] at hf
  refine lv_iload_n C.1 C.2.1 dX6_has_0 rfl (lv_at hl 1 rfl) ?_
  refine lv_if_lt (tgt := 36) C.1 C.2.1 dX6_has_1 (by decide) (fun c1 => ?_) (fun c1 => ?_)
  · rw [if_pos c1] at hf
    refine lv_iconst (v := 0) C.1 C.2.1 dX6_has_36 (by decide) ?_
    exact endRz C rfl hf dX6_has_37
  · rw [if_neg c1] at hf
    refine lv_iload_n C.1 C.2.1 dX6_has_4 rfl (lv_at hl 1 rfl) ?_
    refine lv_bipush (v := 60) C.1 C.2.1 dX6_has_5 (by decide) ?_
    refine lv_icmp_ge (tgt := 36) C.1 C.2.1 dX6_has_7 (by decide) (fun c2 => ?_) (fun c2 => ?_)
    · rw [if_pos c2] at hf
      refine lv_iconst (v := 0) C.1 C.2.1 dX6_has_36 (by decide) ?_
      exact endRz C rfl hf dX6_has_37
    · rw [if_neg c2] at hf
      refine lv_aload_n C.1 C.2.1 dX6_has_10 rfl (lv_at hl 0 rfl) ?_
      refine gtc_X6_owner C hP wF_X6_11 dX6_has_11 ?_
      refine lv_iload_n C.1 C.2.1 dX6_has_14 rfl (lv_at hl 1 rfl) ?_
      obtain ⟨v3, hv3, hf⟩ := Option.bind_eq_some_iff.mp hf
      refine ldc_15 C hP hv3 dX6_has_15 ?_
      refine lv_bipush (v := -2) C.1 C.2.1 dX6_has_16 (by decide) ?_
      refine lv_icmp_eq (tgt := 36) C.1 C.2.1 dX6_has_18 (by decide) (fun c4 => ?_) (fun c4 => ?_)
      · rw [if_pos c4] at hf
        refine lv_iconst (v := 0) C.1 C.2.1 dX6_has_36 (by decide) ?_
        exact endRz C rfl hf dX6_has_37
      · rw [if_neg c4] at hf
        refine lv_aload_n C.1 C.2.1 dX6_has_21 rfl (lv_at hl 0 rfl) ?_
        refine gtc_X6_marks C hP wF_X6_22 dX6_has_22 ?_
        refine lv_iload_n C.1 C.2.1 dX6_has_25 rfl (lv_at hl 1 rfl) ?_
        obtain ⟨v5, hv5, hf⟩ := Option.bind_eq_some_iff.mp hf
        refine ldc_18 C hP hv5 dX6_has_26 ?_
        refine lv_iload_n C.1 C.2.1 dX6_has_27 rfl (lv_at hl 2 rfl) ?_
        refine lv_iand C.1 C.2.1 dX6_has_28 ?_
        refine lv_if_eq (tgt := 36) C.1 C.2.1 dX6_has_29 (by decide) (fun c6 => ?_) (fun c6 => ?_)
        · rw [if_pos c6] at hf
          refine lv_iconst (v := 0) C.1 C.2.1 dX6_has_36 (by decide) ?_
          exact endRz C rfl hf dX6_has_37
        · rw [if_neg c6] at hf
          refine lv_iconst (v := 1) C.1 C.2.1 dX6_has_32 (by decide) ?_
          refine lv_goto (tgt := 37) C.1 C.2.1 dX6_has_33 (by decide) ?_
          exact endRz C rfl hf dX6_has_37
end
theorem vX6_has : YV yX6_has cX6_has 3 (some .boolean) 2 := ⟨⟨wK_X6_has, wZ_X6, by decide +kernel⟩, wI_X6_has, wV_X6_has⟩
def fX2_lookForField_L70 (K12 : ST → Int32 → Int32 → Int32 → Option (Int32 × ST)) (u : ST) (x2 : Int32) (x3 : Int32) (x4 : Int32) : Option (Int32 × ST) :=
  K12 u x2 x3 (x4 + 1)
def fX2_lookForField_L12 : Nat → ST → Int32 → Int32 → Int32 → Option (Int32 × ST)
  | 0, _, _, _, _ => none
  | n + 1, u, x2, x3, x4 =>
    if (sI u 209) ≤ x4 then
      some ((-2), u)
    else
      (fX7_orderedAt u x4).bind fun v3 =>
      (fX6_fieldOf u v3 x2).bind fun v4 =>
      if v4 = (-2) then
        fX2_lookForField_L70 (fX2_lookForField_L12 n) u x2 x3 x4
      else
        if x3 = 0 then
          some (v4, u)
        else
          (fX6_has u v4 4).bind fun v7 =>
          if v7 = 0 then
            some (v4, u)
          else
            fX2_lookForField_L70 (fX2_lookForField_L12 n) u x2 x3 x4
def fX2_lookForField (u : ST) (x1 : Int32) (x2 : Int32) (x3 : Int32) : Option (Int32 × ST) :=
  (fX7_orderFrom u x1 1).bind fun u1 =>
  fX2_lookForField_L12 5000 u1 x2 x3 0
section
variable {p : Program} {l : Launch} {e : Env} {s : State} {m : MethodId} {args : Array Value} {below : List Frame} {meth : Method} {c : Code} {H : Heap} {locs : List Loc} {g : GP} {ls : Array Slot} {A : Nat → Prop} {ad : Nat → Nat} {u : ST}
set_option maxRecDepth 100000 in
set_option maxHeartbeats 4000000 in
theorem bX2_lookForField_L70 {r0 : Int32} {u0 : ST} {K12 : ST → Int32 → Int32 → Int32 → Option (Int32 × ST)} {x2 : Int32} {x3 : Int32} {x4 : Int32} (C : Cx p s m args meth c cX2_lookForField 6 RX2 (some .int) g) (hA : ∀ q, s.heap.size ≤ q → A q) (hZ : SF A s) (hK12 : ∀ (u : ST) (x2 : Int32) (x3 : Int32) (x4 : Int32) (H : Heap) (locs : List Loc), va_P g.1 vwCl (cW g ad u) H → va_D A (cW g ad u) → va_S A s.heap H locs → ∀ (ls : Array Slot), lv_has ls 6 [(0, .ref (ad 1)), (2, .int x2), (3, .int x3), (4, .int x4)] → K12 u x2 x3 x4 = some (r0, u0) → W p l e (rmW 16 382 0 0) s m args below meth c H locs 0 0 (MQ below (va_Qi (fun r v => r = r0 ∧ v = u0) (BW g A (cW g ad)) A) args s 0 0 A) (F0 m 12 ls [])) (hP : va_P g.1 vwCl (cW g ad u) H) (hD : va_D A (cW g ad u)) (hS : va_S A s.heap H locs) (hl : lv_has ls 6 [(0, .ref (ad 1)), (2, .int x2), (3, .int x3), (4, .int x4)]) (hf : fX2_lookForField_L70 K12 u x2 x3 x4 = some (r0, u0)) : W p l e (rmW 16 382 0 0) s m args below meth c H locs 0 0 (MQ below (va_Qi (fun r v => r = r0 ∧ v = u0) (BW g A (cW g ad)) A) args s 0 0 A) (F0 m 70 ls []) := by
  rw [fX2_lookForField_L70] at hf
  refine lv_iinc (v := (x4 + 1)) (lv' := [(4, .int (x4 + 1)), (0, .ref (ad 1)), (2, .int x2), (3, .int x3)]) C.1 C.2.1 dX2_lookForField_70 hl (k := 3) rfl rfl (by decide) rfl (fun ls hl => ?_)
  refine lv_goto (tgt := 12) C.1 C.2.1 dX2_lookForField_73 (by decide) ?_
  exact hK12 u x2 x3 (x4 + 1) _ _ hP hD hS _ (lv_sub hl [1, 2, 3, 0] rfl) hf
set_option maxRecDepth 100000 in
set_option maxHeartbeats 4000000 in
theorem bX2_lookForField_L12 {r0 : Int32} {u0 : ST} (C : Cx p s m args meth c cX2_lookForField 6 RX2 (some .int) g) (hA : ∀ q, s.heap.size ≤ q → A q) (hZ : SF A s) : ∀ (n : Nat), ∀ (u : ST) (x2 : Int32) (x3 : Int32) (x4 : Int32) (H : Heap) (locs : List Loc), va_P g.1 vwCl (cW g ad u) H → va_D A (cW g ad u) → va_S A s.heap H locs → ∀ (ls : Array Slot), lv_has ls 6 [(0, .ref (ad 1)), (2, .int x2), (3, .int x3), (4, .int x4)] → fX2_lookForField_L12 n u x2 x3 x4 = some (r0, u0) → W p l e (rmW 16 382 0 0) s m args below meth c H locs 0 0 (MQ below (va_Qi (fun r v => r = r0 ∧ v = u0) (BW g A (cW g ad)) A) args s 0 0 A) (F0 m 12 ls []) := by
  intro n
  induction n with
  | zero =>
    intro u x2 x3 x4 H locs hP hD hS ls hl hf
    exact absurd hf (by simp [fX2_lookForField_L12])
  | succ n ih =>
    intro u x2 x3 x4 H locs hP hD hS ls hl hf
    rw [fX2_lookForField_L12] at hf
    refine lv_iload C.1 C.2.1 dX2_lookForField_12 (lv_at hl 3 rfl) ?_
    refine lv_aload_n C.1 C.2.1 dX2_lookForField_14 rfl (lv_at hl 0 rfl) ?_
    refine gtc_X2_types C hP wF_X2_12 dX2_lookForField_15 ?_
    refine gtc_X7_ordered C hP wF_X2_136 dX2_lookForField_18 ?_
    refine lv_icmp_ge (tgt := 76) C.1 C.2.1 dX2_lookForField_21 (by decide) (fun c2 => ?_) (fun c2 => ?_)
    · rw [if_pos c2] at hf
      refine lv_bipush (v := -2) C.1 C.2.1 dX2_lookForField_76 (by decide) ?_
      exact endWi C hP hD hS (Nat.le_refl _) (Nat.le_refl _) hf dX2_lookForField_78
    · rw [if_neg c2] at hf
      refine lv_aload_n C.1 C.2.1 dX2_lookForField_24 rfl (lv_at hl 0 rfl) ?_
      refine gtc_X2_members C hP wF_X2_21 dX2_lookForField_25 ?_
      refine lv_aload_n C.1 C.2.1 dX2_lookForField_28 rfl (lv_at hl 0 rfl) ?_
      refine gtc_X2_types C hP wF_X2_12 dX2_lookForField_29 ?_
      refine lv_iload C.1 C.2.1 dX2_lookForField_32 (lv_at hl 3 rfl) ?_
      obtain ⟨v3, hv3, hf⟩ := Option.bind_eq_some_iff.mp hf
      refine cRi (As := [.int x4]) (rest := [.ref (ad 3)]) C (mX7_orderedAt hv3) vX7_orderedAt wM_X2_139 ⟨Nat.le_of_ble_eq_true rfl, Nat.le_of_ble_eq_true rfl⟩ hP (rcc_X7 C hP) (fun U hU hW => SF.go hZ hS hU hW (fun _ h => h.elim)) hl.1 rfl rfl (Nat.le_of_ble_eq_true rfl) dX2_lookForField_34 ⟨Nat.le_of_ble_eq_true rfl, Nat.le_of_ble_eq_true rfl⟩ ?_
      refine lv_iload_n C.1 C.2.1 dX2_lookForField_37 rfl (lv_at hl 1 rfl) ?_
      obtain ⟨v4, hv4, hf⟩ := Option.bind_eq_some_iff.mp hf
      refine cRi (As := [.int v3, .int x2]) (rest := []) C (mX6_fieldOf hv4) vX6_fieldOf wM_X2_100 ⟨Nat.le_of_ble_eq_true rfl, Nat.le_of_ble_eq_true rfl⟩ hP (rcc_X6 C hP) (fun U hU hW => SF.go hZ hS hU hW (fun _ h => h.elim)) hl.1 rfl rfl (Nat.le_of_ble_eq_true rfl) dX2_lookForField_38 ⟨Nat.le_of_ble_eq_true rfl, Nat.le_of_ble_eq_true rfl⟩ ?_
      refine lv_istore (lv' := [(5, .int v4), (0, .ref (ad 1)), (2, .int x2), (3, .int x3), (4, .int x4)]) C.1 C.2.1 dX2_lookForField_41 hl (by decide) rfl (fun ls hl => ?_)
      refine lv_iload C.1 C.2.1 dX2_lookForField_43 (lv_at hl 0 rfl) ?_
      refine lv_bipush (v := -2) C.1 C.2.1 dX2_lookForField_45 (by decide) ?_
      refine lv_icmp_eq (tgt := 70) C.1 C.2.1 dX2_lookForField_47 (by decide) (fun c5 => ?_) (fun c5 => ?_)
      · rw [if_pos c5] at hf
        exact bX2_lookForField_L70 C hA hZ ih hP hD hS (lv_sub hl [1, 2, 3, 4] rfl) hf
      · rw [if_neg c5] at hf
        refine lv_iload_n C.1 C.2.1 dX2_lookForField_50 rfl (lv_at hl 3 rfl) ?_
        refine lv_if_eq (tgt := 67) C.1 C.2.1 dX2_lookForField_51 (by decide) (fun c6 => ?_) (fun c6 => ?_)
        · rw [if_pos c6] at hf
          refine lv_iload C.1 C.2.1 dX2_lookForField_67 (lv_at hl 0 rfl) ?_
          exact endWi C hP hD hS (Nat.le_refl _) (Nat.le_refl _) hf dX2_lookForField_69
        · rw [if_neg c6] at hf
          refine lv_aload_n C.1 C.2.1 dX2_lookForField_54 rfl (lv_at hl 1 rfl) ?_
          refine gtc_X2_members C hP wF_X2_21 dX2_lookForField_55 ?_
          refine lv_iload C.1 C.2.1 dX2_lookForField_58 (lv_at hl 0 rfl) ?_
          refine lv_iconst (v := 4) C.1 C.2.1 dX2_lookForField_60 (by decide) ?_
          obtain ⟨v7, hv7, hf⟩ := Option.bind_eq_some_iff.mp hf
          refine cRi (As := [.int v4, .int 4]) (rest := []) C (mX6_has hv7) vX6_has wM_X2_142 ⟨Nat.le_of_ble_eq_true rfl, Nat.le_of_ble_eq_true rfl⟩ hP (rcc_X6 C hP) (fun U hU hW => SF.go hZ hS hU hW (fun _ h => h.elim)) hl.1 rfl rfl (Nat.le_of_ble_eq_true rfl) dX2_lookForField_61 ⟨Nat.le_of_ble_eq_true rfl, Nat.le_of_ble_eq_true rfl⟩ ?_
          refine lv_if_ne (tgt := 70) C.1 C.2.1 dX2_lookForField_64 (by decide) (fun c8 => ?_) (fun c8 => ?_)
          · rw [if_neg c8] at hf
            exact bX2_lookForField_L70 C hA hZ ih hP hD hS (lv_sub hl [1, 2, 3, 4] rfl) hf
          · rw [if_pos c8] at hf
            refine lv_iload C.1 C.2.1 dX2_lookForField_67 (lv_at hl 0 rfl) ?_
            exact endWi C hP hD hS (Nat.le_refl _) (Nat.le_refl _) hf dX2_lookForField_69
set_option maxRecDepth 100000 in
set_option maxHeartbeats 4000000 in
theorem mX2_lookForField {r0 : Int32} {u0 : ST} {x1 : Int32} {x2 : Int32} {x3 : Int32} (hf : fX2_lookForField u x1 x2 x3 = some (r0, u0)) : MWi l yX2_lookForField cX2_lookForField 6 (some .int) 16 382 0 0 [.ref (ad 1), .int x1, .int x2, .int x3] g (cW g ad) u r0 u0 := by
  refine entW (Qc := fun A => va_Qi (fun r v => r = r0 ∧ v = u0) (BW g A (cW g ad)) A) (by decide) (Nat.le_of_ble_eq_true rfl) ?_
  intro p e s m below meth c ls A C hP hD hS hA hZ hl
  have hl : lv_has ls 6 [(0, .ref (ad 1)), (1, .int x1), (2, .int x2), (3, .int x3)] := hl
  rw [fX2_lookForField] at hf
  refine lv_aload_n C.1 C.2.1 dX2_lookForField_0 rfl (lv_at hl 0 rfl) ?_
  refine gtc_X2_types C hP wF_X2_12 dX2_lookForField_1 ?_
  refine lv_iload_n C.1 C.2.1 dX2_lookForField_4 rfl (lv_at hl 1 rfl) ?_
  refine lv_iconst (v := 1) C.1 C.2.1 dX2_lookForField_5 (by decide) ?_
  obtain ⟨u1, hu1, hf⟩ := Option.bind_eq_some_iff.mp hf
  refine cWv (As := [.int x1, .int 1]) (rest := []) (mc := 0) (ms := 0) C (mX7_orderFrom hu1) vX7_orderFrom wM_X2_132 ⟨Nat.le_of_ble_eq_true rfl, Nat.le_of_ble_eq_true rfl⟩ hP hD hS hA hZ (rcc_X7 C hP) hl.1 rfl rfl (Nat.le_of_ble_eq_true rfl) dX2_lookForField_6 ⟨Nat.le_of_ble_eq_true rfl, Nat.le_of_ble_eq_true rfl⟩ (fun H locs hP hD hS => ?_)
  refine lv_iconst (v := 0) C.1 C.2.1 dX2_lookForField_9 (by decide) ?_
  refine lv_istore (lv' := [(4, .int 0), (0, .ref (ad 1)), (1, .int x1), (2, .int x2), (3, .int x3)]) C.1 C.2.1 dX2_lookForField_10 hl (by decide) rfl (fun ls hl => ?_)
  exact bX2_lookForField_L12 C hA hZ 5000 u1 x2 x3 0 _ _ hP hD hS _ (lv_sub hl [1, 3, 4, 0] rfl) hf
end
theorem vX2_lookForField : YV yX2_lookForField cX2_lookForField 6 (some .int) 3 := ⟨⟨wK_X2_lookForField, wZ_X2, by decide +kernel⟩, wI_X2_lookForField, wV_X2_lookForField⟩
def fX4_faultOfGet_L98 (u : ST) (y0 : Nat) (y1 : Int64) : Option (Int32 × ST) :=
  (wcV u y0 y1).bind fun u16 =>
  some (0, u16)
def fX4_faultOfGet_L77 (u : ST) (x1 : Nat) (x3 : Int32) (y0 : Nat) (y1 : Int32) : Option (Int32 × ST) :=
  (wcZ u y0 10 y1).bind fun u13 =>
  (pcI u13 x1 10).bind fun v14 =>
  if v14 = 0 then
    fX4_faultOfGet_L98 u13 x1 0
  else
    (rdL u13 21 60 x3).bind fun v17 =>
    fX4_faultOfGet_L98 u13 x1 v17
def fX4_faultOfGet_L76 (u : ST) (x1 : Nat) (x3 : Int32) (y0 : Nat) : Option (Int32 × ST) :=
  fX4_faultOfGet_L77 u x1 x3 y0 0
def fX4_faultOfGet (u : ST) (x1 : Nat) : Option (Int32 × ST) :=
  (pcI u x1 1).bind fun v1 =>
  (pcI u x1 2).bind fun v2 =>
  b2 (fX2_lookForField u v1 v2 1) fun v4 u3 =>
  (fX6_isField u3 v4).bind fun v5 =>
  if v5 = 0 then
    some (1, u3)
  else
    (rdI u3 19 60 v4).bind fun v7 =>
    (wcI u3 x1 7 v7).bind fun u8 =>
    (fX6_has u8 v4 1).bind fun v9 =>
    (wcZ u8 x1 8 v9).bind fun u10 =>
    (pcI u10 x1 8).bind fun v11 =>
    if v11 = 0 then
      fX4_faultOfGet_L76 u10 x1 v4 x1
    else
      (fX6_has u10 v4 2).bind fun v18 =>
      if v18 = 0 then
        fX4_faultOfGet_L76 u10 x1 v4 x1
      else
        fX4_faultOfGet_L77 u10 x1 v4 x1 1
section
variable {p : Program} {l : Launch} {e : Env} {s : State} {m : MethodId} {args : Array Value} {below : List Frame} {meth : Method} {c : Code} {H : Heap} {locs : List Loc} {g : GP} {ls : Array Slot} {A : Nat → Prop} {ad : Nat → Nat} {u : ST}
set_option maxRecDepth 100000 in
set_option maxHeartbeats 4000000 in
theorem bX4_faultOfGet_L98 {r0 : Int32} {u0 : ST} {y0 : Nat} {y1 : Int64} (C : Cx p s m args meth c cX4_faultOfGet 4 RX4 (some .int) g) (hA : ∀ q, s.heap.size ≤ q → A q) (hZ : SF A s) (hP : va_P g.1 vwCl (cW g ad u) H) (hD : va_D A (cW g ad u)) (hS : va_S A s.heap H locs) (hl : lv_has ls 4 []) (hf : fX4_faultOfGet_L98 u y0 y1 = some (r0, u0)) : W p l e (rmW 17 407 0 0) s m args below meth c H locs 0 0 (MQ below (va_Qi (fun r v => r = r0 ∧ v = u0) (BW g A (cW g ad)) A) args s 0 0 A) (F0 m 98 ls [.long y1, .ref y0]) := by
  rw [fX4_faultOfGet_L98] at hf
  obtain ⟨u16, hu16, hf⟩ := Option.bind_eq_some_iff.mp hf
  refine pC_kept C hP hD hS hu16 wF_X4_87 dX4_faultOfGet_98 (fun H locs hP hD hS => ?_)
  refine lv_iconst (v := 0) C.1 C.2.1 dX4_faultOfGet_101 (by decide) ?_
  exact endWi C hP hD hS (Nat.le_refl _) (Nat.le_refl _) hf dX4_faultOfGet_102
set_option maxRecDepth 100000 in
set_option maxHeartbeats 4000000 in
theorem bX4_faultOfGet_L77 {r0 : Int32} {u0 : ST} {x1 : Nat} {x3 : Int32} {y0 : Nat} {y1 : Int32} (C : Cx p s m args meth c cX4_faultOfGet 4 RX4 (some .int) g) (hA : ∀ q, s.heap.size ≤ q → A q) (hZ : SF A s) (hP : va_P g.1 vwCl (cW g ad u) H) (hD : va_D A (cW g ad u)) (hS : va_S A s.heap H locs) (hl : lv_has ls 4 [(1, .ref x1), (2, .ref (ad 3)), (3, .int x3)]) (hf : fX4_faultOfGet_L77 u x1 x3 y0 y1 = some (r0, u0)) : W p l e (rmW 17 407 0 0) s m args below meth c H locs 0 0 (MQ below (va_Qi (fun r v => r = r0 ∧ v = u0) (BW g A (cW g ad)) A) args s 0 0 A) (F0 m 77 ls [.int y1, .ref y0]) := by
  rw [fX4_faultOfGet_L77] at hf
  obtain ⟨u13, hu13, hf⟩ := Option.bind_eq_some_iff.mp hf
  refine pC_keeps C hP hD hS hu13 wF_X4_80 dX4_faultOfGet_77 (fun H locs hP hD hS => ?_)
  refine lv_aload_n C.1 C.2.1 dX4_faultOfGet_80 rfl (lv_at hl 0 rfl) ?_
  refine lv_aload_n C.1 C.2.1 dX4_faultOfGet_81 rfl (lv_at hl 0 rfl) ?_
  obtain ⟨v14, hv14, hf⟩ := Option.bind_eq_some_iff.mp hf
  refine gC_keeps C hP hv14 wF_X4_80 dX4_faultOfGet_82 ?_
  refine lv_if_eq (tgt := 97) C.1 C.2.1 dX4_faultOfGet_85 (by decide) (fun c15 => ?_) (fun c15 => ?_)
  · rw [if_pos c15] at hf
    refine lv_lconst (v := 0) C.1 C.2.1 dX4_faultOfGet_97 (by decide) ?_
    exact bX4_faultOfGet_L98 C hA hZ hP hD hS (lv_sub hl [] rfl) hf
  · rw [if_neg c15] at hf
    refine lv_aload_n C.1 C.2.1 dX4_faultOfGet_88 rfl (lv_at hl 1 rfl) ?_
    refine gtc_X6_value C hP wF_X4_83 dX4_faultOfGet_89 ?_
    refine lv_iload_n C.1 C.2.1 dX4_faultOfGet_92 rfl (lv_at hl 2 rfl) ?_
    obtain ⟨v17, hv17, hf⟩ := Option.bind_eq_some_iff.mp hf
    refine ldc_21 C hP hv17 dX4_faultOfGet_93 ?_
    refine lv_goto (tgt := 98) C.1 C.2.1 dX4_faultOfGet_94 (by decide) ?_
    exact bX4_faultOfGet_L98 C hA hZ hP hD hS (lv_sub hl [] rfl) hf
set_option maxRecDepth 100000 in
set_option maxHeartbeats 4000000 in
theorem bX4_faultOfGet_L76 {r0 : Int32} {u0 : ST} {x1 : Nat} {x3 : Int32} {y0 : Nat} (C : Cx p s m args meth c cX4_faultOfGet 4 RX4 (some .int) g) (hA : ∀ q, s.heap.size ≤ q → A q) (hZ : SF A s) (hP : va_P g.1 vwCl (cW g ad u) H) (hD : va_D A (cW g ad u)) (hS : va_S A s.heap H locs) (hl : lv_has ls 4 [(1, .ref x1), (2, .ref (ad 3)), (3, .int x3)]) (hf : fX4_faultOfGet_L76 u x1 x3 y0 = some (r0, u0)) : W p l e (rmW 17 407 0 0) s m args below meth c H locs 0 0 (MQ below (va_Qi (fun r v => r = r0 ∧ v = u0) (BW g A (cW g ad)) A) args s 0 0 A) (F0 m 76 ls [.ref y0]) := by
  rw [fX4_faultOfGet_L76] at hf
  refine lv_iconst (v := 0) C.1 C.2.1 dX4_faultOfGet_76 (by decide) ?_
  exact bX4_faultOfGet_L77 C hA hZ hP hD hS (lv_sub hl [0, 1, 2] rfl) hf
set_option maxRecDepth 100000 in
set_option maxHeartbeats 4000000 in
theorem mX4_faultOfGet {r0 : Int32} {u0 : ST} {x1 : Nat} (hf : fX4_faultOfGet u x1 = some (r0, u0)) : MWi l yX4_faultOfGet cX4_faultOfGet 4 (some .int) 17 407 0 0 [.ref (ad 4), .ref x1] g (cW g ad) u r0 u0 := by
  refine entW (Qc := fun A => va_Qi (fun r v => r = r0 ∧ v = u0) (BW g A (cW g ad)) A) (by decide) (Nat.le_of_ble_eq_true rfl) ?_
  intro p e s m below meth c ls A C hP hD hS hA hZ hl
  have hl : lv_has ls 4 [(0, .ref (ad 4)), (1, .ref x1)] := hl
  rw [fX4_faultOfGet] at hf
  refine lv_aload_n C.1 C.2.1 dX4_faultOfGet_0 rfl (lv_at hl 0 rfl) ?_
  refine gtc_X4_house C hP wF_X4_17 dX4_faultOfGet_1 ?_
  refine gtc_X2_members C hP wF_X4_52 dX4_faultOfGet_4 ?_
  refine lv_astore_n (lv' := [(2, .ref (ad 3)), (0, .ref (ad 4)), (1, .ref x1)]) C.1 C.2.1 dX4_faultOfGet_7 rfl hl (by decide) rfl (fun ls hl => ?_)
  refine lv_aload_n C.1 C.2.1 dX4_faultOfGet_8 rfl (lv_at hl 1 rfl) ?_
  refine gtc_X4_house C hP wF_X4_17 dX4_faultOfGet_9 ?_
  refine lv_aload_n C.1 C.2.1 dX4_faultOfGet_12 rfl (lv_at hl 2 rfl) ?_
  obtain ⟨v1, hv1, hf⟩ := Option.bind_eq_some_iff.mp hf
  refine gC_t C hP hv1 wF_X4_40 dX4_faultOfGet_13 ?_
  refine lv_aload_n C.1 C.2.1 dX4_faultOfGet_16 rfl (lv_at hl 2 rfl) ?_
  obtain ⟨v2, hv2, hf⟩ := Option.bind_eq_some_iff.mp hf
  refine gC_n C hP hv2 wF_X4_56 dX4_faultOfGet_17 ?_
  refine lv_iconst (v := 1) C.1 C.2.1 dX4_faultOfGet_20 (by decide) ?_
  obtain ⟨v4, u3, hu3, hf⟩ := b2_some hf
  refine cWi (As := [.int v1, .int v2, .int 1]) (rest := []) (mc := 0) (ms := 0) C (mX2_lookForField hu3) vX2_lookForField wM_X4_59 ⟨Nat.le_of_ble_eq_true rfl, Nat.le_of_ble_eq_true rfl⟩ hP hD hS hA hZ (rcc_X2 C hP) hl.1 rfl rfl (Nat.le_of_ble_eq_true rfl) dX4_faultOfGet_21 ⟨Nat.le_of_ble_eq_true rfl, Nat.le_of_ble_eq_true rfl⟩ (fun H locs hP hD hS => ?_)
  refine lv_istore_n (lv' := [(3, .int v4), (2, .ref (ad 3)), (0, .ref (ad 4)), (1, .ref x1)]) C.1 C.2.1 dX4_faultOfGet_24 rfl hl (by decide) rfl (fun ls hl => ?_)
  refine lv_aload_n C.1 C.2.1 dX4_faultOfGet_25 rfl (lv_at hl 1 rfl) ?_
  refine lv_iload_n C.1 C.2.1 dX4_faultOfGet_26 rfl (lv_at hl 0 rfl) ?_
  obtain ⟨v5, hv5, hf⟩ := Option.bind_eq_some_iff.mp hf
  refine cRi (As := [.int v4]) (rest := []) C (mX6_isField hv5) vX6_isField wM_X4_63 ⟨Nat.le_of_ble_eq_true rfl, Nat.le_of_ble_eq_true rfl⟩ hP (rcc_X6 C hP) (fun U hU hW => SF.go hZ hS hU hW (fun _ h => h.elim)) hl.1 rfl rfl (Nat.le_of_ble_eq_true rfl) dX4_faultOfGet_27 ⟨Nat.le_of_ble_eq_true rfl, Nat.le_of_ble_eq_true rfl⟩ ?_
  refine lv_if_ne (tgt := 35) C.1 C.2.1 dX4_faultOfGet_30 (by decide) (fun c6 => ?_) (fun c6 => ?_)
  · rw [if_neg c6] at hf
    refine lv_aload_n C.1 C.2.1 dX4_faultOfGet_35 rfl (lv_at hl 3 rfl) ?_
    refine lv_aload_n C.1 C.2.1 dX4_faultOfGet_36 rfl (lv_at hl 1 rfl) ?_
    refine gtc_X6_first C hP wF_X4_66 dX4_faultOfGet_37 ?_
    refine lv_iload_n C.1 C.2.1 dX4_faultOfGet_40 rfl (lv_at hl 0 rfl) ?_
    obtain ⟨v7, hv7, hf⟩ := Option.bind_eq_some_iff.mp hf
    refine ldc_19 C hP hv7 dX4_faultOfGet_41 ?_
    obtain ⟨u8, hu8, hf⟩ := Option.bind_eq_some_iff.mp hf
    refine pC_kind C hP hD hS hu8 wF_X4_69 dX4_faultOfGet_42 (fun H locs hP hD hS => ?_)
    refine lv_aload_n C.1 C.2.1 dX4_faultOfGet_45 rfl (lv_at hl 3 rfl) ?_
    refine lv_aload_n C.1 C.2.1 dX4_faultOfGet_46 rfl (lv_at hl 1 rfl) ?_
    refine lv_iload_n C.1 C.2.1 dX4_faultOfGet_47 rfl (lv_at hl 0 rfl) ?_
    refine lv_iconst (v := 1) C.1 C.2.1 dX4_faultOfGet_48 (by decide) ?_
    obtain ⟨v9, hv9, hf⟩ := Option.bind_eq_some_iff.mp hf
    refine cRi (As := [.int v4, .int 1]) (rest := [.ref x1]) C (mX6_has hv9) vX6_has wM_X4_72 ⟨Nat.le_of_ble_eq_true rfl, Nat.le_of_ble_eq_true rfl⟩ hP (rcc_X6 C hP) (fun U hU hW => SF.go hZ hS hU hW (fun _ h => h.elim)) hl.1 rfl rfl (Nat.le_of_ble_eq_true rfl) dX4_faultOfGet_49 ⟨Nat.le_of_ble_eq_true rfl, Nat.le_of_ble_eq_true rfl⟩ ?_
    obtain ⟨u10, hu10, hf⟩ := Option.bind_eq_some_iff.mp hf
    refine pC_isStatic C hP hD hS hu10 wF_X4_76 dX4_faultOfGet_52 (fun H locs hP hD hS => ?_)
    refine lv_aload_n C.1 C.2.1 dX4_faultOfGet_55 rfl (lv_at hl 3 rfl) ?_
    refine lv_aload_n C.1 C.2.1 dX4_faultOfGet_56 rfl (lv_at hl 3 rfl) ?_
    obtain ⟨v11, hv11, hf⟩ := Option.bind_eq_some_iff.mp hf
    refine gC_isStatic C hP hv11 wF_X4_76 dX4_faultOfGet_57 ?_
    refine lv_if_eq (tgt := 76) C.1 C.2.1 dX4_faultOfGet_60 (by decide) (fun c12 => ?_) (fun c12 => ?_)
    · rw [if_pos c12] at hf
      exact bX4_faultOfGet_L76 C hA hZ hP hD hS (lv_sub hl [3, 1, 0] rfl) hf
    · rw [if_neg c12] at hf
      refine lv_aload_n C.1 C.2.1 dX4_faultOfGet_63 rfl (lv_at hl 1 rfl) ?_
      refine lv_iload_n C.1 C.2.1 dX4_faultOfGet_64 rfl (lv_at hl 0 rfl) ?_
      refine lv_iconst (v := 2) C.1 C.2.1 dX4_faultOfGet_65 (by decide) ?_
      obtain ⟨v18, hv18, hf⟩ := Option.bind_eq_some_iff.mp hf
      refine cRi (As := [.int v4, .int 2]) (rest := [.ref x1]) C (mX6_has hv18) vX6_has wM_X4_72 ⟨Nat.le_of_ble_eq_true rfl, Nat.le_of_ble_eq_true rfl⟩ hP (rcc_X6 C hP) (fun U hU hW => SF.go hZ hS hU hW (fun _ h => h.elim)) hl.1 rfl rfl (Nat.le_of_ble_eq_true rfl) dX4_faultOfGet_66 ⟨Nat.le_of_ble_eq_true rfl, Nat.le_of_ble_eq_true rfl⟩ ?_
      refine lv_if_eq (tgt := 76) C.1 C.2.1 dX4_faultOfGet_69 (by decide) (fun c19 => ?_) (fun c19 => ?_)
      · rw [if_pos c19] at hf
        exact bX4_faultOfGet_L76 C hA hZ hP hD hS (lv_sub hl [3, 1, 0] rfl) hf
      · rw [if_neg c19] at hf
        refine lv_iconst (v := 1) C.1 C.2.1 dX4_faultOfGet_72 (by decide) ?_
        refine lv_goto (tgt := 77) C.1 C.2.1 dX4_faultOfGet_73 (by decide) ?_
        exact bX4_faultOfGet_L77 C hA hZ hP hD hS (lv_sub hl [3, 1, 0] rfl) hf
  · rw [if_pos c6] at hf
    refine lv_iconst (v := 1) C.1 C.2.1 dX4_faultOfGet_33 (by decide) ?_
    exact endWi C hP hD hS (Nat.le_refl _) (Nat.le_refl _) hf dX4_faultOfGet_34
end
theorem vX4_faultOfGet : YV yX4_faultOfGet cX4_faultOfGet 4 (some .int) 1 := ⟨⟨wK_X4_faultOfGet, wZ_X4, by decide +kernel⟩, wI_X4_faultOfGet, wV_X4_faultOfGet⟩
def fX7_goesInto (u : ST) (x1 : Int32) (x2 : Int32) : Option Int32 :=
  if x1 = (-2) then
    if x2 = (-2) then
      some 1
    else
      some 0
  else
    (fX7_isBelow u x1 x2).bind fun v2 =>
    ck (isB v2) (some v2)
section
variable {p : Program} {l : Launch} {e : Env} {s : State} {m : MethodId} {args : Array Value} {below : List Frame} {meth : Method} {c : Code} {H : Heap} {locs : List Loc} {g : GP} {ls : Array Slot} {A : Nat → Prop} {ad : Nat → Nat} {u : ST}
set_option maxRecDepth 100000 in
set_option maxHeartbeats 4000000 in
theorem mX7_goesInto {r0 : Int32} {x1 : Int32} {x2 : Int32} (hf : fX7_goesInto u x1 x2 = some r0) : MRi l yX7_goesInto cX7_goesInto 3 (some .boolean) 1 22 [.ref (ad 2), .int x1, .int x2] g (cW g ad u) r0 := by
  refine entR (by decide) (Nat.le_of_ble_eq_true rfl) ?_
  intro p e s m below meth c ls C hP hZ hl
  have hl : lv_has ls 3 [(0, .ref (ad 2)), (1, .int x1), (2, .int x2)] := hl
  rw [fX7_goesInto] at hf
  refine lv_iload_n C.1 C.2.1 dX7_goesInto_0 rfl (lv_at hl 1 rfl) ?_
  refine lv_bipush (v := -2) C.1 C.2.1 dX7_goesInto_1 (by decide) ?_
  refine lv_icmp_ne (tgt := 20) C.1 C.2.1 dX7_goesInto_3 (by decide) (fun c1 => ?_) (fun c1 => ?_)
  · rw [if_neg c1] at hf
    refine lv_aload_n C.1 C.2.1 dX7_goesInto_20 rfl (lv_at hl 0 rfl) ?_
    refine lv_iload_n C.1 C.2.1 dX7_goesInto_21 rfl (lv_at hl 1 rfl) ?_
    refine lv_iload_n C.1 C.2.1 dX7_goesInto_22 rfl (lv_at hl 2 rfl) ?_
    obtain ⟨v2, hv2, hf⟩ := Option.bind_eq_some_iff.mp hf
    refine cRi (As := [.int x1, .int x2]) (rest := []) C (mX7_isBelow hv2) vX7_isBelow wM_X7_41 ⟨Nat.le_of_ble_eq_true rfl, Nat.le_of_ble_eq_true rfl⟩ hP (rcc_X7 C hP) (fun U hU hW => SF.go hZ va_S.rf hU hW (fun _ h => h)) hl.1 rfl rfl (Nat.le_of_ble_eq_true rfl) dX7_goesInto_23 ⟨Nat.le_of_ble_eq_true rfl, Nat.le_of_ble_eq_true rfl⟩ ?_
    obtain ⟨hB, hf⟩ := ck_some hf
    exact endRz C hB hf dX7_goesInto_26
  · rw [if_pos c1] at hf
    refine lv_iload_n C.1 C.2.1 dX7_goesInto_6 rfl (lv_at hl 2 rfl) ?_
    refine lv_bipush (v := -2) C.1 C.2.1 dX7_goesInto_7 (by decide) ?_
    refine lv_icmp_ne (tgt := 16) C.1 C.2.1 dX7_goesInto_9 (by decide) (fun c3 => ?_) (fun c3 => ?_)
    · rw [if_neg c3] at hf
      refine lv_iconst (v := 0) C.1 C.2.1 dX7_goesInto_16 (by decide) ?_
      refine lv_goto (tgt := 26) C.1 C.2.1 dX7_goesInto_17 (by decide) ?_
      exact endRz C rfl hf dX7_goesInto_26
    · rw [if_pos c3] at hf
      refine lv_iconst (v := 1) C.1 C.2.1 dX7_goesInto_12 (by decide) ?_
      refine lv_goto (tgt := 26) C.1 C.2.1 dX7_goesInto_13 (by decide) ?_
      exact endRz C rfl hf dX7_goesInto_26
end
theorem vX7_goesInto : YV yX7_goesInto cX7_goesInto 3 (some .boolean) 2 := ⟨⟨wK_X7_goesInto, wZ_X7, by decide +kernel⟩, wI_X7_goesInto, wV_X7_goesInto⟩
def fX2_firstMethod_L3 (u : ST) : Nat → Int32 → Int32 → Int32 → Int32 → Option Int32
  | 0, _, _, _, _ => none
  | n + 1, x1, x2, x3, x4 =>
    if (sI u 209) ≤ x4 then
      some (-2)
    else
      (fX7_orderedAt u x4).bind fun v2 =>
      (fX6_methodOf u v2 x1 x2 x3).bind fun v3 =>
      if v3 = (-2) then
        fX2_firstMethod_L3 u n x1 x2 x3 (x4 + 1)
      else
        some v3
def fX2_firstMethod (u : ST) (x1 : Int32) (x2 : Int32) (x3 : Int32) : Option Int32 :=
  fX2_firstMethod_L3 u 5000 x1 x2 x3 0
section
variable {p : Program} {l : Launch} {e : Env} {s : State} {m : MethodId} {args : Array Value} {below : List Frame} {meth : Method} {c : Code} {H : Heap} {locs : List Loc} {g : GP} {ls : Array Slot} {A : Nat → Prop} {ad : Nat → Nat} {u : ST}
set_option maxRecDepth 100000 in
set_option maxHeartbeats 4000000 in
theorem bX2_firstMethod_L3 {r0 : Int32} (C : Cx p s m args meth c cX2_firstMethod 6 RX2 (some .int) g) (hZ : SF (fun _ => False) s) (n : Nat) : ∀ (x1 : Int32) (x2 : Int32) (x3 : Int32) (x4 : Int32), va_P g.1 vwCl (cW g ad u) s.heap → ∀ (ls : Array Slot), lv_has ls 6 [(0, .ref (ad 1)), (1, .int x1), (2, .int x2), (3, .int x3), (4, .int x4)] → fX2_firstMethod_L3 u n x1 x2 x3 x4 = some r0 → W p l e (rmR 1 25) s m args below meth c s.heap [] 0 0 (MQ below (vp_Si (fun r => r = r0)) args s 0 0 (fun _ => False)) (F0 m 3 ls []) := by
  induction n with
  | zero =>
    intro x1 x2 x3 x4 hP ls hl hf
    exact absurd hf (by simp [fX2_firstMethod_L3])
  | succ n ih0 =>
    intro x1 x2 x3 x4 hP ls hl hf
    have ih := fun (x1 : Int32) (x2 : Int32) (x3 : Int32) (x4 : Int32) => ih0 x1 x2 x3 x4 hP
    rw [fX2_firstMethod_L3] at hf
    refine lv_iload C.1 C.2.1 dX2_firstMethod_3 (lv_at hl 4 rfl) ?_
    refine lv_aload_n C.1 C.2.1 dX2_firstMethod_5 rfl (lv_at hl 0 rfl) ?_
    refine gtc_X2_types C hP wF_X2_12 dX2_firstMethod_6 ?_
    refine gtc_X7_ordered C hP wF_X2_136 dX2_firstMethod_9 ?_
    refine lv_icmp_ge (tgt := 52) C.1 C.2.1 dX2_firstMethod_12 (by decide) (fun c1 => ?_) (fun c1 => ?_)
    · rw [if_pos c1] at hf
      refine lv_bipush (v := -2) C.1 C.2.1 dX2_firstMethod_52 (by decide) ?_
      exact endRi C hf dX2_firstMethod_54
    · rw [if_neg c1] at hf
      refine lv_aload_n C.1 C.2.1 dX2_firstMethod_15 rfl (lv_at hl 0 rfl) ?_
      refine gtc_X2_members C hP wF_X2_21 dX2_firstMethod_16 ?_
      refine lv_aload_n C.1 C.2.1 dX2_firstMethod_19 rfl (lv_at hl 0 rfl) ?_
      refine gtc_X2_types C hP wF_X2_12 dX2_firstMethod_20 ?_
      refine lv_iload C.1 C.2.1 dX2_firstMethod_23 (lv_at hl 4 rfl) ?_
      obtain ⟨v2, hv2, hf⟩ := Option.bind_eq_some_iff.mp hf
      refine cRi (As := [.int x4]) (rest := [.ref (ad 3)]) C (mX7_orderedAt hv2) vX7_orderedAt wM_X2_139 ⟨Nat.le_of_ble_eq_true rfl, Nat.le_of_ble_eq_true rfl⟩ hP (rcc_X7 C hP) (fun U hU hW => SF.go hZ va_S.rf hU hW (fun _ h => h)) hl.1 rfl rfl (Nat.le_of_ble_eq_true rfl) dX2_firstMethod_25 ⟨Nat.le_of_ble_eq_true rfl, Nat.le_of_ble_eq_true rfl⟩ ?_
      refine lv_iload_n C.1 C.2.1 dX2_firstMethod_28 rfl (lv_at hl 1 rfl) ?_
      refine lv_iload_n C.1 C.2.1 dX2_firstMethod_29 rfl (lv_at hl 2 rfl) ?_
      refine lv_iload_n C.1 C.2.1 dX2_firstMethod_30 rfl (lv_at hl 3 rfl) ?_
      obtain ⟨v3, hv3, hf⟩ := Option.bind_eq_some_iff.mp hf
      refine cRi (As := [.int v2, .int x1, .int x2, .int x3]) (rest := []) C (mX6_methodOf hv3) vX6_methodOf wM_X2_109 ⟨Nat.le_of_ble_eq_true rfl, Nat.le_of_ble_eq_true rfl⟩ hP (rcc_X6 C hP) (fun U hU hW => SF.go hZ va_S.rf hU hW (fun _ h => h)) hl.1 rfl rfl (Nat.le_of_ble_eq_true rfl) dX2_firstMethod_31 ⟨Nat.le_of_ble_eq_true rfl, Nat.le_of_ble_eq_true rfl⟩ ?_
      refine lv_istore (lv' := [(5, .int v3), (0, .ref (ad 1)), (1, .int x1), (2, .int x2), (3, .int x3), (4, .int x4)]) C.1 C.2.1 dX2_firstMethod_34 hl (by decide) rfl (fun ls hl => ?_)
      refine lv_iload C.1 C.2.1 dX2_firstMethod_36 (lv_at hl 0 rfl) ?_
      refine lv_bipush (v := -2) C.1 C.2.1 dX2_firstMethod_38 (by decide) ?_
      refine lv_icmp_eq (tgt := 46) C.1 C.2.1 dX2_firstMethod_40 (by decide) (fun c4 => ?_) (fun c4 => ?_)
      · rw [if_pos c4] at hf
        refine lv_iinc (v := (x4 + 1)) (lv' := [(4, .int (x4 + 1)), (5, .int v3), (0, .ref (ad 1)), (1, .int x1), (2, .int x2), (3, .int x3)]) C.1 C.2.1 dX2_firstMethod_46 hl (k := 5) rfl rfl (by decide) rfl (fun ls hl => ?_)
        refine lv_goto (tgt := 3) C.1 C.2.1 dX2_firstMethod_49 (by decide) ?_
        exact ih x1 x2 x3 (x4 + 1) _ (lv_sub hl [2, 3, 4, 5, 0] rfl) hf
      · rw [if_neg c4] at hf
        refine lv_iload C.1 C.2.1 dX2_firstMethod_43 (lv_at hl 0 rfl) ?_
        exact endRi C hf dX2_firstMethod_45
set_option maxRecDepth 100000 in
set_option maxHeartbeats 4000000 in
theorem mX2_firstMethod {r0 : Int32} {x1 : Int32} {x2 : Int32} {x3 : Int32} (hf : fX2_firstMethod u x1 x2 x3 = some r0) : MRi l yX2_firstMethod cX2_firstMethod 6 (some .int) 1 25 [.ref (ad 1), .int x1, .int x2, .int x3] g (cW g ad u) r0 := by
  refine entR (by decide) (Nat.le_of_ble_eq_true rfl) ?_
  intro p e s m below meth c ls C hP hZ hl
  have hl : lv_has ls 6 [(0, .ref (ad 1)), (1, .int x1), (2, .int x2), (3, .int x3)] := hl
  rw [fX2_firstMethod] at hf
  refine lv_iconst (v := 0) C.1 C.2.1 dX2_firstMethod_0 (by decide) ?_
  refine lv_istore (lv' := [(4, .int 0), (0, .ref (ad 1)), (1, .int x1), (2, .int x2), (3, .int x3)]) C.1 C.2.1 dX2_firstMethod_1 hl (by decide) rfl (fun ls hl => ?_)
  exact bX2_firstMethod_L3 C hZ 5000 x1 x2 x3 0 hP _ (lv_sub hl [1, 2, 3, 4, 0] rfl) hf
end
theorem vX2_firstMethod : YV yX2_firstMethod cX2_firstMethod 6 (some .int) 3 := ⟨⟨wK_X2_firstMethod, wZ_X2, by decide +kernel⟩, wI_X2_firstMethod, wV_X2_firstMethod⟩
def fX4_fits (u : ST) (x1 : Int32) (x2 : Nat) : Option Int32 :=
  (fX6_isMethod u x1).bind fun v1 =>
  if v1 = 0 then
    some 0
  else
    (rdI u 17 60 x1).bind fun v3 =>
    (pcI u x2 2).bind fun v4 =>
    if v3 = v4 then
      (fX6_has u x1 4).bind fun v6 =>
      if v6 = 0 then
        (rdI u 19 60 x1).bind fun v8 =>
        (rdI u 20 60 x1).bind fun v9 =>
        (pcI u x2 3).bind fun v10 =>
        (fX7_goesInto u v10 v8).bind fun v11 =>
        if v11 = 0 then
          some 0
        else
          (pcI u x2 4).bind fun v13 =>
          (fX7_goesInto u v13 v9).bind fun v14 =>
          if v14 = 0 then
            some 0
          else
            (pcI u x2 2).bind fun v16 =>
            (fX2_firstMethod u v16 v8 v9).bind fun v17 =>
            if v17 = x1 then
              some 1
            else
              some 0
      else
        some 0
    else
      some 0
section
variable {p : Program} {l : Launch} {e : Env} {s : State} {m : MethodId} {args : Array Value} {below : List Frame} {meth : Method} {c : Code} {H : Heap} {locs : List Loc} {g : GP} {ls : Array Slot} {A : Nat → Prop} {ad : Nat → Nat} {u : ST}
set_option maxRecDepth 100000 in
set_option maxHeartbeats 4000000 in
theorem mX4_fits {r0 : Int32} {x1 : Int32} {x2 : Nat} (hf : fX4_fits u x1 x2 = some r0) : MRi l yX4_fits cX4_fits 6 (some .boolean) 2 50 [.ref (ad 4), .int x1, .ref x2] g (cW g ad u) r0 := by
  refine entR (by decide) (Nat.le_of_ble_eq_true rfl) ?_
  intro p e s m below meth c ls C hP hZ hl
  have hl : lv_has ls 6 [(0, .ref (ad 4)), (1, .int x1), (2, .ref x2)] := hl
  rw [fX4_fits] at hf
  refine lv_aload_n C.1 C.2.1 dX4_fits_0 rfl (lv_at hl 0 rfl) ?_
  refine gtc_X4_house C hP wF_X4_17 dX4_fits_1 ?_
  refine gtc_X2_members C hP wF_X4_52 dX4_fits_4 ?_
  refine lv_astore_n (lv' := [(3, .ref (ad 3)), (0, .ref (ad 4)), (1, .int x1), (2, .ref x2)]) C.1 C.2.1 dX4_fits_7 rfl hl (by decide) rfl (fun ls hl => ?_)
  refine lv_aload_n C.1 C.2.1 dX4_fits_8 rfl (lv_at hl 0 rfl) ?_
  refine lv_iload_n C.1 C.2.1 dX4_fits_9 rfl (lv_at hl 2 rfl) ?_
  obtain ⟨v1, hv1, hf⟩ := Option.bind_eq_some_iff.mp hf
  refine cRi (As := [.int x1]) (rest := []) C (mX6_isMethod hv1) vX6_isMethod wM_X4_102 ⟨Nat.le_of_ble_eq_true rfl, Nat.le_of_ble_eq_true rfl⟩ hP (rcc_X6 C hP) (fun U hU hW => SF.go hZ va_S.rf hU hW (fun _ h => h)) hl.1 rfl rfl (Nat.le_of_ble_eq_true rfl) dX4_fits_10 ⟨Nat.le_of_ble_eq_true rfl, Nat.le_of_ble_eq_true rfl⟩ ?_
  refine lv_if_eq (tgt := 38) C.1 C.2.1 dX4_fits_13 (by decide) (fun c2 => ?_) (fun c2 => ?_)
  · rw [if_pos c2] at hf
    refine lv_iconst (v := 0) C.1 C.2.1 dX4_fits_38 (by decide) ?_
    exact endRz C rfl hf dX4_fits_39
  · rw [if_neg c2] at hf
    refine lv_aload_n C.1 C.2.1 dX4_fits_16 rfl (lv_at hl 0 rfl) ?_
    refine gtc_X6_name C hP wF_X4_123 dX4_fits_17 ?_
    refine lv_iload_n C.1 C.2.1 dX4_fits_20 rfl (lv_at hl 2 rfl) ?_
    obtain ⟨v3, hv3, hf⟩ := Option.bind_eq_some_iff.mp hf
    refine ldc_17 C hP hv3 dX4_fits_21 ?_
    refine lv_aload_n C.1 C.2.1 dX4_fits_22 rfl (lv_at hl 3 rfl) ?_
    obtain ⟨v4, hv4, hf⟩ := Option.bind_eq_some_iff.mp hf
    refine gC_n C hP hv4 wF_X4_56 dX4_fits_23 ?_
    refine lv_icmp_ne (tgt := 38) C.1 C.2.1 dX4_fits_26 (by decide) (fun c5 => ?_) (fun c5 => ?_)
    · rw [if_neg c5] at hf
      refine lv_iconst (v := 0) C.1 C.2.1 dX4_fits_38 (by decide) ?_
      exact endRz C rfl hf dX4_fits_39
    · rw [if_pos c5] at hf
      refine lv_aload_n C.1 C.2.1 dX4_fits_29 rfl (lv_at hl 0 rfl) ?_
      refine lv_iload_n C.1 C.2.1 dX4_fits_30 rfl (lv_at hl 2 rfl) ?_
      refine lv_iconst (v := 4) C.1 C.2.1 dX4_fits_31 (by decide) ?_
      obtain ⟨v6, hv6, hf⟩ := Option.bind_eq_some_iff.mp hf
      refine cRi (As := [.int x1, .int 4]) (rest := []) C (mX6_has hv6) vX6_has wM_X4_72 ⟨Nat.le_of_ble_eq_true rfl, Nat.le_of_ble_eq_true rfl⟩ hP (rcc_X6 C hP) (fun U hU hW => SF.go hZ va_S.rf hU hW (fun _ h => h)) hl.1 rfl rfl (Nat.le_of_ble_eq_true rfl) dX4_fits_32 ⟨Nat.le_of_ble_eq_true rfl, Nat.le_of_ble_eq_true rfl⟩ ?_
      refine lv_if_eq (tgt := 40) C.1 C.2.1 dX4_fits_35 (by decide) (fun c7 => ?_) (fun c7 => ?_)
      · rw [if_pos c7] at hf
        refine lv_aload_n C.1 C.2.1 dX4_fits_40 rfl (lv_at hl 0 rfl) ?_
        refine gtc_X6_first C hP wF_X4_66 dX4_fits_41 ?_
        refine lv_iload_n C.1 C.2.1 dX4_fits_44 rfl (lv_at hl 2 rfl) ?_
        obtain ⟨v8, hv8, hf⟩ := Option.bind_eq_some_iff.mp hf
        refine ldc_19 C hP hv8 dX4_fits_45 ?_
        refine lv_istore (lv' := [(4, .int v8), (3, .ref (ad 3)), (0, .ref (ad 4)), (1, .int x1), (2, .ref x2)]) C.1 C.2.1 dX4_fits_46 hl (by decide) rfl (fun ls hl => ?_)
        refine lv_aload_n C.1 C.2.1 dX4_fits_48 rfl (lv_at hl 1 rfl) ?_
        refine gtc_X6_second C hP wF_X4_110 dX4_fits_49 ?_
        refine lv_iload_n C.1 C.2.1 dX4_fits_52 rfl (lv_at hl 3 rfl) ?_
        obtain ⟨v9, hv9, hf⟩ := Option.bind_eq_some_iff.mp hf
        refine ldc_20 C hP hv9 dX4_fits_53 ?_
        refine lv_istore (lv' := [(5, .int v9), (4, .int v8), (3, .ref (ad 3)), (0, .ref (ad 4)), (1, .int x1), (2, .ref x2)]) C.1 C.2.1 dX4_fits_54 hl (by decide) rfl (fun ls hl => ?_)
        refine lv_aload_n C.1 C.2.1 dX4_fits_56 rfl (lv_at hl 3 rfl) ?_
        refine gtc_X4_house C hP wF_X4_17 dX4_fits_57 ?_
        refine gtc_X2_types C hP wF_X4_34 dX4_fits_60 ?_
        refine lv_aload_n C.1 C.2.1 dX4_fits_63 rfl (lv_at hl 5 rfl) ?_
        obtain ⟨v10, hv10, hf⟩ := Option.bind_eq_some_iff.mp hf
        refine gC_a C hP hv10 wF_X4_126 dX4_fits_64 ?_
        refine lv_iload C.1 C.2.1 dX4_fits_67 (lv_at hl 1 rfl) ?_
        obtain ⟨v11, hv11, hf⟩ := Option.bind_eq_some_iff.mp hf
        refine cRi (As := [.int v10, .int v8]) (rest := []) C (mX7_goesInto hv11) vX7_goesInto wM_X4_129 ⟨Nat.le_of_ble_eq_true rfl, Nat.le_of_ble_eq_true rfl⟩ hP (rcc_X7 C hP) (fun U hU hW => SF.go hZ va_S.rf hU hW (fun _ h => h)) hl.1 rfl rfl (Nat.le_of_ble_eq_true rfl) dX4_fits_69 ⟨Nat.le_of_ble_eq_true rfl, Nat.le_of_ble_eq_true rfl⟩ ?_
        refine lv_if_eq (tgt := 117) C.1 C.2.1 dX4_fits_72 (by decide) (fun c12 => ?_) (fun c12 => ?_)
        · rw [if_pos c12] at hf
          refine lv_iconst (v := 0) C.1 C.2.1 dX4_fits_117 (by decide) ?_
          exact endRz C rfl hf dX4_fits_118
        · rw [if_neg c12] at hf
          refine lv_aload_n C.1 C.2.1 dX4_fits_75 rfl (lv_at hl 3 rfl) ?_
          refine gtc_X4_house C hP wF_X4_17 dX4_fits_76 ?_
          refine gtc_X2_types C hP wF_X4_34 dX4_fits_79 ?_
          refine lv_aload_n C.1 C.2.1 dX4_fits_82 rfl (lv_at hl 5 rfl) ?_
          obtain ⟨v13, hv13, hf⟩ := Option.bind_eq_some_iff.mp hf
          refine gC_b C hP hv13 wF_X4_132 dX4_fits_83 ?_
          refine lv_iload C.1 C.2.1 dX4_fits_86 (lv_at hl 0 rfl) ?_
          obtain ⟨v14, hv14, hf⟩ := Option.bind_eq_some_iff.mp hf
          refine cRi (As := [.int v13, .int v9]) (rest := []) C (mX7_goesInto hv14) vX7_goesInto wM_X4_129 ⟨Nat.le_of_ble_eq_true rfl, Nat.le_of_ble_eq_true rfl⟩ hP (rcc_X7 C hP) (fun U hU hW => SF.go hZ va_S.rf hU hW (fun _ h => h)) hl.1 rfl rfl (Nat.le_of_ble_eq_true rfl) dX4_fits_88 ⟨Nat.le_of_ble_eq_true rfl, Nat.le_of_ble_eq_true rfl⟩ ?_
          refine lv_if_eq (tgt := 117) C.1 C.2.1 dX4_fits_91 (by decide) (fun c15 => ?_) (fun c15 => ?_)
          · rw [if_pos c15] at hf
            refine lv_iconst (v := 0) C.1 C.2.1 dX4_fits_117 (by decide) ?_
            exact endRz C rfl hf dX4_fits_118
          · rw [if_neg c15] at hf
            refine lv_aload_n C.1 C.2.1 dX4_fits_94 rfl (lv_at hl 3 rfl) ?_
            refine gtc_X4_house C hP wF_X4_17 dX4_fits_95 ?_
            refine lv_aload_n C.1 C.2.1 dX4_fits_98 rfl (lv_at hl 5 rfl) ?_
            obtain ⟨v16, hv16, hf⟩ := Option.bind_eq_some_iff.mp hf
            refine gC_n C hP hv16 wF_X4_56 dX4_fits_99 ?_
            refine lv_iload C.1 C.2.1 dX4_fits_102 (lv_at hl 1 rfl) ?_
            refine lv_iload C.1 C.2.1 dX4_fits_104 (lv_at hl 0 rfl) ?_
            obtain ⟨v17, hv17, hf⟩ := Option.bind_eq_some_iff.mp hf
            refine cRi (As := [.int v16, .int v8, .int v9]) (rest := []) C (mX2_firstMethod hv17) vX2_firstMethod wM_X4_135 ⟨Nat.le_of_ble_eq_true rfl, Nat.le_of_ble_eq_true rfl⟩ hP (rcc_X2 C hP) (fun U hU hW => SF.go hZ va_S.rf hU hW (fun _ h => h)) hl.1 rfl rfl (Nat.le_of_ble_eq_true rfl) dX4_fits_106 ⟨Nat.le_of_ble_eq_true rfl, Nat.le_of_ble_eq_true rfl⟩ ?_
            refine lv_iload_n C.1 C.2.1 dX4_fits_109 rfl (lv_at hl 4 rfl) ?_
            refine lv_icmp_ne (tgt := 117) C.1 C.2.1 dX4_fits_110 (by decide) (fun c18 => ?_) (fun c18 => ?_)
            · rw [if_neg c18] at hf
              refine lv_iconst (v := 0) C.1 C.2.1 dX4_fits_117 (by decide) ?_
              exact endRz C rfl hf dX4_fits_118
            · rw [if_pos c18] at hf
              refine lv_iconst (v := 1) C.1 C.2.1 dX4_fits_113 (by decide) ?_
              refine lv_goto (tgt := 118) C.1 C.2.1 dX4_fits_114 (by decide) ?_
              exact endRz C rfl hf dX4_fits_118
      · rw [if_neg c7] at hf
        refine lv_iconst (v := 0) C.1 C.2.1 dX4_fits_38 (by decide) ?_
        exact endRz C rfl hf dX4_fits_39
end
theorem vX4_fits : YV yX4_fits cX4_fits 6 (some .boolean) 2 := ⟨⟨wK_X4_fits, wZ_X4, by decide +kernel⟩, wI_X4_fits, wV_X4_fits⟩
def fX4_findFitting_L69 (K22 : ST → Nat → Int32 → Option ST) (u : ST) (x1 : Nat) (x2 : Int32) : Option ST :=
  K22 u x1 (x2 + 1)
def fX4_findFitting_L22 : Nat → ST → Nat → Int32 → Option ST
  | 0, _, _, _ => none
  | n + 1, u, x1, x2 =>
    if 60 ≤ x2 then
      some u
    else
      if 60 ≤ (sI u 402) then
        some u
      else
        (fX4_fits u x2 x1).bind fun v6 =>
        if v6 = 0 then
          fX4_findFitting_L69 (fX4_findFitting_L22 n) u x1 x2
        else
          (stI u 22 60 (sI u 402) x2).bind fun u8 =>
          (some (uI u8 402 ((sI u8 402) + 1))).bind fun u9 =>
          fX4_findFitting_L69 (fX4_findFitting_L22 n) u9 x1 x2
def fX4_findFitting (u : ST) (x1 : Nat) : Option ST :=
  (some (uI u 402 0)).bind fun u1 =>
  (pcI u1 x1 1).bind fun v2 =>
  (fX7_orderFrom u1 v2 0).bind fun u3 =>
  fX4_findFitting_L22 5000 u3 x1 0
section
variable {p : Program} {l : Launch} {e : Env} {s : State} {m : MethodId} {args : Array Value} {below : List Frame} {meth : Method} {c : Code} {H : Heap} {locs : List Loc} {g : GP} {ls : Array Slot} {A : Nat → Prop} {ad : Nat → Nat} {u : ST}
set_option maxRecDepth 100000 in
set_option maxHeartbeats 4000000 in
theorem bX4_findFitting_L69 {u0 : ST} {K22 : ST → Nat → Int32 → Option ST} {x1 : Nat} {x2 : Int32} (C : Cx p s m args meth c cX4_findFitting 3 RX4 none g) (hA : ∀ q, s.heap.size ≤ q → A q) (hZ : SF A s) (hK22 : ∀ (u : ST) (x1 : Nat) (x2 : Int32) (H : Heap) (locs : List Loc), va_P g.1 vwCl (cW g ad u) H → va_D A (cW g ad u) → va_S A s.heap H locs → ∀ (ls : Array Slot), lv_has ls 3 [(0, .ref (ad 4)), (1, .ref x1), (2, .int x2)] → K22 u x1 x2 = some u0 → W p l e (rmW 16 382 0 0) s m args below meth c H locs 0 0 (MQ below (va_Qv (fun v => v = u0) (BW g A (cW g ad)) A) args s 0 0 A) (F0 m 22 ls [])) (hP : va_P g.1 vwCl (cW g ad u) H) (hD : va_D A (cW g ad u)) (hS : va_S A s.heap H locs) (hl : lv_has ls 3 [(0, .ref (ad 4)), (1, .ref x1), (2, .int x2)]) (hf : fX4_findFitting_L69 K22 u x1 x2 = some u0) : W p l e (rmW 16 382 0 0) s m args below meth c H locs 0 0 (MQ below (va_Qv (fun v => v = u0) (BW g A (cW g ad)) A) args s 0 0 A) (F0 m 69 ls []) := by
  rw [fX4_findFitting_L69] at hf
  refine lv_iinc (v := (x2 + 1)) (lv' := [(2, .int (x2 + 1)), (0, .ref (ad 4)), (1, .ref x1)]) C.1 C.2.1 dX4_findFitting_69 hl (k := 2) rfl rfl (by decide) rfl (fun ls hl => ?_)
  refine lv_goto (tgt := 22) C.1 C.2.1 dX4_findFitting_72 (by decide) ?_
  exact hK22 u x1 (x2 + 1) _ _ hP hD hS _ (lv_sub hl [1, 2, 0] rfl) hf
set_option maxRecDepth 100000 in
set_option maxHeartbeats 4000000 in
theorem bX4_findFitting_L22 {u0 : ST} (C : Cx p s m args meth c cX4_findFitting 3 RX4 none g) (hA : ∀ q, s.heap.size ≤ q → A q) (hZ : SF A s) : ∀ (n : Nat), ∀ (u : ST) (x1 : Nat) (x2 : Int32) (H : Heap) (locs : List Loc), va_P g.1 vwCl (cW g ad u) H → va_D A (cW g ad u) → va_S A s.heap H locs → ∀ (ls : Array Slot), lv_has ls 3 [(0, .ref (ad 4)), (1, .ref x1), (2, .int x2)] → fX4_findFitting_L22 n u x1 x2 = some u0 → W p l e (rmW 16 382 0 0) s m args below meth c H locs 0 0 (MQ below (va_Qv (fun v => v = u0) (BW g A (cW g ad)) A) args s 0 0 A) (F0 m 22 ls []) := by
  intro n
  induction n with
  | zero =>
    intro u x1 x2 H locs hP hD hS ls hl hf
    exact absurd hf (by simp [fX4_findFitting_L22])
  | succ n ih =>
    intro u x1 x2 H locs hP hD hS ls hl hf
    rw [fX4_findFitting_L22] at hf
    refine lv_iload_n C.1 C.2.1 dX4_findFitting_22 rfl (lv_at hl 2 rfl) ?_
    refine lv_bipush (v := 60) C.1 C.2.1 dX4_findFitting_23 (by decide) ?_
    refine lv_icmp_ge (tgt := 75) C.1 C.2.1 dX4_findFitting_25 (by decide) (fun c4 => ?_) (fun c4 => ?_)
    · rw [if_pos c4] at hf
      exact endWv C hP hD hS (Nat.le_refl _) (Nat.le_refl _) hf dX4_findFitting_75
    · rw [if_neg c4] at hf
      refine lv_aload_n C.1 C.2.1 dX4_findFitting_28 rfl (lv_at hl 0 rfl) ?_
      refine gtc_X4_fittingCount C hP wF_X4_95 dX4_findFitting_29 ?_
      refine lv_aload_n C.1 C.2.1 dX4_findFitting_32 rfl (lv_at hl 0 rfl) ?_
      refine gtc_X4_fitting C hP wF_X4_11 dX4_findFitting_33 ?_
      refine lnc_22 C hP dX4_findFitting_36 ?_
      refine lv_icmp_ge (tgt := 75) C.1 C.2.1 dX4_findFitting_37 (by decide) (fun c5 => ?_) (fun c5 => ?_)
      · rw [if_pos c5] at hf
        exact endWv C hP hD hS (Nat.le_refl _) (Nat.le_refl _) hf dX4_findFitting_75
      · rw [if_neg c5] at hf
        refine lv_aload_n C.1 C.2.1 dX4_findFitting_40 rfl (lv_at hl 0 rfl) ?_
        refine lv_iload_n C.1 C.2.1 dX4_findFitting_41 rfl (lv_at hl 2 rfl) ?_
        refine lv_aload_n C.1 C.2.1 dX4_findFitting_42 rfl (lv_at hl 1 rfl) ?_
        obtain ⟨v6, hv6, hf⟩ := Option.bind_eq_some_iff.mp hf
        refine cRi (As := [.int x2, .ref x1]) (rest := []) C (mX4_fits hv6) vX4_fits wM_X4_119 ⟨Nat.le_of_ble_eq_true rfl, Nat.le_of_ble_eq_true rfl⟩ hP (rcc_X4 C hP) (fun U hU hW => SF.go hZ hS hU hW (fun _ h => h.elim)) hl.1 rfl rfl (Nat.le_of_ble_eq_true rfl) dX4_findFitting_43 ⟨Nat.le_of_ble_eq_true rfl, Nat.le_of_ble_eq_true rfl⟩ ?_
        refine lv_if_eq (tgt := 69) C.1 C.2.1 dX4_findFitting_46 (by decide) (fun c7 => ?_) (fun c7 => ?_)
        · rw [if_pos c7] at hf
          exact bX4_findFitting_L69 C hA hZ ih hP hD hS (lv_sub hl [0, 1, 2] rfl) hf
        · rw [if_neg c7] at hf
          refine lv_aload_n C.1 C.2.1 dX4_findFitting_49 rfl (lv_at hl 0 rfl) ?_
          refine gtc_X4_fitting C hP wF_X4_11 dX4_findFitting_50 ?_
          refine lv_aload_n C.1 C.2.1 dX4_findFitting_53 rfl (lv_at hl 0 rfl) ?_
          refine gtc_X4_fittingCount C hP wF_X4_95 dX4_findFitting_54 ?_
          refine lv_iload_n C.1 C.2.1 dX4_findFitting_57 rfl (lv_at hl 2 rfl) ?_
          obtain ⟨u8, hu8, hf⟩ := Option.bind_eq_some_iff.mp hf
          refine stc_22 C hP hD hS hu8 dX4_findFitting_58 (fun H locs hP hD hS => ?_)
          refine lv_aload_n C.1 C.2.1 dX4_findFitting_59 rfl (lv_at hl 0 rfl) ?_
          refine lv_dup C.1 C.2.1 dX4_findFitting_60 rfl ?_
          refine gtc_X4_fittingCount C hP wF_X4_95 dX4_findFitting_61 ?_
          refine lv_iconst (v := 1) C.1 C.2.1 dX4_findFitting_64 (by decide) ?_
          refine lv_iadd C.1 C.2.1 dX4_findFitting_65 ?_
          obtain ⟨u9, hu9, hf⟩ := Option.bind_eq_some_iff.mp hf
          refine ptc_X4_fittingCount C hP hD hS wF_X4_95 dX4_findFitting_66 (fun H locs hP hD hS => ?_)
          rw [Option.some.inj hu9] at hP hD
          exact bX4_findFitting_L69 C hA hZ ih hP hD hS (lv_sub hl [0, 1, 2] rfl) hf
set_option maxRecDepth 100000 in
set_option maxHeartbeats 4000000 in
theorem mX4_findFitting {u0 : ST} {x1 : Nat} (hf : fX4_findFitting u x1 = some u0) : MWv l yX4_findFitting cX4_findFitting 3 none 16 382 0 0 [.ref (ad 4), .ref x1] g (cW g ad) u u0 := by
  refine entW (Qc := fun A => va_Qv (fun v => v = u0) (BW g A (cW g ad)) A) (by decide) (Nat.le_of_ble_eq_true rfl) ?_
  intro p e s m below meth c ls A C hP hD hS hA hZ hl
  have hl : lv_has ls 3 [(0, .ref (ad 4)), (1, .ref x1)] := hl
  rw [fX4_findFitting] at hf
  refine lv_aload_n C.1 C.2.1 dX4_findFitting_0 rfl (lv_at hl 0 rfl) ?_
  refine lv_iconst (v := 0) C.1 C.2.1 dX4_findFitting_1 (by decide) ?_
  obtain ⟨u1, hu1, hf⟩ := Option.bind_eq_some_iff.mp hf
  refine ptc_X4_fittingCount C hP hD hS wF_X4_95 dX4_findFitting_2 (fun H locs hP hD hS => ?_)
  rw [Option.some.inj hu1] at hP hD
  refine lv_aload_n C.1 C.2.1 dX4_findFitting_5 rfl (lv_at hl 0 rfl) ?_
  refine gtc_X4_house C hP wF_X4_17 dX4_findFitting_6 ?_
  refine gtc_X2_types C hP wF_X4_34 dX4_findFitting_9 ?_
  refine lv_aload_n C.1 C.2.1 dX4_findFitting_12 rfl (lv_at hl 1 rfl) ?_
  obtain ⟨v2, hv2, hf⟩ := Option.bind_eq_some_iff.mp hf
  refine gC_t C hP hv2 wF_X4_40 dX4_findFitting_13 ?_
  refine lv_iconst (v := 0) C.1 C.2.1 dX4_findFitting_16 (by decide) ?_
  obtain ⟨u3, hu3, hf⟩ := Option.bind_eq_some_iff.mp hf
  refine cWv (As := [.int v2, .int 0]) (rest := []) (mc := 0) (ms := 0) C (mX7_orderFrom hu3) vX7_orderFrom wM_X4_115 ⟨Nat.le_of_ble_eq_true rfl, Nat.le_of_ble_eq_true rfl⟩ hP hD hS hA hZ (rcc_X7 C hP) hl.1 rfl rfl (Nat.le_of_ble_eq_true rfl) dX4_findFitting_17 ⟨Nat.le_of_ble_eq_true rfl, Nat.le_of_ble_eq_true rfl⟩ (fun H locs hP hD hS => ?_)
  refine lv_iconst (v := 0) C.1 C.2.1 dX4_findFitting_20 (by decide) ?_
  refine lv_istore_n (lv' := [(2, .int 0), (0, .ref (ad 4)), (1, .ref x1)]) C.1 C.2.1 dX4_findFitting_21 rfl hl (by decide) rfl (fun ls hl => ?_)
  exact bX4_findFitting_L22 C hA hZ 5000 u3 x1 0 _ _ hP hD hS _ (lv_sub hl [1, 2, 0] rfl) hf
end
theorem vX4_findFitting : YV yX4_findFitting cX4_findFitting 3 none 1 := ⟨⟨wK_X4_findFitting, wZ_X4, by decide +kernel⟩, wI_X4_findFitting, wV_X4_findFitting⟩
def fX4_goesIntoAll_L10 (u : ST) : Nat → Int32 → Int32 → Option Int32
  | 0, _, _ => none
  | n + 1, x1, x3 =>
    if (sI u 402) ≤ x3 then
      some 1
    else
      (rdI u 22 60 x3).bind fun v2 =>
      (rdI u 19 60 x1).bind fun v3 =>
      (rdI u 19 60 v2).bind fun v4 =>
      (fX7_goesInto u v3 v4).bind fun v5 =>
      if v5 = 0 then
        some 0
      else
        (rdI u 20 60 x1).bind fun v7 =>
        (rdI u 20 60 v2).bind fun v8 =>
        (fX7_goesInto u v7 v8).bind fun v9 =>
        if v9 = 0 then
          some 0
        else
          fX4_goesIntoAll_L10 u n x1 (x3 + 1)
def fX4_goesIntoAll (u : ST) (x1 : Int32) : Option Int32 :=
  fX4_goesIntoAll_L10 u 5000 x1 0
section
variable {p : Program} {l : Launch} {e : Env} {s : State} {m : MethodId} {args : Array Value} {below : List Frame} {meth : Method} {c : Code} {H : Heap} {locs : List Loc} {g : GP} {ls : Array Slot} {A : Nat → Prop} {ad : Nat → Nat} {u : ST}
set_option maxRecDepth 100000 in
set_option maxHeartbeats 4000000 in
theorem bX4_goesIntoAll_L10 {r0 : Int32} (C : Cx p s m args meth c cX4_goesIntoAll 5 RX4 (some .boolean) g) (hZ : SF (fun _ => False) s) (n : Nat) : ∀ (x1 : Int32) (x3 : Int32), va_P g.1 vwCl (cW g ad u) s.heap → ∀ (ls : Array Slot), lv_has ls 5 [(0, .ref (ad 4)), (1, .int x1), (2, .ref (ad 3)), (3, .int x3)] → fX4_goesIntoAll_L10 u n x1 x3 = some r0 → W p l e (rmR 2 44) s m args below meth c s.heap [] 0 0 (MQ below (vp_Si (fun r => r = r0)) args s 0 0 (fun _ => False)) (F0 m 10 ls []) := by
  induction n with
  | zero =>
    intro x1 x3 hP ls hl hf
    exact absurd hf (by simp [fX4_goesIntoAll_L10])
  | succ n ih0 =>
    intro x1 x3 hP ls hl hf
    have ih := fun (x1 : Int32) (x3 : Int32) => ih0 x1 x3 hP
    rw [fX4_goesIntoAll_L10] at hf
    refine lv_iload_n C.1 C.2.1 dX4_goesIntoAll_10 rfl (lv_at hl 3 rfl) ?_
    refine lv_aload_n C.1 C.2.1 dX4_goesIntoAll_11 rfl (lv_at hl 0 rfl) ?_
    refine gtc_X4_fittingCount C hP wF_X4_95 dX4_goesIntoAll_12 ?_
    refine lv_icmp_ge (tgt := 86) C.1 C.2.1 dX4_goesIntoAll_15 (by decide) (fun c1 => ?_) (fun c1 => ?_)
    · rw [if_pos c1] at hf
      refine lv_iconst (v := 1) C.1 C.2.1 dX4_goesIntoAll_86 (by decide) ?_
      exact endRz C rfl hf dX4_goesIntoAll_87
    · rw [if_neg c1] at hf
      refine lv_aload_n C.1 C.2.1 dX4_goesIntoAll_18 rfl (lv_at hl 0 rfl) ?_
      refine gtc_X4_fitting C hP wF_X4_11 dX4_goesIntoAll_19 ?_
      refine lv_iload_n C.1 C.2.1 dX4_goesIntoAll_22 rfl (lv_at hl 3 rfl) ?_
      obtain ⟨v2, hv2, hf⟩ := Option.bind_eq_some_iff.mp hf
      refine ldc_22 C hP hv2 dX4_goesIntoAll_23 ?_
      refine lv_istore (lv' := [(4, .int v2), (0, .ref (ad 4)), (1, .int x1), (2, .ref (ad 3)), (3, .int x3)]) C.1 C.2.1 dX4_goesIntoAll_24 hl (by decide) rfl (fun ls hl => ?_)
      refine lv_aload_n C.1 C.2.1 dX4_goesIntoAll_26 rfl (lv_at hl 1 rfl) ?_
      refine gtc_X4_house C hP wF_X4_17 dX4_goesIntoAll_27 ?_
      refine gtc_X2_types C hP wF_X4_34 dX4_goesIntoAll_30 ?_
      refine lv_aload_n C.1 C.2.1 dX4_goesIntoAll_33 rfl (lv_at hl 3 rfl) ?_
      refine gtc_X6_first C hP wF_X4_66 dX4_goesIntoAll_34 ?_
      refine lv_iload_n C.1 C.2.1 dX4_goesIntoAll_37 rfl (lv_at hl 2 rfl) ?_
      obtain ⟨v3, hv3, hf⟩ := Option.bind_eq_some_iff.mp hf
      refine ldc_19 C hP hv3 dX4_goesIntoAll_38 ?_
      refine lv_aload_n C.1 C.2.1 dX4_goesIntoAll_39 rfl (lv_at hl 3 rfl) ?_
      refine gtc_X6_first C hP wF_X4_66 dX4_goesIntoAll_40 ?_
      refine lv_iload C.1 C.2.1 dX4_goesIntoAll_43 (lv_at hl 0 rfl) ?_
      obtain ⟨v4, hv4, hf⟩ := Option.bind_eq_some_iff.mp hf
      refine ldc_19 C hP hv4 dX4_goesIntoAll_45 ?_
      obtain ⟨v5, hv5, hf⟩ := Option.bind_eq_some_iff.mp hf
      refine cRi (As := [.int v3, .int v4]) (rest := []) C (mX7_goesInto hv5) vX7_goesInto wM_X4_129 ⟨Nat.le_of_ble_eq_true rfl, Nat.le_of_ble_eq_true rfl⟩ hP (rcc_X7 C hP) (fun U hU hW => SF.go hZ va_S.rf hU hW (fun _ h => h)) hl.1 rfl rfl (Nat.le_of_ble_eq_true rfl) dX4_goesIntoAll_46 ⟨Nat.le_of_ble_eq_true rfl, Nat.le_of_ble_eq_true rfl⟩ ?_
      refine lv_if_eq (tgt := 78) C.1 C.2.1 dX4_goesIntoAll_49 (by decide) (fun c6 => ?_) (fun c6 => ?_)
      · rw [if_pos c6] at hf
        refine lv_iconst (v := 0) C.1 C.2.1 dX4_goesIntoAll_78 (by decide) ?_
        exact endRz C rfl hf dX4_goesIntoAll_79
      · rw [if_neg c6] at hf
        refine lv_aload_n C.1 C.2.1 dX4_goesIntoAll_52 rfl (lv_at hl 1 rfl) ?_
        refine gtc_X4_house C hP wF_X4_17 dX4_goesIntoAll_53 ?_
        refine gtc_X2_types C hP wF_X4_34 dX4_goesIntoAll_56 ?_
        refine lv_aload_n C.1 C.2.1 dX4_goesIntoAll_59 rfl (lv_at hl 3 rfl) ?_
        refine gtc_X6_second C hP wF_X4_110 dX4_goesIntoAll_60 ?_
        refine lv_iload_n C.1 C.2.1 dX4_goesIntoAll_63 rfl (lv_at hl 2 rfl) ?_
        obtain ⟨v7, hv7, hf⟩ := Option.bind_eq_some_iff.mp hf
        refine ldc_20 C hP hv7 dX4_goesIntoAll_64 ?_
        refine lv_aload_n C.1 C.2.1 dX4_goesIntoAll_65 rfl (lv_at hl 3 rfl) ?_
        refine gtc_X6_second C hP wF_X4_110 dX4_goesIntoAll_66 ?_
        refine lv_iload C.1 C.2.1 dX4_goesIntoAll_69 (lv_at hl 0 rfl) ?_
        obtain ⟨v8, hv8, hf⟩ := Option.bind_eq_some_iff.mp hf
        refine ldc_20 C hP hv8 dX4_goesIntoAll_71 ?_
        obtain ⟨v9, hv9, hf⟩ := Option.bind_eq_some_iff.mp hf
        refine cRi (As := [.int v7, .int v8]) (rest := []) C (mX7_goesInto hv9) vX7_goesInto wM_X4_129 ⟨Nat.le_of_ble_eq_true rfl, Nat.le_of_ble_eq_true rfl⟩ hP (rcc_X7 C hP) (fun U hU hW => SF.go hZ va_S.rf hU hW (fun _ h => h)) hl.1 rfl rfl (Nat.le_of_ble_eq_true rfl) dX4_goesIntoAll_72 ⟨Nat.le_of_ble_eq_true rfl, Nat.le_of_ble_eq_true rfl⟩ ?_
        refine lv_if_ne (tgt := 80) C.1 C.2.1 dX4_goesIntoAll_75 (by decide) (fun c10 => ?_) (fun c10 => ?_)
        · rw [if_neg c10] at hf
          refine lv_iinc (v := (x3 + 1)) (lv' := [(3, .int (x3 + 1)), (4, .int v2), (0, .ref (ad 4)), (1, .int x1), (2, .ref (ad 3))]) C.1 C.2.1 dX4_goesIntoAll_80 hl (k := 4) rfl rfl (by decide) rfl (fun ls hl => ?_)
          refine lv_goto (tgt := 10) C.1 C.2.1 dX4_goesIntoAll_83 (by decide) ?_
          exact ih x1 (x3 + 1) _ (lv_sub hl [2, 3, 4, 0] rfl) hf
        · rw [if_pos c10] at hf
          refine lv_iconst (v := 0) C.1 C.2.1 dX4_goesIntoAll_78 (by decide) ?_
          exact endRz C rfl hf dX4_goesIntoAll_79
set_option maxRecDepth 100000 in
set_option maxHeartbeats 4000000 in
theorem mX4_goesIntoAll {r0 : Int32} {x1 : Int32} (hf : fX4_goesIntoAll u x1 = some r0) : MRi l yX4_goesIntoAll cX4_goesIntoAll 5 (some .boolean) 2 44 [.ref (ad 4), .int x1] g (cW g ad u) r0 := by
  refine entR (by decide) (Nat.le_of_ble_eq_true rfl) ?_
  intro p e s m below meth c ls C hP hZ hl
  have hl : lv_has ls 5 [(0, .ref (ad 4)), (1, .int x1)] := hl
  rw [fX4_goesIntoAll] at hf
  refine lv_aload_n C.1 C.2.1 dX4_goesIntoAll_0 rfl (lv_at hl 0 rfl) ?_
  refine gtc_X4_house C hP wF_X4_17 dX4_goesIntoAll_1 ?_
  refine gtc_X2_members C hP wF_X4_52 dX4_goesIntoAll_4 ?_
  refine lv_astore_n (lv' := [(2, .ref (ad 3)), (0, .ref (ad 4)), (1, .int x1)]) C.1 C.2.1 dX4_goesIntoAll_7 rfl hl (by decide) rfl (fun ls hl => ?_)
  refine lv_iconst (v := 0) C.1 C.2.1 dX4_goesIntoAll_8 (by decide) ?_
  refine lv_istore_n (lv' := [(3, .int 0), (2, .ref (ad 3)), (0, .ref (ad 4)), (1, .int x1)]) C.1 C.2.1 dX4_goesIntoAll_9 rfl hl (by decide) rfl (fun ls hl => ?_)
  exact bX4_goesIntoAll_L10 C hZ 5000 x1 0 hP _ (lv_sub hl [2, 3, 1, 0] rfl) hf
end
theorem vX4_goesIntoAll : YV yX4_goesIntoAll cX4_goesIntoAll 5 (some .boolean) 1 := ⟨⟨wK_X4_goesIntoAll, wZ_X4, by decide +kernel⟩, wI_X4_goesIntoAll, wV_X4_goesIntoAll⟩
def fX4_narrowest_L2 (u : ST) : Nat → Int32 → Option Int32
  | 0, _ => none
  | n + 1, x1 =>
    if (sI u 402) ≤ x1 then
      some (-2)
    else
      (rdI u 22 60 x1).bind fun v2 =>
      (fX4_goesIntoAll u v2).bind fun v3 =>
      if v3 = 0 then
        fX4_narrowest_L2 u n (x1 + 1)
      else
        (rdI u 22 60 x1).bind fun v5 =>
        some v5
def fX4_narrowest (u : ST) : Option Int32 :=
  fX4_narrowest_L2 u 5000 0
section
variable {p : Program} {l : Launch} {e : Env} {s : State} {m : MethodId} {args : Array Value} {below : List Frame} {meth : Method} {c : Code} {H : Heap} {locs : List Loc} {g : GP} {ls : Array Slot} {A : Nat → Prop} {ad : Nat → Nat} {u : ST}
set_option maxRecDepth 100000 in
set_option maxHeartbeats 4000000 in
theorem bX4_narrowest_L2 {r0 : Int32} (C : Cx p s m args meth c cX4_narrowest 2 RX4 (some .int) g) (hZ : SF (fun _ => False) s) (n : Nat) : ∀ (x1 : Int32), va_P g.1 vwCl (cW g ad u) s.heap → ∀ (ls : Array Slot), lv_has ls 2 [(0, .ref (ad 4)), (1, .int x1)] → fX4_narrowest_L2 u n x1 = some r0 → W p l e (rmR 3 68) s m args below meth c s.heap [] 0 0 (MQ below (vp_Si (fun r => r = r0)) args s 0 0 (fun _ => False)) (F0 m 2 ls []) := by
  induction n with
  | zero =>
    intro x1 hP ls hl hf
    exact absurd hf (by simp [fX4_narrowest_L2])
  | succ n ih0 =>
    intro x1 hP ls hl hf
    have ih := fun (x1 : Int32) => ih0 x1 hP
    rw [fX4_narrowest_L2] at hf
    refine lv_iload_n C.1 C.2.1 dX4_narrowest_2 rfl (lv_at hl 1 rfl) ?_
    refine lv_aload_n C.1 C.2.1 dX4_narrowest_3 rfl (lv_at hl 0 rfl) ?_
    refine gtc_X4_fittingCount C hP wF_X4_95 dX4_narrowest_4 ?_
    refine lv_icmp_ge (tgt := 36) C.1 C.2.1 dX4_narrowest_7 (by decide) (fun c1 => ?_) (fun c1 => ?_)
    · rw [if_pos c1] at hf
      refine lv_bipush (v := -2) C.1 C.2.1 dX4_narrowest_36 (by decide) ?_
      exact endRi C hf dX4_narrowest_38
    · rw [if_neg c1] at hf
      refine lv_aload_n C.1 C.2.1 dX4_narrowest_10 rfl (lv_at hl 0 rfl) ?_
      refine lv_aload_n C.1 C.2.1 dX4_narrowest_11 rfl (lv_at hl 0 rfl) ?_
      refine gtc_X4_fitting C hP wF_X4_11 dX4_narrowest_12 ?_
      refine lv_iload_n C.1 C.2.1 dX4_narrowest_15 rfl (lv_at hl 1 rfl) ?_
      obtain ⟨v2, hv2, hf⟩ := Option.bind_eq_some_iff.mp hf
      refine ldc_22 C hP hv2 dX4_narrowest_16 ?_
      obtain ⟨v3, hv3, hf⟩ := Option.bind_eq_some_iff.mp hf
      refine cRi (As := [.int v2]) (rest := []) C (mX4_goesIntoAll hv3) vX4_goesIntoAll wM_X4_139 ⟨Nat.le_of_ble_eq_true rfl, Nat.le_of_ble_eq_true rfl⟩ hP (rcc_X4 C hP) (fun U hU hW => SF.go hZ va_S.rf hU hW (fun _ h => h)) hl.1 rfl rfl (Nat.le_of_ble_eq_true rfl) dX4_narrowest_17 ⟨Nat.le_of_ble_eq_true rfl, Nat.le_of_ble_eq_true rfl⟩ ?_
      refine lv_if_eq (tgt := 30) C.1 C.2.1 dX4_narrowest_20 (by decide) (fun c4 => ?_) (fun c4 => ?_)
      · rw [if_pos c4] at hf
        refine lv_iinc (v := (x1 + 1)) (lv' := [(1, .int (x1 + 1)), (0, .ref (ad 4))]) C.1 C.2.1 dX4_narrowest_30 hl (k := 1) rfl rfl (by decide) rfl (fun ls hl => ?_)
        refine lv_goto (tgt := 2) C.1 C.2.1 dX4_narrowest_33 (by decide) ?_
        exact ih (x1 + 1) _ (lv_sub hl [1, 0] rfl) hf
      · rw [if_neg c4] at hf
        refine lv_aload_n C.1 C.2.1 dX4_narrowest_23 rfl (lv_at hl 0 rfl) ?_
        refine gtc_X4_fitting C hP wF_X4_11 dX4_narrowest_24 ?_
        refine lv_iload_n C.1 C.2.1 dX4_narrowest_27 rfl (lv_at hl 1 rfl) ?_
        obtain ⟨v5, hv5, hf⟩ := Option.bind_eq_some_iff.mp hf
        refine ldc_22 C hP hv5 dX4_narrowest_28 ?_
        exact endRi C hf dX4_narrowest_29
set_option maxRecDepth 100000 in
set_option maxHeartbeats 4000000 in
theorem mX4_narrowest {r0 : Int32} (hf : fX4_narrowest u = some r0) : MRi l yX4_narrowest cX4_narrowest 2 (some .int) 3 68 [.ref (ad 4)] g (cW g ad u) r0 := by
  refine entR (by decide) (Nat.le_of_ble_eq_true rfl) ?_
  intro p e s m below meth c ls C hP hZ hl
  have hl : lv_has ls 2 [(0, .ref (ad 4))] := hl
  rw [fX4_narrowest] at hf
  refine lv_iconst (v := 0) C.1 C.2.1 dX4_narrowest_0 (by decide) ?_
  refine lv_istore_n (lv' := [(1, .int 0), (0, .ref (ad 4))]) C.1 C.2.1 dX4_narrowest_1 rfl hl (by decide) rfl (fun ls hl => ?_)
  exact bX4_narrowest_L2 C hZ 5000 0 hP _ (lv_sub hl [1, 0] rfl) hf
end
theorem vX4_narrowest : YV yX4_narrowest cX4_narrowest 2 (some .int) 0 := ⟨⟨wK_X4_narrowest, wZ_X4, by decide +kernel⟩, wI_X4_narrowest, wV_X4_narrowest⟩
def fX4_faultOfCall (u : ST) (x1 : Nat) : Option (Int32 × ST) :=
  (fX4_findFitting u x1).bind fun u1 =>
  if (sI u1 402) = 0 then
    some (1, u1)
  else
    (fX4_narrowest u1).bind fun v3 =>
    (fX6_isMethod u1 v3).bind fun v4 =>
    if v4 = 0 then
      some (2, u1)
    else
      (pcI u1 x1 1).bind fun v6 =>
      (fX7_isFace u1 v6).bind fun v7 =>
      (wcZ u1 x1 9 v7).bind fun u8 =>
      (rdI u8 19 60 v3).bind fun v9 =>
      (wcI u8 x1 5 v9).bind fun u10 =>
      (rdI u10 20 60 v3).bind fun v11 =>
      (wcI u10 x1 6 v11).bind fun u12 =>
      (fX6_has u12 v3 1).bind fun v13 =>
      (wcZ u12 x1 8 v13).bind fun u14 =>
      some (0, u14)
section
variable {p : Program} {l : Launch} {e : Env} {s : State} {m : MethodId} {args : Array Value} {below : List Frame} {meth : Method} {c : Code} {H : Heap} {locs : List Loc} {g : GP} {ls : Array Slot} {A : Nat → Prop} {ad : Nat → Nat} {u : ST}
set_option maxRecDepth 100000 in
set_option maxHeartbeats 4000000 in
theorem mX4_faultOfCall {r0 : Int32} {u0 : ST} {x1 : Nat} (hf : fX4_faultOfCall u x1 = some (r0, u0)) : MWi l yX4_faultOfCall cX4_faultOfCall 4 (some .int) 17 404 0 0 [.ref (ad 4), .ref x1] g (cW g ad) u r0 u0 := by
  refine entW (Qc := fun A => va_Qi (fun r v => r = r0 ∧ v = u0) (BW g A (cW g ad)) A) (by decide) (Nat.le_of_ble_eq_true rfl) ?_
  intro p e s m below meth c ls A C hP hD hS hA hZ hl
  have hl : lv_has ls 4 [(0, .ref (ad 4)), (1, .ref x1)] := hl
  rw [fX4_faultOfCall] at hf
  refine lv_aload_n C.1 C.2.1 dX4_faultOfCall_0 rfl (lv_at hl 0 rfl) ?_
  refine gtc_X4_house C hP wF_X4_17 dX4_faultOfCall_1 ?_
  refine gtc_X2_members C hP wF_X4_52 dX4_faultOfCall_4 ?_
  refine lv_astore_n (lv' := [(2, .ref (ad 3)), (0, .ref (ad 4)), (1, .ref x1)]) C.1 C.2.1 dX4_faultOfCall_7 rfl hl (by decide) rfl (fun ls hl => ?_)
  refine lv_aload_n C.1 C.2.1 dX4_faultOfCall_8 rfl (lv_at hl 1 rfl) ?_
  refine lv_aload_n C.1 C.2.1 dX4_faultOfCall_9 rfl (lv_at hl 2 rfl) ?_
  obtain ⟨u1, hu1, hf⟩ := Option.bind_eq_some_iff.mp hf
  refine cWv (As := [.ref x1]) (rest := []) (mc := 0) (ms := 0) C (mX4_findFitting hu1) vX4_findFitting wM_X4_91 ⟨Nat.le_of_ble_eq_true rfl, Nat.le_of_ble_eq_true rfl⟩ hP hD hS hA hZ (rcc_X4 C hP) hl.1 rfl rfl (Nat.le_of_ble_eq_true rfl) dX4_faultOfCall_10 ⟨Nat.le_of_ble_eq_true rfl, Nat.le_of_ble_eq_true rfl⟩ (fun H locs hP hD hS => ?_)
  refine lv_aload_n C.1 C.2.1 dX4_faultOfCall_13 rfl (lv_at hl 1 rfl) ?_
  refine gtc_X4_fittingCount C hP wF_X4_95 dX4_faultOfCall_14 ?_
  refine lv_if_ne (tgt := 22) C.1 C.2.1 dX4_faultOfCall_17 (by decide) (fun c2 => ?_) (fun c2 => ?_)
  · rw [if_neg c2] at hf
    refine lv_aload_n C.1 C.2.1 dX4_faultOfCall_22 rfl (lv_at hl 1 rfl) ?_
    obtain ⟨v3, hv3, hf⟩ := Option.bind_eq_some_iff.mp hf
    refine cRi (As := []) (rest := []) C (mX4_narrowest hv3) vX4_narrowest wM_X4_98 ⟨Nat.le_of_ble_eq_true rfl, Nat.le_of_ble_eq_true rfl⟩ hP (rcc_X4 C hP) (fun U hU hW => SF.go hZ hS hU hW (fun _ h => h.elim)) hl.1 rfl rfl (Nat.le_of_ble_eq_true rfl) dX4_faultOfCall_23 ⟨Nat.le_of_ble_eq_true rfl, Nat.le_of_ble_eq_true rfl⟩ ?_
    refine lv_istore_n (lv' := [(3, .int v3), (2, .ref (ad 3)), (0, .ref (ad 4)), (1, .ref x1)]) C.1 C.2.1 dX4_faultOfCall_26 rfl hl (by decide) rfl (fun ls hl => ?_)
    refine lv_aload_n C.1 C.2.1 dX4_faultOfCall_27 rfl (lv_at hl 1 rfl) ?_
    refine lv_iload_n C.1 C.2.1 dX4_faultOfCall_28 rfl (lv_at hl 0 rfl) ?_
    obtain ⟨v4, hv4, hf⟩ := Option.bind_eq_some_iff.mp hf
    refine cRi (As := [.int v3]) (rest := []) C (mX6_isMethod hv4) vX6_isMethod wM_X4_102 ⟨Nat.le_of_ble_eq_true rfl, Nat.le_of_ble_eq_true rfl⟩ hP (rcc_X6 C hP) (fun U hU hW => SF.go hZ hS hU hW (fun _ h => h.elim)) hl.1 rfl rfl (Nat.le_of_ble_eq_true rfl) dX4_faultOfCall_29 ⟨Nat.le_of_ble_eq_true rfl, Nat.le_of_ble_eq_true rfl⟩ ?_
    refine lv_if_ne (tgt := 37) C.1 C.2.1 dX4_faultOfCall_32 (by decide) (fun c5 => ?_) (fun c5 => ?_)
    · rw [if_neg c5] at hf
      refine lv_aload_n C.1 C.2.1 dX4_faultOfCall_37 rfl (lv_at hl 3 rfl) ?_
      refine lv_aload_n C.1 C.2.1 dX4_faultOfCall_38 rfl (lv_at hl 2 rfl) ?_
      refine gtc_X4_house C hP wF_X4_17 dX4_faultOfCall_39 ?_
      refine gtc_X2_types C hP wF_X4_34 dX4_faultOfCall_42 ?_
      refine lv_aload_n C.1 C.2.1 dX4_faultOfCall_45 rfl (lv_at hl 3 rfl) ?_
      obtain ⟨v6, hv6, hf⟩ := Option.bind_eq_some_iff.mp hf
      refine gC_t C hP hv6 wF_X4_40 dX4_faultOfCall_46 ?_
      obtain ⟨v7, hv7, hf⟩ := Option.bind_eq_some_iff.mp hf
      refine cRi (As := [.int v6]) (rest := [.ref x1]) C (mX7_isFace hv7) vX7_isFace wM_X4_43 ⟨Nat.le_of_ble_eq_true rfl, Nat.le_of_ble_eq_true rfl⟩ hP (rcc_X7 C hP) (fun U hU hW => SF.go hZ hS hU hW (fun _ h => h.elim)) hl.1 rfl rfl (Nat.le_of_ble_eq_true rfl) dX4_faultOfCall_49 ⟨Nat.le_of_ble_eq_true rfl, Nat.le_of_ble_eq_true rfl⟩ ?_
      obtain ⟨u8, hu8, hf⟩ := Option.bind_eq_some_iff.mp hf
      refine pC_onFace C hP hD hS hu8 wF_X4_105 dX4_faultOfCall_52 (fun H locs hP hD hS => ?_)
      refine lv_aload_n C.1 C.2.1 dX4_faultOfCall_55 rfl (lv_at hl 3 rfl) ?_
      refine lv_aload_n C.1 C.2.1 dX4_faultOfCall_56 rfl (lv_at hl 1 rfl) ?_
      refine gtc_X6_first C hP wF_X4_66 dX4_faultOfCall_57 ?_
      refine lv_iload_n C.1 C.2.1 dX4_faultOfCall_60 rfl (lv_at hl 0 rfl) ?_
      obtain ⟨v9, hv9, hf⟩ := Option.bind_eq_some_iff.mp hf
      refine ldc_19 C hP hv9 dX4_faultOfCall_61 ?_
      obtain ⟨u10, hu10, hf⟩ := Option.bind_eq_some_iff.mp hf
      refine pC_first C hP hD hS hu10 wF_X4_108 dX4_faultOfCall_62 (fun H locs hP hD hS => ?_)
      refine lv_aload_n C.1 C.2.1 dX4_faultOfCall_65 rfl (lv_at hl 3 rfl) ?_
      refine lv_aload_n C.1 C.2.1 dX4_faultOfCall_66 rfl (lv_at hl 1 rfl) ?_
      refine gtc_X6_second C hP wF_X4_110 dX4_faultOfCall_67 ?_
      refine lv_iload_n C.1 C.2.1 dX4_faultOfCall_70 rfl (lv_at hl 0 rfl) ?_
      obtain ⟨v11, hv11, hf⟩ := Option.bind_eq_some_iff.mp hf
      refine ldc_20 C hP hv11 dX4_faultOfCall_71 ?_
      obtain ⟨u12, hu12, hf⟩ := Option.bind_eq_some_iff.mp hf
      refine pC_second C hP hD hS hu12 wF_X4_113 dX4_faultOfCall_72 (fun H locs hP hD hS => ?_)
      refine lv_aload_n C.1 C.2.1 dX4_faultOfCall_75 rfl (lv_at hl 3 rfl) ?_
      refine lv_aload_n C.1 C.2.1 dX4_faultOfCall_76 rfl (lv_at hl 1 rfl) ?_
      refine lv_iload_n C.1 C.2.1 dX4_faultOfCall_77 rfl (lv_at hl 0 rfl) ?_
      refine lv_iconst (v := 1) C.1 C.2.1 dX4_faultOfCall_78 (by decide) ?_
      obtain ⟨v13, hv13, hf⟩ := Option.bind_eq_some_iff.mp hf
      refine cRi (As := [.int v3, .int 1]) (rest := [.ref x1]) C (mX6_has hv13) vX6_has wM_X4_72 ⟨Nat.le_of_ble_eq_true rfl, Nat.le_of_ble_eq_true rfl⟩ hP (rcc_X6 C hP) (fun U hU hW => SF.go hZ hS hU hW (fun _ h => h.elim)) hl.1 rfl rfl (Nat.le_of_ble_eq_true rfl) dX4_faultOfCall_79 ⟨Nat.le_of_ble_eq_true rfl, Nat.le_of_ble_eq_true rfl⟩ ?_
      obtain ⟨u14, hu14, hf⟩ := Option.bind_eq_some_iff.mp hf
      refine pC_isStatic C hP hD hS hu14 wF_X4_76 dX4_faultOfCall_82 (fun H locs hP hD hS => ?_)
      refine lv_iconst (v := 0) C.1 C.2.1 dX4_faultOfCall_85 (by decide) ?_
      exact endWi C hP hD hS (Nat.le_refl _) (Nat.le_refl _) hf dX4_faultOfCall_86
    · rw [if_pos c5] at hf
      refine lv_iconst (v := 2) C.1 C.2.1 dX4_faultOfCall_35 (by decide) ?_
      exact endWi C hP hD hS (Nat.le_refl _) (Nat.le_refl _) hf dX4_faultOfCall_36
  · rw [if_pos c2] at hf
    refine lv_iconst (v := 1) C.1 C.2.1 dX4_faultOfCall_20 (by decide) ?_
    exact endWi C hP hD hS (Nat.le_refl _) (Nat.le_refl _) hf dX4_faultOfCall_21
end
theorem vX4_faultOfCall : YV yX4_faultOfCall cX4_faultOfCall 4 (some .int) 1 := ⟨⟨wK_X4_faultOfCall, wZ_X4, by decide +kernel⟩, wI_X4_faultOfCall, wV_X4_faultOfCall⟩
def fX7_isAbstract (u : ST) (x1 : Int32) : Option Int32 :=
  if x1 < 0 then
    some 0
  else
    if (sI u 200) ≤ x1 then
      some 0
    else
      (rdI u 8 12 x1).bind fun v3 =>
      if v3 = 0 then
        (rdI u 10 12 x1).bind fun v5 =>
        if (v5 &&& 1) = 0 then
          some 0
        else
          some 1
      else
        some 0
section
variable {p : Program} {l : Launch} {e : Env} {s : State} {m : MethodId} {args : Array Value} {below : List Frame} {meth : Method} {c : Code} {H : Heap} {locs : List Loc} {g : GP} {ls : Array Slot} {A : Nat → Prop} {ad : Nat → Nat} {u : ST}
set_option maxRecDepth 100000 in
set_option maxHeartbeats 4000000 in
theorem mX7_isAbstract {r0 : Int32} {x1 : Int32} (hf : fX7_isAbstract u x1 = some r0) : MRi l yX7_isAbstract cX7_isAbstract 2 (some .boolean) 0 0 [.ref (ad 2), .int x1] g (cW g ad u) r0 := by
  refine entR (by decide) (Nat.le_of_ble_eq_true rfl) ?_
  intro p e s m below meth c ls C hP hZ hl
  have hl : lv_has ls 2 [(0, .ref (ad 2)), (1, .int x1)] := hl
  rw [fX7_isAbstract] at hf
  refine lv_iload_n C.1 C.2.1 dX7_isAbstract_0 rfl (lv_at hl 1 rfl) ?_
  refine lv_if_lt (tgt := 36) C.1 C.2.1 dX7_isAbstract_1 (by decide) (fun c1 => ?_) (fun c1 => ?_)
  · rw [if_pos c1] at hf
    refine lv_iconst (v := 0) C.1 C.2.1 dX7_isAbstract_36 (by decide) ?_
    exact endRz C rfl hf dX7_isAbstract_37
  · rw [if_neg c1] at hf
    refine lv_iload_n C.1 C.2.1 dX7_isAbstract_4 rfl (lv_at hl 1 rfl) ?_
    refine lv_aload_n C.1 C.2.1 dX7_isAbstract_5 rfl (lv_at hl 0 rfl) ?_
    refine gtc_X7_size C hP wF_X7_34 dX7_isAbstract_6 ?_
    refine lv_icmp_ge (tgt := 36) C.1 C.2.1 dX7_isAbstract_9 (by decide) (fun c2 => ?_) (fun c2 => ?_)
    · rw [if_pos c2] at hf
      refine lv_iconst (v := 0) C.1 C.2.1 dX7_isAbstract_36 (by decide) ?_
      exact endRz C rfl hf dX7_isAbstract_37
    · rw [if_neg c2] at hf
      refine lv_aload_n C.1 C.2.1 dX7_isAbstract_12 rfl (lv_at hl 0 rfl) ?_
      refine gtc_X7_isFace C hP wF_X7_11 dX7_isAbstract_13 ?_
      refine lv_iload_n C.1 C.2.1 dX7_isAbstract_16 rfl (lv_at hl 1 rfl) ?_
      obtain ⟨v3, hv3, hf⟩ := Option.bind_eq_some_iff.mp hf
      refine ldc_8 C hP hv3 dX7_isAbstract_17 ?_
      refine lv_if_ne (tgt := 36) C.1 C.2.1 dX7_isAbstract_18 (by decide) (fun c4 => ?_) (fun c4 => ?_)
      · rw [if_neg c4] at hf
        refine lv_iconst (v := 0) C.1 C.2.1 dX7_isAbstract_36 (by decide) ?_
        exact endRz C rfl hf dX7_isAbstract_37
      · rw [if_pos c4] at hf
        refine lv_aload_n C.1 C.2.1 dX7_isAbstract_21 rfl (lv_at hl 0 rfl) ?_
        refine gtc_X7_marks C hP wF_X7_19 dX7_isAbstract_22 ?_
        refine lv_iload_n C.1 C.2.1 dX7_isAbstract_25 rfl (lv_at hl 1 rfl) ?_
        obtain ⟨v5, hv5, hf⟩ := Option.bind_eq_some_iff.mp hf
        refine ldc_10 C hP hv5 dX7_isAbstract_26 ?_
        refine lv_iconst (v := 1) C.1 C.2.1 dX7_isAbstract_27 (by decide) ?_
        refine lv_iand C.1 C.2.1 dX7_isAbstract_28 ?_
        refine lv_if_eq (tgt := 36) C.1 C.2.1 dX7_isAbstract_29 (by decide) (fun c6 => ?_) (fun c6 => ?_)
        · rw [if_pos c6] at hf
          refine lv_iconst (v := 0) C.1 C.2.1 dX7_isAbstract_36 (by decide) ?_
          exact endRz C rfl hf dX7_isAbstract_37
        · rw [if_neg c6] at hf
          refine lv_iconst (v := 1) C.1 C.2.1 dX7_isAbstract_32 (by decide) ?_
          refine lv_goto (tgt := 37) C.1 C.2.1 dX7_isAbstract_33 (by decide) ?_
          exact endRz C rfl hf dX7_isAbstract_37
end
theorem vX7_isAbstract : YV yX7_isAbstract cX7_isAbstract 2 (some .boolean) 1 := ⟨⟨wK_X7_isAbstract, wZ_X7, by decide +kernel⟩, wI_X7_isAbstract, wV_X7_isAbstract⟩
def fX4_faultOf (u : ST) (x1 : Nat) : Option (Int32 × ST) :=
  (pcI u x1 0).bind fun v1 =>
  if v1 = 0 then
    b2 (fX4_faultOfGet u x1) fun v4 u3 =>
    some (v4, u3)
  else
    if v1 = 1 then
      b2 (fX4_faultOfCall u x1) fun v7 u6 =>
      some (v7, u6)
    else
      (pcI u x1 1).bind fun v8 =>
      (fX7_isFace u v8).bind fun v9 =>
      if v9 = 0 then
        (pcI u x1 1).bind fun v11 =>
        (fX7_isAbstract u v11).bind fun v12 =>
        if v12 = 0 then
          some (0, u)
        else
          some (3, u)
      else
        some (3, u)
section
variable {p : Program} {l : Launch} {e : Env} {s : State} {m : MethodId} {args : Array Value} {below : List Frame} {meth : Method} {c : Code} {H : Heap} {locs : List Loc} {g : GP} {ls : Array Slot} {A : Nat → Prop} {ad : Nat → Nat} {u : ST}
set_option maxRecDepth 100000 in
set_option maxHeartbeats 4000000 in
theorem mX4_faultOf {r0 : Int32} {u0 : ST} {x1 : Nat} (hf : fX4_faultOf u x1 = some (r0, u0)) : MWi l yX4_faultOf cX4_faultOf 2 (some .int) 18 430 0 0 [.ref (ad 4), .ref x1] g (cW g ad) u r0 u0 := by
  refine entW (Qc := fun A => va_Qi (fun r v => r = r0 ∧ v = u0) (BW g A (cW g ad)) A) (by decide) (Nat.le_of_ble_eq_true rfl) ?_
  intro p e s m below meth c ls A C hP hD hS hA hZ hl
  have hl : lv_has ls 2 [(0, .ref (ad 4)), (1, .ref x1)] := hl
  rw [fX4_faultOf] at hf
  refine lv_aload_n C.1 C.2.1 dX4_faultOf_0 rfl (lv_at hl 1 rfl) ?_
  obtain ⟨v1, hv1, hf⟩ := Option.bind_eq_some_iff.mp hf
  refine gC_sort C hP hv1 wF_X4_21 dX4_faultOf_1 ?_
  by_cases c2 : v1 = 0
  · rw [if_pos c2] at hf
    have e9 : (v1 : Int32).toInt = 0 := by rw [c2]; rfl
    refine lv_lookup (off := 28) (tgt := 32) C.1 C.2.1 dX4_faultOf_4 (by decide) (by rw [e9]; rfl) (by decide) ?_
    refine lv_aload_n C.1 C.2.1 dX4_faultOf_32 rfl (lv_at hl 0 rfl) ?_
    refine lv_aload_n C.1 C.2.1 dX4_faultOf_33 rfl (lv_at hl 1 rfl) ?_
    obtain ⟨v4, u3, hu3, hf⟩ := b2_some hf
    refine cWi (As := [.ref x1]) (rest := []) (mc := 0) (ms := 0) C (mX4_faultOfGet hu3) vX4_faultOfGet wM_X4_27 ⟨Nat.le_of_ble_eq_true rfl, Nat.le_of_ble_eq_true rfl⟩ hP hD hS hA hZ (rcc_X4 C hP) hl.1 rfl rfl (Nat.le_of_ble_eq_true rfl) dX4_faultOf_34 ⟨Nat.le_of_ble_eq_true rfl, Nat.le_of_ble_eq_true rfl⟩ (fun H locs hP hD hS => ?_)
    exact endWi C hP hD hS (Nat.le_refl _) (Nat.le_refl _) hf dX4_faultOf_37
  rw [if_neg c2] at hf
  by_cases c5 : v1 = 1
  · rw [if_pos c5] at hf
    have e9 : (v1 : Int32).toInt = 1 := by rw [c5]; rfl
    refine lv_lookup (off := 34) (tgt := 38) C.1 C.2.1 dX4_faultOf_4 (by decide) (by rw [e9]; rfl) (by decide) ?_
    refine lv_aload_n C.1 C.2.1 dX4_faultOf_38 rfl (lv_at hl 0 rfl) ?_
    refine lv_aload_n C.1 C.2.1 dX4_faultOf_39 rfl (lv_at hl 1 rfl) ?_
    obtain ⟨v7, u6, hu6, hf⟩ := b2_some hf
    refine cWi (As := [.ref x1]) (rest := []) (mc := 0) (ms := 0) C (mX4_faultOfCall hu6) vX4_faultOfCall wM_X4_31 ⟨Nat.le_of_ble_eq_true rfl, Nat.le_of_ble_eq_true rfl⟩ hP hD hS hA hZ (rcc_X4 C hP) hl.1 rfl rfl (Nat.le_of_ble_eq_true rfl) dX4_faultOf_40 ⟨Nat.le_of_ble_eq_true rfl, Nat.le_of_ble_eq_true rfl⟩ (fun H locs hP hD hS => ?_)
    exact endWi C hP hD hS (Nat.le_refl _) (Nat.le_refl _) hf dX4_faultOf_43
  rw [if_neg c5] at hf
  refine lv_lookup (off := 40) (tgt := 44) C.1 C.2.1 dX4_faultOf_4 (by decide) (by have q0 := neI c2 (k := 0) rfl; have q1 := neI c5 (k := 1) rfl; exact lk2 q0 q1) (by decide) ?_
  refine lv_aload_n C.1 C.2.1 dX4_faultOf_44 rfl (lv_at hl 0 rfl) ?_
  refine gtc_X4_house C hP wF_X4_17 dX4_faultOf_45 ?_
  refine gtc_X2_types C hP wF_X4_34 dX4_faultOf_48 ?_
  refine lv_aload_n C.1 C.2.1 dX4_faultOf_51 rfl (lv_at hl 1 rfl) ?_
  obtain ⟨v8, hv8, hf⟩ := Option.bind_eq_some_iff.mp hf
  refine gC_t C hP hv8 wF_X4_40 dX4_faultOf_52 ?_
  obtain ⟨v9, hv9, hf⟩ := Option.bind_eq_some_iff.mp hf
  refine cRi (As := [.int v8]) (rest := []) C (mX7_isFace hv9) vX7_isFace wM_X4_43 ⟨Nat.le_of_ble_eq_true rfl, Nat.le_of_ble_eq_true rfl⟩ hP (rcc_X7 C hP) (fun U hU hW => SF.go hZ hS hU hW (fun _ h => h.elim)) hl.1 rfl rfl (Nat.le_of_ble_eq_true rfl) dX4_faultOf_55 ⟨Nat.le_of_ble_eq_true rfl, Nat.le_of_ble_eq_true rfl⟩ ?_
  refine lv_if_ne (tgt := 78) C.1 C.2.1 dX4_faultOf_58 (by decide) (fun c10 => ?_) (fun c10 => ?_)
  · rw [if_neg c10] at hf
    refine lv_iconst (v := 3) C.1 C.2.1 dX4_faultOf_78 (by decide) ?_
    refine lv_goto (tgt := 83) C.1 C.2.1 dX4_faultOf_79 (by decide) ?_
    exact endWi C hP hD hS (Nat.le_refl _) (Nat.le_refl _) hf dX4_faultOf_83
  · rw [if_pos c10] at hf
    refine lv_aload_n C.1 C.2.1 dX4_faultOf_61 rfl (lv_at hl 0 rfl) ?_
    refine gtc_X4_house C hP wF_X4_17 dX4_faultOf_62 ?_
    refine gtc_X2_types C hP wF_X4_34 dX4_faultOf_65 ?_
    refine lv_aload_n C.1 C.2.1 dX4_faultOf_68 rfl (lv_at hl 1 rfl) ?_
    obtain ⟨v11, hv11, hf⟩ := Option.bind_eq_some_iff.mp hf
    refine gC_t C hP hv11 wF_X4_40 dX4_faultOf_69 ?_
    obtain ⟨v12, hv12, hf⟩ := Option.bind_eq_some_iff.mp hf
    refine cRi (As := [.int v11]) (rest := []) C (mX7_isAbstract hv12) vX7_isAbstract wM_X4_49 ⟨Nat.le_of_ble_eq_true rfl, Nat.le_of_ble_eq_true rfl⟩ hP (rcc_X7 C hP) (fun U hU hW => SF.go hZ hS hU hW (fun _ h => h.elim)) hl.1 rfl rfl (Nat.le_of_ble_eq_true rfl) dX4_faultOf_72 ⟨Nat.le_of_ble_eq_true rfl, Nat.le_of_ble_eq_true rfl⟩ ?_
    refine lv_if_eq (tgt := 82) C.1 C.2.1 dX4_faultOf_75 (by decide) (fun c13 => ?_) (fun c13 => ?_)
    · rw [if_pos c13] at hf
      refine lv_iconst (v := 0) C.1 C.2.1 dX4_faultOf_82 (by decide) ?_
      exact endWi C hP hD hS (Nat.le_refl _) (Nat.le_refl _) hf dX4_faultOf_83
    · rw [if_neg c13] at hf
      refine lv_iconst (v := 3) C.1 C.2.1 dX4_faultOf_78 (by decide) ?_
      refine lv_goto (tgt := 83) C.1 C.2.1 dX4_faultOf_79 (by decide) ?_
      exact endWi C hP hD hS (Nat.le_refl _) (Nat.le_refl _) hf dX4_faultOf_83
end
theorem vX4_faultOf : YV yX4_faultOf cX4_faultOf 2 (some .int) 1 := ⟨⟨wK_X4_faultOf, wZ_X4, by decide +kernel⟩, wI_X4_faultOf, wV_X4_faultOf⟩
def fX8_keepCaller (u : ST) (x1 : Int32) (x2 : Int32) (x3 : Int32) (x4 : Int32) (x5 : Int32) : Option NR :=
  if (sI u 6) < 24 then
    some (.inr fun q2 =>
      (some (qN u q2 false)).bind fun u3 =>
      (fX0_init u3 q2).bind fun u4 =>
      ck (isC u4 q2) <|
      (fX0_name u4 q2 x1 x2 x3 x4 x5).bind fun u6 =>
      b2 (fX4_faultOf u6 q2) fun v8 u7 =>
      if v8 = 0 then
        (wcI u7 q2 12 (sI u7 4)).bind fun u10 =>
        (stC u10 7 24 (sI u10 6) q2).bind fun u11 =>
        (some (uI u11 6 ((sI u11 6) + 1))).bind fun u12 =>
        some (((sI u12 6) - 1), u12)
      else
        some (((-10) - v8), u7))
  else
    some (.inl ((-3), u))
section
variable {p : Program} {l : Launch} {e : Env} {s : State} {m : MethodId} {args : Array Value} {below : List Frame} {meth : Method} {c : Code} {H : Heap} {locs : List Loc} {g : GP} {ls : Array Slot} {A : Nat → Prop} {ad : Nat → Nat} {u : ST}
set_option maxRecDepth 100000 in
set_option maxHeartbeats 4000000 in
theorem mX8_keepCaller {x : NR} {x1 : Int32} {x2 : Int32} {x3 : Int32} {x4 : Int32} {x5 : Int32} (hf : fX8_keepCaller u x1 x2 x3 x4 x5 = some x) (hok : okN u x) : MNi l yX8_keepCaller cX8_keepCaller 8 (some .int) 19 451 1 13 [.ref (ad 0), .int x1, .int x2, .int x3, .int x4, .int x5] g (cW g ad) u x := by
  refine entW (Qc := fun A => va_Qi (poN u x) (BW g A (cW g ad)) A) (by decide) (Nat.le_of_ble_eq_true rfl) ?_
  intro p e s m below meth c ls A C hP hD hS hA hZ hl
  have hl : lv_has ls 8 [(0, .ref (ad 0)), (1, .int x1), (2, .int x2), (3, .int x3), (4, .int x4), (5, .int x5)] := hl
  rw [fX8_keepCaller] at hf
  refine lv_aload_n C.1 C.2.1 dX8_keepCaller_0 rfl (lv_at hl 0 rfl) ?_
  refine gtc_X8_callerCount C hP wF_X8_211 dX8_keepCaller_1 ?_
  refine lv_bipush (v := 24) C.1 C.2.1 dX8_keepCaller_4 (by decide) ?_
  refine lv_icmp_lt (tgt := 12) C.1 C.2.1 dX8_keepCaller_6 (by decide) (fun c1 => ?_) (fun c1 => ?_)
  · rw [if_pos c1] at hf
    cases hf
    refine nwC C hP hD hS hA wC_X8_38 (Nat.le_of_ble_eq_true rfl) (Nat.le_of_ble_eq_true rfl) dX8_keepCaller_12 (fun q2 H hq hP hD hS => ?_)
    obtain ⟨r0, u0, hf⟩ := hok _ rfl q2 hq
    refine Wmono (Nmono hq hf) ?_
    obtain ⟨u3, hu3, hf⟩ := Option.bind_eq_some_iff.mp hf
    rw [Option.some.inj hu3] at hP hD
    refine lv_dup C.1 C.2.1 dX8_keepCaller_15 rfl ?_
    obtain ⟨u4, hu4, hf⟩ := Option.bind_eq_some_iff.mp hf
    refine cINv (As := []) (rest := [.ref q2]) (mc := 0) (ms := 0) C (mX0_init hu4) vX0_init hZ.1 ⟨Nat.le_of_ble_eq_true rfl, Nat.le_of_ble_eq_true rfl⟩ hP hD hS hA hZ hl.1 rfl rfl (Nat.le_of_ble_eq_true rfl) dX8_keepCaller_16 ⟨Nat.le_of_ble_eq_true rfl, Nat.le_of_ble_eq_true rfl⟩ (fun H locs hP hD hS => ?_)
    refine lv_astore (lv' := [(6, .ref q2), (0, .ref (ad 0)), (1, .int x1), (2, .int x2), (3, .int x3), (4, .int x4), (5, .int x5)]) C.1 C.2.1 dX8_keepCaller_19 hl (by decide) rfl (fun ls hl => ?_)
    refine lv_aload C.1 C.2.1 dX8_keepCaller_21 (lv_at hl 0 rfl) ?_
    refine lv_iload_n C.1 C.2.1 dX8_keepCaller_23 rfl (lv_at hl 2 rfl) ?_
    refine lv_iload_n C.1 C.2.1 dX8_keepCaller_24 rfl (lv_at hl 3 rfl) ?_
    refine lv_iload_n C.1 C.2.1 dX8_keepCaller_25 rfl (lv_at hl 4 rfl) ?_
    refine lv_iload C.1 C.2.1 dX8_keepCaller_26 (lv_at hl 5 rfl) ?_
    refine lv_iload C.1 C.2.1 dX8_keepCaller_28 (lv_at hl 6 rfl) ?_
    obtain ⟨hp5, hf⟩ := ck_some hf
    obtain ⟨u6, hu6, hf⟩ := Option.bind_eq_some_iff.mp hf
    refine cWv (As := [.int x1, .int x2, .int x3, .int x4, .int x5]) (rest := []) (mc := 0) (ms := 0) C (mX0_name hu6) vX0_name wM_X8_173 ⟨Nat.le_of_ble_eq_true rfl, Nat.le_of_ble_eq_true rfl⟩ hP hD hS hA hZ (rcP_C C hP hp5) hl.1 rfl rfl (Nat.le_of_ble_eq_true rfl) dX8_keepCaller_30 ⟨Nat.le_of_ble_eq_true rfl, Nat.le_of_ble_eq_true rfl⟩ (fun H locs hP hD hS => ?_)
    refine lv_aload_n C.1 C.2.1 dX8_keepCaller_33 rfl (lv_at hl 1 rfl) ?_
    refine gtc_X8_maker C hP wF_X8_21 dX8_keepCaller_34 ?_
    refine lv_aload C.1 C.2.1 dX8_keepCaller_37 (lv_at hl 0 rfl) ?_
    obtain ⟨v8, u7, hu7, hf⟩ := b2_some hf
    refine cWi (As := [.ref q2]) (rest := []) (mc := 0) (ms := 0) C (mX4_faultOf hu7) vX4_faultOf wM_X8_177 ⟨Nat.le_of_ble_eq_true rfl, Nat.le_of_ble_eq_true rfl⟩ hP hD hS hA hZ (rcc_X4 C hP) hl.1 rfl rfl (Nat.le_of_ble_eq_true rfl) dX8_keepCaller_39 ⟨Nat.le_of_ble_eq_true rfl, Nat.le_of_ble_eq_true rfl⟩ (fun H locs hP hD hS => ?_)
    refine lv_istore (lv' := [(7, .int v8), (6, .ref q2), (0, .ref (ad 0)), (1, .int x1), (2, .int x2), (3, .int x3), (4, .int x4), (5, .int x5)]) C.1 C.2.1 dX8_keepCaller_42 hl (by decide) rfl (fun ls hl => ?_)
    refine lv_iload C.1 C.2.1 dX8_keepCaller_44 (lv_at hl 0 rfl) ?_
    refine lv_if_eq (tgt := 55) C.1 C.2.1 dX8_keepCaller_46 (by decide) (fun c9 => ?_) (fun c9 => ?_)
    · rw [if_pos c9] at hf
      refine lv_aload C.1 C.2.1 dX8_keepCaller_55 (lv_at hl 1 rfl) ?_
      refine lv_aload_n C.1 C.2.1 dX8_keepCaller_57 rfl (lv_at hl 2 rfl) ?_
      refine gtc_X8_editCount C hP wF_X8_126 dX8_keepCaller_58 ?_
      obtain ⟨u10, hu10, hf⟩ := Option.bind_eq_some_iff.mp hf
      refine pC_made C hP hD hS hu10 wF_X8_181 dX8_keepCaller_61 (fun H locs hP hD hS => ?_)
      refine lv_aload_n C.1 C.2.1 dX8_keepCaller_64 rfl (lv_at hl 2 rfl) ?_
      refine gtc_X8_callers C hP wF_X8_40 dX8_keepCaller_65 ?_
      refine lv_aload_n C.1 C.2.1 dX8_keepCaller_68 rfl (lv_at hl 2 rfl) ?_
      refine gtc_X8_callerCount C hP wF_X8_211 dX8_keepCaller_69 ?_
      refine lv_aload C.1 C.2.1 dX8_keepCaller_72 (lv_at hl 1 rfl) ?_
      obtain ⟨u11, hu11, hf⟩ := Option.bind_eq_some_iff.mp hf
      refine stcR_7 C hP hD hS hu11 dX8_keepCaller_74 (fun H locs hP hD hS => ?_)
      refine lv_aload_n C.1 C.2.1 dX8_keepCaller_75 rfl (lv_at hl 2 rfl) ?_
      refine lv_dup C.1 C.2.1 dX8_keepCaller_76 rfl ?_
      refine gtc_X8_callerCount C hP wF_X8_211 dX8_keepCaller_77 ?_
      refine lv_iconst (v := 1) C.1 C.2.1 dX8_keepCaller_80 (by decide) ?_
      refine lv_iadd C.1 C.2.1 dX8_keepCaller_81 ?_
      obtain ⟨u12, hu12, hf⟩ := Option.bind_eq_some_iff.mp hf
      refine ptc_X8_callerCount C hP hD hS wF_X8_211 dX8_keepCaller_82 (fun H locs hP hD hS => ?_)
      rw [Option.some.inj hu12] at hP hD
      refine lv_aload_n C.1 C.2.1 dX8_keepCaller_85 rfl (lv_at hl 2 rfl) ?_
      refine gtc_X8_callerCount C hP wF_X8_211 dX8_keepCaller_86 ?_
      refine lv_iconst (v := 1) C.1 C.2.1 dX8_keepCaller_89 (by decide) ?_
      refine lv_isub C.1 C.2.1 dX8_keepCaller_90 ?_
      exact endWi C hP hD hS (Nat.le_refl _) (Nat.le_refl _) hf dX8_keepCaller_91
    · rw [if_neg c9] at hf
      refine lv_bipush (v := -10) C.1 C.2.1 dX8_keepCaller_49 (by decide) ?_
      refine lv_iload C.1 C.2.1 dX8_keepCaller_51 (lv_at hl 0 rfl) ?_
      refine lv_isub C.1 C.2.1 dX8_keepCaller_53 ?_
      exact endWi C hP hD hS (Nat.le_refl _) (Nat.le_refl _) hf dX8_keepCaller_54
  · rw [if_neg c1] at hf
    refine lv_bipush (v := -3) C.1 C.2.1 dX8_keepCaller_9 (by decide) ?_
    exact endN C hP hD hS (Nat.zero_le _) (Nat.zero_le _) hf dX8_keepCaller_11
end
theorem vX8_keepCaller : YV yX8_keepCaller cX8_keepCaller 8 (some .int) 5 := ⟨⟨wK_X8_keepCaller, wZ_X8, by decide +kernel⟩, wI_X8_keepCaller, wV_X8_keepCaller⟩
def fX8_get (u : ST) (x1 : Int32) (x2 : Int32) : Option NR :=
  (fX7_isType u x1).bind fun v1 =>
  if v1 = 0 then
    some (.inl ((-1), u))
  else
    (fX6_isName u x2).bind fun v3 =>
    if v3 = 0 then
      some (.inl ((-1), u))
    else
      fX8_keepCaller u 0 x1 x2 (-2) (-2)
section
variable {p : Program} {l : Launch} {e : Env} {s : State} {m : MethodId} {args : Array Value} {below : List Frame} {meth : Method} {c : Code} {H : Heap} {locs : List Loc} {g : GP} {ls : Array Slot} {A : Nat → Prop} {ad : Nat → Nat} {u : ST}
set_option maxRecDepth 100000 in
set_option maxHeartbeats 4000000 in
theorem mX8_get {x : NR} {x1 : Int32} {x2 : Int32} (hf : fX8_get u x1 x2 = some x) (hok : okN u x) : MNi l yX8_get cX8_get 3 (some .int) 20 478 1 13 [.ref (ad 0), .int x1, .int x2] g (cW g ad) u x := by
  refine entW (Qc := fun A => va_Qi (poN u x) (BW g A (cW g ad)) A) (by decide) (Nat.le_of_ble_eq_true rfl) ?_
  intro p e s m below meth c ls A C hP hD hS hA hZ hl
  have hl : lv_has ls 3 [(0, .ref (ad 0)), (1, .int x1), (2, .int x2)] := hl
  rw [fX8_get] at hf
  refine lv_aload_n C.1 C.2.1 dX8_get_0 rfl (lv_at hl 0 rfl) ?_
  refine gtc_X8_house C hP wF_X8_10 dX8_get_1 ?_
  refine gtc_X2_types C hP wF_X8_49 dX8_get_4 ?_
  refine lv_iload_n C.1 C.2.1 dX8_get_7 rfl (lv_at hl 1 rfl) ?_
  obtain ⟨v1, hv1, hf⟩ := Option.bind_eq_some_iff.mp hf
  refine cRi (As := [.int x1]) (rest := []) C (mX7_isType hv1) vX7_isType wM_X8_85 ⟨Nat.le_of_ble_eq_true rfl, Nat.le_of_ble_eq_true rfl⟩ hP (rcc_X7 C hP) (fun U hU hW => SF.go hZ hS hU hW (fun _ h => h.elim)) hl.1 rfl rfl (Nat.le_of_ble_eq_true rfl) dX8_get_8 ⟨Nat.le_of_ble_eq_true rfl, Nat.le_of_ble_eq_true rfl⟩ ?_
  refine lv_if_eq (tgt := 21) C.1 C.2.1 dX8_get_11 (by decide) (fun c2 => ?_) (fun c2 => ?_)
  · rw [if_pos c2] at hf
    refine lv_iconst (v := -1) C.1 C.2.1 dX8_get_21 (by decide) ?_
    exact endN C hP hD hS (Nat.zero_le _) (Nat.zero_le _) hf dX8_get_22
  · rw [if_neg c2] at hf
    refine lv_iload_n C.1 C.2.1 dX8_get_14 rfl (lv_at hl 2 rfl) ?_
    obtain ⟨v3, hv3, hf⟩ := Option.bind_eq_some_iff.mp hf
    refine cSi (As := [.int x2]) (rest := []) C (mX6_isName hv3) vX6_isName wM_X8_136 ⟨Nat.le_of_ble_eq_true rfl, Nat.le_of_ble_eq_true rfl⟩ hP (fun U hU hW => SF.go hZ hS hU hW (fun _ h => h.elim)) hl.1 rfl rfl (Nat.le_of_ble_eq_true rfl) dX8_get_15 ⟨Nat.le_of_ble_eq_true rfl, Nat.le_of_ble_eq_true rfl⟩ ?_
    refine lv_if_ne (tgt := 23) C.1 C.2.1 dX8_get_18 (by decide) (fun c4 => ?_) (fun c4 => ?_)
    · rw [if_neg c4] at hf
      refine lv_aload_n C.1 C.2.1 dX8_get_23 rfl (lv_at hl 0 rfl) ?_
      refine lv_iconst (v := 0) C.1 C.2.1 dX8_get_24 (by decide) ?_
      refine lv_iload_n C.1 C.2.1 dX8_get_25 rfl (lv_at hl 1 rfl) ?_
      refine lv_iload_n C.1 C.2.1 dX8_get_26 rfl (lv_at hl 2 rfl) ?_
      refine lv_bipush (v := -2) C.1 C.2.1 dX8_get_27 (by decide) ?_
      refine lv_bipush (v := -2) C.1 C.2.1 dX8_get_29 (by decide) ?_
      refine cNi (As := [.int 0, .int x1, .int x2, .int (-2), .int (-2)]) (rest := []) (mc := 1) (ms := 13) C (mX8_keepCaller hf hok) vX8_keepCaller wM_X8_139 ⟨Nat.le_of_ble_eq_true rfl, Nat.le_of_ble_eq_true rfl⟩ hP hD hS hA hZ (rcc_X8 C hP) hl.1 rfl rfl (Nat.le_of_ble_eq_true rfl) dX8_get_31 ⟨Nat.le_of_ble_eq_true rfl, Nat.le_of_ble_eq_true rfl⟩ (fun r1 u1 H locs hp hP hD hS => ?_)
      exact endNN C hP hD hS (Nat.le_refl _) (Nat.le_refl _) hp dX8_get_34
    · rw [if_pos c4] at hf
      refine lv_iconst (v := -1) C.1 C.2.1 dX8_get_21 (by decide) ?_
      exact endN C hP hD hS (Nat.zero_le _) (Nat.zero_le _) hf dX8_get_22
end
theorem vX8_get : YV yX8_get cX8_get 3 (some .int) 2 := ⟨⟨wK_X8_get, wZ_X8, by decide +kernel⟩, wI_X8_get, wV_X8_get⟩
def fX8_call (u : ST) (x1 : Int32) (x2 : Int32) (x3 : Int32) (x4 : Int32) : Option NR :=
  (fX7_isType u x1).bind fun v1 =>
  if v1 = 0 then
    some (.inl ((-1), u))
  else
    (fX6_isName u x2).bind fun v3 =>
    if v3 = 0 then
      some (.inl ((-1), u))
    else
      (fX7_areParameters u x3 x4).bind fun v5 =>
      if v5 = 0 then
        some (.inl ((-1), u))
      else
        fX8_keepCaller u 1 x1 x2 x3 x4
section
variable {p : Program} {l : Launch} {e : Env} {s : State} {m : MethodId} {args : Array Value} {below : List Frame} {meth : Method} {c : Code} {H : Heap} {locs : List Loc} {g : GP} {ls : Array Slot} {A : Nat → Prop} {ad : Nat → Nat} {u : ST}
set_option maxRecDepth 100000 in
set_option maxHeartbeats 4000000 in
theorem mX8_call {x : NR} {x1 : Int32} {x2 : Int32} {x3 : Int32} {x4 : Int32} (hf : fX8_call u x1 x2 x3 x4 = some x) (hok : okN u x) : MNi l yX8_call cX8_call 5 (some .int) 20 478 1 13 [.ref (ad 0), .int x1, .int x2, .int x3, .int x4] g (cW g ad) u x := by
  refine entW (Qc := fun A => va_Qi (poN u x) (BW g A (cW g ad)) A) (by decide) (Nat.le_of_ble_eq_true rfl) ?_
  intro p e s m below meth c ls A C hP hD hS hA hZ hl
  have hl : lv_has ls 5 [(0, .ref (ad 0)), (1, .int x1), (2, .int x2), (3, .int x3), (4, .int x4)] := hl
  rw [fX8_call] at hf
  refine lv_aload_n C.1 C.2.1 dX8_call_0 rfl (lv_at hl 0 rfl) ?_
  refine gtc_X8_house C hP wF_X8_10 dX8_call_1 ?_
  refine gtc_X2_types C hP wF_X8_49 dX8_call_4 ?_
  refine lv_iload_n C.1 C.2.1 dX8_call_7 rfl (lv_at hl 1 rfl) ?_
  obtain ⟨v1, hv1, hf⟩ := Option.bind_eq_some_iff.mp hf
  refine cRi (As := [.int x1]) (rest := []) C (mX7_isType hv1) vX7_isType wM_X8_85 ⟨Nat.le_of_ble_eq_true rfl, Nat.le_of_ble_eq_true rfl⟩ hP (rcc_X7 C hP) (fun U hU hW => SF.go hZ hS hU hW (fun _ h => h.elim)) hl.1 rfl rfl (Nat.le_of_ble_eq_true rfl) dX8_call_8 ⟨Nat.le_of_ble_eq_true rfl, Nat.le_of_ble_eq_true rfl⟩ ?_
  refine lv_if_eq (tgt := 37) C.1 C.2.1 dX8_call_11 (by decide) (fun c2 => ?_) (fun c2 => ?_)
  · rw [if_pos c2] at hf
    refine lv_iconst (v := -1) C.1 C.2.1 dX8_call_37 (by decide) ?_
    exact endN C hP hD hS (Nat.zero_le _) (Nat.zero_le _) hf dX8_call_38
  · rw [if_neg c2] at hf
    refine lv_iload_n C.1 C.2.1 dX8_call_14 rfl (lv_at hl 2 rfl) ?_
    obtain ⟨v3, hv3, hf⟩ := Option.bind_eq_some_iff.mp hf
    refine cSi (As := [.int x2]) (rest := []) C (mX6_isName hv3) vX6_isName wM_X8_136 ⟨Nat.le_of_ble_eq_true rfl, Nat.le_of_ble_eq_true rfl⟩ hP (fun U hU hW => SF.go hZ hS hU hW (fun _ h => h.elim)) hl.1 rfl rfl (Nat.le_of_ble_eq_true rfl) dX8_call_15 ⟨Nat.le_of_ble_eq_true rfl, Nat.le_of_ble_eq_true rfl⟩ ?_
    refine lv_if_eq (tgt := 37) C.1 C.2.1 dX8_call_18 (by decide) (fun c4 => ?_) (fun c4 => ?_)
    · rw [if_pos c4] at hf
      refine lv_iconst (v := -1) C.1 C.2.1 dX8_call_37 (by decide) ?_
      exact endN C hP hD hS (Nat.zero_le _) (Nat.zero_le _) hf dX8_call_38
    · rw [if_neg c4] at hf
      refine lv_aload_n C.1 C.2.1 dX8_call_21 rfl (lv_at hl 0 rfl) ?_
      refine gtc_X8_house C hP wF_X8_10 dX8_call_22 ?_
      refine gtc_X2_types C hP wF_X8_49 dX8_call_25 ?_
      refine lv_iload_n C.1 C.2.1 dX8_call_28 rfl (lv_at hl 3 rfl) ?_
      refine lv_iload C.1 C.2.1 dX8_call_29 (lv_at hl 4 rfl) ?_
      obtain ⟨v5, hv5, hf⟩ := Option.bind_eq_some_iff.mp hf
      refine cRi (As := [.int x3, .int x4]) (rest := []) C (mX7_areParameters hv5) vX7_areParameters wM_X8_143 ⟨Nat.le_of_ble_eq_true rfl, Nat.le_of_ble_eq_true rfl⟩ hP (rcc_X7 C hP) (fun U hU hW => SF.go hZ hS hU hW (fun _ h => h.elim)) hl.1 rfl rfl (Nat.le_of_ble_eq_true rfl) dX8_call_31 ⟨Nat.le_of_ble_eq_true rfl, Nat.le_of_ble_eq_true rfl⟩ ?_
      refine lv_if_ne (tgt := 39) C.1 C.2.1 dX8_call_34 (by decide) (fun c6 => ?_) (fun c6 => ?_)
      · rw [if_neg c6] at hf
        refine lv_aload_n C.1 C.2.1 dX8_call_39 rfl (lv_at hl 0 rfl) ?_
        refine lv_iconst (v := 1) C.1 C.2.1 dX8_call_40 (by decide) ?_
        refine lv_iload_n C.1 C.2.1 dX8_call_41 rfl (lv_at hl 1 rfl) ?_
        refine lv_iload_n C.1 C.2.1 dX8_call_42 rfl (lv_at hl 2 rfl) ?_
        refine lv_iload_n C.1 C.2.1 dX8_call_43 rfl (lv_at hl 3 rfl) ?_
        refine lv_iload C.1 C.2.1 dX8_call_44 (lv_at hl 4 rfl) ?_
        refine cNi (As := [.int 1, .int x1, .int x2, .int x3, .int x4]) (rest := []) (mc := 1) (ms := 13) C (mX8_keepCaller hf hok) vX8_keepCaller wM_X8_139 ⟨Nat.le_of_ble_eq_true rfl, Nat.le_of_ble_eq_true rfl⟩ hP hD hS hA hZ (rcc_X8 C hP) hl.1 rfl rfl (Nat.le_of_ble_eq_true rfl) dX8_call_46 ⟨Nat.le_of_ble_eq_true rfl, Nat.le_of_ble_eq_true rfl⟩ (fun r1 u1 H locs hp hP hD hS => ?_)
        exact endNN C hP hD hS (Nat.le_refl _) (Nat.le_refl _) hp dX8_call_49
      · rw [if_pos c6] at hf
        refine lv_iconst (v := -1) C.1 C.2.1 dX8_call_37 (by decide) ?_
        exact endN C hP hD hS (Nat.zero_le _) (Nat.zero_le _) hf dX8_call_38
end
theorem vX8_call : YV yX8_call cX8_call 5 (some .int) 4 := ⟨⟨wK_X8_call, wZ_X8, by decide +kernel⟩, wI_X8_call, wV_X8_call⟩
def fX8_make (u : ST) (x1 : Int32) : Option NR :=
  (fX7_isType u x1).bind fun v1 =>
  if v1 = 0 then
    some (.inl ((-1), u))
  else
    fX8_keepCaller u 2 x1 (-2) (-2) (-2)
section
variable {p : Program} {l : Launch} {e : Env} {s : State} {m : MethodId} {args : Array Value} {below : List Frame} {meth : Method} {c : Code} {H : Heap} {locs : List Loc} {g : GP} {ls : Array Slot} {A : Nat → Prop} {ad : Nat → Nat} {u : ST}
set_option maxRecDepth 100000 in
set_option maxHeartbeats 4000000 in
theorem mX8_make {x : NR} {x1 : Int32} (hf : fX8_make u x1 = some x) (hok : okN u x) : MNi l yX8_make cX8_make 2 (some .int) 20 478 1 13 [.ref (ad 0), .int x1] g (cW g ad) u x := by
  refine entW (Qc := fun A => va_Qi (poN u x) (BW g A (cW g ad)) A) (by decide) (Nat.le_of_ble_eq_true rfl) ?_
  intro p e s m below meth c ls A C hP hD hS hA hZ hl
  have hl : lv_has ls 2 [(0, .ref (ad 0)), (1, .int x1)] := hl
  rw [fX8_make] at hf
  refine lv_aload_n C.1 C.2.1 dX8_make_0 rfl (lv_at hl 0 rfl) ?_
  refine gtc_X8_house C hP wF_X8_10 dX8_make_1 ?_
  refine gtc_X2_types C hP wF_X8_49 dX8_make_4 ?_
  refine lv_iload_n C.1 C.2.1 dX8_make_7 rfl (lv_at hl 1 rfl) ?_
  obtain ⟨v1, hv1, hf⟩ := Option.bind_eq_some_iff.mp hf
  refine cRi (As := [.int x1]) (rest := []) C (mX7_isType hv1) vX7_isType wM_X8_85 ⟨Nat.le_of_ble_eq_true rfl, Nat.le_of_ble_eq_true rfl⟩ hP (rcc_X7 C hP) (fun U hU hW => SF.go hZ hS hU hW (fun _ h => h.elim)) hl.1 rfl rfl (Nat.le_of_ble_eq_true rfl) dX8_make_8 ⟨Nat.le_of_ble_eq_true rfl, Nat.le_of_ble_eq_true rfl⟩ ?_
  refine lv_if_ne (tgt := 16) C.1 C.2.1 dX8_make_11 (by decide) (fun c2 => ?_) (fun c2 => ?_)
  · rw [if_neg c2] at hf
    refine lv_aload_n C.1 C.2.1 dX8_make_16 rfl (lv_at hl 0 rfl) ?_
    refine lv_iconst (v := 2) C.1 C.2.1 dX8_make_17 (by decide) ?_
    refine lv_iload_n C.1 C.2.1 dX8_make_18 rfl (lv_at hl 1 rfl) ?_
    refine lv_bipush (v := -2) C.1 C.2.1 dX8_make_19 (by decide) ?_
    refine lv_bipush (v := -2) C.1 C.2.1 dX8_make_21 (by decide) ?_
    refine lv_bipush (v := -2) C.1 C.2.1 dX8_make_23 (by decide) ?_
    refine cNi (As := [.int 2, .int x1, .int (-2), .int (-2), .int (-2)]) (rest := []) (mc := 1) (ms := 13) C (mX8_keepCaller hf hok) vX8_keepCaller wM_X8_139 ⟨Nat.le_of_ble_eq_true rfl, Nat.le_of_ble_eq_true rfl⟩ hP hD hS hA hZ (rcc_X8 C hP) hl.1 rfl rfl (Nat.le_of_ble_eq_true rfl) dX8_make_25 ⟨Nat.le_of_ble_eq_true rfl, Nat.le_of_ble_eq_true rfl⟩ (fun r1 u1 H locs hp hP hD hS => ?_)
    exact endNN C hP hD hS (Nat.le_refl _) (Nat.le_refl _) hp dX8_make_28
  · rw [if_pos c2] at hf
    refine lv_iconst (v := -1) C.1 C.2.1 dX8_make_14 (by decide) ?_
    exact endN C hP hD hS (Nat.zero_le _) (Nat.zero_le _) hf dX8_make_15
end
theorem vX8_make : YV yX8_make cX8_make 2 (some .int) 1 := ⟨⟨wK_X8_make, wZ_X8, by decide +kernel⟩, wI_X8_make, wV_X8_make⟩
def fX8_callerAt_L21 (u : ST) : Option (Option Nat) :=
  some none
def fX8_callerAt (u : ST) (x1 : Int32) : Option (Option Nat) :=
  if x1 < 0 then
    fX8_callerAt_L21 u
  else
    if (sI u 6) ≤ x1 then
      fX8_callerAt_L21 u
    else
      (rdR u 7 24 x1).bind fun v3 =>
      oC v3 (
        some none) fun a4 =>
        some (some a4)
section
variable {p : Program} {l : Launch} {e : Env} {s : State} {m : MethodId} {args : Array Value} {below : List Frame} {meth : Method} {c : Code} {H : Heap} {locs : List Loc} {g : GP} {ls : Array Slot} {A : Nat → Prop} {ad : Nat → Nat} {u : ST}
set_option maxRecDepth 100000 in
set_option maxHeartbeats 4000000 in
theorem bX8_callerAt_L21 {r0 : Option Nat} (C : Cx p s m args meth c cX8_callerAt 2 RX8 (some (.object "Edits13$Caller")) g) (hZ : SF (fun _ => False) s) (hP : va_P g.1 vwCl (cW g ad u) s.heap) (hl : lv_has ls 2 []) (hf : fX8_callerAt_L21 u = some r0) : W p l e (rmR 0 0) s m args below meth c s.heap [] 0 0 (MQ below (va_Sq (fun r => r = r0)) args s 0 0 (fun _ => False)) (F0 m 21 ls []) := by
  rw [fX8_callerAt_L21] at hf
  refine lv_null C.1 C.2.1 dX8_callerAt_21 ?_
  exact endRq (v := none) C hf dX8_callerAt_22
set_option maxRecDepth 100000 in
set_option maxHeartbeats 4000000 in
theorem mX8_callerAt {r0 : Option Nat} {x1 : Int32} (hf : fX8_callerAt u x1 = some r0) : MRq l yX8_callerAt cX8_callerAt 2 (some (.object "Edits13$Caller")) 0 0 [.ref (ad 0), .int x1] g (cW g ad u) r0 := by
  refine entR (by decide) (Nat.le_of_ble_eq_true rfl) ?_
  intro p e s m below meth c ls C hP hZ hl
  have hl : lv_has ls 2 [(0, .ref (ad 0)), (1, .int x1)] := hl
  rw [fX8_callerAt] at hf
  refine lv_iload_n C.1 C.2.1 dX8_callerAt_0 rfl (lv_at hl 1 rfl) ?_
  refine lv_if_lt (tgt := 21) C.1 C.2.1 dX8_callerAt_1 (by decide) (fun c1 => ?_) (fun c1 => ?_)
  · rw [if_pos c1] at hf
    exact bX8_callerAt_L21 C hZ hP (lv_sub hl [] rfl) hf
  · rw [if_neg c1] at hf
    refine lv_iload_n C.1 C.2.1 dX8_callerAt_4 rfl (lv_at hl 1 rfl) ?_
    refine lv_aload_n C.1 C.2.1 dX8_callerAt_5 rfl (lv_at hl 0 rfl) ?_
    refine gtc_X8_callerCount C hP wF_X8_211 dX8_callerAt_6 ?_
    refine lv_icmp_ge (tgt := 21) C.1 C.2.1 dX8_callerAt_9 (by decide) (fun c2 => ?_) (fun c2 => ?_)
    · rw [if_pos c2] at hf
      exact bX8_callerAt_L21 C hZ hP (lv_sub hl [] rfl) hf
    · rw [if_neg c2] at hf
      refine lv_aload_n C.1 C.2.1 dX8_callerAt_12 rfl (lv_at hl 0 rfl) ?_
      refine gtc_X8_callers C hP wF_X8_40 dX8_callerAt_13 ?_
      refine lv_iload_n C.1 C.2.1 dX8_callerAt_16 rfl (lv_at hl 1 rfl) ?_
      obtain ⟨v3, hv3, hf⟩ := Option.bind_eq_some_iff.mp hf
      refine ldc_7 C hP hv3 dX8_callerAt_17 ?_
      cases v3 with
      | none =>
        dsimp only [oC] at hf
        refine lv_goto (tgt := 22) C.1 C.2.1 dX8_callerAt_18 (by decide) ?_
        exact endRq (v := none) C hf dX8_callerAt_22
      | some a4 =>
        dsimp only [oC] at hf
        refine lv_goto (tgt := 22) C.1 C.2.1 dX8_callerAt_18 (by decide) ?_
        exact endRq (v := (some a4)) C hf dX8_callerAt_22
end
theorem vX8_callerAt : YV yX8_callerAt cX8_callerAt 2 (some (.object "Edits13$Caller")) 1 := ⟨⟨wK_X8_callerAt, wZ_X8, by decide +kernel⟩, wI_X8_callerAt, wV_X8_callerAt⟩
def fX5_failureOfNew (u : ST) (x1 : Nat) : Option (Int32 × ST) :=
  (pcI u x1 1).bind fun v1 =>
  (fX7_isAbstract u v1).bind fun v2 =>
  if v2 = 0 then
    (pcI u x1 1).bind fun v4 =>
    (some (uL u 501 ((v4 : Int32).toInt64))).bind fun u5 =>
    some (0, u5)
  else
    some (9, u)
section
variable {p : Program} {l : Launch} {e : Env} {s : State} {m : MethodId} {args : Array Value} {below : List Frame} {meth : Method} {c : Code} {H : Heap} {locs : List Loc} {g : GP} {ls : Array Slot} {A : Nat → Prop} {ad : Nat → Nat} {u : ST}
set_option maxRecDepth 100000 in
set_option maxHeartbeats 4000000 in
theorem mX5_failureOfNew {r0 : Int32} {u0 : ST} {x1 : Nat} (hf : fX5_failureOfNew u x1 = some (r0, u0)) : MWi l yX5_failureOfNew cX5_failureOfNew 2 (some .int) 1 21 0 0 [.ref (ad 5), .ref x1] g (cW g ad) u r0 u0 := by
  refine entW (Qc := fun A => va_Qi (fun r v => r = r0 ∧ v = u0) (BW g A (cW g ad)) A) (by decide) (Nat.le_of_ble_eq_true rfl) ?_
  intro p e s m below meth c ls A C hP hD hS hA hZ hl
  have hl : lv_has ls 2 [(0, .ref (ad 5)), (1, .ref x1)] := hl
  rw [fX5_failureOfNew] at hf
  refine lv_aload_n C.1 C.2.1 dX5_failureOfNew_0 rfl (lv_at hl 0 rfl) ?_
  refine gtc_X5_house C hP wF_X5_9 dX5_failureOfNew_1 ?_
  refine gtc_X2_types C hP wF_X5_19 dX5_failureOfNew_4 ?_
  refine lv_aload_n C.1 C.2.1 dX5_failureOfNew_7 rfl (lv_at hl 1 rfl) ?_
  obtain ⟨v1, hv1, hf⟩ := Option.bind_eq_some_iff.mp hf
  refine gC_t C hP hv1 wF_X5_25 dX5_failureOfNew_8 ?_
  obtain ⟨v2, hv2, hf⟩ := Option.bind_eq_some_iff.mp hf
  refine cRi (As := [.int v1]) (rest := []) C (mX7_isAbstract hv2) vX7_isAbstract wM_X5_129 ⟨Nat.le_of_ble_eq_true rfl, Nat.le_of_ble_eq_true rfl⟩ hP (rcc_X7 C hP) (fun U hU hW => SF.go hZ hS hU hW (fun _ h => h.elim)) hl.1 rfl rfl (Nat.le_of_ble_eq_true rfl) dX5_failureOfNew_11 ⟨Nat.le_of_ble_eq_true rfl, Nat.le_of_ble_eq_true rfl⟩ ?_
  refine lv_if_eq (tgt := 20) C.1 C.2.1 dX5_failureOfNew_14 (by decide) (fun c3 => ?_) (fun c3 => ?_)
  · rw [if_pos c3] at hf
    refine lv_aload_n C.1 C.2.1 dX5_failureOfNew_20 rfl (lv_at hl 0 rfl) ?_
    refine lv_aload_n C.1 C.2.1 dX5_failureOfNew_21 rfl (lv_at hl 1 rfl) ?_
    obtain ⟨v4, hv4, hf⟩ := Option.bind_eq_some_iff.mp hf
    refine gC_t C hP hv4 wF_X5_25 dX5_failureOfNew_22 ?_
    refine lv_i2l C.1 C.2.1 dX5_failureOfNew_25 rfl ?_
    obtain ⟨u5, hu5, hf⟩ := Option.bind_eq_some_iff.mp hf
    refine ptc_X5_found C hP hD hS wF_X5_15 dX5_failureOfNew_26 (fun H locs hP hD hS => ?_)
    rw [Option.some.inj hu5] at hP hD
    refine lv_iconst (v := 0) C.1 C.2.1 dX5_failureOfNew_29 (by decide) ?_
    exact endWi C hP hD hS (Nat.le_refl _) (Nat.le_refl _) hf dX5_failureOfNew_30
  · rw [if_neg c3] at hf
    refine lv_bipush (v := 9) C.1 C.2.1 dX5_failureOfNew_17 (by decide) ?_
    exact endWi C hP hD hS (Nat.le_refl _) (Nat.le_refl _) hf dX5_failureOfNew_19
end
theorem vX5_failureOfNew : YV yX5_failureOfNew cX5_failureOfNew 2 (some .int) 1 := ⟨⟨wK_X5_failureOfNew, wZ_X5, by decide +kernel⟩, wI_X5_failureOfNew, wV_X5_failureOfNew⟩
def fX7_isFinal (u : ST) (x1 : Int32) : Option Int32 :=
  if x1 < 0 then
    some 0
  else
    if (sI u 200) ≤ x1 then
      some 0
    else
      (rdI u 10 12 x1).bind fun v3 =>
      if (v3 &&& 2) = 0 then
        some 0
      else
        some 1
section
variable {p : Program} {l : Launch} {e : Env} {s : State} {m : MethodId} {args : Array Value} {below : List Frame} {meth : Method} {c : Code} {H : Heap} {locs : List Loc} {g : GP} {ls : Array Slot} {A : Nat → Prop} {ad : Nat → Nat} {u : ST}
set_option maxRecDepth 100000 in
set_option maxHeartbeats 4000000 in
theorem mX7_isFinal {r0 : Int32} {x1 : Int32} (hf : fX7_isFinal u x1 = some r0) : MRi l yX7_isFinal cX7_isFinal 2 (some .boolean) 0 0 [.ref (ad 2), .int x1] g (cW g ad u) r0 := by
  refine entR (by decide) (Nat.le_of_ble_eq_true rfl) ?_
  intro p e s m below meth c ls C hP hZ hl
  have hl : lv_has ls 2 [(0, .ref (ad 2)), (1, .int x1)] := hl
  rw [fX7_isFinal] at hf
  refine lv_iload_n C.1 C.2.1 dX7_isFinal_0 rfl (lv_at hl 1 rfl) ?_
  refine lv_if_lt (tgt := 27) C.1 C.2.1 dX7_isFinal_1 (by decide) (fun c1 => ?_) (fun c1 => ?_)
  · rw [if_pos c1] at hf
    refine lv_iconst (v := 0) C.1 C.2.1 dX7_isFinal_27 (by decide) ?_
    exact endRz C rfl hf dX7_isFinal_28
  · rw [if_neg c1] at hf
    refine lv_iload_n C.1 C.2.1 dX7_isFinal_4 rfl (lv_at hl 1 rfl) ?_
    refine lv_aload_n C.1 C.2.1 dX7_isFinal_5 rfl (lv_at hl 0 rfl) ?_
    refine gtc_X7_size C hP wF_X7_34 dX7_isFinal_6 ?_
    refine lv_icmp_ge (tgt := 27) C.1 C.2.1 dX7_isFinal_9 (by decide) (fun c2 => ?_) (fun c2 => ?_)
    · rw [if_pos c2] at hf
      refine lv_iconst (v := 0) C.1 C.2.1 dX7_isFinal_27 (by decide) ?_
      exact endRz C rfl hf dX7_isFinal_28
    · rw [if_neg c2] at hf
      refine lv_aload_n C.1 C.2.1 dX7_isFinal_12 rfl (lv_at hl 0 rfl) ?_
      refine gtc_X7_marks C hP wF_X7_19 dX7_isFinal_13 ?_
      refine lv_iload_n C.1 C.2.1 dX7_isFinal_16 rfl (lv_at hl 1 rfl) ?_
      obtain ⟨v3, hv3, hf⟩ := Option.bind_eq_some_iff.mp hf
      refine ldc_10 C hP hv3 dX7_isFinal_17 ?_
      refine lv_iconst (v := 2) C.1 C.2.1 dX7_isFinal_18 (by decide) ?_
      refine lv_iand C.1 C.2.1 dX7_isFinal_19 ?_
      refine lv_if_eq (tgt := 27) C.1 C.2.1 dX7_isFinal_20 (by decide) (fun c4 => ?_) (fun c4 => ?_)
      · rw [if_pos c4] at hf
        refine lv_iconst (v := 0) C.1 C.2.1 dX7_isFinal_27 (by decide) ?_
        exact endRz C rfl hf dX7_isFinal_28
      · rw [if_neg c4] at hf
        refine lv_iconst (v := 1) C.1 C.2.1 dX7_isFinal_23 (by decide) ?_
        refine lv_goto (tgt := 28) C.1 C.2.1 dX7_isFinal_24 (by decide) ?_
        exact endRz C rfl hf dX7_isFinal_28
end
theorem vX7_isFinal : YV yX7_isFinal cX7_isFinal 2 (some .boolean) 1 := ⟨⟨wK_X7_isFinal, wZ_X7, by decide +kernel⟩, wI_X7_isFinal, wV_X7_isFinal⟩
def fX7_classesAbove (u : ST) (x1 : Int32) : Option Int32 :=
  if x1 < 0 then
    some 0
  else
    if (sI u 200) ≤ x1 then
      some 0
    else
      (rdI u 13 12 x1).bind fun v3 =>
      some ((v3 &&& (sI u 207)) &&& ((1 <<< (x1 &&& 31)) ^^^ (-1)))
section
variable {p : Program} {l : Launch} {e : Env} {s : State} {m : MethodId} {args : Array Value} {below : List Frame} {meth : Method} {c : Code} {H : Heap} {locs : List Loc} {g : GP} {ls : Array Slot} {A : Nat → Prop} {ad : Nat → Nat} {u : ST}
set_option maxRecDepth 100000 in
set_option maxHeartbeats 4000000 in
theorem mX7_classesAbove {r0 : Int32} {x1 : Int32} (hf : fX7_classesAbove u x1 = some r0) : MRi l yX7_classesAbove cX7_classesAbove 2 (some .int) 0 0 [.ref (ad 2), .int x1] g (cW g ad u) r0 := by
  refine entR (by decide) (Nat.le_of_ble_eq_true rfl) ?_
  intro p e s m below meth c ls C hP hZ hl
  have hl : lv_has ls 2 [(0, .ref (ad 2)), (1, .int x1)] := hl
  rw [fX7_classesAbove] at hf
  refine lv_iload_n C.1 C.2.1 dX7_classesAbove_0 rfl (lv_at hl 1 rfl) ?_
  refine lv_if_lt (tgt := 32) C.1 C.2.1 dX7_classesAbove_1 (by decide) (fun c1 => ?_) (fun c1 => ?_)
  · rw [if_pos c1] at hf
    refine lv_iconst (v := 0) C.1 C.2.1 dX7_classesAbove_32 (by decide) ?_
    exact endRi C hf dX7_classesAbove_33
  · rw [if_neg c1] at hf
    refine lv_iload_n C.1 C.2.1 dX7_classesAbove_4 rfl (lv_at hl 1 rfl) ?_
    refine lv_aload_n C.1 C.2.1 dX7_classesAbove_5 rfl (lv_at hl 0 rfl) ?_
    refine gtc_X7_size C hP wF_X7_34 dX7_classesAbove_6 ?_
    refine lv_icmp_ge (tgt := 32) C.1 C.2.1 dX7_classesAbove_9 (by decide) (fun c2 => ?_) (fun c2 => ?_)
    · rw [if_pos c2] at hf
      refine lv_iconst (v := 0) C.1 C.2.1 dX7_classesAbove_32 (by decide) ?_
      exact endRi C hf dX7_classesAbove_33
    · rw [if_neg c2] at hf
      refine lv_aload_n C.1 C.2.1 dX7_classesAbove_12 rfl (lv_at hl 0 rfl) ?_
      refine gtc_X7_over C hP wF_X7_28 dX7_classesAbove_13 ?_
      refine lv_iload_n C.1 C.2.1 dX7_classesAbove_16 rfl (lv_at hl 1 rfl) ?_
      obtain ⟨v3, hv3, hf⟩ := Option.bind_eq_some_iff.mp hf
      refine ldc_13 C hP hv3 dX7_classesAbove_17 ?_
      refine lv_aload_n C.1 C.2.1 dX7_classesAbove_18 rfl (lv_at hl 0 rfl) ?_
      refine gtc_X7_classes C hP wF_X7_38 dX7_classesAbove_19 ?_
      refine lv_iand C.1 C.2.1 dX7_classesAbove_22 ?_
      refine lv_iconst (v := 1) C.1 C.2.1 dX7_classesAbove_23 (by decide) ?_
      refine lv_iload_n C.1 C.2.1 dX7_classesAbove_24 rfl (lv_at hl 1 rfl) ?_
      refine lv_ishl C.1 C.2.1 dX7_classesAbove_25 ?_
      refine lv_iconst (v := -1) C.1 C.2.1 dX7_classesAbove_26 (by decide) ?_
      refine lv_ixor C.1 C.2.1 dX7_classesAbove_27 ?_
      refine lv_iand C.1 C.2.1 dX7_classesAbove_28 ?_
      refine lv_goto (tgt := 33) C.1 C.2.1 dX7_classesAbove_29 (by decide) ?_
      exact endRi C hf dX7_classesAbove_33
end
theorem vX7_classesAbove : YV yX7_classesAbove cX7_classesAbove 2 (some .int) 1 := ⟨⟨wK_X7_classesAbove, wZ_X7, by decide +kernel⟩, wI_X7_classesAbove, wV_X7_classesAbove⟩
def fX6_isOpen (u : ST) (x1 : Int32) : Option Int32 :=
  if x1 < 0 then
    some 0
  else
    if 60 ≤ x1 then
      some 0
    else
      (rdI u 15 60 x1).bind fun v3 =>
      if v3 = (-2) then
        some 0
      else
        (rdI u 16 60 x1).bind fun v5 =>
        if v5 = 0 then
          some 0
        else
          (rdI u 18 60 x1).bind fun v7 =>
          if (v7 &&& 5) = 0 then
            some 1
          else
            some 0
section
variable {p : Program} {l : Launch} {e : Env} {s : State} {m : MethodId} {args : Array Value} {below : List Frame} {meth : Method} {c : Code} {H : Heap} {locs : List Loc} {g : GP} {ls : Array Slot} {A : Nat → Prop} {ad : Nat → Nat} {u : ST}
set_option maxRecDepth 100000 in
set_option maxHeartbeats 4000000 in
theorem mX6_isOpen {r0 : Int32} {x1 : Int32} (hf : fX6_isOpen u x1 = some r0) : MRi l yX6_isOpen cX6_isOpen 2 (some .boolean) 0 0 [.ref (ad 3), .int x1] g (cW g ad u) r0 := by
  refine entR (by decide) (Nat.le_of_ble_eq_true rfl) ?_
  intro p e s m below meth c ls C hP hZ hl
  have hl : lv_has ls 2 [(0, .ref (ad 3)), (1, .int x1)] := hl
  rw [fX6_isOpen] at hf
  refine lv_iload_n C.1 C.2.1 dX6_isOpen_0 rfl (lv_at hl 1 rfl) ?_
  refine lv_if_lt (tgt := 45) C.1 C.2.1 dX6_isOpen_1 (by decide) (fun c1 => ?_) (fun c1 => ?_)
  · rw [if_pos c1] at hf
    refine lv_iconst (v := 0) C.1 C.2.1 dX6_isOpen_45 (by decide) ?_
    exact endRz C rfl hf dX6_isOpen_46
  · rw [if_neg c1] at hf
    refine lv_iload_n C.1 C.2.1 dX6_isOpen_4 rfl (lv_at hl 1 rfl) ?_
    refine lv_bipush (v := 60) C.1 C.2.1 dX6_isOpen_5 (by decide) ?_
    refine lv_icmp_ge (tgt := 45) C.1 C.2.1 dX6_isOpen_7 (by decide) (fun c2 => ?_) (fun c2 => ?_)
    · rw [if_pos c2] at hf
      refine lv_iconst (v := 0) C.1 C.2.1 dX6_isOpen_45 (by decide) ?_
      exact endRz C rfl hf dX6_isOpen_46
    · rw [if_neg c2] at hf
      refine lv_aload_n C.1 C.2.1 dX6_isOpen_10 rfl (lv_at hl 0 rfl) ?_
      refine gtc_X6_owner C hP wF_X6_11 dX6_isOpen_11 ?_
      refine lv_iload_n C.1 C.2.1 dX6_isOpen_14 rfl (lv_at hl 1 rfl) ?_
      obtain ⟨v3, hv3, hf⟩ := Option.bind_eq_some_iff.mp hf
      refine ldc_15 C hP hv3 dX6_isOpen_15 ?_
      refine lv_bipush (v := -2) C.1 C.2.1 dX6_isOpen_16 (by decide) ?_
      refine lv_icmp_eq (tgt := 45) C.1 C.2.1 dX6_isOpen_18 (by decide) (fun c4 => ?_) (fun c4 => ?_)
      · rw [if_pos c4] at hf
        refine lv_iconst (v := 0) C.1 C.2.1 dX6_isOpen_45 (by decide) ?_
        exact endRz C rfl hf dX6_isOpen_46
      · rw [if_neg c4] at hf
        refine lv_aload_n C.1 C.2.1 dX6_isOpen_21 rfl (lv_at hl 0 rfl) ?_
        refine gtc_X6_isMethod C hP wF_X6_15 dX6_isOpen_22 ?_
        refine lv_iload_n C.1 C.2.1 dX6_isOpen_25 rfl (lv_at hl 1 rfl) ?_
        obtain ⟨v5, hv5, hf⟩ := Option.bind_eq_some_iff.mp hf
        refine ldc_16 C hP hv5 dX6_isOpen_26 ?_
        refine lv_if_eq (tgt := 45) C.1 C.2.1 dX6_isOpen_27 (by decide) (fun c6 => ?_) (fun c6 => ?_)
        · rw [if_pos c6] at hf
          refine lv_iconst (v := 0) C.1 C.2.1 dX6_isOpen_45 (by decide) ?_
          exact endRz C rfl hf dX6_isOpen_46
        · rw [if_neg c6] at hf
          refine lv_aload_n C.1 C.2.1 dX6_isOpen_30 rfl (lv_at hl 0 rfl) ?_
          refine gtc_X6_marks C hP wF_X6_22 dX6_isOpen_31 ?_
          refine lv_iload_n C.1 C.2.1 dX6_isOpen_34 rfl (lv_at hl 1 rfl) ?_
          obtain ⟨v7, hv7, hf⟩ := Option.bind_eq_some_iff.mp hf
          refine ldc_18 C hP hv7 dX6_isOpen_35 ?_
          refine lv_iconst (v := 5) C.1 C.2.1 dX6_isOpen_36 (by decide) ?_
          refine lv_iand C.1 C.2.1 dX6_isOpen_37 ?_
          refine lv_if_ne (tgt := 45) C.1 C.2.1 dX6_isOpen_38 (by decide) (fun c8 => ?_) (fun c8 => ?_)
          · rw [if_neg c8] at hf
            refine lv_iconst (v := 0) C.1 C.2.1 dX6_isOpen_45 (by decide) ?_
            exact endRz C rfl hf dX6_isOpen_46
          · rw [if_pos c8] at hf
            refine lv_iconst (v := 1) C.1 C.2.1 dX6_isOpen_41 (by decide) ?_
            refine lv_goto (tgt := 46) C.1 C.2.1 dX6_isOpen_42 (by decide) ?_
            exact endRz C rfl hf dX6_isOpen_46
end
theorem vX6_isOpen : YV yX6_isOpen cX6_isOpen 2 (some .boolean) 1 := ⟨⟨wK_X6_isOpen, wZ_X6, by decide +kernel⟩, wI_X6_isOpen, wV_X6_isOpen⟩
def fX2_isBroken_L92 (u : ST) (K17 : Int32 → Int32 → Int32 → Option Int32) (x1 : Int32) (x3 : Int32) (x4 : Int32) : Option Int32 :=
  K17 x1 x3 (x4 + 1)
def fX2_isBroken_L17 (u : ST) : Nat → Int32 → Int32 → Int32 → Option Int32
  | 0, _, _, _ => none
  | n + 1, x1, x3, x4 =>
    if 60 ≤ x4 then
      some 0
    else
      (fX6_has u x4 2).bind fun v3 =>
      if v3 = 0 then
        fX2_isBroken_L92 u (fX2_isBroken_L17 u n) x1 x3 x4
      else
        (fX6_isOpen u x4).bind fun v5 =>
        if v5 = 0 then
          fX2_isBroken_L92 u (fX2_isBroken_L17 u n) x1 x3 x4
        else
          (rdI u 15 60 x4).bind fun v7 =>
          if ((x3 >>> (v7 &&& 31)) &&& 1) = 0 then
            fX2_isBroken_L92 u (fX2_isBroken_L17 u n) x1 x3 x4
          else
            (rdI u 17 60 x4).bind fun v9 =>
            (rdI u 19 60 x4).bind fun v10 =>
            (rdI u 20 60 x4).bind fun v11 =>
            (fX6_methodOf u x1 v9 v10 v11).bind fun v12 =>
            (fX6_isOpen u v12).bind fun v13 =>
            if v13 = 0 then
              fX2_isBroken_L92 u (fX2_isBroken_L17 u n) x1 x3 x4
            else
              some 1
def fX2_isBroken (u : ST) (x1 : Int32) : Option Int32 :=
  (fX7_classesAbove u x1).bind fun v1 =>
  fX2_isBroken_L17 u 5000 x1 v1 0
section
variable {p : Program} {l : Launch} {e : Env} {s : State} {m : MethodId} {args : Array Value} {below : List Frame} {meth : Method} {c : Code} {H : Heap} {locs : List Loc} {g : GP} {ls : Array Slot} {A : Nat → Prop} {ad : Nat → Nat} {u : ST}
set_option maxRecDepth 100000 in
set_option maxHeartbeats 4000000 in
theorem bX2_isBroken_L92 {r0 : Int32} {K17 : Int32 → Int32 → Int32 → Option Int32} {x1 : Int32} {x3 : Int32} {x4 : Int32} (C : Cx p s m args meth c cX2_isBroken 5 RX2 (some .boolean) g) (hZ : SF (fun _ => False) s) (hK17 : ∀ (x1 : Int32) (x3 : Int32) (x4 : Int32), ∀ (ls : Array Slot), lv_has ls 5 [(1, .int x1), (2, .ref (ad 3)), (3, .int x3), (4, .int x4)] → K17 x1 x3 x4 = some r0 → W p l e (rmR 1 25) s m args below meth c s.heap [] 0 0 (MQ below (vp_Si (fun r => r = r0)) args s 0 0 (fun _ => False)) (F0 m 17 ls [])) (hP : va_P g.1 vwCl (cW g ad u) s.heap) (hl : lv_has ls 5 [(1, .int x1), (2, .ref (ad 3)), (3, .int x3), (4, .int x4)]) (hf : fX2_isBroken_L92 u K17 x1 x3 x4 = some r0) : W p l e (rmR 1 25) s m args below meth c s.heap [] 0 0 (MQ below (vp_Si (fun r => r = r0)) args s 0 0 (fun _ => False)) (F0 m 92 ls []) := by
  rw [fX2_isBroken_L92] at hf
  refine lv_iinc (v := (x4 + 1)) (lv' := [(4, .int (x4 + 1)), (1, .int x1), (2, .ref (ad 3)), (3, .int x3)]) C.1 C.2.1 dX2_isBroken_92 hl (k := 3) rfl rfl (by decide) rfl (fun ls hl => ?_)
  refine lv_goto (tgt := 17) C.1 C.2.1 dX2_isBroken_95 (by decide) ?_
  exact hK17 x1 x3 (x4 + 1) _ (lv_sub hl [1, 2, 3, 0] rfl) hf
set_option maxRecDepth 100000 in
set_option maxHeartbeats 4000000 in
theorem bX2_isBroken_L17 {r0 : Int32} (C : Cx p s m args meth c cX2_isBroken 5 RX2 (some .boolean) g) (hZ : SF (fun _ => False) s) (n : Nat) : ∀ (x1 : Int32) (x3 : Int32) (x4 : Int32), va_P g.1 vwCl (cW g ad u) s.heap → ∀ (ls : Array Slot), lv_has ls 5 [(1, .int x1), (2, .ref (ad 3)), (3, .int x3), (4, .int x4)] → fX2_isBroken_L17 u n x1 x3 x4 = some r0 → W p l e (rmR 1 25) s m args below meth c s.heap [] 0 0 (MQ below (vp_Si (fun r => r = r0)) args s 0 0 (fun _ => False)) (F0 m 17 ls []) := by
  induction n with
  | zero =>
    intro x1 x3 x4 hP ls hl hf
    exact absurd hf (by simp [fX2_isBroken_L17])
  | succ n ih0 =>
    intro x1 x3 x4 hP ls hl hf
    have ih := fun (x1 : Int32) (x3 : Int32) (x4 : Int32) => ih0 x1 x3 x4 hP
    rw [fX2_isBroken_L17] at hf
    refine lv_iload C.1 C.2.1 dX2_isBroken_17 (lv_at hl 3 rfl) ?_
    refine lv_bipush (v := 60) C.1 C.2.1 dX2_isBroken_19 (by decide) ?_
    refine lv_icmp_ge (tgt := 98) C.1 C.2.1 dX2_isBroken_21 (by decide) (fun c2 => ?_) (fun c2 => ?_)
    · rw [if_pos c2] at hf
      refine lv_iconst (v := 0) C.1 C.2.1 dX2_isBroken_98 (by decide) ?_
      exact endRz C rfl hf dX2_isBroken_99
    · rw [if_neg c2] at hf
      refine lv_aload_n C.1 C.2.1 dX2_isBroken_24 rfl (lv_at hl 1 rfl) ?_
      refine lv_iload C.1 C.2.1 dX2_isBroken_25 (lv_at hl 3 rfl) ?_
      refine lv_iconst (v := 2) C.1 C.2.1 dX2_isBroken_27 (by decide) ?_
      obtain ⟨v3, hv3, hf⟩ := Option.bind_eq_some_iff.mp hf
      refine cRi (As := [.int x4, .int 2]) (rest := []) C (mX6_has hv3) vX6_has wM_X2_142 ⟨Nat.le_of_ble_eq_true rfl, Nat.le_of_ble_eq_true rfl⟩ hP (rcc_X6 C hP) (fun U hU hW => SF.go hZ va_S.rf hU hW (fun _ h => h)) hl.1 rfl rfl (Nat.le_of_ble_eq_true rfl) dX2_isBroken_28 ⟨Nat.le_of_ble_eq_true rfl, Nat.le_of_ble_eq_true rfl⟩ ?_
      refine lv_if_eq (tgt := 92) C.1 C.2.1 dX2_isBroken_31 (by decide) (fun c4 => ?_) (fun c4 => ?_)
      · rw [if_pos c4] at hf
        exact bX2_isBroken_L92 C hZ ih hP (lv_sub hl [0, 1, 2, 3] rfl) hf
      · rw [if_neg c4] at hf
        refine lv_aload_n C.1 C.2.1 dX2_isBroken_34 rfl (lv_at hl 1 rfl) ?_
        refine lv_iload C.1 C.2.1 dX2_isBroken_35 (lv_at hl 3 rfl) ?_
        obtain ⟨v5, hv5, hf⟩ := Option.bind_eq_some_iff.mp hf
        refine cRi (As := [.int x4]) (rest := []) C (mX6_isOpen hv5) vX6_isOpen wM_X2_149 ⟨Nat.le_of_ble_eq_true rfl, Nat.le_of_ble_eq_true rfl⟩ hP (rcc_X6 C hP) (fun U hU hW => SF.go hZ va_S.rf hU hW (fun _ h => h)) hl.1 rfl rfl (Nat.le_of_ble_eq_true rfl) dX2_isBroken_37 ⟨Nat.le_of_ble_eq_true rfl, Nat.le_of_ble_eq_true rfl⟩ ?_
        refine lv_if_eq (tgt := 92) C.1 C.2.1 dX2_isBroken_40 (by decide) (fun c6 => ?_) (fun c6 => ?_)
        · rw [if_pos c6] at hf
          exact bX2_isBroken_L92 C hZ ih hP (lv_sub hl [0, 1, 2, 3] rfl) hf
        · rw [if_neg c6] at hf
          refine lv_iload_n C.1 C.2.1 dX2_isBroken_43 rfl (lv_at hl 2 rfl) ?_
          refine lv_aload_n C.1 C.2.1 dX2_isBroken_44 rfl (lv_at hl 1 rfl) ?_
          refine gtc_X6_owner C hP wF_X2_119 dX2_isBroken_45 ?_
          refine lv_iload C.1 C.2.1 dX2_isBroken_48 (lv_at hl 3 rfl) ?_
          obtain ⟨v7, hv7, hf⟩ := Option.bind_eq_some_iff.mp hf
          refine ldc_15 C hP hv7 dX2_isBroken_50 ?_
          refine lv_ishr C.1 C.2.1 dX2_isBroken_51 ?_
          refine lv_iconst (v := 1) C.1 C.2.1 dX2_isBroken_52 (by decide) ?_
          refine lv_iand C.1 C.2.1 dX2_isBroken_53 ?_
          refine lv_if_eq (tgt := 92) C.1 C.2.1 dX2_isBroken_54 (by decide) (fun c8 => ?_) (fun c8 => ?_)
          · rw [if_pos c8] at hf
            exact bX2_isBroken_L92 C hZ ih hP (lv_sub hl [0, 1, 2, 3] rfl) hf
          · rw [if_neg c8] at hf
            refine lv_aload_n C.1 C.2.1 dX2_isBroken_57 rfl (lv_at hl 1 rfl) ?_
            refine lv_aload_n C.1 C.2.1 dX2_isBroken_58 rfl (lv_at hl 1 rfl) ?_
            refine lv_iload_n C.1 C.2.1 dX2_isBroken_59 rfl (lv_at hl 0 rfl) ?_
            refine lv_aload_n C.1 C.2.1 dX2_isBroken_60 rfl (lv_at hl 1 rfl) ?_
            refine gtc_X6_name C hP wF_X2_179 dX2_isBroken_61 ?_
            refine lv_iload C.1 C.2.1 dX2_isBroken_64 (lv_at hl 3 rfl) ?_
            obtain ⟨v9, hv9, hf⟩ := Option.bind_eq_some_iff.mp hf
            refine ldc_17 C hP hv9 dX2_isBroken_66 ?_
            refine lv_aload_n C.1 C.2.1 dX2_isBroken_67 rfl (lv_at hl 1 rfl) ?_
            refine gtc_X6_first C hP wF_X2_182 dX2_isBroken_68 ?_
            refine lv_iload C.1 C.2.1 dX2_isBroken_71 (lv_at hl 3 rfl) ?_
            obtain ⟨v10, hv10, hf⟩ := Option.bind_eq_some_iff.mp hf
            refine ldc_19 C hP hv10 dX2_isBroken_73 ?_
            refine lv_aload_n C.1 C.2.1 dX2_isBroken_74 rfl (lv_at hl 1 rfl) ?_
            refine gtc_X6_second C hP wF_X2_185 dX2_isBroken_75 ?_
            refine lv_iload C.1 C.2.1 dX2_isBroken_78 (lv_at hl 3 rfl) ?_
            obtain ⟨v11, hv11, hf⟩ := Option.bind_eq_some_iff.mp hf
            refine ldc_20 C hP hv11 dX2_isBroken_80 ?_
            obtain ⟨v12, hv12, hf⟩ := Option.bind_eq_some_iff.mp hf
            refine cRi (As := [.int x1, .int v9, .int v10, .int v11]) (rest := [.ref (ad 3)]) C (mX6_methodOf hv12) vX6_methodOf wM_X2_109 ⟨Nat.le_of_ble_eq_true rfl, Nat.le_of_ble_eq_true rfl⟩ hP (rcc_X6 C hP) (fun U hU hW => SF.go hZ va_S.rf hU hW (fun _ h => h)) hl.1 rfl rfl (Nat.le_of_ble_eq_true rfl) dX2_isBroken_81 ⟨Nat.le_of_ble_eq_true rfl, Nat.le_of_ble_eq_true rfl⟩ ?_
            obtain ⟨v13, hv13, hf⟩ := Option.bind_eq_some_iff.mp hf
            refine cRi (As := [.int v12]) (rest := []) C (mX6_isOpen hv13) vX6_isOpen wM_X2_149 ⟨Nat.le_of_ble_eq_true rfl, Nat.le_of_ble_eq_true rfl⟩ hP (rcc_X6 C hP) (fun U hU hW => SF.go hZ va_S.rf hU hW (fun _ h => h)) hl.1 rfl rfl (Nat.le_of_ble_eq_true rfl) dX2_isBroken_84 ⟨Nat.le_of_ble_eq_true rfl, Nat.le_of_ble_eq_true rfl⟩ ?_
            refine lv_if_eq (tgt := 92) C.1 C.2.1 dX2_isBroken_87 (by decide) (fun c14 => ?_) (fun c14 => ?_)
            · rw [if_pos c14] at hf
              exact bX2_isBroken_L92 C hZ ih hP (lv_sub hl [0, 1, 2, 3] rfl) hf
            · rw [if_neg c14] at hf
              refine lv_iconst (v := 1) C.1 C.2.1 dX2_isBroken_90 (by decide) ?_
              exact endRz C rfl hf dX2_isBroken_91
set_option maxRecDepth 100000 in
set_option maxHeartbeats 4000000 in
theorem mX2_isBroken {r0 : Int32} {x1 : Int32} (hf : fX2_isBroken u x1 = some r0) : MRi l yX2_isBroken cX2_isBroken 5 (some .boolean) 1 25 [.ref (ad 1), .int x1] g (cW g ad u) r0 := by
  refine entR (by decide) (Nat.le_of_ble_eq_true rfl) ?_
  intro p e s m below meth c ls C hP hZ hl
  have hl : lv_has ls 5 [(0, .ref (ad 1)), (1, .int x1)] := hl
  rw [fX2_isBroken] at hf
  refine lv_aload_n C.1 C.2.1 dX2_isBroken_0 rfl (lv_at hl 0 rfl) ?_
  refine gtc_X2_members C hP wF_X2_21 dX2_isBroken_1 ?_
  refine lv_astore_n (lv' := [(2, .ref (ad 3)), (0, .ref (ad 1)), (1, .int x1)]) C.1 C.2.1 dX2_isBroken_4 rfl hl (by decide) rfl (fun ls hl => ?_)
  refine lv_aload_n C.1 C.2.1 dX2_isBroken_5 rfl (lv_at hl 1 rfl) ?_
  refine gtc_X2_types C hP wF_X2_12 dX2_isBroken_6 ?_
  refine lv_iload_n C.1 C.2.1 dX2_isBroken_9 rfl (lv_at hl 2 rfl) ?_
  obtain ⟨v1, hv1, hf⟩ := Option.bind_eq_some_iff.mp hf
  refine cRi (As := [.int x1]) (rest := []) C (mX7_classesAbove hv1) vX7_classesAbove wM_X2_176 ⟨Nat.le_of_ble_eq_true rfl, Nat.le_of_ble_eq_true rfl⟩ hP (rcc_X7 C hP) (fun U hU hW => SF.go hZ va_S.rf hU hW (fun _ h => h)) hl.1 rfl rfl (Nat.le_of_ble_eq_true rfl) dX2_isBroken_10 ⟨Nat.le_of_ble_eq_true rfl, Nat.le_of_ble_eq_true rfl⟩ ?_
  refine lv_istore_n (lv' := [(3, .int v1), (2, .ref (ad 3)), (0, .ref (ad 1)), (1, .int x1)]) C.1 C.2.1 dX2_isBroken_13 rfl hl (by decide) rfl (fun ls hl => ?_)
  refine lv_iconst (v := 0) C.1 C.2.1 dX2_isBroken_14 (by decide) ?_
  refine lv_istore (lv' := [(4, .int 0), (3, .int v1), (2, .ref (ad 3)), (0, .ref (ad 1)), (1, .int x1)]) C.1 C.2.1 dX2_isBroken_15 hl (by decide) rfl (fun ls hl => ?_)
  exact bX2_isBroken_L17 C hZ 5000 x1 v1 0 hP _ (lv_sub hl [4, 2, 1, 0] rfl) hf
end
theorem vX2_isBroken : YV yX2_isBroken cX2_isBroken 5 (some .boolean) 1 := ⟨⟨wK_X2_isBroken, wZ_X2, by decide +kernel⟩, wI_X2_isBroken, wV_X2_isBroken⟩
def fX2_failureOfReading_L58 (u : ST) (K17 : Int32 → Int32 → Int32 → Int32 → Option Int32) (x2 : Int32) (x4 : Int32) (x5 : Int32) : Option Int32 :=
  (fX7_whatIsAbove u x4).bind fun v8 =>
  K17 x2 x4 v8 (x5 + 1)
def fX2_failureOfReading_L17 (u : ST) : Nat → Int32 → Int32 → Int32 → Int32 → Option Int32
  | 0, _, _, _, _ => none
  | n + 1, x2, x3, x4, x5 =>
    if 12 ≤ x5 then
      some x2
    else
      if x4 = (-2) then
        some x2
      else
        (fX7_isFinal u x4).bind fun v4 =>
        if v4 = 0 then
          (fX2_isBroken u x3).bind fun v6 =>
          if v6 = 0 then
            fX2_failureOfReading_L58 u (fX2_failureOfReading_L17 u n) x2 x4 x5
          else
            fX2_failureOfReading_L58 u (fX2_failureOfReading_L17 u n) 2 x4 x5
        else
          fX2_failureOfReading_L58 u (fX2_failureOfReading_L17 u n) 1 x4 x5
def fX2_failureOfReading (u : ST) (x1 : Int32) : Option Int32 :=
  (fX7_whatIsAbove u x1).bind fun v1 =>
  fX2_failureOfReading_L17 u 5000 0 x1 v1 0
section
variable {p : Program} {l : Launch} {e : Env} {s : State} {m : MethodId} {args : Array Value} {below : List Frame} {meth : Method} {c : Code} {H : Heap} {locs : List Loc} {g : GP} {ls : Array Slot} {A : Nat → Prop} {ad : Nat → Nat} {u : ST}
set_option maxRecDepth 100000 in
set_option maxHeartbeats 4000000 in
theorem bX2_failureOfReading_L58 {r0 : Int32} {K17 : Int32 → Int32 → Int32 → Int32 → Option Int32} {x2 : Int32} {x4 : Int32} {x5 : Int32} (C : Cx p s m args meth c cX2_failureOfReading 6 RX2 (some .int) g) (hZ : SF (fun _ => False) s) (hK17 : ∀ (x2 : Int32) (x3 : Int32) (x4 : Int32) (x5 : Int32), ∀ (ls : Array Slot), lv_has ls 6 [(0, .ref (ad 1)), (2, .int x2), (3, .int x3), (4, .int x4), (5, .int x5)] → K17 x2 x3 x4 x5 = some r0 → W p l e (rmR 2 49) s m args below meth c s.heap [] 0 0 (MQ below (vp_Si (fun r => r = r0)) args s 0 0 (fun _ => False)) (F0 m 17 ls [])) (hP : va_P g.1 vwCl (cW g ad u) s.heap) (hl : lv_has ls 6 [(0, .ref (ad 1)), (2, .int x2), (4, .int x4), (5, .int x5)]) (hf : fX2_failureOfReading_L58 u K17 x2 x4 x5 = some r0) : W p l e (rmR 2 49) s m args below meth c s.heap [] 0 0 (MQ below (vp_Si (fun r => r = r0)) args s 0 0 (fun _ => False)) (F0 m 58 ls []) := by
  rw [fX2_failureOfReading_L58] at hf
  refine lv_iload C.1 C.2.1 dX2_failureOfReading_58 (lv_at hl 2 rfl) ?_
  refine lv_istore_n (lv' := [(3, .int x4), (0, .ref (ad 1)), (2, .int x2), (4, .int x4), (5, .int x5)]) C.1 C.2.1 dX2_failureOfReading_60 rfl hl (by decide) rfl (fun ls hl => ?_)
  refine lv_aload_n C.1 C.2.1 dX2_failureOfReading_61 rfl (lv_at hl 1 rfl) ?_
  refine gtc_X2_types C hP wF_X2_12 dX2_failureOfReading_62 ?_
  refine lv_iload_n C.1 C.2.1 dX2_failureOfReading_65 rfl (lv_at hl 0 rfl) ?_
  obtain ⟨v8, hv8, hf⟩ := Option.bind_eq_some_iff.mp hf
  refine cRi (As := [.int x4]) (rest := []) C (mX7_whatIsAbove hv8) vX7_whatIsAbove wM_X2_152 ⟨Nat.le_of_ble_eq_true rfl, Nat.le_of_ble_eq_true rfl⟩ hP (rcc_X7 C hP) (fun U hU hW => SF.go hZ va_S.rf hU hW (fun _ h => h)) hl.1 rfl rfl (Nat.le_of_ble_eq_true rfl) dX2_failureOfReading_66 ⟨Nat.le_of_ble_eq_true rfl, Nat.le_of_ble_eq_true rfl⟩ ?_
  refine lv_istore (lv' := [(4, .int v8), (3, .int x4), (0, .ref (ad 1)), (2, .int x2), (5, .int x5)]) C.1 C.2.1 dX2_failureOfReading_69 hl (by decide) rfl (fun ls hl => ?_)
  refine lv_iinc (v := (x5 + 1)) (lv' := [(5, .int (x5 + 1)), (4, .int v8), (3, .int x4), (0, .ref (ad 1)), (2, .int x2)]) C.1 C.2.1 dX2_failureOfReading_71 hl (k := 4) rfl rfl (by decide) rfl (fun ls hl => ?_)
  refine lv_goto (tgt := 17) C.1 C.2.1 dX2_failureOfReading_74 (by decide) ?_
  exact hK17 x2 x4 v8 (x5 + 1) _ (lv_sub hl [3, 4, 2, 1, 0] rfl) hf
set_option maxRecDepth 100000 in
set_option maxHeartbeats 4000000 in
theorem bX2_failureOfReading_L17 {r0 : Int32} (C : Cx p s m args meth c cX2_failureOfReading 6 RX2 (some .int) g) (hZ : SF (fun _ => False) s) (n : Nat) : ∀ (x2 : Int32) (x3 : Int32) (x4 : Int32) (x5 : Int32), va_P g.1 vwCl (cW g ad u) s.heap → ∀ (ls : Array Slot), lv_has ls 6 [(0, .ref (ad 1)), (2, .int x2), (3, .int x3), (4, .int x4), (5, .int x5)] → fX2_failureOfReading_L17 u n x2 x3 x4 x5 = some r0 → W p l e (rmR 2 49) s m args below meth c s.heap [] 0 0 (MQ below (vp_Si (fun r => r = r0)) args s 0 0 (fun _ => False)) (F0 m 17 ls []) := by
  induction n with
  | zero =>
    intro x2 x3 x4 x5 hP ls hl hf
    exact absurd hf (by simp [fX2_failureOfReading_L17])
  | succ n ih0 =>
    intro x2 x3 x4 x5 hP ls hl hf
    have ih := fun (x2 : Int32) (x3 : Int32) (x4 : Int32) (x5 : Int32) => ih0 x2 x3 x4 x5 hP
    rw [fX2_failureOfReading_L17] at hf
    refine lv_iload C.1 C.2.1 dX2_failureOfReading_17 (lv_at hl 4 rfl) ?_
    refine lv_bipush (v := 12) C.1 C.2.1 dX2_failureOfReading_19 (by decide) ?_
    refine lv_icmp_ge (tgt := 77) C.1 C.2.1 dX2_failureOfReading_21 (by decide) (fun c2 => ?_) (fun c2 => ?_)
    · rw [if_pos c2] at hf
      refine lv_iload_n C.1 C.2.1 dX2_failureOfReading_77 rfl (lv_at hl 1 rfl) ?_
      exact endRi C hf dX2_failureOfReading_78
    · rw [if_neg c2] at hf
      refine lv_iload C.1 C.2.1 dX2_failureOfReading_24 (lv_at hl 3 rfl) ?_
      refine lv_bipush (v := -2) C.1 C.2.1 dX2_failureOfReading_26 (by decide) ?_
      refine lv_icmp_eq (tgt := 77) C.1 C.2.1 dX2_failureOfReading_28 (by decide) (fun c3 => ?_) (fun c3 => ?_)
      · rw [if_pos c3] at hf
        refine lv_iload_n C.1 C.2.1 dX2_failureOfReading_77 rfl (lv_at hl 1 rfl) ?_
        exact endRi C hf dX2_failureOfReading_78
      · rw [if_neg c3] at hf
        refine lv_aload_n C.1 C.2.1 dX2_failureOfReading_31 rfl (lv_at hl 0 rfl) ?_
        refine gtc_X2_types C hP wF_X2_12 dX2_failureOfReading_32 ?_
        refine lv_iload C.1 C.2.1 dX2_failureOfReading_35 (lv_at hl 3 rfl) ?_
        obtain ⟨v4, hv4, hf⟩ := Option.bind_eq_some_iff.mp hf
        refine cRi (As := [.int x4]) (rest := []) C (mX7_isFinal hv4) vX7_isFinal wM_X2_170 ⟨Nat.le_of_ble_eq_true rfl, Nat.le_of_ble_eq_true rfl⟩ hP (rcc_X7 C hP) (fun U hU hW => SF.go hZ va_S.rf hU hW (fun _ h => h)) hl.1 rfl rfl (Nat.le_of_ble_eq_true rfl) dX2_failureOfReading_37 ⟨Nat.le_of_ble_eq_true rfl, Nat.le_of_ble_eq_true rfl⟩ ?_
        refine lv_if_eq (tgt := 48) C.1 C.2.1 dX2_failureOfReading_40 (by decide) (fun c5 => ?_) (fun c5 => ?_)
        · rw [if_pos c5] at hf
          refine lv_aload_n C.1 C.2.1 dX2_failureOfReading_48 rfl (lv_at hl 0 rfl) ?_
          refine lv_iload_n C.1 C.2.1 dX2_failureOfReading_49 rfl (lv_at hl 2 rfl) ?_
          obtain ⟨v6, hv6, hf⟩ := Option.bind_eq_some_iff.mp hf
          refine cRi (As := [.int x3]) (rest := []) C (mX2_isBroken hv6) vX2_isBroken wM_X2_173 ⟨Nat.le_of_ble_eq_true rfl, Nat.le_of_ble_eq_true rfl⟩ hP (rcc_X2 C hP) (fun U hU hW => SF.go hZ va_S.rf hU hW (fun _ h => h)) hl.1 rfl rfl (Nat.le_of_ble_eq_true rfl) dX2_failureOfReading_50 ⟨Nat.le_of_ble_eq_true rfl, Nat.le_of_ble_eq_true rfl⟩ ?_
          refine lv_if_eq (tgt := 58) C.1 C.2.1 dX2_failureOfReading_53 (by decide) (fun c7 => ?_) (fun c7 => ?_)
          · rw [if_pos c7] at hf
            exact bX2_failureOfReading_L58 C hZ ih hP (lv_sub hl [0, 1, 3, 4] rfl) hf
          · rw [if_neg c7] at hf
            refine lv_iconst (v := 2) C.1 C.2.1 dX2_failureOfReading_56 (by decide) ?_
            refine lv_istore_n (lv' := [(2, .int 2), (0, .ref (ad 1)), (3, .int x3), (4, .int x4), (5, .int x5)]) C.1 C.2.1 dX2_failureOfReading_57 rfl hl (by decide) rfl (fun ls hl => ?_)
            exact bX2_failureOfReading_L58 C hZ ih hP (lv_sub hl [1, 0, 3, 4] rfl) hf
        · rw [if_neg c5] at hf
          refine lv_iconst (v := 1) C.1 C.2.1 dX2_failureOfReading_43 (by decide) ?_
          refine lv_istore_n (lv' := [(2, .int 1), (0, .ref (ad 1)), (3, .int x3), (4, .int x4), (5, .int x5)]) C.1 C.2.1 dX2_failureOfReading_44 rfl hl (by decide) rfl (fun ls hl => ?_)
          refine lv_goto (tgt := 58) C.1 C.2.1 dX2_failureOfReading_45 (by decide) ?_
          exact bX2_failureOfReading_L58 C hZ ih hP (lv_sub hl [1, 0, 3, 4] rfl) hf
set_option maxRecDepth 100000 in
set_option maxHeartbeats 4000000 in
theorem mX2_failureOfReading {r0 : Int32} {x1 : Int32} (hf : fX2_failureOfReading u x1 = some r0) : MRi l yX2_failureOfReading cX2_failureOfReading 6 (some .int) 2 49 [.ref (ad 1), .int x1] g (cW g ad u) r0 := by
  refine entR (by decide) (Nat.le_of_ble_eq_true rfl) ?_
  intro p e s m below meth c ls C hP hZ hl
  have hl : lv_has ls 6 [(0, .ref (ad 1)), (1, .int x1)] := hl
  rw [fX2_failureOfReading] at hf
  refine lv_iconst (v := 0) C.1 C.2.1 dX2_failureOfReading_0 (by decide) ?_
  refine lv_istore_n (lv' := [(2, .int 0), (0, .ref (ad 1)), (1, .int x1)]) C.1 C.2.1 dX2_failureOfReading_1 rfl hl (by decide) rfl (fun ls hl => ?_)
  refine lv_iload_n C.1 C.2.1 dX2_failureOfReading_2 rfl (lv_at hl 2 rfl) ?_
  refine lv_istore_n (lv' := [(3, .int x1), (2, .int 0), (0, .ref (ad 1)), (1, .int x1)]) C.1 C.2.1 dX2_failureOfReading_3 rfl hl (by decide) rfl (fun ls hl => ?_)
  refine lv_aload_n C.1 C.2.1 dX2_failureOfReading_4 rfl (lv_at hl 2 rfl) ?_
  refine gtc_X2_types C hP wF_X2_12 dX2_failureOfReading_5 ?_
  refine lv_iload_n C.1 C.2.1 dX2_failureOfReading_8 rfl (lv_at hl 0 rfl) ?_
  obtain ⟨v1, hv1, hf⟩ := Option.bind_eq_some_iff.mp hf
  refine cRi (As := [.int x1]) (rest := []) C (mX7_whatIsAbove hv1) vX7_whatIsAbove wM_X2_152 ⟨Nat.le_of_ble_eq_true rfl, Nat.le_of_ble_eq_true rfl⟩ hP (rcc_X7 C hP) (fun U hU hW => SF.go hZ va_S.rf hU hW (fun _ h => h)) hl.1 rfl rfl (Nat.le_of_ble_eq_true rfl) dX2_failureOfReading_9 ⟨Nat.le_of_ble_eq_true rfl, Nat.le_of_ble_eq_true rfl⟩ ?_
  refine lv_istore (lv' := [(4, .int v1), (3, .int x1), (2, .int 0), (0, .ref (ad 1)), (1, .int x1)]) C.1 C.2.1 dX2_failureOfReading_12 hl (by decide) rfl (fun ls hl => ?_)
  refine lv_iconst (v := 0) C.1 C.2.1 dX2_failureOfReading_14 (by decide) ?_
  refine lv_istore (lv' := [(5, .int 0), (4, .int v1), (3, .int x1), (2, .int 0), (0, .ref (ad 1)), (1, .int x1)]) C.1 C.2.1 dX2_failureOfReading_15 hl (by decide) rfl (fun ls hl => ?_)
  exact bX2_failureOfReading_L17 C hZ 5000 0 x1 v1 0 hP _ (lv_sub hl [4, 3, 2, 1, 0] rfl) hf
end
theorem vX2_failureOfReading : YV yX2_failureOfReading cX2_failureOfReading 6 (some .int) 1 := ⟨⟨wK_X2_failureOfReading, wZ_X2, by decide +kernel⟩, wI_X2_failureOfReading, wV_X2_failureOfReading⟩
def fX5_failureOfFound (u : ST) (x1 : Nat) (x2 : Int32) : Option Int32 :=
  (fX6_isMember u x2).bind fun v1 =>
  if v1 = 0 then
    some 3
  else
    (fX6_has u x2 4).bind fun v3 =>
    if v3 = 0 then
      (fX6_has u x2 1).bind fun v5 =>
      (pcI u x1 8).bind fun v6 =>
      if v5 = v6 then
        some 0
      else
        some 5
    else
      some 4
section
variable {p : Program} {l : Launch} {e : Env} {s : State} {m : MethodId} {args : Array Value} {below : List Frame} {meth : Method} {c : Code} {H : Heap} {locs : List Loc} {g : GP} {ls : Array Slot} {A : Nat → Prop} {ad : Nat → Nat} {u : ST}
set_option maxRecDepth 100000 in
set_option maxHeartbeats 4000000 in
theorem mX5_failureOfFound {r0 : Int32} {x1 : Nat} {x2 : Int32} (hf : fX5_failureOfFound u x1 x2 = some r0) : MRi l yX5_failureOfFound cX5_failureOfFound 3 (some .int) 1 22 [.ref (ad 5), .ref x1, .int x2] g (cW g ad u) r0 := by
  refine entR (by decide) (Nat.le_of_ble_eq_true rfl) ?_
  intro p e s m below meth c ls C hP hZ hl
  have hl : lv_has ls 3 [(0, .ref (ad 5)), (1, .ref x1), (2, .int x2)] := hl
  rw [fX5_failureOfFound] at hf
  refine lv_aload_n C.1 C.2.1 dX5_failureOfFound_0 rfl (lv_at hl 0 rfl) ?_
  refine gtc_X5_house C hP wF_X5_9 dX5_failureOfFound_1 ?_
  refine gtc_X2_members C hP wF_X5_72 dX5_failureOfFound_4 ?_
  refine lv_iload_n C.1 C.2.1 dX5_failureOfFound_7 rfl (lv_at hl 2 rfl) ?_
  obtain ⟨v1, hv1, hf⟩ := Option.bind_eq_some_iff.mp hf
  refine cRi (As := [.int x2]) (rest := []) C (mX6_isMember hv1) vX6_isMember wM_X5_132 ⟨Nat.le_of_ble_eq_true rfl, Nat.le_of_ble_eq_true rfl⟩ hP (rcc_X6 C hP) (fun U hU hW => SF.go hZ va_S.rf hU hW (fun _ h => h)) hl.1 rfl rfl (Nat.le_of_ble_eq_true rfl) dX5_failureOfFound_8 ⟨Nat.le_of_ble_eq_true rfl, Nat.le_of_ble_eq_true rfl⟩ ?_
  refine lv_if_ne (tgt := 16) C.1 C.2.1 dX5_failureOfFound_11 (by decide) (fun c2 => ?_) (fun c2 => ?_)
  · rw [if_neg c2] at hf
    refine lv_aload_n C.1 C.2.1 dX5_failureOfFound_16 rfl (lv_at hl 0 rfl) ?_
    refine gtc_X5_house C hP wF_X5_9 dX5_failureOfFound_17 ?_
    refine gtc_X2_members C hP wF_X5_72 dX5_failureOfFound_20 ?_
    refine lv_iload_n C.1 C.2.1 dX5_failureOfFound_23 rfl (lv_at hl 2 rfl) ?_
    refine lv_iconst (v := 4) C.1 C.2.1 dX5_failureOfFound_24 (by decide) ?_
    obtain ⟨v3, hv3, hf⟩ := Option.bind_eq_some_iff.mp hf
    refine cRi (As := [.int x2, .int 4]) (rest := []) C (mX6_has hv3) vX6_has wM_X5_135 ⟨Nat.le_of_ble_eq_true rfl, Nat.le_of_ble_eq_true rfl⟩ hP (rcc_X6 C hP) (fun U hU hW => SF.go hZ va_S.rf hU hW (fun _ h => h)) hl.1 rfl rfl (Nat.le_of_ble_eq_true rfl) dX5_failureOfFound_25 ⟨Nat.le_of_ble_eq_true rfl, Nat.le_of_ble_eq_true rfl⟩ ?_
    refine lv_if_eq (tgt := 33) C.1 C.2.1 dX5_failureOfFound_28 (by decide) (fun c4 => ?_) (fun c4 => ?_)
    · rw [if_pos c4] at hf
      refine lv_aload_n C.1 C.2.1 dX5_failureOfFound_33 rfl (lv_at hl 0 rfl) ?_
      refine gtc_X5_house C hP wF_X5_9 dX5_failureOfFound_34 ?_
      refine gtc_X2_members C hP wF_X5_72 dX5_failureOfFound_37 ?_
      refine lv_iload_n C.1 C.2.1 dX5_failureOfFound_40 rfl (lv_at hl 2 rfl) ?_
      refine lv_iconst (v := 1) C.1 C.2.1 dX5_failureOfFound_41 (by decide) ?_
      obtain ⟨v5, hv5, hf⟩ := Option.bind_eq_some_iff.mp hf
      refine cRi (As := [.int x2, .int 1]) (rest := []) C (mX6_has hv5) vX6_has wM_X5_135 ⟨Nat.le_of_ble_eq_true rfl, Nat.le_of_ble_eq_true rfl⟩ hP (rcc_X6 C hP) (fun U hU hW => SF.go hZ va_S.rf hU hW (fun _ h => h)) hl.1 rfl rfl (Nat.le_of_ble_eq_true rfl) dX5_failureOfFound_42 ⟨Nat.le_of_ble_eq_true rfl, Nat.le_of_ble_eq_true rfl⟩ ?_
      refine lv_aload_n C.1 C.2.1 dX5_failureOfFound_45 rfl (lv_at hl 1 rfl) ?_
      obtain ⟨v6, hv6, hf⟩ := Option.bind_eq_some_iff.mp hf
      refine gC_isStatic C hP hv6 wF_X5_86 dX5_failureOfFound_46 ?_
      refine lv_icmp_eq (tgt := 56) C.1 C.2.1 dX5_failureOfFound_49 (by decide) (fun c7 => ?_) (fun c7 => ?_)
      · rw [if_pos c7] at hf
        refine lv_iconst (v := 0) C.1 C.2.1 dX5_failureOfFound_56 (by decide) ?_
        exact endRi C hf dX5_failureOfFound_57
      · rw [if_neg c7] at hf
        refine lv_iconst (v := 5) C.1 C.2.1 dX5_failureOfFound_52 (by decide) ?_
        refine lv_goto (tgt := 57) C.1 C.2.1 dX5_failureOfFound_53 (by decide) ?_
        exact endRi C hf dX5_failureOfFound_57
    · rw [if_neg c4] at hf
      refine lv_iconst (v := 4) C.1 C.2.1 dX5_failureOfFound_31 (by decide) ?_
      exact endRi C hf dX5_failureOfFound_32
  · rw [if_pos c2] at hf
    refine lv_iconst (v := 3) C.1 C.2.1 dX5_failureOfFound_14 (by decide) ?_
    exact endRi C hf dX5_failureOfFound_15
end
theorem vX5_failureOfFound : YV yX5_failureOfFound cX5_failureOfFound 3 (some .int) 2 := ⟨⟨wK_X5_failureOfFound, wZ_X5, by decide +kernel⟩, wI_X5_failureOfFound, wV_X5_failureOfFound⟩
def fX5_failureOfObject (u : ST) (x1 : Nat) (x2 : Int32) : Option Int32 :=
  (fX2_failureOfReading u x2).bind fun v1 =>
  if v1 = 0 then
    (pcI u x1 1).bind fun v3 =>
    (fX7_isBelow u x2 v3).bind fun v4 =>
    if v4 = 0 then
      some 6
    else
      some 0
  else
    some v1
section
variable {p : Program} {l : Launch} {e : Env} {s : State} {m : MethodId} {args : Array Value} {below : List Frame} {meth : Method} {c : Code} {H : Heap} {locs : List Loc} {g : GP} {ls : Array Slot} {A : Nat → Prop} {ad : Nat → Nat} {u : ST}
set_option maxRecDepth 100000 in
set_option maxHeartbeats 4000000 in
theorem mX5_failureOfObject {r0 : Int32} {x1 : Nat} {x2 : Int32} (hf : fX5_failureOfObject u x1 x2 = some r0) : MRi l yX5_failureOfObject cX5_failureOfObject 4 (some .int) 3 74 [.ref (ad 5), .ref x1, .int x2] g (cW g ad u) r0 := by
  refine entR (by decide) (Nat.le_of_ble_eq_true rfl) ?_
  intro p e s m below meth c ls C hP hZ hl
  have hl : lv_has ls 4 [(0, .ref (ad 5)), (1, .ref x1), (2, .int x2)] := hl
  rw [fX5_failureOfObject] at hf
  refine lv_aload_n C.1 C.2.1 dX5_failureOfObject_0 rfl (lv_at hl 0 rfl) ?_
  refine gtc_X5_house C hP wF_X5_9 dX5_failureOfObject_1 ?_
  refine lv_iload_n C.1 C.2.1 dX5_failureOfObject_4 rfl (lv_at hl 2 rfl) ?_
  obtain ⟨v1, hv1, hf⟩ := Option.bind_eq_some_iff.mp hf
  refine cRi (As := [.int x2]) (rest := []) C (mX2_failureOfReading hv1) vX2_failureOfReading wM_X5_54 ⟨Nat.le_of_ble_eq_true rfl, Nat.le_of_ble_eq_true rfl⟩ hP (rcc_X2 C hP) (fun U hU hW => SF.go hZ va_S.rf hU hW (fun _ h => h)) hl.1 rfl rfl (Nat.le_of_ble_eq_true rfl) dX5_failureOfObject_5 ⟨Nat.le_of_ble_eq_true rfl, Nat.le_of_ble_eq_true rfl⟩ ?_
  refine lv_istore_n (lv' := [(3, .int v1), (0, .ref (ad 5)), (1, .ref x1), (2, .int x2)]) C.1 C.2.1 dX5_failureOfObject_8 rfl hl (by decide) rfl (fun ls hl => ?_)
  refine lv_iload_n C.1 C.2.1 dX5_failureOfObject_9 rfl (lv_at hl 0 rfl) ?_
  refine lv_if_eq (tgt := 15) C.1 C.2.1 dX5_failureOfObject_10 (by decide) (fun c2 => ?_) (fun c2 => ?_)
  · rw [if_pos c2] at hf
    refine lv_aload_n C.1 C.2.1 dX5_failureOfObject_15 rfl (lv_at hl 1 rfl) ?_
    refine gtc_X5_house C hP wF_X5_9 dX5_failureOfObject_16 ?_
    refine gtc_X2_types C hP wF_X5_19 dX5_failureOfObject_19 ?_
    refine lv_iload_n C.1 C.2.1 dX5_failureOfObject_22 rfl (lv_at hl 3 rfl) ?_
    refine lv_aload_n C.1 C.2.1 dX5_failureOfObject_23 rfl (lv_at hl 2 rfl) ?_
    obtain ⟨v3, hv3, hf⟩ := Option.bind_eq_some_iff.mp hf
    refine gC_t C hP hv3 wF_X5_25 dX5_failureOfObject_24 ?_
    obtain ⟨v4, hv4, hf⟩ := Option.bind_eq_some_iff.mp hf
    refine cRi (As := [.int x2, .int v3]) (rest := []) C (mX7_isBelow hv4) vX7_isBelow wM_X5_138 ⟨Nat.le_of_ble_eq_true rfl, Nat.le_of_ble_eq_true rfl⟩ hP (rcc_X7 C hP) (fun U hU hW => SF.go hZ va_S.rf hU hW (fun _ h => h)) hl.1 rfl rfl (Nat.le_of_ble_eq_true rfl) dX5_failureOfObject_27 ⟨Nat.le_of_ble_eq_true rfl, Nat.le_of_ble_eq_true rfl⟩ ?_
    refine lv_if_eq (tgt := 37) C.1 C.2.1 dX5_failureOfObject_30 (by decide) (fun c5 => ?_) (fun c5 => ?_)
    · rw [if_pos c5] at hf
      refine lv_bipush (v := 6) C.1 C.2.1 dX5_failureOfObject_37 (by decide) ?_
      exact endRi C hf dX5_failureOfObject_39
    · rw [if_neg c5] at hf
      refine lv_iconst (v := 0) C.1 C.2.1 dX5_failureOfObject_33 (by decide) ?_
      refine lv_goto (tgt := 39) C.1 C.2.1 dX5_failureOfObject_34 (by decide) ?_
      exact endRi C hf dX5_failureOfObject_39
  · rw [if_neg c2] at hf
    refine lv_iload_n C.1 C.2.1 dX5_failureOfObject_13 rfl (lv_at hl 0 rfl) ?_
    exact endRi C hf dX5_failureOfObject_14
end
theorem vX5_failureOfObject : YV yX5_failureOfObject cX5_failureOfObject 4 (some .int) 2 := ⟨⟨wK_X5_failureOfObject, wZ_X5, by decide +kernel⟩, wI_X5_failureOfObject, wV_X5_failureOfObject⟩
def fX3_widens (u : ST) (x0 : Int32) (x1 : Int32) : Option Int32 :=
  (fX3_isKind u x0).bind fun v1 =>
  if v1 = 0 then
    some 0
  else
    (fX3_isKind u x1).bind fun v3 =>
    if v3 = 0 then
      some 0
    else
      ck (vin x0 8) <|
      if (((wid (x0).toNatClampNeg) >>> (x1 &&& 31)) &&& 1) = 0 then
        some 0
      else
        some 1
section
variable {p : Program} {l : Launch} {e : Env} {s : State} {m : MethodId} {args : Array Value} {below : List Frame} {meth : Method} {c : Code} {H : Heap} {locs : List Loc} {g : GP} {ls : Array Slot} {A : Nat → Prop} {ad : Nat → Nat} {u : ST}
set_option maxRecDepth 100000 in
set_option maxHeartbeats 4000000 in
theorem mX3_widens {r0 : Int32} {x0 : Int32} {x1 : Int32} (hf : fX3_widens u x0 x1 = some r0) : MRi l yX3_widens cX3_widens 2 (some .boolean) 1 20 [.int x0, .int x1] g (cW g ad u) r0 := by
  refine entR (by decide) (Nat.le_of_ble_eq_true rfl) ?_
  intro p e s m below meth c ls C hP hZ hl
  have hl : lv_has ls 2 [(0, .int x0), (1, .int x1)] := hl
  rw [fX3_widens] at hf
  refine lv_iload_n C.1 C.2.1 dX3_widens_0 rfl (lv_at hl 0 rfl) ?_
  obtain ⟨v1, hv1, hf⟩ := Option.bind_eq_some_iff.mp hf
  refine cSi (As := [.int x0]) (rest := []) C (mX3_isKind hv1) vX3_isKind wM_X3_13 ⟨Nat.le_of_ble_eq_true rfl, Nat.le_of_ble_eq_true rfl⟩ hP (fun U hU hW => SF.go hZ va_S.rf hU hW (fun _ h => h)) hl.1 rfl rfl (Nat.le_of_ble_eq_true rfl) dX3_widens_1 ⟨Nat.le_of_ble_eq_true rfl, Nat.le_of_ble_eq_true rfl⟩ ?_
  refine lv_if_eq (tgt := 30) C.1 C.2.1 dX3_widens_4 (by decide) (fun c2 => ?_) (fun c2 => ?_)
  · rw [if_pos c2] at hf
    refine lv_iconst (v := 0) C.1 C.2.1 dX3_widens_30 (by decide) ?_
    exact endRz C rfl hf dX3_widens_31
  · rw [if_neg c2] at hf
    refine lv_iload_n C.1 C.2.1 dX3_widens_7 rfl (lv_at hl 1 rfl) ?_
    obtain ⟨v3, hv3, hf⟩ := Option.bind_eq_some_iff.mp hf
    refine cSi (As := [.int x1]) (rest := []) C (mX3_isKind hv3) vX3_isKind wM_X3_13 ⟨Nat.le_of_ble_eq_true rfl, Nat.le_of_ble_eq_true rfl⟩ hP (fun U hU hW => SF.go hZ va_S.rf hU hW (fun _ h => h)) hl.1 rfl rfl (Nat.le_of_ble_eq_true rfl) dX3_widens_8 ⟨Nat.le_of_ble_eq_true rfl, Nat.le_of_ble_eq_true rfl⟩ ?_
    refine lv_if_eq (tgt := 30) C.1 C.2.1 dX3_widens_11 (by decide) (fun c4 => ?_) (fun c4 => ?_)
    · rw [if_pos c4] at hf
      refine lv_iconst (v := 0) C.1 C.2.1 dX3_widens_30 (by decide) ?_
      exact endRz C rfl hf dX3_widens_31
    · rw [if_neg c4] at hf
      obtain ⟨hN, tw, hz1, hz2⟩ := id hZ
      refine va_gets C.1 C.2.1 hz1 va_S.rf C.2.2.2.1 (C.2.2.2.2.1 _ wF_X3_7) (fun _ h9 => h9) dX3_widens_14 ?_
      refine lv_iload_n C.1 C.2.1 dX3_widens_17 rfl (lv_at hl 0 rfl) ?_
      obtain ⟨hi8, hf⟩ := ck_some hf
      refine va_ti C.1 C.2.1 hz2 va_S.rf (vin_in hi8) rfl dX3_widens_18 ?_
      refine lv_iload_n C.1 C.2.1 dX3_widens_19 rfl (lv_at hl 1 rfl) ?_
      refine lv_ishr C.1 C.2.1 dX3_widens_20 ?_
      refine lv_iconst (v := 1) C.1 C.2.1 dX3_widens_21 (by decide) ?_
      refine lv_iand C.1 C.2.1 dX3_widens_22 ?_
      refine lv_if_eq (tgt := 30) C.1 C.2.1 dX3_widens_23 (by decide) (fun c5 => ?_) (fun c5 => ?_)
      · rw [if_pos c5] at hf
        refine lv_iconst (v := 0) C.1 C.2.1 dX3_widens_30 (by decide) ?_
        exact endRz C rfl hf dX3_widens_31
      · rw [if_neg c5] at hf
        refine lv_iconst (v := 1) C.1 C.2.1 dX3_widens_26 (by decide) ?_
        refine lv_goto (tgt := 31) C.1 C.2.1 dX3_widens_27 (by decide) ?_
        exact endRz C rfl hf dX3_widens_31
end
theorem vX3_widens : YS yX3_widens cX3_widens 2 (some .boolean) 2 := ⟨⟨wK_X3_widens, wZ_X3, by decide +kernel⟩, wS_X3_widens⟩
def fX5_failureOfGet_L55 (u : ST) (x1 : Nat) (x4 : Int32) (x5 : Int32) : Option (Int32 × ST) :=
  if x5 = 0 then
    (rdI u 19 60 x4).bind fun v8 =>
    (pcI u x1 7).bind fun v9 =>
    (fX3_widens u v8 v9).bind fun v10 =>
    if v10 = 0 then
      some (7, u)
    else
      (pcI u x1 7).bind fun v12 =>
      (rdL u 21 60 x4).bind fun v13 =>
      (fX3_comesOut u v12 v13).bind fun v14 =>
      (some (uL u 501 v14)).bind fun u15 =>
      some (0, u15)
  else
    some (x5, u)
def fX5_failureOfGet (u : ST) (x1 : Nat) (x2 : Int32) : Option (Int32 × ST) :=
  (pcI u x1 1).bind fun v1 =>
  (pcI u x1 2).bind fun v2 =>
  b2 (fX2_lookForField u v1 v2 0) fun v4 u3 =>
  (fX5_failureOfFound u3 x1 v4).bind fun v5 =>
  if v5 = 0 then
    (pcI u3 x1 8).bind fun v16 =>
    if v16 = 0 then
      (fX5_failureOfObject u3 x1 x2).bind fun v18 =>
      fX5_failureOfGet_L55 u3 x1 v4 v18
    else
      fX5_failureOfGet_L55 u3 x1 v4 v5
  else
    fX5_failureOfGet_L55 u3 x1 v4 v5
section
variable {p : Program} {l : Launch} {e : Env} {s : State} {m : MethodId} {args : Array Value} {below : List Frame} {meth : Method} {c : Code} {H : Heap} {locs : List Loc} {g : GP} {ls : Array Slot} {A : Nat → Prop} {ad : Nat → Nat} {u : ST}
set_option maxRecDepth 100000 in
set_option maxHeartbeats 4000000 in
theorem bX5_failureOfGet_L55 {r0 : Int32} {u0 : ST} {x1 : Nat} {x4 : Int32} {x5 : Int32} (C : Cx p s m args meth c cX5_failureOfGet 6 RX5 (some .int) g) (hA : ∀ q, s.heap.size ≤ q → A q) (hZ : SF A s) (hP : va_P g.1 vwCl (cW g ad u) H) (hD : va_D A (cW g ad u)) (hS : va_S A s.heap H locs) (hl : lv_has ls 6 [(0, .ref (ad 5)), (1, .ref x1), (3, .ref (ad 3)), (4, .int x4), (5, .int x5)]) (hf : fX5_failureOfGet_L55 u x1 x4 x5 = some (r0, u0)) : W p l e (rmW 17 407 0 0) s m args below meth c H locs 0 0 (MQ below (va_Qi (fun r v => r = r0 ∧ v = u0) (BW g A (cW g ad)) A) args s 0 0 A) (F0 m 55 ls []) := by
  rw [fX5_failureOfGet_L55] at hf
  refine lv_iload C.1 C.2.1 dX5_failureOfGet_55 (lv_at hl 4 rfl) ?_
  refine lv_if_eq (tgt := 63) C.1 C.2.1 dX5_failureOfGet_57 (by decide) (fun c7 => ?_) (fun c7 => ?_)
  · rw [if_pos c7] at hf
    refine lv_aload_n C.1 C.2.1 dX5_failureOfGet_63 rfl (lv_at hl 2 rfl) ?_
    refine gtc_X6_first C hP wF_X5_92 dX5_failureOfGet_64 ?_
    refine lv_iload C.1 C.2.1 dX5_failureOfGet_67 (lv_at hl 3 rfl) ?_
    obtain ⟨v8, hv8, hf⟩ := Option.bind_eq_some_iff.mp hf
    refine ldc_19 C hP hv8 dX5_failureOfGet_69 ?_
    refine lv_aload_n C.1 C.2.1 dX5_failureOfGet_70 rfl (lv_at hl 1 rfl) ?_
    obtain ⟨v9, hv9, hf⟩ := Option.bind_eq_some_iff.mp hf
    refine gC_kind C hP hv9 wF_X5_97 dX5_failureOfGet_71 ?_
    obtain ⟨v10, hv10, hf⟩ := Option.bind_eq_some_iff.mp hf
    refine cSi (As := [.int v8, .int v9]) (rest := []) C (mX3_widens hv10) vX3_widens wM_X5_100 ⟨Nat.le_of_ble_eq_true rfl, Nat.le_of_ble_eq_true rfl⟩ hP (fun U hU hW => SF.go hZ hS hU hW (fun _ h => h.elim)) hl.1 rfl rfl (Nat.le_of_ble_eq_true rfl) dX5_failureOfGet_74 ⟨Nat.le_of_ble_eq_true rfl, Nat.le_of_ble_eq_true rfl⟩ ?_
    refine lv_if_ne (tgt := 83) C.1 C.2.1 dX5_failureOfGet_77 (by decide) (fun c11 => ?_) (fun c11 => ?_)
    · rw [if_neg c11] at hf
      refine lv_aload_n C.1 C.2.1 dX5_failureOfGet_83 rfl (lv_at hl 0 rfl) ?_
      refine lv_aload_n C.1 C.2.1 dX5_failureOfGet_84 rfl (lv_at hl 1 rfl) ?_
      obtain ⟨v12, hv12, hf⟩ := Option.bind_eq_some_iff.mp hf
      refine gC_kind C hP hv12 wF_X5_97 dX5_failureOfGet_85 ?_
      refine lv_aload_n C.1 C.2.1 dX5_failureOfGet_88 rfl (lv_at hl 2 rfl) ?_
      refine gtc_X6_value C hP wF_X5_105 dX5_failureOfGet_89 ?_
      refine lv_iload C.1 C.2.1 dX5_failureOfGet_92 (lv_at hl 3 rfl) ?_
      obtain ⟨v13, hv13, hf⟩ := Option.bind_eq_some_iff.mp hf
      refine ldc_21 C hP hv13 dX5_failureOfGet_94 ?_
      obtain ⟨v14, hv14, hf⟩ := Option.bind_eq_some_iff.mp hf
      refine cSl (As := [.int v12, .long v13]) (rest := [.ref (ad 5)]) C (mX3_comesOut hv14) vX3_comesOut wM_X5_109 ⟨Nat.le_of_ble_eq_true rfl, Nat.le_of_ble_eq_true rfl⟩ hP (fun U hU hW => SF.go hZ hS hU hW (fun _ h => h.elim)) hl.1 rfl rfl (Nat.le_of_ble_eq_true rfl) dX5_failureOfGet_95 ⟨Nat.le_of_ble_eq_true rfl, Nat.le_of_ble_eq_true rfl⟩ ?_
      obtain ⟨u15, hu15, hf⟩ := Option.bind_eq_some_iff.mp hf
      refine ptc_X5_found C hP hD hS wF_X5_15 dX5_failureOfGet_98 (fun H locs hP hD hS => ?_)
      rw [Option.some.inj hu15] at hP hD
      refine lv_iconst (v := 0) C.1 C.2.1 dX5_failureOfGet_101 (by decide) ?_
      exact endWi C hP hD hS (Nat.le_refl _) (Nat.le_refl _) hf dX5_failureOfGet_102
    · rw [if_pos c11] at hf
      refine lv_bipush (v := 7) C.1 C.2.1 dX5_failureOfGet_80 (by decide) ?_
      exact endWi C hP hD hS (Nat.le_refl _) (Nat.le_refl _) hf dX5_failureOfGet_82
  · rw [if_neg c7] at hf
    refine lv_iload C.1 C.2.1 dX5_failureOfGet_60 (lv_at hl 4 rfl) ?_
    exact endWi C hP hD hS (Nat.le_refl _) (Nat.le_refl _) hf dX5_failureOfGet_62
set_option maxRecDepth 100000 in
set_option maxHeartbeats 4000000 in
theorem mX5_failureOfGet {r0 : Int32} {u0 : ST} {x1 : Nat} {x2 : Int32} (hf : fX5_failureOfGet u x1 x2 = some (r0, u0)) : MWi l yX5_failureOfGet cX5_failureOfGet 6 (some .int) 17 407 0 0 [.ref (ad 5), .ref x1, .int x2] g (cW g ad) u r0 u0 := by
  refine entW (Qc := fun A => va_Qi (fun r v => r = r0 ∧ v = u0) (BW g A (cW g ad)) A) (by decide) (Nat.le_of_ble_eq_true rfl) ?_
  intro p e s m below meth c ls A C hP hD hS hA hZ hl
  have hl : lv_has ls 6 [(0, .ref (ad 5)), (1, .ref x1), (2, .int x2)] := hl
  rw [fX5_failureOfGet] at hf
  refine lv_aload_n C.1 C.2.1 dX5_failureOfGet_0 rfl (lv_at hl 0 rfl) ?_
  refine gtc_X5_house C hP wF_X5_9 dX5_failureOfGet_1 ?_
  refine gtc_X2_members C hP wF_X5_72 dX5_failureOfGet_4 ?_
  refine lv_astore_n (lv' := [(3, .ref (ad 3)), (0, .ref (ad 5)), (1, .ref x1), (2, .int x2)]) C.1 C.2.1 dX5_failureOfGet_7 rfl hl (by decide) rfl (fun ls hl => ?_)
  refine lv_aload_n C.1 C.2.1 dX5_failureOfGet_8 rfl (lv_at hl 1 rfl) ?_
  refine gtc_X5_house C hP wF_X5_9 dX5_failureOfGet_9 ?_
  refine lv_aload_n C.1 C.2.1 dX5_failureOfGet_12 rfl (lv_at hl 2 rfl) ?_
  obtain ⟨v1, hv1, hf⟩ := Option.bind_eq_some_iff.mp hf
  refine gC_t C hP hv1 wF_X5_25 dX5_failureOfGet_13 ?_
  refine lv_aload_n C.1 C.2.1 dX5_failureOfGet_16 rfl (lv_at hl 2 rfl) ?_
  obtain ⟨v2, hv2, hf⟩ := Option.bind_eq_some_iff.mp hf
  refine gC_n C hP hv2 wF_X5_76 dX5_failureOfGet_17 ?_
  refine lv_iconst (v := 0) C.1 C.2.1 dX5_failureOfGet_20 (by decide) ?_
  obtain ⟨v4, u3, hu3, hf⟩ := b2_some hf
  refine cWi (As := [.int v1, .int v2, .int 0]) (rest := []) (mc := 0) (ms := 0) C (mX2_lookForField hu3) vX2_lookForField wM_X5_79 ⟨Nat.le_of_ble_eq_true rfl, Nat.le_of_ble_eq_true rfl⟩ hP hD hS hA hZ (rcc_X2 C hP) hl.1 rfl rfl (Nat.le_of_ble_eq_true rfl) dX5_failureOfGet_21 ⟨Nat.le_of_ble_eq_true rfl, Nat.le_of_ble_eq_true rfl⟩ (fun H locs hP hD hS => ?_)
  refine lv_istore (lv' := [(4, .int v4), (3, .ref (ad 3)), (0, .ref (ad 5)), (1, .ref x1), (2, .int x2)]) C.1 C.2.1 dX5_failureOfGet_24 hl (by decide) rfl (fun ls hl => ?_)
  refine lv_aload_n C.1 C.2.1 dX5_failureOfGet_26 rfl (lv_at hl 2 rfl) ?_
  refine lv_aload_n C.1 C.2.1 dX5_failureOfGet_27 rfl (lv_at hl 3 rfl) ?_
  refine lv_iload C.1 C.2.1 dX5_failureOfGet_28 (lv_at hl 0 rfl) ?_
  obtain ⟨v5, hv5, hf⟩ := Option.bind_eq_some_iff.mp hf
  refine cRi (As := [.ref x1, .int v4]) (rest := []) C (mX5_failureOfFound hv5) vX5_failureOfFound wM_X5_83 ⟨Nat.le_of_ble_eq_true rfl, Nat.le_of_ble_eq_true rfl⟩ hP (rcc_X5 C hP) (fun U hU hW => SF.go hZ hS hU hW (fun _ h => h.elim)) hl.1 rfl rfl (Nat.le_of_ble_eq_true rfl) dX5_failureOfGet_30 ⟨Nat.le_of_ble_eq_true rfl, Nat.le_of_ble_eq_true rfl⟩ ?_
  refine lv_istore (lv' := [(5, .int v5), (4, .int v4), (3, .ref (ad 3)), (0, .ref (ad 5)), (1, .ref x1), (2, .int x2)]) C.1 C.2.1 dX5_failureOfGet_33 hl (by decide) rfl (fun ls hl => ?_)
  refine lv_iload C.1 C.2.1 dX5_failureOfGet_35 (lv_at hl 0 rfl) ?_
  refine lv_if_ne (tgt := 55) C.1 C.2.1 dX5_failureOfGet_37 (by decide) (fun c6 => ?_) (fun c6 => ?_)
  · rw [if_neg c6] at hf
    exact bX5_failureOfGet_L55 C hA hZ hP hD hS (lv_sub hl [3, 4, 2, 1, 0] rfl) hf
  · rw [if_pos c6] at hf
    refine lv_aload_n C.1 C.2.1 dX5_failureOfGet_40 rfl (lv_at hl 4 rfl) ?_
    obtain ⟨v16, hv16, hf⟩ := Option.bind_eq_some_iff.mp hf
    refine gC_isStatic C hP hv16 wF_X5_86 dX5_failureOfGet_41 ?_
    refine lv_if_ne (tgt := 55) C.1 C.2.1 dX5_failureOfGet_44 (by decide) (fun c17 => ?_) (fun c17 => ?_)
    · rw [if_neg c17] at hf
      exact bX5_failureOfGet_L55 C hA hZ hP hD hS (lv_sub hl [3, 4, 2, 1, 0] rfl) hf
    · rw [if_pos c17] at hf
      refine lv_aload_n C.1 C.2.1 dX5_failureOfGet_47 rfl (lv_at hl 3 rfl) ?_
      refine lv_aload_n C.1 C.2.1 dX5_failureOfGet_48 rfl (lv_at hl 4 rfl) ?_
      refine lv_iload_n C.1 C.2.1 dX5_failureOfGet_49 rfl (lv_at hl 5 rfl) ?_
      obtain ⟨v18, hv18, hf⟩ := Option.bind_eq_some_iff.mp hf
      refine cRi (As := [.ref x1, .int x2]) (rest := []) C (mX5_failureOfObject hv18) vX5_failureOfObject wM_X5_89 ⟨Nat.le_of_ble_eq_true rfl, Nat.le_of_ble_eq_true rfl⟩ hP (rcc_X5 C hP) (fun U hU hW => SF.go hZ hS hU hW (fun _ h => h.elim)) hl.1 rfl rfl (Nat.le_of_ble_eq_true rfl) dX5_failureOfGet_50 ⟨Nat.le_of_ble_eq_true rfl, Nat.le_of_ble_eq_true rfl⟩ ?_
      refine lv_istore (lv' := [(5, .int v18), (4, .int v4), (3, .ref (ad 3)), (0, .ref (ad 5)), (1, .ref x1), (2, .int x2)]) C.1 C.2.1 dX5_failureOfGet_53 hl (by decide) rfl (fun ls hl => ?_)
      exact bX5_failureOfGet_L55 C hA hZ hP hD hS (lv_sub hl [3, 4, 2, 1, 0] rfl) hf
end
theorem vX5_failureOfGet : YV yX5_failureOfGet cX5_failureOfGet 6 (some .int) 2 := ⟨⟨wK_X5_failureOfGet, wZ_X5, by decide +kernel⟩, wI_X5_failureOfGet, wV_X5_failureOfGet⟩
def fX2_lookForMethod (u : ST) (x1 : Int32) (x2 : Int32) (x3 : Int32) (x4 : Int32) : Option (Int32 × ST) :=
  (fX7_orderFrom u x1 0).bind fun u1 =>
  (fX2_firstMethod u1 x2 x3 x4).bind fun v2 =>
  some (v2, u1)
section
variable {p : Program} {l : Launch} {e : Env} {s : State} {m : MethodId} {args : Array Value} {below : List Frame} {meth : Method} {c : Code} {H : Heap} {locs : List Loc} {g : GP} {ls : Array Slot} {A : Nat → Prop} {ad : Nat → Nat} {u : ST}
set_option maxRecDepth 100000 in
set_option maxHeartbeats 4000000 in
theorem mX2_lookForMethod {r0 : Int32} {u0 : ST} {x1 : Int32} {x2 : Int32} {x3 : Int32} {x4 : Int32} (hf : fX2_lookForMethod u x1 x2 x3 x4 = some (r0, u0)) : MWi l yX2_lookForMethod cX2_lookForMethod 5 (some .int) 16 382 0 0 [.ref (ad 1), .int x1, .int x2, .int x3, .int x4] g (cW g ad) u r0 u0 := by
  refine entW (Qc := fun A => va_Qi (fun r v => r = r0 ∧ v = u0) (BW g A (cW g ad)) A) (by decide) (Nat.le_of_ble_eq_true rfl) ?_
  intro p e s m below meth c ls A C hP hD hS hA hZ hl
  have hl : lv_has ls 5 [(0, .ref (ad 1)), (1, .int x1), (2, .int x2), (3, .int x3), (4, .int x4)] := hl
  rw [fX2_lookForMethod] at hf
  refine lv_aload_n C.1 C.2.1 dX2_lookForMethod_0 rfl (lv_at hl 0 rfl) ?_
  refine gtc_X2_types C hP wF_X2_12 dX2_lookForMethod_1 ?_
  refine lv_iload_n C.1 C.2.1 dX2_lookForMethod_4 rfl (lv_at hl 1 rfl) ?_
  refine lv_iconst (v := 0) C.1 C.2.1 dX2_lookForMethod_5 (by decide) ?_
  obtain ⟨u1, hu1, hf⟩ := Option.bind_eq_some_iff.mp hf
  refine cWv (As := [.int x1, .int 0]) (rest := []) (mc := 0) (ms := 0) C (mX7_orderFrom hu1) vX7_orderFrom wM_X2_132 ⟨Nat.le_of_ble_eq_true rfl, Nat.le_of_ble_eq_true rfl⟩ hP hD hS hA hZ (rcc_X7 C hP) hl.1 rfl rfl (Nat.le_of_ble_eq_true rfl) dX2_lookForMethod_6 ⟨Nat.le_of_ble_eq_true rfl, Nat.le_of_ble_eq_true rfl⟩ (fun H locs hP hD hS => ?_)
  refine lv_aload_n C.1 C.2.1 dX2_lookForMethod_9 rfl (lv_at hl 0 rfl) ?_
  refine lv_iload_n C.1 C.2.1 dX2_lookForMethod_10 rfl (lv_at hl 2 rfl) ?_
  refine lv_iload_n C.1 C.2.1 dX2_lookForMethod_11 rfl (lv_at hl 3 rfl) ?_
  refine lv_iload C.1 C.2.1 dX2_lookForMethod_12 (lv_at hl 4 rfl) ?_
  obtain ⟨v2, hv2, hf⟩ := Option.bind_eq_some_iff.mp hf
  refine cRi (As := [.int x2, .int x3, .int x4]) (rest := []) C (mX2_firstMethod hv2) vX2_firstMethod wM_X2_145 ⟨Nat.le_of_ble_eq_true rfl, Nat.le_of_ble_eq_true rfl⟩ hP (rcc_X2 C hP) (fun U hU hW => SF.go hZ hS hU hW (fun _ h => h.elim)) hl.1 rfl rfl (Nat.le_of_ble_eq_true rfl) dX2_lookForMethod_14 ⟨Nat.le_of_ble_eq_true rfl, Nat.le_of_ble_eq_true rfl⟩ ?_
  exact endWi C hP hD hS (Nat.le_refl _) (Nat.le_refl _) hf dX2_lookForMethod_17
end
theorem vX2_lookForMethod : YV yX2_lookForMethod cX2_lookForMethod 5 (some .int) 4 := ⟨⟨wK_X2_lookForMethod, wZ_X2, by decide +kernel⟩, wI_X2_lookForMethod, wV_X2_lookForMethod⟩
def fX7_facesOver (u : ST) (x1 : Int32) : Option Int32 :=
  if x1 < 0 then
    some 0
  else
    if (sI u 200) ≤ x1 then
      some 0
    else
      (rdI u 13 12 x1).bind fun v3 =>
      some (v3 &&& ((sI u 207) ^^^ (-1)))
section
variable {p : Program} {l : Launch} {e : Env} {s : State} {m : MethodId} {args : Array Value} {below : List Frame} {meth : Method} {c : Code} {H : Heap} {locs : List Loc} {g : GP} {ls : Array Slot} {A : Nat → Prop} {ad : Nat → Nat} {u : ST}
set_option maxRecDepth 100000 in
set_option maxHeartbeats 4000000 in
theorem mX7_facesOver {r0 : Int32} {x1 : Int32} (hf : fX7_facesOver u x1 = some r0) : MRi l yX7_facesOver cX7_facesOver 2 (some .int) 0 0 [.ref (ad 2), .int x1] g (cW g ad u) r0 := by
  refine entR (by decide) (Nat.le_of_ble_eq_true rfl) ?_
  intro p e s m below meth c ls C hP hZ hl
  have hl : lv_has ls 2 [(0, .ref (ad 2)), (1, .int x1)] := hl
  rw [fX7_facesOver] at hf
  refine lv_iload_n C.1 C.2.1 dX7_facesOver_0 rfl (lv_at hl 1 rfl) ?_
  refine lv_if_lt (tgt := 28) C.1 C.2.1 dX7_facesOver_1 (by decide) (fun c1 => ?_) (fun c1 => ?_)
  · rw [if_pos c1] at hf
    refine lv_iconst (v := 0) C.1 C.2.1 dX7_facesOver_28 (by decide) ?_
    exact endRi C hf dX7_facesOver_29
  · rw [if_neg c1] at hf
    refine lv_iload_n C.1 C.2.1 dX7_facesOver_4 rfl (lv_at hl 1 rfl) ?_
    refine lv_aload_n C.1 C.2.1 dX7_facesOver_5 rfl (lv_at hl 0 rfl) ?_
    refine gtc_X7_size C hP wF_X7_34 dX7_facesOver_6 ?_
    refine lv_icmp_ge (tgt := 28) C.1 C.2.1 dX7_facesOver_9 (by decide) (fun c2 => ?_) (fun c2 => ?_)
    · rw [if_pos c2] at hf
      refine lv_iconst (v := 0) C.1 C.2.1 dX7_facesOver_28 (by decide) ?_
      exact endRi C hf dX7_facesOver_29
    · rw [if_neg c2] at hf
      refine lv_aload_n C.1 C.2.1 dX7_facesOver_12 rfl (lv_at hl 0 rfl) ?_
      refine gtc_X7_over C hP wF_X7_28 dX7_facesOver_13 ?_
      refine lv_iload_n C.1 C.2.1 dX7_facesOver_16 rfl (lv_at hl 1 rfl) ?_
      obtain ⟨v3, hv3, hf⟩ := Option.bind_eq_some_iff.mp hf
      refine ldc_13 C hP hv3 dX7_facesOver_17 ?_
      refine lv_aload_n C.1 C.2.1 dX7_facesOver_18 rfl (lv_at hl 0 rfl) ?_
      refine gtc_X7_classes C hP wF_X7_38 dX7_facesOver_19 ?_
      refine lv_iconst (v := -1) C.1 C.2.1 dX7_facesOver_22 (by decide) ?_
      refine lv_ixor C.1 C.2.1 dX7_facesOver_23 ?_
      refine lv_iand C.1 C.2.1 dX7_facesOver_24 ?_
      refine lv_goto (tgt := 29) C.1 C.2.1 dX7_facesOver_25 (by decide) ?_
      exact endRi C hf dX7_facesOver_29
end
theorem vX7_facesOver : YV yX7_facesOver cX7_facesOver 2 (some .int) 1 := ⟨⟨wK_X7_facesOver, wZ_X7, by decide +kernel⟩, wI_X7_facesOver, wV_X7_facesOver⟩
def fX2_isLowest_L40 (u : ST) (K2 : Int32 → Int32 → Int32 → Option Int32) (x1 : Int32) (x2 : Int32) (x3 : Int32) : Option Int32 :=
  K2 x1 x2 (x3 + 1)
def fX2_isLowest_L2 (u : ST) : Nat → Int32 → Int32 → Int32 → Option Int32
  | 0, _, _, _ => none
  | n + 1, x1, x2, x3 =>
    if (sI u 200) ≤ x3 then
      some 1
    else
      if x3 = x1 then
        fX2_isLowest_L40 u (fX2_isLowest_L2 u n) x1 x2 x3
      else
        if ((x2 >>> (x3 &&& 31)) &&& 1) = 0 then
          fX2_isLowest_L40 u (fX2_isLowest_L2 u n) x1 x2 x3
        else
          (fX7_isBelow u x3 x1).bind fun v4 =>
          if v4 = 0 then
            fX2_isLowest_L40 u (fX2_isLowest_L2 u n) x1 x2 x3
          else
            some 0
def fX2_isLowest (u : ST) (x1 : Int32) (x2 : Int32) : Option Int32 :=
  fX2_isLowest_L2 u 5000 x1 x2 0
section
variable {p : Program} {l : Launch} {e : Env} {s : State} {m : MethodId} {args : Array Value} {below : List Frame} {meth : Method} {c : Code} {H : Heap} {locs : List Loc} {g : GP} {ls : Array Slot} {A : Nat → Prop} {ad : Nat → Nat} {u : ST}
set_option maxRecDepth 100000 in
set_option maxHeartbeats 4000000 in
theorem bX2_isLowest_L40 {r0 : Int32} {K2 : Int32 → Int32 → Int32 → Option Int32} {x1 : Int32} {x2 : Int32} {x3 : Int32} (C : Cx p s m args meth c cX2_isLowest 4 RX2 (some .boolean) g) (hZ : SF (fun _ => False) s) (hK2 : ∀ (x1 : Int32) (x2 : Int32) (x3 : Int32), ∀ (ls : Array Slot), lv_has ls 4 [(0, .ref (ad 1)), (1, .int x1), (2, .int x2), (3, .int x3)] → K2 x1 x2 x3 = some r0 → W p l e (rmR 1 22) s m args below meth c s.heap [] 0 0 (MQ below (vp_Si (fun r => r = r0)) args s 0 0 (fun _ => False)) (F0 m 2 ls [])) (hP : va_P g.1 vwCl (cW g ad u) s.heap) (hl : lv_has ls 4 [(0, .ref (ad 1)), (1, .int x1), (2, .int x2), (3, .int x3)]) (hf : fX2_isLowest_L40 u K2 x1 x2 x3 = some r0) : W p l e (rmR 1 22) s m args below meth c s.heap [] 0 0 (MQ below (vp_Si (fun r => r = r0)) args s 0 0 (fun _ => False)) (F0 m 40 ls []) := by
  rw [fX2_isLowest_L40] at hf
  refine lv_iinc (v := (x3 + 1)) (lv' := [(3, .int (x3 + 1)), (0, .ref (ad 1)), (1, .int x1), (2, .int x2)]) C.1 C.2.1 dX2_isLowest_40 hl (k := 3) rfl rfl (by decide) rfl (fun ls hl => ?_)
  refine lv_goto (tgt := 2) C.1 C.2.1 dX2_isLowest_43 (by decide) ?_
  exact hK2 x1 x2 (x3 + 1) _ (lv_sub hl [1, 2, 3, 0] rfl) hf
set_option maxRecDepth 100000 in
set_option maxHeartbeats 4000000 in
theorem bX2_isLowest_L2 {r0 : Int32} (C : Cx p s m args meth c cX2_isLowest 4 RX2 (some .boolean) g) (hZ : SF (fun _ => False) s) (n : Nat) : ∀ (x1 : Int32) (x2 : Int32) (x3 : Int32), va_P g.1 vwCl (cW g ad u) s.heap → ∀ (ls : Array Slot), lv_has ls 4 [(0, .ref (ad 1)), (1, .int x1), (2, .int x2), (3, .int x3)] → fX2_isLowest_L2 u n x1 x2 x3 = some r0 → W p l e (rmR 1 22) s m args below meth c s.heap [] 0 0 (MQ below (vp_Si (fun r => r = r0)) args s 0 0 (fun _ => False)) (F0 m 2 ls []) := by
  induction n with
  | zero =>
    intro x1 x2 x3 hP ls hl hf
    exact absurd hf (by simp [fX2_isLowest_L2])
  | succ n ih0 =>
    intro x1 x2 x3 hP ls hl hf
    have ih := fun (x1 : Int32) (x2 : Int32) (x3 : Int32) => ih0 x1 x2 x3 hP
    rw [fX2_isLowest_L2] at hf
    refine lv_iload_n C.1 C.2.1 dX2_isLowest_2 rfl (lv_at hl 3 rfl) ?_
    refine lv_aload_n C.1 C.2.1 dX2_isLowest_3 rfl (lv_at hl 0 rfl) ?_
    refine gtc_X2_types C hP wF_X2_12 dX2_isLowest_4 ?_
    refine gtc_X7_size C hP wF_X2_161 dX2_isLowest_7 ?_
    refine lv_icmp_ge (tgt := 46) C.1 C.2.1 dX2_isLowest_10 (by decide) (fun c1 => ?_) (fun c1 => ?_)
    · rw [if_pos c1] at hf
      refine lv_iconst (v := 1) C.1 C.2.1 dX2_isLowest_46 (by decide) ?_
      exact endRz C rfl hf dX2_isLowest_47
    · rw [if_neg c1] at hf
      refine lv_iload_n C.1 C.2.1 dX2_isLowest_13 rfl (lv_at hl 3 rfl) ?_
      refine lv_iload_n C.1 C.2.1 dX2_isLowest_14 rfl (lv_at hl 1 rfl) ?_
      refine lv_icmp_eq (tgt := 40) C.1 C.2.1 dX2_isLowest_15 (by decide) (fun c2 => ?_) (fun c2 => ?_)
      · rw [if_pos c2] at hf
        exact bX2_isLowest_L40 C hZ ih hP (lv_sub hl [0, 1, 2, 3] rfl) hf
      · rw [if_neg c2] at hf
        refine lv_iload_n C.1 C.2.1 dX2_isLowest_18 rfl (lv_at hl 2 rfl) ?_
        refine lv_iload_n C.1 C.2.1 dX2_isLowest_19 rfl (lv_at hl 3 rfl) ?_
        refine lv_ishr C.1 C.2.1 dX2_isLowest_20 ?_
        refine lv_iconst (v := 1) C.1 C.2.1 dX2_isLowest_21 (by decide) ?_
        refine lv_iand C.1 C.2.1 dX2_isLowest_22 ?_
        refine lv_if_eq (tgt := 40) C.1 C.2.1 dX2_isLowest_23 (by decide) (fun c3 => ?_) (fun c3 => ?_)
        · rw [if_pos c3] at hf
          exact bX2_isLowest_L40 C hZ ih hP (lv_sub hl [0, 1, 2, 3] rfl) hf
        · rw [if_neg c3] at hf
          refine lv_aload_n C.1 C.2.1 dX2_isLowest_26 rfl (lv_at hl 0 rfl) ?_
          refine gtc_X2_types C hP wF_X2_12 dX2_isLowest_27 ?_
          refine lv_iload_n C.1 C.2.1 dX2_isLowest_30 rfl (lv_at hl 3 rfl) ?_
          refine lv_iload_n C.1 C.2.1 dX2_isLowest_31 rfl (lv_at hl 1 rfl) ?_
          obtain ⟨v4, hv4, hf⟩ := Option.bind_eq_some_iff.mp hf
          refine cRi (As := [.int x3, .int x1]) (rest := []) C (mX7_isBelow hv4) vX7_isBelow wM_X2_167 ⟨Nat.le_of_ble_eq_true rfl, Nat.le_of_ble_eq_true rfl⟩ hP (rcc_X7 C hP) (fun U hU hW => SF.go hZ va_S.rf hU hW (fun _ h => h)) hl.1 rfl rfl (Nat.le_of_ble_eq_true rfl) dX2_isLowest_32 ⟨Nat.le_of_ble_eq_true rfl, Nat.le_of_ble_eq_true rfl⟩ ?_
          refine lv_if_eq (tgt := 40) C.1 C.2.1 dX2_isLowest_35 (by decide) (fun c5 => ?_) (fun c5 => ?_)
          · rw [if_pos c5] at hf
            exact bX2_isLowest_L40 C hZ ih hP (lv_sub hl [0, 1, 2, 3] rfl) hf
          · rw [if_neg c5] at hf
            refine lv_iconst (v := 0) C.1 C.2.1 dX2_isLowest_38 (by decide) ?_
            exact endRz C rfl hf dX2_isLowest_39
set_option maxRecDepth 100000 in
set_option maxHeartbeats 4000000 in
theorem mX2_isLowest {r0 : Int32} {x1 : Int32} {x2 : Int32} (hf : fX2_isLowest u x1 x2 = some r0) : MRi l yX2_isLowest cX2_isLowest 4 (some .boolean) 1 22 [.ref (ad 1), .int x1, .int x2] g (cW g ad u) r0 := by
  refine entR (by decide) (Nat.le_of_ble_eq_true rfl) ?_
  intro p e s m below meth c ls C hP hZ hl
  have hl : lv_has ls 4 [(0, .ref (ad 1)), (1, .int x1), (2, .int x2)] := hl
  rw [fX2_isLowest] at hf
  refine lv_iconst (v := 0) C.1 C.2.1 dX2_isLowest_0 (by decide) ?_
  refine lv_istore_n (lv' := [(3, .int 0), (0, .ref (ad 1)), (1, .int x1), (2, .int x2)]) C.1 C.2.1 dX2_isLowest_1 rfl hl (by decide) rfl (fun ls hl => ?_)
  exact bX2_isLowest_L2 C hZ 5000 x1 x2 0 hP _ (lv_sub hl [1, 2, 3, 0] rfl) hf
end
theorem vX2_isLowest : YV yX2_isLowest cX2_isLowest 4 (some .boolean) 2 := ⟨⟨wK_X2_isLowest, wZ_X2, by decide +kernel⟩, wI_X2_isLowest, wV_X2_isLowest⟩
def fX2_selectOfFaces_L171 (u : ST) (K83 : Int32 → Int32 → Int32 → Int32 → Int32 → Int32 → Option Int32) (x2 : Int32) (x3 : Int32) (x4 : Int32) (x6 : Int32) (x7 : Int32) (x8 : Int32) : Option Int32 :=
  K83 x2 x3 x4 x6 x7 (x8 + 1)
def fX2_selectOfFaces_L134 (u : ST) (K83 : Int32 → Int32 → Int32 → Int32 → Int32 → Int32 → Option Int32) (x2 : Int32) (x3 : Int32) (x4 : Int32) (x6 : Int32) (x7 : Int32) (x8 : Int32) (y0 : Int32) : Option Int32 :=
  if y0 = (-2) then
    fX2_selectOfFaces_L171 u K83 x2 x3 x4 x6 x7 x8
  else
    (fX6_has u y0 8).bind fun v6 =>
    if v6 = 0 then
      if x7 = (-2) then
        fX2_selectOfFaces_L171 u K83 x2 x3 x4 x6 y0 x8
      else
        some (-4)
    else
      fX2_selectOfFaces_L171 u K83 x2 x3 x4 x6 x7 x8
def fX2_selectOfFaces_L132 (u : ST) (K83 : Int32 → Int32 → Int32 → Int32 → Int32 → Int32 → Option Int32) (x2 : Int32) (x3 : Int32) (x4 : Int32) (x6 : Int32) (x7 : Int32) (x8 : Int32) : Option Int32 :=
  fX2_selectOfFaces_L134 u K83 x2 x3 x4 x6 x7 x8 (-2)
def fX2_selectOfFaces_L83 (u : ST) : Nat → Int32 → Int32 → Int32 → Int32 → Int32 → Int32 → Option Int32
  | 0, _, _, _, _, _, _ => none
  | n + 1, x2, x3, x4, x6, x7, x8 =>
    if (sI u 200) ≤ x8 then
      some x7
    else
      if ((x6 >>> (x8 &&& 31)) &&& 1) = 0 then
        fX2_selectOfFaces_L132 u (fX2_selectOfFaces_L83 u n) x2 x3 x4 x6 x7 x8
      else
        (fX2_isLowest u x8 x6).bind fun v9 =>
        if v9 = 0 then
          fX2_selectOfFaces_L132 u (fX2_selectOfFaces_L83 u n) x2 x3 x4 x6 x7 x8
        else
          (fX6_methodOf u x8 x2 x3 x4).bind fun v11 =>
          fX2_selectOfFaces_L134 u (fX2_selectOfFaces_L83 u n) x2 x3 x4 x6 x7 x8 v11
def fX2_selectOfFaces_L70 (u : ST) (K16 : Int32 → Int32 → Int32 → Int32 → Int32 → Int32 → Option Int32) (x2 : Int32) (x3 : Int32) (x4 : Int32) (x5 : Int32) (x6 : Int32) (x7 : Int32) : Option Int32 :=
  K16 x2 x3 x4 x5 x6 (x7 + 1)
def fX2_selectOfFaces_L16 (u : ST) : Nat → Int32 → Int32 → Int32 → Int32 → Int32 → Int32 → Option Int32
  | 0, _, _, _, _, _, _ => none
  | n + 1, x2, x3, x4, x5, x6, x7 =>
    if (sI u 200) ≤ x7 then
      fX2_selectOfFaces_L83 u 5000 x2 x3 x4 x6 (-2) 0
    else
      if ((x5 >>> (x7 &&& 31)) &&& 1) = 0 then
        fX2_selectOfFaces_L70 u (fX2_selectOfFaces_L16 u n) x2 x3 x4 x5 x6 x7
      else
        (fX6_methodOf u x7 x2 x3 x4).bind fun v13 =>
        (fX6_isOpen u v13).bind fun v14 =>
        if v14 = 0 then
          fX2_selectOfFaces_L70 u (fX2_selectOfFaces_L16 u n) x2 x3 x4 x5 x6 x7
        else
          fX2_selectOfFaces_L70 u (fX2_selectOfFaces_L16 u n) x2 x3 x4 x5 (x6 ||| (1 <<< (x7 &&& 31))) x7
def fX2_selectOfFaces (u : ST) (x1 : Int32) (x2 : Int32) (x3 : Int32) (x4 : Int32) : Option Int32 :=
  (fX7_facesOver u x1).bind fun v1 =>
  fX2_selectOfFaces_L16 u 5000 x2 x3 x4 v1 0 0
section
variable {p : Program} {l : Launch} {e : Env} {s : State} {m : MethodId} {args : Array Value} {below : List Frame} {meth : Method} {c : Code} {H : Heap} {locs : List Loc} {g : GP} {ls : Array Slot} {A : Nat → Prop} {ad : Nat → Nat} {u : ST}
set_option maxRecDepth 100000 in
set_option maxHeartbeats 4000000 in
theorem bX2_selectOfFaces_L171 {r0 : Int32} {K83 : Int32 → Int32 → Int32 → Int32 → Int32 → Int32 → Option Int32} {x2 : Int32} {x3 : Int32} {x4 : Int32} {x6 : Int32} {x7 : Int32} {x8 : Int32} (C : Cx p s m args meth c cX2_selectOfFaces 10 RX2 (some .int) g) (hZ : SF (fun _ => False) s) (hK83 : ∀ (x2 : Int32) (x3 : Int32) (x4 : Int32) (x6 : Int32) (x7 : Int32) (x8 : Int32), ∀ (ls : Array Slot), lv_has ls 10 [(0, .ref (ad 1)), (2, .int x2), (3, .int x3), (4, .int x4), (6, .int x6), (7, .int x7), (8, .int x8)] → K83 x2 x3 x4 x6 x7 x8 = some r0 → W p l e (rmR 2 45) s m args below meth c s.heap [] 0 0 (MQ below (vp_Si (fun r => r = r0)) args s 0 0 (fun _ => False)) (F0 m 83 ls [])) (hP : va_P g.1 vwCl (cW g ad u) s.heap) (hl : lv_has ls 10 [(0, .ref (ad 1)), (2, .int x2), (3, .int x3), (4, .int x4), (6, .int x6), (7, .int x7), (8, .int x8)]) (hf : fX2_selectOfFaces_L171 u K83 x2 x3 x4 x6 x7 x8 = some r0) : W p l e (rmR 2 45) s m args below meth c s.heap [] 0 0 (MQ below (vp_Si (fun r => r = r0)) args s 0 0 (fun _ => False)) (F0 m 171 ls []) := by
  rw [fX2_selectOfFaces_L171] at hf
  refine lv_iinc (v := (x8 + 1)) (lv' := [(8, .int (x8 + 1)), (0, .ref (ad 1)), (2, .int x2), (3, .int x3), (4, .int x4), (6, .int x6), (7, .int x7)]) C.1 C.2.1 dX2_selectOfFaces_171 hl (k := 6) rfl rfl (by decide) rfl (fun ls hl => ?_)
  refine lv_goto (tgt := 83) C.1 C.2.1 dX2_selectOfFaces_174 (by decide) ?_
  exact hK83 x2 x3 x4 x6 x7 (x8 + 1) _ (lv_sub hl [1, 2, 3, 4, 5, 6, 0] rfl) hf
set_option maxRecDepth 100000 in
set_option maxHeartbeats 4000000 in
theorem bX2_selectOfFaces_L134 {r0 : Int32} {K83 : Int32 → Int32 → Int32 → Int32 → Int32 → Int32 → Option Int32} {x2 : Int32} {x3 : Int32} {x4 : Int32} {x6 : Int32} {x7 : Int32} {x8 : Int32} {y0 : Int32} (C : Cx p s m args meth c cX2_selectOfFaces 10 RX2 (some .int) g) (hZ : SF (fun _ => False) s) (hK83 : ∀ (x2 : Int32) (x3 : Int32) (x4 : Int32) (x6 : Int32) (x7 : Int32) (x8 : Int32), ∀ (ls : Array Slot), lv_has ls 10 [(0, .ref (ad 1)), (2, .int x2), (3, .int x3), (4, .int x4), (6, .int x6), (7, .int x7), (8, .int x8)] → K83 x2 x3 x4 x6 x7 x8 = some r0 → W p l e (rmR 2 45) s m args below meth c s.heap [] 0 0 (MQ below (vp_Si (fun r => r = r0)) args s 0 0 (fun _ => False)) (F0 m 83 ls [])) (hP : va_P g.1 vwCl (cW g ad u) s.heap) (hl : lv_has ls 10 [(0, .ref (ad 1)), (2, .int x2), (3, .int x3), (4, .int x4), (6, .int x6), (7, .int x7), (8, .int x8)]) (hf : fX2_selectOfFaces_L134 u K83 x2 x3 x4 x6 x7 x8 y0 = some r0) : W p l e (rmR 2 45) s m args below meth c s.heap [] 0 0 (MQ below (vp_Si (fun r => r = r0)) args s 0 0 (fun _ => False)) (F0 m 134 ls [.int y0]) := by
  rw [fX2_selectOfFaces_L134] at hf
  refine lv_istore (lv' := [(9, .int y0), (0, .ref (ad 1)), (2, .int x2), (3, .int x3), (4, .int x4), (6, .int x6), (7, .int x7), (8, .int x8)]) C.1 C.2.1 dX2_selectOfFaces_134 hl (by decide) rfl (fun ls hl => ?_)
  refine lv_iload C.1 C.2.1 dX2_selectOfFaces_136 (lv_at hl 0 rfl) ?_
  refine lv_bipush (v := -2) C.1 C.2.1 dX2_selectOfFaces_138 (by decide) ?_
  refine lv_icmp_eq (tgt := 171) C.1 C.2.1 dX2_selectOfFaces_140 (by decide) (fun c5 => ?_) (fun c5 => ?_)
  · rw [if_pos c5] at hf
    exact bX2_selectOfFaces_L171 C hZ hK83 hP (lv_sub hl [1, 2, 3, 4, 5, 6, 7] rfl) hf
  · rw [if_neg c5] at hf
    refine lv_aload_n C.1 C.2.1 dX2_selectOfFaces_143 rfl (lv_at hl 1 rfl) ?_
    refine gtc_X2_members C hP wF_X2_21 dX2_selectOfFaces_144 ?_
    refine lv_iload C.1 C.2.1 dX2_selectOfFaces_147 (lv_at hl 0 rfl) ?_
    refine lv_bipush (v := 8) C.1 C.2.1 dX2_selectOfFaces_149 (by decide) ?_
    obtain ⟨v6, hv6, hf⟩ := Option.bind_eq_some_iff.mp hf
    refine cRi (As := [.int y0, .int 8]) (rest := []) C (mX6_has hv6) vX6_has wM_X2_142 ⟨Nat.le_of_ble_eq_true rfl, Nat.le_of_ble_eq_true rfl⟩ hP (rcc_X6 C hP) (fun U hU hW => SF.go hZ va_S.rf hU hW (fun _ h => h)) hl.1 rfl rfl (Nat.le_of_ble_eq_true rfl) dX2_selectOfFaces_151 ⟨Nat.le_of_ble_eq_true rfl, Nat.le_of_ble_eq_true rfl⟩ ?_
    refine lv_if_ne (tgt := 171) C.1 C.2.1 dX2_selectOfFaces_154 (by decide) (fun c7 => ?_) (fun c7 => ?_)
    · rw [if_neg c7] at hf
      exact bX2_selectOfFaces_L171 C hZ hK83 hP (lv_sub hl [1, 2, 3, 4, 5, 6, 7] rfl) hf
    · rw [if_pos c7] at hf
      refine lv_iload C.1 C.2.1 dX2_selectOfFaces_157 (lv_at hl 6 rfl) ?_
      refine lv_bipush (v := -2) C.1 C.2.1 dX2_selectOfFaces_159 (by decide) ?_
      refine lv_icmp_eq (tgt := 167) C.1 C.2.1 dX2_selectOfFaces_161 (by decide) (fun c8 => ?_) (fun c8 => ?_)
      · rw [if_pos c8] at hf
        refine lv_iload C.1 C.2.1 dX2_selectOfFaces_167 (lv_at hl 0 rfl) ?_
        refine lv_istore (lv' := [(7, .int y0), (9, .int y0), (0, .ref (ad 1)), (2, .int x2), (3, .int x3), (4, .int x4), (6, .int x6), (8, .int x8)]) C.1 C.2.1 dX2_selectOfFaces_169 hl (by decide) rfl (fun ls hl => ?_)
        exact bX2_selectOfFaces_L171 C hZ hK83 hP (lv_sub hl [2, 3, 4, 5, 6, 0, 7] rfl) hf
      · rw [if_neg c8] at hf
        refine lv_bipush (v := -4) C.1 C.2.1 dX2_selectOfFaces_164 (by decide) ?_
        exact endRi C hf dX2_selectOfFaces_166
set_option maxRecDepth 100000 in
set_option maxHeartbeats 4000000 in
theorem bX2_selectOfFaces_L132 {r0 : Int32} {K83 : Int32 → Int32 → Int32 → Int32 → Int32 → Int32 → Option Int32} {x2 : Int32} {x3 : Int32} {x4 : Int32} {x6 : Int32} {x7 : Int32} {x8 : Int32} (C : Cx p s m args meth c cX2_selectOfFaces 10 RX2 (some .int) g) (hZ : SF (fun _ => False) s) (hK83 : ∀ (x2 : Int32) (x3 : Int32) (x4 : Int32) (x6 : Int32) (x7 : Int32) (x8 : Int32), ∀ (ls : Array Slot), lv_has ls 10 [(0, .ref (ad 1)), (2, .int x2), (3, .int x3), (4, .int x4), (6, .int x6), (7, .int x7), (8, .int x8)] → K83 x2 x3 x4 x6 x7 x8 = some r0 → W p l e (rmR 2 45) s m args below meth c s.heap [] 0 0 (MQ below (vp_Si (fun r => r = r0)) args s 0 0 (fun _ => False)) (F0 m 83 ls [])) (hP : va_P g.1 vwCl (cW g ad u) s.heap) (hl : lv_has ls 10 [(0, .ref (ad 1)), (2, .int x2), (3, .int x3), (4, .int x4), (6, .int x6), (7, .int x7), (8, .int x8)]) (hf : fX2_selectOfFaces_L132 u K83 x2 x3 x4 x6 x7 x8 = some r0) : W p l e (rmR 2 45) s m args below meth c s.heap [] 0 0 (MQ below (vp_Si (fun r => r = r0)) args s 0 0 (fun _ => False)) (F0 m 132 ls []) := by
  rw [fX2_selectOfFaces_L132] at hf
  refine lv_bipush (v := -2) C.1 C.2.1 dX2_selectOfFaces_132 (by decide) ?_
  exact bX2_selectOfFaces_L134 C hZ hK83 hP (lv_sub hl [0, 1, 2, 3, 4, 5, 6] rfl) hf
set_option maxRecDepth 100000 in
set_option maxHeartbeats 4000000 in
theorem bX2_selectOfFaces_L83 {r0 : Int32} (C : Cx p s m args meth c cX2_selectOfFaces 10 RX2 (some .int) g) (hZ : SF (fun _ => False) s) (n : Nat) : ∀ (x2 : Int32) (x3 : Int32) (x4 : Int32) (x6 : Int32) (x7 : Int32) (x8 : Int32), va_P g.1 vwCl (cW g ad u) s.heap → ∀ (ls : Array Slot), lv_has ls 10 [(0, .ref (ad 1)), (2, .int x2), (3, .int x3), (4, .int x4), (6, .int x6), (7, .int x7), (8, .int x8)] → fX2_selectOfFaces_L83 u n x2 x3 x4 x6 x7 x8 = some r0 → W p l e (rmR 2 45) s m args below meth c s.heap [] 0 0 (MQ below (vp_Si (fun r => r = r0)) args s 0 0 (fun _ => False)) (F0 m 83 ls []) := by
  induction n with
  | zero =>
    intro x2 x3 x4 x6 x7 x8 hP ls hl hf
    exact absurd hf (by simp [fX2_selectOfFaces_L83])
  | succ n ih0 =>
    intro x2 x3 x4 x6 x7 x8 hP ls hl hf
    have ih := fun (x2 : Int32) (x3 : Int32) (x4 : Int32) (x6 : Int32) (x7 : Int32) (x8 : Int32) => ih0 x2 x3 x4 x6 x7 x8 hP
    rw [fX2_selectOfFaces_L83] at hf
    refine lv_iload C.1 C.2.1 dX2_selectOfFaces_83 (lv_at hl 6 rfl) ?_
    refine lv_aload_n C.1 C.2.1 dX2_selectOfFaces_85 rfl (lv_at hl 0 rfl) ?_
    refine gtc_X2_types C hP wF_X2_12 dX2_selectOfFaces_86 ?_
    refine gtc_X7_size C hP wF_X2_161 dX2_selectOfFaces_89 ?_
    refine lv_icmp_ge (tgt := 177) C.1 C.2.1 dX2_selectOfFaces_92 (by decide) (fun c3 => ?_) (fun c3 => ?_)
    · rw [if_pos c3] at hf
      refine lv_iload C.1 C.2.1 dX2_selectOfFaces_177 (lv_at hl 5 rfl) ?_
      exact endRi C hf dX2_selectOfFaces_179
    · rw [if_neg c3] at hf
      refine lv_iload C.1 C.2.1 dX2_selectOfFaces_95 (lv_at hl 4 rfl) ?_
      refine lv_iload C.1 C.2.1 dX2_selectOfFaces_97 (lv_at hl 6 rfl) ?_
      refine lv_ishr C.1 C.2.1 dX2_selectOfFaces_99 ?_
      refine lv_iconst (v := 1) C.1 C.2.1 dX2_selectOfFaces_100 (by decide) ?_
      refine lv_iand C.1 C.2.1 dX2_selectOfFaces_101 ?_
      refine lv_if_eq (tgt := 132) C.1 C.2.1 dX2_selectOfFaces_102 (by decide) (fun c4 => ?_) (fun c4 => ?_)
      · rw [if_pos c4] at hf
        exact bX2_selectOfFaces_L132 C hZ ih hP (lv_sub hl [0, 1, 2, 3, 4, 5, 6] rfl) hf
      · rw [if_neg c4] at hf
        refine lv_aload_n C.1 C.2.1 dX2_selectOfFaces_105 rfl (lv_at hl 0 rfl) ?_
        refine lv_iload C.1 C.2.1 dX2_selectOfFaces_106 (lv_at hl 6 rfl) ?_
        refine lv_iload C.1 C.2.1 dX2_selectOfFaces_108 (lv_at hl 4 rfl) ?_
        obtain ⟨v9, hv9, hf⟩ := Option.bind_eq_some_iff.mp hf
        refine cRi (As := [.int x8, .int x6]) (rest := []) C (mX2_isLowest hv9) vX2_isLowest wM_X2_164 ⟨Nat.le_of_ble_eq_true rfl, Nat.le_of_ble_eq_true rfl⟩ hP (rcc_X2 C hP) (fun U hU hW => SF.go hZ va_S.rf hU hW (fun _ h => h)) hl.1 rfl rfl (Nat.le_of_ble_eq_true rfl) dX2_selectOfFaces_110 ⟨Nat.le_of_ble_eq_true rfl, Nat.le_of_ble_eq_true rfl⟩ ?_
        refine lv_if_eq (tgt := 132) C.1 C.2.1 dX2_selectOfFaces_113 (by decide) (fun c10 => ?_) (fun c10 => ?_)
        · rw [if_pos c10] at hf
          exact bX2_selectOfFaces_L132 C hZ ih hP (lv_sub hl [0, 1, 2, 3, 4, 5, 6] rfl) hf
        · rw [if_neg c10] at hf
          refine lv_aload_n C.1 C.2.1 dX2_selectOfFaces_116 rfl (lv_at hl 0 rfl) ?_
          refine gtc_X2_members C hP wF_X2_21 dX2_selectOfFaces_117 ?_
          refine lv_iload C.1 C.2.1 dX2_selectOfFaces_120 (lv_at hl 6 rfl) ?_
          refine lv_iload_n C.1 C.2.1 dX2_selectOfFaces_122 rfl (lv_at hl 1 rfl) ?_
          refine lv_iload_n C.1 C.2.1 dX2_selectOfFaces_123 rfl (lv_at hl 2 rfl) ?_
          refine lv_iload C.1 C.2.1 dX2_selectOfFaces_124 (lv_at hl 3 rfl) ?_
          obtain ⟨v11, hv11, hf⟩ := Option.bind_eq_some_iff.mp hf
          refine cRi (As := [.int x8, .int x2, .int x3, .int x4]) (rest := []) C (mX6_methodOf hv11) vX6_methodOf wM_X2_109 ⟨Nat.le_of_ble_eq_true rfl, Nat.le_of_ble_eq_true rfl⟩ hP (rcc_X6 C hP) (fun U hU hW => SF.go hZ va_S.rf hU hW (fun _ h => h)) hl.1 rfl rfl (Nat.le_of_ble_eq_true rfl) dX2_selectOfFaces_126 ⟨Nat.le_of_ble_eq_true rfl, Nat.le_of_ble_eq_true rfl⟩ ?_
          refine lv_goto (tgt := 134) C.1 C.2.1 dX2_selectOfFaces_129 (by decide) ?_
          exact bX2_selectOfFaces_L134 C hZ ih hP (lv_sub hl [0, 1, 2, 3, 4, 5, 6] rfl) hf
set_option maxRecDepth 100000 in
set_option maxHeartbeats 4000000 in
theorem bX2_selectOfFaces_L70 {r0 : Int32} {K16 : Int32 → Int32 → Int32 → Int32 → Int32 → Int32 → Option Int32} {x2 : Int32} {x3 : Int32} {x4 : Int32} {x5 : Int32} {x6 : Int32} {x7 : Int32} (C : Cx p s m args meth c cX2_selectOfFaces 10 RX2 (some .int) g) (hZ : SF (fun _ => False) s) (hK16 : ∀ (x2 : Int32) (x3 : Int32) (x4 : Int32) (x5 : Int32) (x6 : Int32) (x7 : Int32), ∀ (ls : Array Slot), lv_has ls 10 [(0, .ref (ad 1)), (2, .int x2), (3, .int x3), (4, .int x4), (5, .int x5), (6, .int x6), (7, .int x7)] → K16 x2 x3 x4 x5 x6 x7 = some r0 → W p l e (rmR 2 45) s m args below meth c s.heap [] 0 0 (MQ below (vp_Si (fun r => r = r0)) args s 0 0 (fun _ => False)) (F0 m 16 ls [])) (hP : va_P g.1 vwCl (cW g ad u) s.heap) (hl : lv_has ls 10 [(0, .ref (ad 1)), (2, .int x2), (3, .int x3), (4, .int x4), (5, .int x5), (6, .int x6), (7, .int x7)]) (hf : fX2_selectOfFaces_L70 u K16 x2 x3 x4 x5 x6 x7 = some r0) : W p l e (rmR 2 45) s m args below meth c s.heap [] 0 0 (MQ below (vp_Si (fun r => r = r0)) args s 0 0 (fun _ => False)) (F0 m 70 ls []) := by
  rw [fX2_selectOfFaces_L70] at hf
  refine lv_iinc (v := (x7 + 1)) (lv' := [(7, .int (x7 + 1)), (0, .ref (ad 1)), (2, .int x2), (3, .int x3), (4, .int x4), (5, .int x5), (6, .int x6)]) C.1 C.2.1 dX2_selectOfFaces_70 hl (k := 6) rfl rfl (by decide) rfl (fun ls hl => ?_)
  refine lv_goto (tgt := 16) C.1 C.2.1 dX2_selectOfFaces_73 (by decide) ?_
  exact hK16 x2 x3 x4 x5 x6 (x7 + 1) _ (lv_sub hl [1, 2, 3, 4, 5, 6, 0] rfl) hf
set_option maxRecDepth 100000 in
set_option maxHeartbeats 4000000 in
theorem bX2_selectOfFaces_L16 {r0 : Int32} (C : Cx p s m args meth c cX2_selectOfFaces 10 RX2 (some .int) g) (hZ : SF (fun _ => False) s) (n : Nat) : ∀ (x2 : Int32) (x3 : Int32) (x4 : Int32) (x5 : Int32) (x6 : Int32) (x7 : Int32), va_P g.1 vwCl (cW g ad u) s.heap → ∀ (ls : Array Slot), lv_has ls 10 [(0, .ref (ad 1)), (2, .int x2), (3, .int x3), (4, .int x4), (5, .int x5), (6, .int x6), (7, .int x7)] → fX2_selectOfFaces_L16 u n x2 x3 x4 x5 x6 x7 = some r0 → W p l e (rmR 2 45) s m args below meth c s.heap [] 0 0 (MQ below (vp_Si (fun r => r = r0)) args s 0 0 (fun _ => False)) (F0 m 16 ls []) := by
  induction n with
  | zero =>
    intro x2 x3 x4 x5 x6 x7 hP ls hl hf
    exact absurd hf (by simp [fX2_selectOfFaces_L16])
  | succ n ih0 =>
    intro x2 x3 x4 x5 x6 x7 hP ls hl hf
    have ih := fun (x2 : Int32) (x3 : Int32) (x4 : Int32) (x5 : Int32) (x6 : Int32) (x7 : Int32) => ih0 x2 x3 x4 x5 x6 x7 hP
    rw [fX2_selectOfFaces_L16] at hf
    refine lv_iload C.1 C.2.1 dX2_selectOfFaces_16 (lv_at hl 6 rfl) ?_
    refine lv_aload_n C.1 C.2.1 dX2_selectOfFaces_18 rfl (lv_at hl 0 rfl) ?_
    refine gtc_X2_types C hP wF_X2_12 dX2_selectOfFaces_19 ?_
    refine gtc_X7_size C hP wF_X2_161 dX2_selectOfFaces_22 ?_
    refine lv_icmp_ge (tgt := 76) C.1 C.2.1 dX2_selectOfFaces_25 (by decide) (fun c2 => ?_) (fun c2 => ?_)
    · rw [if_pos c2] at hf
      refine lv_bipush (v := -2) C.1 C.2.1 dX2_selectOfFaces_76 (by decide) ?_
      refine lv_istore (lv' := [(7, .int (-2)), (0, .ref (ad 1)), (2, .int x2), (3, .int x3), (4, .int x4), (5, .int x5), (6, .int x6)]) C.1 C.2.1 dX2_selectOfFaces_78 hl (by decide) rfl (fun ls hl => ?_)
      refine lv_iconst (v := 0) C.1 C.2.1 dX2_selectOfFaces_80 (by decide) ?_
      refine lv_istore (lv' := [(8, .int 0), (7, .int (-2)), (0, .ref (ad 1)), (2, .int x2), (3, .int x3), (4, .int x4), (5, .int x5), (6, .int x6)]) C.1 C.2.1 dX2_selectOfFaces_81 hl (by decide) rfl (fun ls hl => ?_)
      exact bX2_selectOfFaces_L83 C hZ 5000 x2 x3 x4 x6 (-2) 0 hP _ (lv_sub hl [2, 3, 4, 5, 7, 1, 0] rfl) hf
    · rw [if_neg c2] at hf
      refine lv_iload C.1 C.2.1 dX2_selectOfFaces_28 (lv_at hl 4 rfl) ?_
      refine lv_iload C.1 C.2.1 dX2_selectOfFaces_30 (lv_at hl 6 rfl) ?_
      refine lv_ishr C.1 C.2.1 dX2_selectOfFaces_32 ?_
      refine lv_iconst (v := 1) C.1 C.2.1 dX2_selectOfFaces_33 (by decide) ?_
      refine lv_iand C.1 C.2.1 dX2_selectOfFaces_34 ?_
      refine lv_if_eq (tgt := 70) C.1 C.2.1 dX2_selectOfFaces_35 (by decide) (fun c12 => ?_) (fun c12 => ?_)
      · rw [if_pos c12] at hf
        exact bX2_selectOfFaces_L70 C hZ ih hP (lv_sub hl [0, 1, 2, 3, 4, 5, 6] rfl) hf
      · rw [if_neg c12] at hf
        refine lv_aload_n C.1 C.2.1 dX2_selectOfFaces_38 rfl (lv_at hl 0 rfl) ?_
        refine gtc_X2_members C hP wF_X2_21 dX2_selectOfFaces_39 ?_
        refine lv_aload_n C.1 C.2.1 dX2_selectOfFaces_42 rfl (lv_at hl 0 rfl) ?_
        refine gtc_X2_members C hP wF_X2_21 dX2_selectOfFaces_43 ?_
        refine lv_iload C.1 C.2.1 dX2_selectOfFaces_46 (lv_at hl 6 rfl) ?_
        refine lv_iload_n C.1 C.2.1 dX2_selectOfFaces_48 rfl (lv_at hl 1 rfl) ?_
        refine lv_iload_n C.1 C.2.1 dX2_selectOfFaces_49 rfl (lv_at hl 2 rfl) ?_
        refine lv_iload C.1 C.2.1 dX2_selectOfFaces_50 (lv_at hl 3 rfl) ?_
        obtain ⟨v13, hv13, hf⟩ := Option.bind_eq_some_iff.mp hf
        refine cRi (As := [.int x7, .int x2, .int x3, .int x4]) (rest := [.ref (ad 3)]) C (mX6_methodOf hv13) vX6_methodOf wM_X2_109 ⟨Nat.le_of_ble_eq_true rfl, Nat.le_of_ble_eq_true rfl⟩ hP (rcc_X6 C hP) (fun U hU hW => SF.go hZ va_S.rf hU hW (fun _ h => h)) hl.1 rfl rfl (Nat.le_of_ble_eq_true rfl) dX2_selectOfFaces_52 ⟨Nat.le_of_ble_eq_true rfl, Nat.le_of_ble_eq_true rfl⟩ ?_
        obtain ⟨v14, hv14, hf⟩ := Option.bind_eq_some_iff.mp hf
        refine cRi (As := [.int v13]) (rest := []) C (mX6_isOpen hv14) vX6_isOpen wM_X2_149 ⟨Nat.le_of_ble_eq_true rfl, Nat.le_of_ble_eq_true rfl⟩ hP (rcc_X6 C hP) (fun U hU hW => SF.go hZ va_S.rf hU hW (fun _ h => h)) hl.1 rfl rfl (Nat.le_of_ble_eq_true rfl) dX2_selectOfFaces_55 ⟨Nat.le_of_ble_eq_true rfl, Nat.le_of_ble_eq_true rfl⟩ ?_
        refine lv_if_eq (tgt := 70) C.1 C.2.1 dX2_selectOfFaces_58 (by decide) (fun c15 => ?_) (fun c15 => ?_)
        · rw [if_pos c15] at hf
          exact bX2_selectOfFaces_L70 C hZ ih hP (lv_sub hl [0, 1, 2, 3, 4, 5, 6] rfl) hf
        · rw [if_neg c15] at hf
          refine lv_iload C.1 C.2.1 dX2_selectOfFaces_61 (lv_at hl 5 rfl) ?_
          refine lv_iconst (v := 1) C.1 C.2.1 dX2_selectOfFaces_63 (by decide) ?_
          refine lv_iload C.1 C.2.1 dX2_selectOfFaces_64 (lv_at hl 6 rfl) ?_
          refine lv_ishl C.1 C.2.1 dX2_selectOfFaces_66 ?_
          refine lv_ior C.1 C.2.1 dX2_selectOfFaces_67 ?_
          refine lv_istore (lv' := [(6, .int (x6 ||| (1 <<< (x7 &&& 31)))), (0, .ref (ad 1)), (2, .int x2), (3, .int x3), (4, .int x4), (5, .int x5), (7, .int x7)]) C.1 C.2.1 dX2_selectOfFaces_68 hl (by decide) rfl (fun ls hl => ?_)
          exact bX2_selectOfFaces_L70 C hZ ih hP (lv_sub hl [1, 2, 3, 4, 5, 0, 6] rfl) hf
set_option maxRecDepth 100000 in
set_option maxHeartbeats 4000000 in
theorem mX2_selectOfFaces {r0 : Int32} {x1 : Int32} {x2 : Int32} {x3 : Int32} {x4 : Int32} (hf : fX2_selectOfFaces u x1 x2 x3 x4 = some r0) : MRi l yX2_selectOfFaces cX2_selectOfFaces 10 (some .int) 2 45 [.ref (ad 1), .int x1, .int x2, .int x3, .int x4] g (cW g ad u) r0 := by
  refine entR (by decide) (Nat.le_of_ble_eq_true rfl) ?_
  intro p e s m below meth c ls C hP hZ hl
  have hl : lv_has ls 10 [(0, .ref (ad 1)), (1, .int x1), (2, .int x2), (3, .int x3), (4, .int x4)] := hl
  rw [fX2_selectOfFaces] at hf
  refine lv_aload_n C.1 C.2.1 dX2_selectOfFaces_0 rfl (lv_at hl 0 rfl) ?_
  refine gtc_X2_types C hP wF_X2_12 dX2_selectOfFaces_1 ?_
  refine lv_iload_n C.1 C.2.1 dX2_selectOfFaces_4 rfl (lv_at hl 1 rfl) ?_
  obtain ⟨v1, hv1, hf⟩ := Option.bind_eq_some_iff.mp hf
  refine cRi (As := [.int x1]) (rest := []) C (mX7_facesOver hv1) vX7_facesOver wM_X2_158 ⟨Nat.le_of_ble_eq_true rfl, Nat.le_of_ble_eq_true rfl⟩ hP (rcc_X7 C hP) (fun U hU hW => SF.go hZ va_S.rf hU hW (fun _ h => h)) hl.1 rfl rfl (Nat.le_of_ble_eq_true rfl) dX2_selectOfFaces_5 ⟨Nat.le_of_ble_eq_true rfl, Nat.le_of_ble_eq_true rfl⟩ ?_
  refine lv_istore (lv' := [(5, .int v1), (0, .ref (ad 1)), (1, .int x1), (2, .int x2), (3, .int x3), (4, .int x4)]) C.1 C.2.1 dX2_selectOfFaces_8 hl (by decide) rfl (fun ls hl => ?_)
  refine lv_iconst (v := 0) C.1 C.2.1 dX2_selectOfFaces_10 (by decide) ?_
  refine lv_istore (lv' := [(6, .int 0), (5, .int v1), (0, .ref (ad 1)), (1, .int x1), (2, .int x2), (3, .int x3), (4, .int x4)]) C.1 C.2.1 dX2_selectOfFaces_11 hl (by decide) rfl (fun ls hl => ?_)
  refine lv_iconst (v := 0) C.1 C.2.1 dX2_selectOfFaces_13 (by decide) ?_
  refine lv_istore (lv' := [(7, .int 0), (6, .int 0), (5, .int v1), (0, .ref (ad 1)), (1, .int x1), (2, .int x2), (3, .int x3), (4, .int x4)]) C.1 C.2.1 dX2_selectOfFaces_14 hl (by decide) rfl (fun ls hl => ?_)
  exact bX2_selectOfFaces_L16 C hZ 5000 x2 x3 x4 v1 0 0 hP _ (lv_sub hl [3, 5, 6, 7, 2, 1, 0] rfl) hf
end
theorem vX2_selectOfFaces : YV yX2_selectOfFaces cX2_selectOfFaces 10 (some .int) 4 := ⟨⟨wK_X2_selectOfFaces, wZ_X2, by decide +kernel⟩, wI_X2_selectOfFaces, wV_X2_selectOfFaces⟩
def fX2_select_L91 (u : ST) (x1 : Int32) (x2 : Int32) (x3 : Int32) (x4 : Int32) : Option Int32 :=
  (fX2_selectOfFaces u x1 x2 x3 x4).bind fun v2 =>
  some v2
def fX2_select_L6 (u : ST) : Nat → Int32 → Int32 → Int32 → Int32 → Int32 → Int32 → Option Int32
  | 0, _, _, _, _, _, _ => none
  | n + 1, x1, x2, x3, x4, x5, x6 =>
    if 12 ≤ x6 then
      fX2_select_L91 u x1 x2 x3 x4
    else
      (fX7_isType u x5).bind fun v3 =>
      if v3 = 0 then
        fX2_select_L91 u x1 x2 x3 x4
      else
        (fX6_methodOf u x5 x2 x3 x4).bind fun v5 =>
        (fX6_isOpen u v5).bind fun v6 =>
        if v6 = 0 then
          (fX7_whatIsAbove u x5).bind fun v8 =>
          fX2_select_L6 u n x1 x2 x3 x4 v8 (x6 + 1)
        else
          (fX6_has u v5 8).bind fun v9 =>
          if v9 = 0 then
            some v5
          else
            some (-2)
def fX2_select (u : ST) (x1 : Int32) (x2 : Int32) (x3 : Int32) (x4 : Int32) : Option Int32 :=
  fX2_select_L6 u 5000 x1 x2 x3 x4 x1 0
section
variable {p : Program} {l : Launch} {e : Env} {s : State} {m : MethodId} {args : Array Value} {below : List Frame} {meth : Method} {c : Code} {H : Heap} {locs : List Loc} {g : GP} {ls : Array Slot} {A : Nat → Prop} {ad : Nat → Nat} {u : ST}
set_option maxRecDepth 100000 in
set_option maxHeartbeats 4000000 in
theorem bX2_select_L91 {r0 : Int32} {x1 : Int32} {x2 : Int32} {x3 : Int32} {x4 : Int32} (C : Cx p s m args meth c cX2_select 8 RX2 (some .int) g) (hZ : SF (fun _ => False) s) (hP : va_P g.1 vwCl (cW g ad u) s.heap) (hl : lv_has ls 8 [(0, .ref (ad 1)), (1, .int x1), (2, .int x2), (3, .int x3), (4, .int x4)]) (hf : fX2_select_L91 u x1 x2 x3 x4 = some r0) : W p l e (rmR 3 74) s m args below meth c s.heap [] 0 0 (MQ below (vp_Si (fun r => r = r0)) args s 0 0 (fun _ => False)) (F0 m 91 ls []) := by
  rw [fX2_select_L91] at hf
  refine lv_aload_n C.1 C.2.1 dX2_select_91 rfl (lv_at hl 0 rfl) ?_
  refine lv_iload_n C.1 C.2.1 dX2_select_92 rfl (lv_at hl 1 rfl) ?_
  refine lv_iload_n C.1 C.2.1 dX2_select_93 rfl (lv_at hl 2 rfl) ?_
  refine lv_iload_n C.1 C.2.1 dX2_select_94 rfl (lv_at hl 3 rfl) ?_
  refine lv_iload C.1 C.2.1 dX2_select_95 (lv_at hl 4 rfl) ?_
  obtain ⟨v2, hv2, hf⟩ := Option.bind_eq_some_iff.mp hf
  refine cRi (As := [.int x1, .int x2, .int x3, .int x4]) (rest := []) C (mX2_selectOfFaces hv2) vX2_selectOfFaces wM_X2_155 ⟨Nat.le_of_ble_eq_true rfl, Nat.le_of_ble_eq_true rfl⟩ hP (rcc_X2 C hP) (fun U hU hW => SF.go hZ va_S.rf hU hW (fun _ h => h)) hl.1 rfl rfl (Nat.le_of_ble_eq_true rfl) dX2_select_97 ⟨Nat.le_of_ble_eq_true rfl, Nat.le_of_ble_eq_true rfl⟩ ?_
  exact endRi C hf dX2_select_100
set_option maxRecDepth 100000 in
set_option maxHeartbeats 4000000 in
theorem bX2_select_L6 {r0 : Int32} (C : Cx p s m args meth c cX2_select 8 RX2 (some .int) g) (hZ : SF (fun _ => False) s) (n : Nat) : ∀ (x1 : Int32) (x2 : Int32) (x3 : Int32) (x4 : Int32) (x5 : Int32) (x6 : Int32), va_P g.1 vwCl (cW g ad u) s.heap → ∀ (ls : Array Slot), lv_has ls 8 [(0, .ref (ad 1)), (1, .int x1), (2, .int x2), (3, .int x3), (4, .int x4), (5, .int x5), (6, .int x6)] → fX2_select_L6 u n x1 x2 x3 x4 x5 x6 = some r0 → W p l e (rmR 3 74) s m args below meth c s.heap [] 0 0 (MQ below (vp_Si (fun r => r = r0)) args s 0 0 (fun _ => False)) (F0 m 6 ls []) := by
  induction n with
  | zero =>
    intro x1 x2 x3 x4 x5 x6 hP ls hl hf
    exact absurd hf (by simp [fX2_select_L6])
  | succ n ih0 =>
    intro x1 x2 x3 x4 x5 x6 hP ls hl hf
    have ih := fun (x1 : Int32) (x2 : Int32) (x3 : Int32) (x4 : Int32) (x5 : Int32) (x6 : Int32) => ih0 x1 x2 x3 x4 x5 x6 hP
    rw [fX2_select_L6] at hf
    refine lv_iload C.1 C.2.1 dX2_select_6 (lv_at hl 6 rfl) ?_
    refine lv_bipush (v := 12) C.1 C.2.1 dX2_select_8 (by decide) ?_
    refine lv_icmp_ge (tgt := 91) C.1 C.2.1 dX2_select_10 (by decide) (fun c1 => ?_) (fun c1 => ?_)
    · rw [if_pos c1] at hf
      exact bX2_select_L91 C hZ hP (lv_sub hl [0, 1, 2, 3, 4] rfl) hf
    · rw [if_neg c1] at hf
      refine lv_aload_n C.1 C.2.1 dX2_select_13 rfl (lv_at hl 0 rfl) ?_
      refine gtc_X2_types C hP wF_X2_12 dX2_select_14 ?_
      refine lv_iload C.1 C.2.1 dX2_select_17 (lv_at hl 5 rfl) ?_
      obtain ⟨v3, hv3, hf⟩ := Option.bind_eq_some_iff.mp hf
      refine cRi (As := [.int x5]) (rest := []) C (mX7_isType hv3) vX7_isType wM_X2_84 ⟨Nat.le_of_ble_eq_true rfl, Nat.le_of_ble_eq_true rfl⟩ hP (rcc_X7 C hP) (fun U hU hW => SF.go hZ va_S.rf hU hW (fun _ h => h)) hl.1 rfl rfl (Nat.le_of_ble_eq_true rfl) dX2_select_19 ⟨Nat.le_of_ble_eq_true rfl, Nat.le_of_ble_eq_true rfl⟩ ?_
      refine lv_if_eq (tgt := 91) C.1 C.2.1 dX2_select_22 (by decide) (fun c4 => ?_) (fun c4 => ?_)
      · rw [if_pos c4] at hf
        exact bX2_select_L91 C hZ hP (lv_sub hl [0, 1, 2, 3, 4] rfl) hf
      · rw [if_neg c4] at hf
        refine lv_aload_n C.1 C.2.1 dX2_select_25 rfl (lv_at hl 0 rfl) ?_
        refine gtc_X2_members C hP wF_X2_21 dX2_select_26 ?_
        refine lv_iload C.1 C.2.1 dX2_select_29 (lv_at hl 5 rfl) ?_
        refine lv_iload_n C.1 C.2.1 dX2_select_31 rfl (lv_at hl 2 rfl) ?_
        refine lv_iload_n C.1 C.2.1 dX2_select_32 rfl (lv_at hl 3 rfl) ?_
        refine lv_iload C.1 C.2.1 dX2_select_33 (lv_at hl 4 rfl) ?_
        obtain ⟨v5, hv5, hf⟩ := Option.bind_eq_some_iff.mp hf
        refine cRi (As := [.int x5, .int x2, .int x3, .int x4]) (rest := []) C (mX6_methodOf hv5) vX6_methodOf wM_X2_109 ⟨Nat.le_of_ble_eq_true rfl, Nat.le_of_ble_eq_true rfl⟩ hP (rcc_X6 C hP) (fun U hU hW => SF.go hZ va_S.rf hU hW (fun _ h => h)) hl.1 rfl rfl (Nat.le_of_ble_eq_true rfl) dX2_select_35 ⟨Nat.le_of_ble_eq_true rfl, Nat.le_of_ble_eq_true rfl⟩ ?_
        refine lv_istore (lv' := [(7, .int v5), (0, .ref (ad 1)), (1, .int x1), (2, .int x2), (3, .int x3), (4, .int x4), (5, .int x5), (6, .int x6)]) C.1 C.2.1 dX2_select_38 hl (by decide) rfl (fun ls hl => ?_)
        refine lv_aload_n C.1 C.2.1 dX2_select_40 rfl (lv_at hl 1 rfl) ?_
        refine gtc_X2_members C hP wF_X2_21 dX2_select_41 ?_
        refine lv_iload C.1 C.2.1 dX2_select_44 (lv_at hl 0 rfl) ?_
        obtain ⟨v6, hv6, hf⟩ := Option.bind_eq_some_iff.mp hf
        refine cRi (As := [.int v5]) (rest := []) C (mX6_isOpen hv6) vX6_isOpen wM_X2_149 ⟨Nat.le_of_ble_eq_true rfl, Nat.le_of_ble_eq_true rfl⟩ hP (rcc_X6 C hP) (fun U hU hW => SF.go hZ va_S.rf hU hW (fun _ h => h)) hl.1 rfl rfl (Nat.le_of_ble_eq_true rfl) dX2_select_46 ⟨Nat.le_of_ble_eq_true rfl, Nat.le_of_ble_eq_true rfl⟩ ?_
        refine lv_if_eq (tgt := 74) C.1 C.2.1 dX2_select_49 (by decide) (fun c7 => ?_) (fun c7 => ?_)
        · rw [if_pos c7] at hf
          refine lv_aload_n C.1 C.2.1 dX2_select_74 rfl (lv_at hl 1 rfl) ?_
          refine gtc_X2_types C hP wF_X2_12 dX2_select_75 ?_
          refine lv_iload C.1 C.2.1 dX2_select_78 (lv_at hl 6 rfl) ?_
          obtain ⟨v8, hv8, hf⟩ := Option.bind_eq_some_iff.mp hf
          refine cRi (As := [.int x5]) (rest := []) C (mX7_whatIsAbove hv8) vX7_whatIsAbove wM_X2_152 ⟨Nat.le_of_ble_eq_true rfl, Nat.le_of_ble_eq_true rfl⟩ hP (rcc_X7 C hP) (fun U hU hW => SF.go hZ va_S.rf hU hW (fun _ h => h)) hl.1 rfl rfl (Nat.le_of_ble_eq_true rfl) dX2_select_80 ⟨Nat.le_of_ble_eq_true rfl, Nat.le_of_ble_eq_true rfl⟩ ?_
          refine lv_istore (lv' := [(5, .int v8), (7, .int v5), (0, .ref (ad 1)), (1, .int x1), (2, .int x2), (3, .int x3), (4, .int x4), (6, .int x6)]) C.1 C.2.1 dX2_select_83 hl (by decide) rfl (fun ls hl => ?_)
          refine lv_iinc (v := (x6 + 1)) (lv' := [(6, .int (x6 + 1)), (5, .int v8), (7, .int v5), (0, .ref (ad 1)), (1, .int x1), (2, .int x2), (3, .int x3), (4, .int x4)]) C.1 C.2.1 dX2_select_85 hl (k := 7) rfl rfl (by decide) rfl (fun ls hl => ?_)
          refine lv_goto (tgt := 6) C.1 C.2.1 dX2_select_88 (by decide) ?_
          exact ih x1 x2 x3 x4 v8 (x6 + 1) _ (lv_sub hl [3, 4, 5, 6, 7, 1, 0] rfl) hf
        · rw [if_neg c7] at hf
          refine lv_aload_n C.1 C.2.1 dX2_select_52 rfl (lv_at hl 1 rfl) ?_
          refine gtc_X2_members C hP wF_X2_21 dX2_select_53 ?_
          refine lv_iload C.1 C.2.1 dX2_select_56 (lv_at hl 0 rfl) ?_
          refine lv_bipush (v := 8) C.1 C.2.1 dX2_select_58 (by decide) ?_
          obtain ⟨v9, hv9, hf⟩ := Option.bind_eq_some_iff.mp hf
          refine cRi (As := [.int v5, .int 8]) (rest := []) C (mX6_has hv9) vX6_has wM_X2_142 ⟨Nat.le_of_ble_eq_true rfl, Nat.le_of_ble_eq_true rfl⟩ hP (rcc_X6 C hP) (fun U hU hW => SF.go hZ va_S.rf hU hW (fun _ h => h)) hl.1 rfl rfl (Nat.le_of_ble_eq_true rfl) dX2_select_60 ⟨Nat.le_of_ble_eq_true rfl, Nat.le_of_ble_eq_true rfl⟩ ?_
          refine lv_if_eq (tgt := 71) C.1 C.2.1 dX2_select_63 (by decide) (fun c10 => ?_) (fun c10 => ?_)
          · rw [if_pos c10] at hf
            refine lv_iload C.1 C.2.1 dX2_select_71 (lv_at hl 0 rfl) ?_
            exact endRi C hf dX2_select_73
          · rw [if_neg c10] at hf
            refine lv_bipush (v := -2) C.1 C.2.1 dX2_select_66 (by decide) ?_
            refine lv_goto (tgt := 73) C.1 C.2.1 dX2_select_68 (by decide) ?_
            exact endRi C hf dX2_select_73
set_option maxRecDepth 100000 in
set_option maxHeartbeats 4000000 in
theorem mX2_select {r0 : Int32} {x1 : Int32} {x2 : Int32} {x3 : Int32} {x4 : Int32} (hf : fX2_select u x1 x2 x3 x4 = some r0) : MRi l yX2_select cX2_select 8 (some .int) 3 74 [.ref (ad 1), .int x1, .int x2, .int x3, .int x4] g (cW g ad u) r0 := by
  refine entR (by decide) (Nat.le_of_ble_eq_true rfl) ?_
  intro p e s m below meth c ls C hP hZ hl
  have hl : lv_has ls 8 [(0, .ref (ad 1)), (1, .int x1), (2, .int x2), (3, .int x3), (4, .int x4)] := hl
  rw [fX2_select] at hf
  refine lv_iload_n C.1 C.2.1 dX2_select_0 rfl (lv_at hl 1 rfl) ?_
  refine lv_istore (lv' := [(5, .int x1), (0, .ref (ad 1)), (1, .int x1), (2, .int x2), (3, .int x3), (4, .int x4)]) C.1 C.2.1 dX2_select_1 hl (by decide) rfl (fun ls hl => ?_)
  refine lv_iconst (v := 0) C.1 C.2.1 dX2_select_3 (by decide) ?_
  refine lv_istore (lv' := [(6, .int 0), (5, .int x1), (0, .ref (ad 1)), (1, .int x1), (2, .int x2), (3, .int x3), (4, .int x4)]) C.1 C.2.1 dX2_select_4 hl (by decide) rfl (fun ls hl => ?_)
  exact bX2_select_L6 C hZ 5000 x1 x2 x3 x4 x1 0 hP _ (lv_sub hl [2, 3, 4, 5, 6, 1, 0] rfl) hf
end
theorem vX2_select : YV yX2_select cX2_select 8 (some .int) 4 := ⟨⟨wK_X2_select, wZ_X2, by decide +kernel⟩, wI_X2_select, wV_X2_select⟩
def fX5_failureOfCall_L125 (u : ST) (y0 : Int32) : Option (Int32 × ST) :=
  (fX6_isMethod u y0).bind fun v20 =>
  if v20 = 0 then
    if y0 = (-4) then
      some (5, u)
    else
      some (8, u)
  else
    (rdL u 21 60 y0).bind fun v22 =>
    (some (uL u 501 v22)).bind fun u23 =>
    some (0, u23)
def fX5_failureOfCall_L85 (u : ST) (x1 : Nat) (x2 : Int32) (x4 : Int32) (x5 : Int32) : Option (Int32 × ST) :=
  if x5 = 0 then
    (pcI u x1 8).bind fun v14 =>
    if v14 = 0 then
      (pcI u x1 2).bind fun v16 =>
      (pcI u x1 5).bind fun v17 =>
      (pcI u x1 6).bind fun v18 =>
      (fX2_select u x2 v16 v17 v18).bind fun v19 =>
      fX5_failureOfCall_L125 u v19
    else
      fX5_failureOfCall_L125 u x4
  else
    some (x5, u)
def fX5_failureOfCall (u : ST) (x1 : Nat) (x2 : Int32) : Option (Int32 × ST) :=
  (pcI u x1 1).bind fun v1 =>
  (fX7_isFace u v1).bind fun v2 =>
  (pcI u x1 9).bind fun v3 =>
  if v2 = v3 then
    (pcI u x1 1).bind fun v5 =>
    (pcI u x1 2).bind fun v6 =>
    (pcI u x1 5).bind fun v7 =>
    (pcI u x1 6).bind fun v8 =>
    b2 (fX2_lookForMethod u v5 v6 v7 v8) fun v10 u9 =>
    (fX5_failureOfFound u9 x1 v10).bind fun v11 =>
    if v11 = 0 then
      (pcI u9 x1 8).bind fun v25 =>
      if v25 = 0 then
        (fX5_failureOfObject u9 x1 x2).bind fun v27 =>
        fX5_failureOfCall_L85 u9 x1 x2 v10 v27
      else
        fX5_failureOfCall_L85 u9 x1 x2 v10 v11
    else
      fX5_failureOfCall_L85 u9 x1 x2 v10 v11
  else
    some (5, u)
section
variable {p : Program} {l : Launch} {e : Env} {s : State} {m : MethodId} {args : Array Value} {below : List Frame} {meth : Method} {c : Code} {H : Heap} {locs : List Loc} {g : GP} {ls : Array Slot} {A : Nat → Prop} {ad : Nat → Nat} {u : ST}
set_option maxRecDepth 100000 in
set_option maxHeartbeats 4000000 in
theorem bX5_failureOfCall_L125 {r0 : Int32} {u0 : ST} {y0 : Int32} (C : Cx p s m args meth c cX5_failureOfCall 7 RX5 (some .int) g) (hA : ∀ q, s.heap.size ≤ q → A q) (hZ : SF A s) (hP : va_P g.1 vwCl (cW g ad u) H) (hD : va_D A (cW g ad u)) (hS : va_S A s.heap H locs) (hl : lv_has ls 7 [(0, .ref (ad 5)), (3, .ref (ad 3))]) (hf : fX5_failureOfCall_L125 u y0 = some (r0, u0)) : W p l e (rmW 17 406 0 0) s m args below meth c H locs 0 0 (MQ below (va_Qi (fun r v => r = r0 ∧ v = u0) (BW g A (cW g ad)) A) args s 0 0 A) (F0 m 125 ls [.int y0]) := by
  rw [fX5_failureOfCall_L125] at hf
  refine lv_istore (lv' := [(6, .int y0), (0, .ref (ad 5)), (3, .ref (ad 3))]) C.1 C.2.1 dX5_failureOfCall_125 hl (by decide) rfl (fun ls hl => ?_)
  refine lv_aload_n C.1 C.2.1 dX5_failureOfCall_127 rfl (lv_at hl 2 rfl) ?_
  refine lv_iload C.1 C.2.1 dX5_failureOfCall_128 (lv_at hl 0 rfl) ?_
  obtain ⟨v20, hv20, hf⟩ := Option.bind_eq_some_iff.mp hf
  refine cRi (As := [.int y0]) (rest := []) C (mX6_isMethod hv20) vX6_isMethod wM_X5_126 ⟨Nat.le_of_ble_eq_true rfl, Nat.le_of_ble_eq_true rfl⟩ hP (rcc_X6 C hP) (fun U hU hW => SF.go hZ hS hU hW (fun _ h => h.elim)) hl.1 rfl rfl (Nat.le_of_ble_eq_true rfl) dX5_failureOfCall_130 ⟨Nat.le_of_ble_eq_true rfl, Nat.le_of_ble_eq_true rfl⟩ ?_
  refine lv_if_ne (tgt := 150) C.1 C.2.1 dX5_failureOfCall_133 (by decide) (fun c21 => ?_) (fun c21 => ?_)
  · rw [if_neg c21] at hf
    refine lv_aload_n C.1 C.2.1 dX5_failureOfCall_150 rfl (lv_at hl 1 rfl) ?_
    refine lv_aload_n C.1 C.2.1 dX5_failureOfCall_151 rfl (lv_at hl 2 rfl) ?_
    refine gtc_X6_value C hP wF_X5_105 dX5_failureOfCall_152 ?_
    refine lv_iload C.1 C.2.1 dX5_failureOfCall_155 (lv_at hl 0 rfl) ?_
    obtain ⟨v22, hv22, hf⟩ := Option.bind_eq_some_iff.mp hf
    refine ldc_21 C hP hv22 dX5_failureOfCall_157 ?_
    obtain ⟨u23, hu23, hf⟩ := Option.bind_eq_some_iff.mp hf
    refine ptc_X5_found C hP hD hS wF_X5_15 dX5_failureOfCall_158 (fun H locs hP hD hS => ?_)
    rw [Option.some.inj hu23] at hP hD
    refine lv_iconst (v := 0) C.1 C.2.1 dX5_failureOfCall_161 (by decide) ?_
    exact endWi C hP hD hS (Nat.le_refl _) (Nat.le_refl _) hf dX5_failureOfCall_162
  · rw [if_pos c21] at hf
    refine lv_iload C.1 C.2.1 dX5_failureOfCall_136 (lv_at hl 0 rfl) ?_
    refine lv_bipush (v := -4) C.1 C.2.1 dX5_failureOfCall_138 (by decide) ?_
    refine lv_icmp_ne (tgt := 147) C.1 C.2.1 dX5_failureOfCall_140 (by decide) (fun c24 => ?_) (fun c24 => ?_)
    · rw [if_neg c24] at hf
      refine lv_bipush (v := 8) C.1 C.2.1 dX5_failureOfCall_147 (by decide) ?_
      exact endWi C hP hD hS (Nat.le_refl _) (Nat.le_refl _) hf dX5_failureOfCall_149
    · rw [if_pos c24] at hf
      refine lv_iconst (v := 5) C.1 C.2.1 dX5_failureOfCall_143 (by decide) ?_
      refine lv_goto (tgt := 149) C.1 C.2.1 dX5_failureOfCall_144 (by decide) ?_
      exact endWi C hP hD hS (Nat.le_refl _) (Nat.le_refl _) hf dX5_failureOfCall_149
set_option maxRecDepth 100000 in
set_option maxHeartbeats 4000000 in
theorem bX5_failureOfCall_L85 {r0 : Int32} {u0 : ST} {x1 : Nat} {x2 : Int32} {x4 : Int32} {x5 : Int32} (C : Cx p s m args meth c cX5_failureOfCall 7 RX5 (some .int) g) (hA : ∀ q, s.heap.size ≤ q → A q) (hZ : SF A s) (hP : va_P g.1 vwCl (cW g ad u) H) (hD : va_D A (cW g ad u)) (hS : va_S A s.heap H locs) (hl : lv_has ls 7 [(0, .ref (ad 5)), (1, .ref x1), (2, .int x2), (3, .ref (ad 3)), (4, .int x4), (5, .int x5)]) (hf : fX5_failureOfCall_L85 u x1 x2 x4 x5 = some (r0, u0)) : W p l e (rmW 17 406 0 0) s m args below meth c H locs 0 0 (MQ below (va_Qi (fun r v => r = r0 ∧ v = u0) (BW g A (cW g ad)) A) args s 0 0 A) (F0 m 85 ls []) := by
  rw [fX5_failureOfCall_L85] at hf
  refine lv_iload C.1 C.2.1 dX5_failureOfCall_85 (lv_at hl 5 rfl) ?_
  refine lv_if_eq (tgt := 93) C.1 C.2.1 dX5_failureOfCall_87 (by decide) (fun c13 => ?_) (fun c13 => ?_)
  · rw [if_pos c13] at hf
    refine lv_aload_n C.1 C.2.1 dX5_failureOfCall_93 rfl (lv_at hl 1 rfl) ?_
    obtain ⟨v14, hv14, hf⟩ := Option.bind_eq_some_iff.mp hf
    refine gC_isStatic C hP hv14 wF_X5_86 dX5_failureOfCall_94 ?_
    refine lv_if_eq (tgt := 105) C.1 C.2.1 dX5_failureOfCall_97 (by decide) (fun c15 => ?_) (fun c15 => ?_)
    · rw [if_pos c15] at hf
      refine lv_aload_n C.1 C.2.1 dX5_failureOfCall_105 rfl (lv_at hl 0 rfl) ?_
      refine gtc_X5_house C hP wF_X5_9 dX5_failureOfCall_106 ?_
      refine lv_iload_n C.1 C.2.1 dX5_failureOfCall_109 rfl (lv_at hl 2 rfl) ?_
      refine lv_aload_n C.1 C.2.1 dX5_failureOfCall_110 rfl (lv_at hl 1 rfl) ?_
      obtain ⟨v16, hv16, hf⟩ := Option.bind_eq_some_iff.mp hf
      refine gC_n C hP hv16 wF_X5_76 dX5_failureOfCall_111 ?_
      refine lv_aload_n C.1 C.2.1 dX5_failureOfCall_114 rfl (lv_at hl 1 rfl) ?_
      obtain ⟨v17, hv17, hf⟩ := Option.bind_eq_some_iff.mp hf
      refine gC_first C hP hv17 wF_X5_37 dX5_failureOfCall_115 ?_
      refine lv_aload_n C.1 C.2.1 dX5_failureOfCall_118 rfl (lv_at hl 1 rfl) ?_
      obtain ⟨v18, hv18, hf⟩ := Option.bind_eq_some_iff.mp hf
      refine gC_second C hP hv18 wF_X5_40 dX5_failureOfCall_119 ?_
      obtain ⟨v19, hv19, hf⟩ := Option.bind_eq_some_iff.mp hf
      refine cRi (As := [.int x2, .int v16, .int v17, .int v18]) (rest := []) C (mX2_select hv19) vX2_select wM_X5_123 ⟨Nat.le_of_ble_eq_true rfl, Nat.le_of_ble_eq_true rfl⟩ hP (rcc_X2 C hP) (fun U hU hW => SF.go hZ hS hU hW (fun _ h => h.elim)) hl.1 rfl rfl (Nat.le_of_ble_eq_true rfl) dX5_failureOfCall_122 ⟨Nat.le_of_ble_eq_true rfl, Nat.le_of_ble_eq_true rfl⟩ ?_
      exact bX5_failureOfCall_L125 C hA hZ hP hD hS (lv_sub hl [0, 3] rfl) hf
    · rw [if_neg c15] at hf
      refine lv_iload C.1 C.2.1 dX5_failureOfCall_100 (lv_at hl 4 rfl) ?_
      refine lv_goto (tgt := 125) C.1 C.2.1 dX5_failureOfCall_102 (by decide) ?_
      exact bX5_failureOfCall_L125 C hA hZ hP hD hS (lv_sub hl [0, 3] rfl) hf
  · rw [if_neg c13] at hf
    refine lv_iload C.1 C.2.1 dX5_failureOfCall_90 (lv_at hl 5 rfl) ?_
    exact endWi C hP hD hS (Nat.le_refl _) (Nat.le_refl _) hf dX5_failureOfCall_92
set_option maxRecDepth 100000 in
set_option maxHeartbeats 4000000 in
theorem mX5_failureOfCall {r0 : Int32} {u0 : ST} {x1 : Nat} {x2 : Int32} (hf : fX5_failureOfCall u x1 x2 = some (r0, u0)) : MWi l yX5_failureOfCall cX5_failureOfCall 7 (some .int) 17 406 0 0 [.ref (ad 5), .ref x1, .int x2] g (cW g ad) u r0 u0 := by
  refine entW (Qc := fun A => va_Qi (fun r v => r = r0 ∧ v = u0) (BW g A (cW g ad)) A) (by decide) (Nat.le_of_ble_eq_true rfl) ?_
  intro p e s m below meth c ls A C hP hD hS hA hZ hl
  have hl : lv_has ls 7 [(0, .ref (ad 5)), (1, .ref x1), (2, .int x2)] := hl
  rw [fX5_failureOfCall] at hf
  refine lv_aload_n C.1 C.2.1 dX5_failureOfCall_0 rfl (lv_at hl 0 rfl) ?_
  refine gtc_X5_house C hP wF_X5_9 dX5_failureOfCall_1 ?_
  refine gtc_X2_members C hP wF_X5_72 dX5_failureOfCall_4 ?_
  refine lv_astore_n (lv' := [(3, .ref (ad 3)), (0, .ref (ad 5)), (1, .ref x1), (2, .int x2)]) C.1 C.2.1 dX5_failureOfCall_7 rfl hl (by decide) rfl (fun ls hl => ?_)
  refine lv_aload_n C.1 C.2.1 dX5_failureOfCall_8 rfl (lv_at hl 1 rfl) ?_
  refine gtc_X5_house C hP wF_X5_9 dX5_failureOfCall_9 ?_
  refine gtc_X2_types C hP wF_X5_19 dX5_failureOfCall_12 ?_
  refine lv_aload_n C.1 C.2.1 dX5_failureOfCall_15 rfl (lv_at hl 2 rfl) ?_
  obtain ⟨v1, hv1, hf⟩ := Option.bind_eq_some_iff.mp hf
  refine gC_t C hP hv1 wF_X5_25 dX5_failureOfCall_16 ?_
  obtain ⟨v2, hv2, hf⟩ := Option.bind_eq_some_iff.mp hf
  refine cRi (As := [.int v1]) (rest := []) C (mX7_isFace hv2) vX7_isFace wM_X5_113 ⟨Nat.le_of_ble_eq_true rfl, Nat.le_of_ble_eq_true rfl⟩ hP (rcc_X7 C hP) (fun U hU hW => SF.go hZ hS hU hW (fun _ h => h.elim)) hl.1 rfl rfl (Nat.le_of_ble_eq_true rfl) dX5_failureOfCall_19 ⟨Nat.le_of_ble_eq_true rfl, Nat.le_of_ble_eq_true rfl⟩ ?_
  refine lv_aload_n C.1 C.2.1 dX5_failureOfCall_22 rfl (lv_at hl 2 rfl) ?_
  obtain ⟨v3, hv3, hf⟩ := Option.bind_eq_some_iff.mp hf
  refine gC_onFace C hP hv3 wF_X5_116 dX5_failureOfCall_23 ?_
  refine lv_icmp_eq (tgt := 31) C.1 C.2.1 dX5_failureOfCall_26 (by decide) (fun c4 => ?_) (fun c4 => ?_)
  · rw [if_pos c4] at hf
    refine lv_aload_n C.1 C.2.1 dX5_failureOfCall_31 rfl (lv_at hl 1 rfl) ?_
    refine gtc_X5_house C hP wF_X5_9 dX5_failureOfCall_32 ?_
    refine lv_aload_n C.1 C.2.1 dX5_failureOfCall_35 rfl (lv_at hl 2 rfl) ?_
    obtain ⟨v5, hv5, hf⟩ := Option.bind_eq_some_iff.mp hf
    refine gC_t C hP hv5 wF_X5_25 dX5_failureOfCall_36 ?_
    refine lv_aload_n C.1 C.2.1 dX5_failureOfCall_39 rfl (lv_at hl 2 rfl) ?_
    obtain ⟨v6, hv6, hf⟩ := Option.bind_eq_some_iff.mp hf
    refine gC_n C hP hv6 wF_X5_76 dX5_failureOfCall_40 ?_
    refine lv_aload_n C.1 C.2.1 dX5_failureOfCall_43 rfl (lv_at hl 2 rfl) ?_
    obtain ⟨v7, hv7, hf⟩ := Option.bind_eq_some_iff.mp hf
    refine gC_first C hP hv7 wF_X5_37 dX5_failureOfCall_44 ?_
    refine lv_aload_n C.1 C.2.1 dX5_failureOfCall_47 rfl (lv_at hl 2 rfl) ?_
    obtain ⟨v8, hv8, hf⟩ := Option.bind_eq_some_iff.mp hf
    refine gC_second C hP hv8 wF_X5_40 dX5_failureOfCall_48 ?_
    obtain ⟨v10, u9, hu9, hf⟩ := b2_some hf
    refine cWi (As := [.int v5, .int v6, .int v7, .int v8]) (rest := []) (mc := 0) (ms := 0) C (mX2_lookForMethod hu9) vX2_lookForMethod wM_X5_119 ⟨Nat.le_of_ble_eq_true rfl, Nat.le_of_ble_eq_true rfl⟩ hP hD hS hA hZ (rcc_X2 C hP) hl.1 rfl rfl (Nat.le_of_ble_eq_true rfl) dX5_failureOfCall_51 ⟨Nat.le_of_ble_eq_true rfl, Nat.le_of_ble_eq_true rfl⟩ (fun H locs hP hD hS => ?_)
    refine lv_istore (lv' := [(4, .int v10), (3, .ref (ad 3)), (0, .ref (ad 5)), (1, .ref x1), (2, .int x2)]) C.1 C.2.1 dX5_failureOfCall_54 hl (by decide) rfl (fun ls hl => ?_)
    refine lv_aload_n C.1 C.2.1 dX5_failureOfCall_56 rfl (lv_at hl 2 rfl) ?_
    refine lv_aload_n C.1 C.2.1 dX5_failureOfCall_57 rfl (lv_at hl 3 rfl) ?_
    refine lv_iload C.1 C.2.1 dX5_failureOfCall_58 (lv_at hl 0 rfl) ?_
    obtain ⟨v11, hv11, hf⟩ := Option.bind_eq_some_iff.mp hf
    refine cRi (As := [.ref x1, .int v10]) (rest := []) C (mX5_failureOfFound hv11) vX5_failureOfFound wM_X5_83 ⟨Nat.le_of_ble_eq_true rfl, Nat.le_of_ble_eq_true rfl⟩ hP (rcc_X5 C hP) (fun U hU hW => SF.go hZ hS hU hW (fun _ h => h.elim)) hl.1 rfl rfl (Nat.le_of_ble_eq_true rfl) dX5_failureOfCall_60 ⟨Nat.le_of_ble_eq_true rfl, Nat.le_of_ble_eq_true rfl⟩ ?_
    refine lv_istore (lv' := [(5, .int v11), (4, .int v10), (3, .ref (ad 3)), (0, .ref (ad 5)), (1, .ref x1), (2, .int x2)]) C.1 C.2.1 dX5_failureOfCall_63 hl (by decide) rfl (fun ls hl => ?_)
    refine lv_iload C.1 C.2.1 dX5_failureOfCall_65 (lv_at hl 0 rfl) ?_
    refine lv_if_ne (tgt := 85) C.1 C.2.1 dX5_failureOfCall_67 (by decide) (fun c12 => ?_) (fun c12 => ?_)
    · rw [if_neg c12] at hf
      exact bX5_failureOfCall_L85 C hA hZ hP hD hS (lv_sub hl [3, 4, 5, 2, 1, 0] rfl) hf
    · rw [if_pos c12] at hf
      refine lv_aload_n C.1 C.2.1 dX5_failureOfCall_70 rfl (lv_at hl 4 rfl) ?_
      obtain ⟨v25, hv25, hf⟩ := Option.bind_eq_some_iff.mp hf
      refine gC_isStatic C hP hv25 wF_X5_86 dX5_failureOfCall_71 ?_
      refine lv_if_ne (tgt := 85) C.1 C.2.1 dX5_failureOfCall_74 (by decide) (fun c26 => ?_) (fun c26 => ?_)
      · rw [if_neg c26] at hf
        exact bX5_failureOfCall_L85 C hA hZ hP hD hS (lv_sub hl [3, 4, 5, 2, 1, 0] rfl) hf
      · rw [if_pos c26] at hf
        refine lv_aload_n C.1 C.2.1 dX5_failureOfCall_77 rfl (lv_at hl 3 rfl) ?_
        refine lv_aload_n C.1 C.2.1 dX5_failureOfCall_78 rfl (lv_at hl 4 rfl) ?_
        refine lv_iload_n C.1 C.2.1 dX5_failureOfCall_79 rfl (lv_at hl 5 rfl) ?_
        obtain ⟨v27, hv27, hf⟩ := Option.bind_eq_some_iff.mp hf
        refine cRi (As := [.ref x1, .int x2]) (rest := []) C (mX5_failureOfObject hv27) vX5_failureOfObject wM_X5_89 ⟨Nat.le_of_ble_eq_true rfl, Nat.le_of_ble_eq_true rfl⟩ hP (rcc_X5 C hP) (fun U hU hW => SF.go hZ hS hU hW (fun _ h => h.elim)) hl.1 rfl rfl (Nat.le_of_ble_eq_true rfl) dX5_failureOfCall_80 ⟨Nat.le_of_ble_eq_true rfl, Nat.le_of_ble_eq_true rfl⟩ ?_
        refine lv_istore (lv' := [(5, .int v27), (4, .int v10), (3, .ref (ad 3)), (0, .ref (ad 5)), (1, .ref x1), (2, .int x2)]) C.1 C.2.1 dX5_failureOfCall_83 hl (by decide) rfl (fun ls hl => ?_)
        exact bX5_failureOfCall_L85 C hA hZ hP hD hS (lv_sub hl [3, 4, 5, 2, 1, 0] rfl) hf
  · rw [if_neg c4] at hf
    refine lv_iconst (v := 5) C.1 C.2.1 dX5_failureOfCall_29 (by decide) ?_
    exact endWi C hP hD hS (Nat.le_refl _) (Nat.le_refl _) hf dX5_failureOfCall_30
end
theorem vX5_failureOfCall : YV yX5_failureOfCall cX5_failureOfCall 7 (some .int) 2 := ⟨⟨wK_X5_failureOfCall, wZ_X5, by decide +kernel⟩, wI_X5_failureOfCall, wV_X5_failureOfCall⟩
def fX5_failureOf (u : ST) (x1 : Nat) (x2 : Int32) : Option (Int32 × ST) :=
  (some (uL u 501 0)).bind fun u1 =>
  (pcI u1 x1 1).bind fun v2 =>
  (fX7_isType u1 v2).bind fun v3 =>
  if v3 = 0 then
    some (3, u1)
  else
    (pcI u1 x1 5).bind fun v5 =>
    (pcI u1 x1 6).bind fun v6 =>
    (fX7_areParameters u1 v5 v6).bind fun v7 =>
    if v7 = 0 then
      some (3, u1)
    else
      (pcI u1 x1 10).bind fun v9 =>
      if v9 = 0 then
        (pcI u1 x1 1).bind fun v11 =>
        (fX2_failureOfReading u1 v11).bind fun v12 =>
        if v12 = 0 then
          (pcI u1 x1 0).bind fun v14 =>
          if v14 = 0 then
            b2 (fX5_failureOfGet u1 x1 x2) fun v17 u16 =>
            some (v17, u16)
          else
            if v14 = 1 then
              b2 (fX5_failureOfCall u1 x1 x2) fun v20 u19 =>
              some (v20, u19)
            else
              b2 (fX5_failureOfNew u1 x1) fun v22 u21 =>
              some (v22, u21)
        else
          some (v12, u1)
      else
        (pcV u1 x1).bind fun v23 =>
        (some (uL u1 501 v23)).bind fun u24 =>
        some (0, u24)
section
variable {p : Program} {l : Launch} {e : Env} {s : State} {m : MethodId} {args : Array Value} {below : List Frame} {meth : Method} {c : Code} {H : Heap} {locs : List Loc} {g : GP} {ls : Array Slot} {A : Nat → Prop} {ad : Nat → Nat} {u : ST}
set_option maxRecDepth 100000 in
set_option maxHeartbeats 4000000 in
theorem mX5_failureOf {r0 : Int32} {u0 : ST} {x1 : Nat} {x2 : Int32} (hf : fX5_failureOf u x1 x2 = some (r0, u0)) : MWi l yX5_failureOf cX5_failureOf 4 (some .int) 18 432 0 0 [.ref (ad 5), .ref x1, .int x2] g (cW g ad) u r0 u0 := by
  refine entW (Qc := fun A => va_Qi (fun r v => r = r0 ∧ v = u0) (BW g A (cW g ad)) A) (by decide) (Nat.le_of_ble_eq_true rfl) ?_
  intro p e s m below meth c ls A C hP hD hS hA hZ hl
  have hl : lv_has ls 4 [(0, .ref (ad 5)), (1, .ref x1), (2, .int x2)] := hl
  rw [fX5_failureOf] at hf
  refine lv_aload_n C.1 C.2.1 dX5_failureOf_0 rfl (lv_at hl 0 rfl) ?_
  refine lv_lconst (v := 0) C.1 C.2.1 dX5_failureOf_1 (by decide) ?_
  obtain ⟨u1, hu1, hf⟩ := Option.bind_eq_some_iff.mp hf
  refine ptc_X5_found C hP hD hS wF_X5_15 dX5_failureOf_2 (fun H locs hP hD hS => ?_)
  rw [Option.some.inj hu1] at hP hD
  refine lv_aload_n C.1 C.2.1 dX5_failureOf_5 rfl (lv_at hl 0 rfl) ?_
  refine gtc_X5_house C hP wF_X5_9 dX5_failureOf_6 ?_
  refine gtc_X2_types C hP wF_X5_19 dX5_failureOf_9 ?_
  refine lv_aload_n C.1 C.2.1 dX5_failureOf_12 rfl (lv_at hl 1 rfl) ?_
  obtain ⟨v2, hv2, hf⟩ := Option.bind_eq_some_iff.mp hf
  refine gC_t C hP hv2 wF_X5_25 dX5_failureOf_13 ?_
  obtain ⟨v3, hv3, hf⟩ := Option.bind_eq_some_iff.mp hf
  refine cRi (As := [.int v2]) (rest := []) C (mX7_isType hv3) vX7_isType wM_X5_31 ⟨Nat.le_of_ble_eq_true rfl, Nat.le_of_ble_eq_true rfl⟩ hP (rcc_X7 C hP) (fun U hU hW => SF.go hZ hS hU hW (fun _ h => h.elim)) hl.1 rfl rfl (Nat.le_of_ble_eq_true rfl) dX5_failureOf_16 ⟨Nat.le_of_ble_eq_true rfl, Nat.le_of_ble_eq_true rfl⟩ ?_
  refine lv_if_eq (tgt := 43) C.1 C.2.1 dX5_failureOf_19 (by decide) (fun c4 => ?_) (fun c4 => ?_)
  · rw [if_pos c4] at hf
    refine lv_iconst (v := 3) C.1 C.2.1 dX5_failureOf_43 (by decide) ?_
    exact endWi C hP hD hS (Nat.le_refl _) (Nat.le_refl _) hf dX5_failureOf_44
  · rw [if_neg c4] at hf
    refine lv_aload_n C.1 C.2.1 dX5_failureOf_22 rfl (lv_at hl 0 rfl) ?_
    refine gtc_X5_house C hP wF_X5_9 dX5_failureOf_23 ?_
    refine gtc_X2_types C hP wF_X5_19 dX5_failureOf_26 ?_
    refine lv_aload_n C.1 C.2.1 dX5_failureOf_29 rfl (lv_at hl 1 rfl) ?_
    obtain ⟨v5, hv5, hf⟩ := Option.bind_eq_some_iff.mp hf
    refine gC_first C hP hv5 wF_X5_37 dX5_failureOf_30 ?_
    refine lv_aload_n C.1 C.2.1 dX5_failureOf_33 rfl (lv_at hl 1 rfl) ?_
    obtain ⟨v6, hv6, hf⟩ := Option.bind_eq_some_iff.mp hf
    refine gC_second C hP hv6 wF_X5_40 dX5_failureOf_34 ?_
    obtain ⟨v7, hv7, hf⟩ := Option.bind_eq_some_iff.mp hf
    refine cRi (As := [.int v5, .int v6]) (rest := []) C (mX7_areParameters hv7) vX7_areParameters wM_X5_43 ⟨Nat.le_of_ble_eq_true rfl, Nat.le_of_ble_eq_true rfl⟩ hP (rcc_X7 C hP) (fun U hU hW => SF.go hZ hS hU hW (fun _ h => h.elim)) hl.1 rfl rfl (Nat.le_of_ble_eq_true rfl) dX5_failureOf_37 ⟨Nat.le_of_ble_eq_true rfl, Nat.le_of_ble_eq_true rfl⟩ ?_
    refine lv_if_ne (tgt := 45) C.1 C.2.1 dX5_failureOf_40 (by decide) (fun c8 => ?_) (fun c8 => ?_)
    · rw [if_neg c8] at hf
      refine lv_aload_n C.1 C.2.1 dX5_failureOf_45 rfl (lv_at hl 1 rfl) ?_
      obtain ⟨v9, hv9, hf⟩ := Option.bind_eq_some_iff.mp hf
      refine gC_keeps C hP hv9 wF_X5_47 dX5_failureOf_46 ?_
      refine lv_if_eq (tgt := 62) C.1 C.2.1 dX5_failureOf_49 (by decide) (fun c10 => ?_) (fun c10 => ?_)
      · rw [if_pos c10] at hf
        refine lv_aload_n C.1 C.2.1 dX5_failureOf_62 rfl (lv_at hl 0 rfl) ?_
        refine gtc_X5_house C hP wF_X5_9 dX5_failureOf_63 ?_
        refine lv_aload_n C.1 C.2.1 dX5_failureOf_66 rfl (lv_at hl 1 rfl) ?_
        obtain ⟨v11, hv11, hf⟩ := Option.bind_eq_some_iff.mp hf
        refine gC_t C hP hv11 wF_X5_25 dX5_failureOf_67 ?_
        obtain ⟨v12, hv12, hf⟩ := Option.bind_eq_some_iff.mp hf
        refine cRi (As := [.int v11]) (rest := []) C (mX2_failureOfReading hv12) vX2_failureOfReading wM_X5_54 ⟨Nat.le_of_ble_eq_true rfl, Nat.le_of_ble_eq_true rfl⟩ hP (rcc_X2 C hP) (fun U hU hW => SF.go hZ hS hU hW (fun _ h => h.elim)) hl.1 rfl rfl (Nat.le_of_ble_eq_true rfl) dX5_failureOf_70 ⟨Nat.le_of_ble_eq_true rfl, Nat.le_of_ble_eq_true rfl⟩ ?_
        refine lv_istore_n (lv' := [(3, .int v12), (0, .ref (ad 5)), (1, .ref x1), (2, .int x2)]) C.1 C.2.1 dX5_failureOf_73 rfl hl (by decide) rfl (fun ls hl => ?_)
        refine lv_iload_n C.1 C.2.1 dX5_failureOf_74 rfl (lv_at hl 0 rfl) ?_
        refine lv_if_eq (tgt := 80) C.1 C.2.1 dX5_failureOf_75 (by decide) (fun c13 => ?_) (fun c13 => ?_)
        · rw [if_pos c13] at hf
          refine lv_aload_n C.1 C.2.1 dX5_failureOf_80 rfl (lv_at hl 2 rfl) ?_
          obtain ⟨v14, hv14, hf⟩ := Option.bind_eq_some_iff.mp hf
          refine gC_sort C hP hv14 wF_X5_58 dX5_failureOf_81 ?_
          by_cases c15 : v14 = 0
          · rw [if_pos c15] at hf
            have e9 : (v14 : Int32).toInt = 0 := by rw [c15]; rfl
            refine lv_lookup (off := 28) (tgt := 112) C.1 C.2.1 dX5_failureOf_84 (by decide) (by rw [e9]; rfl) (by decide) ?_
            refine lv_aload_n C.1 C.2.1 dX5_failureOf_112 rfl (lv_at hl 1 rfl) ?_
            refine lv_aload_n C.1 C.2.1 dX5_failureOf_113 rfl (lv_at hl 2 rfl) ?_
            refine lv_iload_n C.1 C.2.1 dX5_failureOf_114 rfl (lv_at hl 3 rfl) ?_
            obtain ⟨v17, u16, hu16, hf⟩ := b2_some hf
            refine cWi (As := [.ref x1, .int x2]) (rest := []) (mc := 0) (ms := 0) C (mX5_failureOfGet hu16) vX5_failureOfGet wM_X5_61 ⟨Nat.le_of_ble_eq_true rfl, Nat.le_of_ble_eq_true rfl⟩ hP hD hS hA hZ (rcc_X5 C hP) hl.1 rfl rfl (Nat.le_of_ble_eq_true rfl) dX5_failureOf_115 ⟨Nat.le_of_ble_eq_true rfl, Nat.le_of_ble_eq_true rfl⟩ (fun H locs hP hD hS => ?_)
            exact endWi C hP hD hS (Nat.le_refl _) (Nat.le_refl _) hf dX5_failureOf_118
          rw [if_neg c15] at hf
          by_cases c18 : v14 = 1
          · rw [if_pos c18] at hf
            have e9 : (v14 : Int32).toInt = 1 := by rw [c18]; rfl
            refine lv_lookup (off := 35) (tgt := 119) C.1 C.2.1 dX5_failureOf_84 (by decide) (by rw [e9]; rfl) (by decide) ?_
            refine lv_aload_n C.1 C.2.1 dX5_failureOf_119 rfl (lv_at hl 1 rfl) ?_
            refine lv_aload_n C.1 C.2.1 dX5_failureOf_120 rfl (lv_at hl 2 rfl) ?_
            refine lv_iload_n C.1 C.2.1 dX5_failureOf_121 rfl (lv_at hl 3 rfl) ?_
            obtain ⟨v20, u19, hu19, hf⟩ := b2_some hf
            refine cWi (As := [.ref x1, .int x2]) (rest := []) (mc := 0) (ms := 0) C (mX5_failureOfCall hu19) vX5_failureOfCall wM_X5_65 ⟨Nat.le_of_ble_eq_true rfl, Nat.le_of_ble_eq_true rfl⟩ hP hD hS hA hZ (rcc_X5 C hP) hl.1 rfl rfl (Nat.le_of_ble_eq_true rfl) dX5_failureOf_122 ⟨Nat.le_of_ble_eq_true rfl, Nat.le_of_ble_eq_true rfl⟩ (fun H locs hP hD hS => ?_)
            exact endWi C hP hD hS (Nat.le_refl _) (Nat.le_refl _) hf dX5_failureOf_125
          rw [if_neg c18] at hf
          refine lv_lookup (off := 42) (tgt := 126) C.1 C.2.1 dX5_failureOf_84 (by decide) (by have q0 := neI c15 (k := 0) rfl; have q1 := neI c18 (k := 1) rfl; exact lk2 q0 q1) (by decide) ?_
          refine lv_aload_n C.1 C.2.1 dX5_failureOf_126 rfl (lv_at hl 1 rfl) ?_
          refine lv_aload_n C.1 C.2.1 dX5_failureOf_127 rfl (lv_at hl 2 rfl) ?_
          obtain ⟨v22, u21, hu21, hf⟩ := b2_some hf
          refine cWi (As := [.ref x1]) (rest := []) (mc := 0) (ms := 0) C (mX5_failureOfNew hu21) vX5_failureOfNew wM_X5_68 ⟨Nat.le_of_ble_eq_true rfl, Nat.le_of_ble_eq_true rfl⟩ hP hD hS hA hZ (rcc_X5 C hP) hl.1 rfl rfl (Nat.le_of_ble_eq_true rfl) dX5_failureOf_128 ⟨Nat.le_of_ble_eq_true rfl, Nat.le_of_ble_eq_true rfl⟩ (fun H locs hP hD hS => ?_)
          exact endWi C hP hD hS (Nat.le_refl _) (Nat.le_refl _) hf dX5_failureOf_131
        · rw [if_neg c13] at hf
          refine lv_iload_n C.1 C.2.1 dX5_failureOf_78 rfl (lv_at hl 0 rfl) ?_
          exact endWi C hP hD hS (Nat.le_refl _) (Nat.le_refl _) hf dX5_failureOf_79
      · rw [if_neg c10] at hf
        refine lv_aload_n C.1 C.2.1 dX5_failureOf_52 rfl (lv_at hl 0 rfl) ?_
        refine lv_aload_n C.1 C.2.1 dX5_failureOf_53 rfl (lv_at hl 1 rfl) ?_
        obtain ⟨v23, hv23, hf⟩ := Option.bind_eq_some_iff.mp hf
        refine gC_kept C hP hv23 wF_X5_51 dX5_failureOf_54 ?_
        obtain ⟨u24, hu24, hf⟩ := Option.bind_eq_some_iff.mp hf
        refine ptc_X5_found C hP hD hS wF_X5_15 dX5_failureOf_57 (fun H locs hP hD hS => ?_)
        rw [Option.some.inj hu24] at hP hD
        refine lv_iconst (v := 0) C.1 C.2.1 dX5_failureOf_60 (by decide) ?_
        exact endWi C hP hD hS (Nat.le_refl _) (Nat.le_refl _) hf dX5_failureOf_61
    · rw [if_pos c8] at hf
      refine lv_iconst (v := 3) C.1 C.2.1 dX5_failureOf_43 (by decide) ?_
      exact endWi C hP hD hS (Nat.le_refl _) (Nat.le_refl _) hf dX5_failureOf_44
end
theorem vX5_failureOf : YV yX5_failureOf cX5_failureOf 4 (some .int) 2 := ⟨⟨wK_X5_failureOf, wZ_X5, by decide +kernel⟩, wI_X5_failureOf, wV_X5_failureOf⟩
def fX8_tellMeeting (u : ST) (x1 : Nat) (x2 : Int32) : Option (Int32 × ST) :=
  b2 (fX5_failureOf u x1 x2) fun v2 u1 =>
  if v2 = 0 then
    (some (uL u1 8 (sL u1 501))).bind fun u4 =>
    some (0, u4)
  else
    some (((-30) - v2), u1)
section
variable {p : Program} {l : Launch} {e : Env} {s : State} {m : MethodId} {args : Array Value} {below : List Frame} {meth : Method} {c : Code} {H : Heap} {locs : List Loc} {g : GP} {ls : Array Slot} {A : Nat → Prop} {ad : Nat → Nat} {u : ST}
set_option maxRecDepth 100000 in
set_option maxHeartbeats 4000000 in
theorem mX8_tellMeeting {r0 : Int32} {u0 : ST} {x1 : Nat} {x2 : Int32} (hf : fX8_tellMeeting u x1 x2 = some (r0, u0)) : MWi l yX8_tellMeeting cX8_tellMeeting 4 (some .int) 19 455 0 0 [.ref (ad 0), .ref x1, .int x2] g (cW g ad) u r0 u0 := by
  refine entW (Qc := fun A => va_Qi (fun r v => r = r0 ∧ v = u0) (BW g A (cW g ad)) A) (by decide) (Nat.le_of_ble_eq_true rfl) ?_
  intro p e s m below meth c ls A C hP hD hS hA hZ hl
  have hl : lv_has ls 4 [(0, .ref (ad 0)), (1, .ref x1), (2, .int x2)] := hl
  rw [fX8_tellMeeting] at hf
  refine lv_aload_n C.1 C.2.1 dX8_tellMeeting_0 rfl (lv_at hl 0 rfl) ?_
  refine gtc_X8_meeting C hP wF_X8_28 dX8_tellMeeting_1 ?_
  refine lv_aload_n C.1 C.2.1 dX8_tellMeeting_4 rfl (lv_at hl 1 rfl) ?_
  refine lv_iload_n C.1 C.2.1 dX8_tellMeeting_5 rfl (lv_at hl 2 rfl) ?_
  obtain ⟨v2, u1, hu1, hf⟩ := b2_some hf
  refine cWi (As := [.ref x1, .int x2]) (rest := []) (mc := 0) (ms := 0) C (mX5_failureOf hu1) vX5_failureOf wM_X8_229 ⟨Nat.le_of_ble_eq_true rfl, Nat.le_of_ble_eq_true rfl⟩ hP hD hS hA hZ (rcc_X5 C hP) hl.1 rfl rfl (Nat.le_of_ble_eq_true rfl) dX8_tellMeeting_6 ⟨Nat.le_of_ble_eq_true rfl, Nat.le_of_ble_eq_true rfl⟩ (fun H locs hP hD hS => ?_)
  refine lv_istore_n (lv' := [(3, .int v2), (0, .ref (ad 0)), (1, .ref x1), (2, .int x2)]) C.1 C.2.1 dX8_tellMeeting_9 rfl hl (by decide) rfl (fun ls hl => ?_)
  refine lv_iload_n C.1 C.2.1 dX8_tellMeeting_10 rfl (lv_at hl 0 rfl) ?_
  refine lv_if_eq (tgt := 19) C.1 C.2.1 dX8_tellMeeting_11 (by decide) (fun c3 => ?_) (fun c3 => ?_)
  · rw [if_pos c3] at hf
    refine lv_aload_n C.1 C.2.1 dX8_tellMeeting_19 rfl (lv_at hl 1 rfl) ?_
    refine lv_aload_n C.1 C.2.1 dX8_tellMeeting_20 rfl (lv_at hl 1 rfl) ?_
    refine gtc_X8_meeting C hP wF_X8_28 dX8_tellMeeting_21 ?_
    refine gtc_X5_found C hP wF_X8_232 dX8_tellMeeting_24 ?_
    obtain ⟨u4, hu4, hf⟩ := Option.bind_eq_some_iff.mp hf
    refine ptc_X8_asked C hP hD hS wF_X8_154 dX8_tellMeeting_27 (fun H locs hP hD hS => ?_)
    rw [Option.some.inj hu4] at hP hD
    refine lv_iconst (v := 0) C.1 C.2.1 dX8_tellMeeting_30 (by decide) ?_
    exact endWi C hP hD hS (Nat.le_refl _) (Nat.le_refl _) hf dX8_tellMeeting_31
  · rw [if_neg c3] at hf
    refine lv_bipush (v := -30) C.1 C.2.1 dX8_tellMeeting_14 (by decide) ?_
    refine lv_iload_n C.1 C.2.1 dX8_tellMeeting_16 rfl (lv_at hl 0 rfl) ?_
    refine lv_isub C.1 C.2.1 dX8_tellMeeting_17 ?_
    exact endWi C hP hD hS (Nat.le_refl _) (Nat.le_refl _) hf dX8_tellMeeting_18
end
theorem vX8_tellMeeting : YV yX8_tellMeeting cX8_tellMeeting 4 (some .int) 2 := ⟨⟨wK_X8_tellMeeting, wZ_X8, by decide +kernel⟩, wI_X8_tellMeeting, wV_X8_tellMeeting⟩
def fX8_meet (u : ST) (x1 : Int32) (x2 : Int32) : Option (Int32 × ST) :=
  (fX8_callerAt u x1).bind fun v1 =>
  oC v1 (
    some ((-1), u)) fun a2 =>
    (fX7_isClass u x2).bind fun v3 =>
    if v3 = 0 then
      some ((-1), u)
    else
      b2 (fX8_tellMeeting u a2 x2) fun v6 u5 =>
      some (v6, u5)
section
variable {p : Program} {l : Launch} {e : Env} {s : State} {m : MethodId} {args : Array Value} {below : List Frame} {meth : Method} {c : Code} {H : Heap} {locs : List Loc} {g : GP} {ls : Array Slot} {A : Nat → Prop} {ad : Nat → Nat} {u : ST}
set_option maxRecDepth 100000 in
set_option maxHeartbeats 4000000 in
theorem mX8_meet {r0 : Int32} {u0 : ST} {x1 : Int32} {x2 : Int32} (hf : fX8_meet u x1 x2 = some (r0, u0)) : MWi l yX8_meet cX8_meet 4 (some .int) 20 478 0 0 [.ref (ad 0), .int x1, .int x2] g (cW g ad) u r0 u0 := by
  refine entW (Qc := fun A => va_Qi (fun r v => r = r0 ∧ v = u0) (BW g A (cW g ad)) A) (by decide) (Nat.le_of_ble_eq_true rfl) ?_
  intro p e s m below meth c ls A C hP hD hS hA hZ hl
  have hl : lv_has ls 4 [(0, .ref (ad 0)), (1, .int x1), (2, .int x2)] := hl
  rw [fX8_meet] at hf
  refine lv_aload_n C.1 C.2.1 dX8_meet_0 rfl (lv_at hl 0 rfl) ?_
  refine lv_iload_n C.1 C.2.1 dX8_meet_1 rfl (lv_at hl 1 rfl) ?_
  obtain ⟨v1, hv1, hf⟩ := Option.bind_eq_some_iff.mp hf
  refine cRq (As := [.int x1]) (rest := []) C (mX8_callerAt hv1) vX8_callerAt wM_X8_146 ⟨Nat.le_of_ble_eq_true rfl, Nat.le_of_ble_eq_true rfl⟩ hP (rcc_X8 C hP) (fun U hU hW => SF.go hZ hS hU hW (fun _ h => h.elim)) hl.1 rfl rfl (Nat.le_of_ble_eq_true rfl) dX8_meet_2 ⟨Nat.le_of_ble_eq_true rfl, Nat.le_of_ble_eq_true rfl⟩ ?_
  cases v1 with
  | none =>
    dsimp only [oC] at hf
    refine lv_astore_nN (lv' := [(3, .null), (0, .ref (ad 0)), (1, .int x1), (2, .int x2)]) C.1 C.2.1 dX8_meet_5 rfl hl (by decide) rfl (fun ls hl => ?_)
    refine lv_aload_nN C.1 C.2.1 dX8_meet_6 rfl (lv_at hl 0 rfl) ?_
    refine lv_ifnullN (tgt := 24) C.1 C.2.1 dX8_meet_7 (by decide) ?_
    refine lv_iconst (v := -1) C.1 C.2.1 dX8_meet_24 (by decide) ?_
    exact endWi C hP hD hS (Nat.le_refl _) (Nat.le_refl _) hf dX8_meet_25
  | some a2 =>
    dsimp only [oC] at hf
    refine lv_astore_n (lv' := [(3, .ref a2), (0, .ref (ad 0)), (1, .int x1), (2, .int x2)]) C.1 C.2.1 dX8_meet_5 rfl hl (by decide) rfl (fun ls hl => ?_)
    refine lv_aload_n C.1 C.2.1 dX8_meet_6 rfl (lv_at hl 0 rfl) ?_
    refine lv_ifnull C.1 C.2.1 dX8_meet_7 ?_
    refine lv_aload_n C.1 C.2.1 dX8_meet_10 rfl (lv_at hl 1 rfl) ?_
    refine gtc_X8_house C hP wF_X8_10 dX8_meet_11 ?_
    refine gtc_X2_types C hP wF_X8_49 dX8_meet_14 ?_
    refine lv_iload_n C.1 C.2.1 dX8_meet_17 rfl (lv_at hl 3 rfl) ?_
    obtain ⟨v3, hv3, hf⟩ := Option.bind_eq_some_iff.mp hf
    refine cRi (As := [.int x2]) (rest := []) C (mX7_isClass hv3) vX7_isClass wM_X8_70 ⟨Nat.le_of_ble_eq_true rfl, Nat.le_of_ble_eq_true rfl⟩ hP (rcc_X7 C hP) (fun U hU hW => SF.go hZ hS hU hW (fun _ h => h.elim)) hl.1 rfl rfl (Nat.le_of_ble_eq_true rfl) dX8_meet_18 ⟨Nat.le_of_ble_eq_true rfl, Nat.le_of_ble_eq_true rfl⟩ ?_
    refine lv_if_ne (tgt := 26) C.1 C.2.1 dX8_meet_21 (by decide) (fun c4 => ?_) (fun c4 => ?_)
    · rw [if_neg c4] at hf
      refine lv_aload_n C.1 C.2.1 dX8_meet_26 rfl (lv_at hl 1 rfl) ?_
      refine lv_aload_n C.1 C.2.1 dX8_meet_27 rfl (lv_at hl 0 rfl) ?_
      refine lv_iload_n C.1 C.2.1 dX8_meet_28 rfl (lv_at hl 3 rfl) ?_
      obtain ⟨v6, u5, hu5, hf⟩ := b2_some hf
      refine cWi (As := [.ref a2, .int x2]) (rest := []) (mc := 0) (ms := 0) C (mX8_tellMeeting hu5) vX8_tellMeeting wM_X8_150 ⟨Nat.le_of_ble_eq_true rfl, Nat.le_of_ble_eq_true rfl⟩ hP hD hS hA hZ (rcc_X8 C hP) hl.1 rfl rfl (Nat.le_of_ble_eq_true rfl) dX8_meet_29 ⟨Nat.le_of_ble_eq_true rfl, Nat.le_of_ble_eq_true rfl⟩ (fun H locs hP hD hS => ?_)
      exact endWi C hP hD hS (Nat.le_refl _) (Nat.le_refl _) hf dX8_meet_32
    · rw [if_pos c4] at hf
      refine lv_iconst (v := -1) C.1 C.2.1 dX8_meet_24 (by decide) ?_
      exact endWi C hP hD hS (Nat.le_refl _) (Nat.le_refl _) hf dX8_meet_25
end
theorem vX8_meet : YV yX8_meet cX8_meet 4 (some .int) 2 := ⟨⟨wK_X8_meet, wZ_X8, by decide +kernel⟩, wI_X8_meet, wV_X8_meet⟩
def fX8_asked (u : ST) : Option Int64 :=
  some (sL u 8)
section
variable {p : Program} {l : Launch} {e : Env} {s : State} {m : MethodId} {args : Array Value} {below : List Frame} {meth : Method} {c : Code} {H : Heap} {locs : List Loc} {g : GP} {ls : Array Slot} {A : Nat → Prop} {ad : Nat → Nat} {u : ST}
set_option maxRecDepth 100000 in
set_option maxHeartbeats 4000000 in
theorem mX8_asked {r0 : Int64} (hf : fX8_asked u = some r0) : MRl l yX8_asked cX8_asked 1 (some .long) 0 0 [.ref (ad 0)] g (cW g ad u) r0 := by
  refine entR (by decide) (Nat.le_of_ble_eq_true rfl) ?_
  intro p e s m below meth c ls C hP hZ hl
  have hl : lv_has ls 1 [(0, .ref (ad 0))] := hl
  rw [fX8_asked] at hf
  refine lv_aload_n C.1 C.2.1 dX8_asked_0 rfl (lv_at hl 0 rfl) ?_
  refine gtc_X8_asked C hP wF_X8_154 dX8_asked_1 ?_
  exact endRl C hf dX8_asked_4
end
theorem vX8_asked : YV yX8_asked cX8_asked 1 (some .long) 0 := ⟨⟨wK_X8_asked, wZ_X8, by decide +kernel⟩, wI_X8_asked, wV_X8_asked⟩
def fX8_anew (u : ST) (x1 : Int32) (x2 : Int32) : Option (Int32 × ST) :=
  (fX8_callerAt u x1).bind fun v1 =>
  oC v1 (
    some ((-1), u)) fun a2 =>
    (fX7_isClass u x2).bind fun v3 =>
    if v3 = 0 then
      some ((-1), u)
    else
      (pcI u a2 1).bind fun v5 =>
      (fX7_isType u v5).bind fun v6 =>
      if v6 = 0 then
        some ((-2), u)
      else
        (pcI u a2 3).bind fun v8 =>
        (pcI u a2 4).bind fun v9 =>
        (fX7_areParameters u v8 v9).bind fun v10 =>
        if v10 = 0 then
          some ((-2), u)
        else
          (pcI u a2 0).bind fun v12 =>
          (pcI u a2 1).bind fun v13 =>
          (pcI u a2 2).bind fun v14 =>
          (pcI u a2 3).bind fun v15 =>
          (pcI u a2 4).bind fun v16 =>
          ck (isC u (ag u)) <|
          (fX0_name u (ag u) v12 v13 v14 v15 v16).bind fun u18 =>
          b2 (fX4_faultOf u18 (ag u18)) fun v20 u19 =>
          if v20 = 0 then
            b2 (fX8_tellMeeting u19 (ag u19) x2) fun v23 u22 =>
            some (v23, u22)
          else
            some (((-10) - v20), u19)
section
variable {p : Program} {l : Launch} {e : Env} {s : State} {m : MethodId} {args : Array Value} {below : List Frame} {meth : Method} {c : Code} {H : Heap} {locs : List Loc} {g : GP} {ls : Array Slot} {A : Nat → Prop} {ad : Nat → Nat} {u : ST}
set_option maxRecDepth 100000 in
set_option maxHeartbeats 4000000 in
theorem mX8_anew {r0 : Int32} {u0 : ST} {x1 : Int32} {x2 : Int32} (hf : fX8_anew u x1 x2 = some (r0, u0)) : MWi l yX8_anew cX8_anew 5 (some .int) 20 478 0 0 [.ref (ad 0), .int x1, .int x2] g (cW g ad) u r0 u0 := by
  refine entW (Qc := fun A => va_Qi (fun r v => r = r0 ∧ v = u0) (BW g A (cW g ad)) A) (by decide) (Nat.le_of_ble_eq_true rfl) ?_
  intro p e s m below meth c ls A C hP hD hS hA hZ hl
  have hl : lv_has ls 5 [(0, .ref (ad 0)), (1, .int x1), (2, .int x2)] := hl
  rw [fX8_anew] at hf
  refine lv_aload_n C.1 C.2.1 dX8_anew_0 rfl (lv_at hl 0 rfl) ?_
  refine lv_iload_n C.1 C.2.1 dX8_anew_1 rfl (lv_at hl 1 rfl) ?_
  obtain ⟨v1, hv1, hf⟩ := Option.bind_eq_some_iff.mp hf
  refine cRq (As := [.int x1]) (rest := []) C (mX8_callerAt hv1) vX8_callerAt wM_X8_146 ⟨Nat.le_of_ble_eq_true rfl, Nat.le_of_ble_eq_true rfl⟩ hP (rcc_X8 C hP) (fun U hU hW => SF.go hZ hS hU hW (fun _ h => h.elim)) hl.1 rfl rfl (Nat.le_of_ble_eq_true rfl) dX8_anew_2 ⟨Nat.le_of_ble_eq_true rfl, Nat.le_of_ble_eq_true rfl⟩ ?_
  cases v1 with
  | none =>
    dsimp only [oC] at hf
    refine lv_astore_nN (lv' := [(3, .null), (0, .ref (ad 0)), (1, .int x1), (2, .int x2)]) C.1 C.2.1 dX8_anew_5 rfl hl (by decide) rfl (fun ls hl => ?_)
    refine lv_aload_nN C.1 C.2.1 dX8_anew_6 rfl (lv_at hl 0 rfl) ?_
    refine lv_ifnullN (tgt := 24) C.1 C.2.1 dX8_anew_7 (by decide) ?_
    refine lv_iconst (v := -1) C.1 C.2.1 dX8_anew_24 (by decide) ?_
    exact endWi C hP hD hS (Nat.le_refl _) (Nat.le_refl _) hf dX8_anew_25
  | some a2 =>
    dsimp only [oC] at hf
    refine lv_astore_n (lv' := [(3, .ref a2), (0, .ref (ad 0)), (1, .int x1), (2, .int x2)]) C.1 C.2.1 dX8_anew_5 rfl hl (by decide) rfl (fun ls hl => ?_)
    refine lv_aload_n C.1 C.2.1 dX8_anew_6 rfl (lv_at hl 0 rfl) ?_
    refine lv_ifnull C.1 C.2.1 dX8_anew_7 ?_
    refine lv_aload_n C.1 C.2.1 dX8_anew_10 rfl (lv_at hl 1 rfl) ?_
    refine gtc_X8_house C hP wF_X8_10 dX8_anew_11 ?_
    refine gtc_X2_types C hP wF_X8_49 dX8_anew_14 ?_
    refine lv_iload_n C.1 C.2.1 dX8_anew_17 rfl (lv_at hl 3 rfl) ?_
    obtain ⟨v3, hv3, hf⟩ := Option.bind_eq_some_iff.mp hf
    refine cRi (As := [.int x2]) (rest := []) C (mX7_isClass hv3) vX7_isClass wM_X8_70 ⟨Nat.le_of_ble_eq_true rfl, Nat.le_of_ble_eq_true rfl⟩ hP (rcc_X7 C hP) (fun U hU hW => SF.go hZ hS hU hW (fun _ h => h.elim)) hl.1 rfl rfl (Nat.le_of_ble_eq_true rfl) dX8_anew_18 ⟨Nat.le_of_ble_eq_true rfl, Nat.le_of_ble_eq_true rfl⟩ ?_
    refine lv_if_ne (tgt := 26) C.1 C.2.1 dX8_anew_21 (by decide) (fun c4 => ?_) (fun c4 => ?_)
    · rw [if_neg c4] at hf
      refine lv_aload_n C.1 C.2.1 dX8_anew_26 rfl (lv_at hl 1 rfl) ?_
      refine gtc_X8_house C hP wF_X8_10 dX8_anew_27 ?_
      refine gtc_X2_types C hP wF_X8_49 dX8_anew_30 ?_
      refine lv_aload_n C.1 C.2.1 dX8_anew_33 rfl (lv_at hl 0 rfl) ?_
      obtain ⟨v5, hv5, hf⟩ := Option.bind_eq_some_iff.mp hf
      refine gC_t C hP hv5 wF_X8_158 dX8_anew_34 ?_
      obtain ⟨v6, hv6, hf⟩ := Option.bind_eq_some_iff.mp hf
      refine cRi (As := [.int v5]) (rest := []) C (mX7_isType hv6) vX7_isType wM_X8_85 ⟨Nat.le_of_ble_eq_true rfl, Nat.le_of_ble_eq_true rfl⟩ hP (rcc_X7 C hP) (fun U hU hW => SF.go hZ hS hU hW (fun _ h => h.elim)) hl.1 rfl rfl (Nat.le_of_ble_eq_true rfl) dX8_anew_37 ⟨Nat.le_of_ble_eq_true rfl, Nat.le_of_ble_eq_true rfl⟩ ?_
      refine lv_if_eq (tgt := 64) C.1 C.2.1 dX8_anew_40 (by decide) (fun c7 => ?_) (fun c7 => ?_)
      · rw [if_pos c7] at hf
        refine lv_bipush (v := -2) C.1 C.2.1 dX8_anew_64 (by decide) ?_
        exact endWi C hP hD hS (Nat.le_refl _) (Nat.le_refl _) hf dX8_anew_66
      · rw [if_neg c7] at hf
        refine lv_aload_n C.1 C.2.1 dX8_anew_43 rfl (lv_at hl 1 rfl) ?_
        refine gtc_X8_house C hP wF_X8_10 dX8_anew_44 ?_
        refine gtc_X2_types C hP wF_X8_49 dX8_anew_47 ?_
        refine lv_aload_n C.1 C.2.1 dX8_anew_50 rfl (lv_at hl 0 rfl) ?_
        obtain ⟨v8, hv8, hf⟩ := Option.bind_eq_some_iff.mp hf
        refine gC_a C hP hv8 wF_X8_161 dX8_anew_51 ?_
        refine lv_aload_n C.1 C.2.1 dX8_anew_54 rfl (lv_at hl 0 rfl) ?_
        obtain ⟨v9, hv9, hf⟩ := Option.bind_eq_some_iff.mp hf
        refine gC_b C hP hv9 wF_X8_164 dX8_anew_55 ?_
        obtain ⟨v10, hv10, hf⟩ := Option.bind_eq_some_iff.mp hf
        refine cRi (As := [.int v8, .int v9]) (rest := []) C (mX7_areParameters hv10) vX7_areParameters wM_X8_143 ⟨Nat.le_of_ble_eq_true rfl, Nat.le_of_ble_eq_true rfl⟩ hP (rcc_X7 C hP) (fun U hU hW => SF.go hZ hS hU hW (fun _ h => h.elim)) hl.1 rfl rfl (Nat.le_of_ble_eq_true rfl) dX8_anew_58 ⟨Nat.le_of_ble_eq_true rfl, Nat.le_of_ble_eq_true rfl⟩ ?_
        refine lv_if_ne (tgt := 67) C.1 C.2.1 dX8_anew_61 (by decide) (fun c11 => ?_) (fun c11 => ?_)
        · rw [if_neg c11] at hf
          refine lv_aload_n C.1 C.2.1 dX8_anew_67 rfl (lv_at hl 1 rfl) ?_
          refine gtc_X8_again C hP wF_X8_45 dX8_anew_68 ?_
          refine lv_aload_n C.1 C.2.1 dX8_anew_71 rfl (lv_at hl 0 rfl) ?_
          obtain ⟨v12, hv12, hf⟩ := Option.bind_eq_some_iff.mp hf
          refine gC_sort C hP hv12 wF_X8_167 dX8_anew_72 ?_
          refine lv_aload_n C.1 C.2.1 dX8_anew_75 rfl (lv_at hl 0 rfl) ?_
          obtain ⟨v13, hv13, hf⟩ := Option.bind_eq_some_iff.mp hf
          refine gC_t C hP hv13 wF_X8_158 dX8_anew_76 ?_
          refine lv_aload_n C.1 C.2.1 dX8_anew_79 rfl (lv_at hl 0 rfl) ?_
          obtain ⟨v14, hv14, hf⟩ := Option.bind_eq_some_iff.mp hf
          refine gC_n C hP hv14 wF_X8_170 dX8_anew_80 ?_
          refine lv_aload_n C.1 C.2.1 dX8_anew_83 rfl (lv_at hl 0 rfl) ?_
          obtain ⟨v15, hv15, hf⟩ := Option.bind_eq_some_iff.mp hf
          refine gC_a C hP hv15 wF_X8_161 dX8_anew_84 ?_
          refine lv_aload_n C.1 C.2.1 dX8_anew_87 rfl (lv_at hl 0 rfl) ?_
          obtain ⟨v16, hv16, hf⟩ := Option.bind_eq_some_iff.mp hf
          refine gC_b C hP hv16 wF_X8_164 dX8_anew_88 ?_
          obtain ⟨hp17, hf⟩ := ck_some hf
          obtain ⟨u18, hu18, hf⟩ := Option.bind_eq_some_iff.mp hf
          refine cWv (As := [.int v12, .int v13, .int v14, .int v15, .int v16]) (rest := []) (mc := 0) (ms := 0) C (mX0_name hu18) vX0_name wM_X8_173 ⟨Nat.le_of_ble_eq_true rfl, Nat.le_of_ble_eq_true rfl⟩ hP hD hS hA hZ (rcP_C C hP hp17) hl.1 rfl rfl (Nat.le_of_ble_eq_true rfl) dX8_anew_91 ⟨Nat.le_of_ble_eq_true rfl, Nat.le_of_ble_eq_true rfl⟩ (fun H locs hP hD hS => ?_)
          refine lv_aload_n C.1 C.2.1 dX8_anew_94 rfl (lv_at hl 1 rfl) ?_
          refine gtc_X8_maker C hP wF_X8_21 dX8_anew_95 ?_
          refine lv_aload_n C.1 C.2.1 dX8_anew_98 rfl (lv_at hl 1 rfl) ?_
          refine gtc_X8_again C hP wF_X8_45 dX8_anew_99 ?_
          obtain ⟨v20, u19, hu19, hf⟩ := b2_some hf
          refine cWi (As := [.ref (ag u18)]) (rest := []) (mc := 0) (ms := 0) C (mX4_faultOf hu19) vX4_faultOf wM_X8_177 ⟨Nat.le_of_ble_eq_true rfl, Nat.le_of_ble_eq_true rfl⟩ hP hD hS hA hZ (rcc_X4 C hP) hl.1 rfl rfl (Nat.le_of_ble_eq_true rfl) dX8_anew_102 ⟨Nat.le_of_ble_eq_true rfl, Nat.le_of_ble_eq_true rfl⟩ (fun H locs hP hD hS => ?_)
          refine lv_istore (lv' := [(4, .int v20), (3, .ref a2), (0, .ref (ad 0)), (1, .int x1), (2, .int x2)]) C.1 C.2.1 dX8_anew_105 hl (by decide) rfl (fun ls hl => ?_)
          refine lv_iload C.1 C.2.1 dX8_anew_107 (lv_at hl 0 rfl) ?_
          refine lv_if_eq (tgt := 120) C.1 C.2.1 dX8_anew_109 (by decide) (fun c21 => ?_) (fun c21 => ?_)
          · rw [if_pos c21] at hf
            refine lv_aload_n C.1 C.2.1 dX8_anew_120 rfl (lv_at hl 2 rfl) ?_
            refine lv_aload_n C.1 C.2.1 dX8_anew_121 rfl (lv_at hl 2 rfl) ?_
            refine gtc_X8_again C hP wF_X8_45 dX8_anew_122 ?_
            refine lv_iload_n C.1 C.2.1 dX8_anew_125 rfl (lv_at hl 4 rfl) ?_
            obtain ⟨v23, u22, hu22, hf⟩ := b2_some hf
            refine cWi (As := [.ref (ag u19), .int x2]) (rest := []) (mc := 0) (ms := 0) C (mX8_tellMeeting hu22) vX8_tellMeeting wM_X8_150 ⟨Nat.le_of_ble_eq_true rfl, Nat.le_of_ble_eq_true rfl⟩ hP hD hS hA hZ (rcc_X8 C hP) hl.1 rfl rfl (Nat.le_of_ble_eq_true rfl) dX8_anew_126 ⟨Nat.le_of_ble_eq_true rfl, Nat.le_of_ble_eq_true rfl⟩ (fun H locs hP hD hS => ?_)
            exact endWi C hP hD hS (Nat.le_refl _) (Nat.le_refl _) hf dX8_anew_129
          · rw [if_neg c21] at hf
            refine lv_bipush (v := -10) C.1 C.2.1 dX8_anew_112 (by decide) ?_
            refine lv_iload C.1 C.2.1 dX8_anew_114 (lv_at hl 0 rfl) ?_
            refine lv_isub C.1 C.2.1 dX8_anew_116 ?_
            refine lv_goto (tgt := 129) C.1 C.2.1 dX8_anew_117 (by decide) ?_
            exact endWi C hP hD hS (Nat.le_refl _) (Nat.le_refl _) hf dX8_anew_129
        · rw [if_pos c11] at hf
          refine lv_bipush (v := -2) C.1 C.2.1 dX8_anew_64 (by decide) ?_
          exact endWi C hP hD hS (Nat.le_refl _) (Nat.le_refl _) hf dX8_anew_66
    · rw [if_pos c4] at hf
      refine lv_iconst (v := -1) C.1 C.2.1 dX8_anew_24 (by decide) ?_
      exact endWi C hP hD hS (Nat.le_refl _) (Nat.le_refl _) hf dX8_anew_25
end
theorem vX8_anew : YV yX8_anew cX8_anew 5 (some .int) 2 := ⟨⟨wK_X8_anew, wZ_X8, by decide +kernel⟩, wI_X8_anew, wV_X8_anew⟩
def fX8_firstChange_L25 : Nat → ST → Nat → Int32 → Int32 → Int64 → Int32 → Option (Int32 × ST)
  | 0, _, _, _, _, _, _ => none
  | n + 1, u, x1, x2, x3, x4, x6 =>
    if (sI u 4) ≤ x6 then
      some (0, u)
    else
      (fX8_redo u x6 (x6 + 1)).bind fun u5 =>
      (fX7_isClass u5 x2).bind fun v6 =>
      if v6 = 0 then
        some ((x6 + 1), u5)
      else
        b2 (fX5_failureOf u5 x1 x2) fun v9 u8 =>
        if v9 = x3 then
          if (lg_cmp (sL u8 501) x4) = 0 then
            fX8_firstChange_L25 n u8 x1 x2 x3 x4 (x6 + 1)
          else
            some ((x6 + 1), u8)
        else
          some ((x6 + 1), u8)
def fX8_firstChange (u : ST) (x1 : Nat) (x2 : Int32) : Option (Int32 × ST) :=
  b2 (fX5_failureOf u x1 x2) fun v2 u1 =>
  (pcI u1 x1 12).bind fun v3 =>
  fX8_firstChange_L25 5000 u1 x1 x2 v2 (sL u1 501) v3
section
variable {p : Program} {l : Launch} {e : Env} {s : State} {m : MethodId} {args : Array Value} {below : List Frame} {meth : Method} {c : Code} {H : Heap} {locs : List Loc} {g : GP} {ls : Array Slot} {A : Nat → Prop} {ad : Nat → Nat} {u : ST}
set_option maxRecDepth 100000 in
set_option maxHeartbeats 4000000 in
theorem bX8_firstChange_L25 {r0 : Int32} {u0 : ST} (C : Cx p s m args meth c cX8_firstChange 7 RX8 (some .int) g) (hA : ∀ q, s.heap.size ≤ q → A q) (hZ : SF A s) : ∀ (n : Nat), ∀ (u : ST) (x1 : Nat) (x2 : Int32) (x3 : Int32) (x4 : Int64) (x6 : Int32) (H : Heap) (locs : List Loc), va_P g.1 vwCl (cW g ad u) H → va_D A (cW g ad u) → va_S A s.heap H locs → ∀ (ls : Array Slot), lv_has ls 7 [(0, .ref (ad 0)), (1, .ref x1), (2, .int x2), (3, .int x3), (4, .long x4), (6, .int x6)] → fX8_firstChange_L25 n u x1 x2 x3 x4 x6 = some (r0, u0) → W p l e (rmW 19 455 0 0) s m args below meth c H locs 0 0 (MQ below (va_Qi (fun r v => r = r0 ∧ v = u0) (BW g A (cW g ad)) A) args s 0 0 A) (F0 m 25 ls []) := by
  intro n
  induction n with
  | zero =>
    intro u x1 x2 x3 x4 x6 H locs hP hD hS ls hl hf
    exact absurd hf (by simp [fX8_firstChange_L25])
  | succ n ih =>
    intro u x1 x2 x3 x4 x6 H locs hP hD hS ls hl hf
    rw [fX8_firstChange_L25] at hf
    refine lv_iload C.1 C.2.1 dX8_firstChange_25 (lv_at hl 5 rfl) ?_
    refine lv_aload_n C.1 C.2.1 dX8_firstChange_27 rfl (lv_at hl 0 rfl) ?_
    refine gtc_X8_editCount C hP wF_X8_126 dX8_firstChange_28 ?_
    refine lv_icmp_ge (tgt := 95) C.1 C.2.1 dX8_firstChange_31 (by decide) (fun c4 => ?_) (fun c4 => ?_)
    · rw [if_pos c4] at hf
      refine lv_iconst (v := 0) C.1 C.2.1 dX8_firstChange_95 (by decide) ?_
      exact endWi C hP hD hS (Nat.le_refl _) (Nat.le_refl _) hf dX8_firstChange_96
    · rw [if_neg c4] at hf
      refine lv_aload_n C.1 C.2.1 dX8_firstChange_34 rfl (lv_at hl 0 rfl) ?_
      refine lv_iload C.1 C.2.1 dX8_firstChange_35 (lv_at hl 5 rfl) ?_
      refine lv_iload C.1 C.2.1 dX8_firstChange_37 (lv_at hl 5 rfl) ?_
      refine lv_iconst (v := 1) C.1 C.2.1 dX8_firstChange_39 (by decide) ?_
      refine lv_iadd C.1 C.2.1 dX8_firstChange_40 ?_
      obtain ⟨u5, hu5, hf⟩ := Option.bind_eq_some_iff.mp hf
      refine cWv (As := [.int x6, .int (x6 + 1)]) (rest := []) (mc := 0) (ms := 0) C (mX8_redo hu5) vX8_redo wM_X8_132 ⟨Nat.le_of_ble_eq_true rfl, Nat.le_of_ble_eq_true rfl⟩ hP hD hS hA hZ (rcc_X8 C hP) hl.1 rfl rfl (Nat.le_of_ble_eq_true rfl) dX8_firstChange_41 ⟨Nat.le_of_ble_eq_true rfl, Nat.le_of_ble_eq_true rfl⟩ (fun H locs hP hD hS => ?_)
      refine lv_aload_n C.1 C.2.1 dX8_firstChange_44 rfl (lv_at hl 0 rfl) ?_
      refine gtc_X8_house C hP wF_X8_10 dX8_firstChange_45 ?_
      refine gtc_X2_types C hP wF_X8_49 dX8_firstChange_48 ?_
      refine lv_iload_n C.1 C.2.1 dX8_firstChange_51 rfl (lv_at hl 2 rfl) ?_
      obtain ⟨v6, hv6, hf⟩ := Option.bind_eq_some_iff.mp hf
      refine cRi (As := [.int x2]) (rest := []) C (mX7_isClass hv6) vX7_isClass wM_X8_70 ⟨Nat.le_of_ble_eq_true rfl, Nat.le_of_ble_eq_true rfl⟩ hP (rcc_X7 C hP) (fun U hU hW => SF.go hZ hS hU hW (fun _ h => h.elim)) hl.1 rfl rfl (Nat.le_of_ble_eq_true rfl) dX8_firstChange_52 ⟨Nat.le_of_ble_eq_true rfl, Nat.le_of_ble_eq_true rfl⟩ ?_
      refine lv_if_eq (tgt := 84) C.1 C.2.1 dX8_firstChange_55 (by decide) (fun c7 => ?_) (fun c7 => ?_)
      · rw [if_pos c7] at hf
        refine lv_iload C.1 C.2.1 dX8_firstChange_84 (lv_at hl 5 rfl) ?_
        refine lv_iconst (v := 1) C.1 C.2.1 dX8_firstChange_86 (by decide) ?_
        refine lv_iadd C.1 C.2.1 dX8_firstChange_87 ?_
        exact endWi C hP hD hS (Nat.le_refl _) (Nat.le_refl _) hf dX8_firstChange_88
      · rw [if_neg c7] at hf
        refine lv_aload_n C.1 C.2.1 dX8_firstChange_58 rfl (lv_at hl 0 rfl) ?_
        refine gtc_X8_meeting C hP wF_X8_28 dX8_firstChange_59 ?_
        refine lv_aload_n C.1 C.2.1 dX8_firstChange_62 rfl (lv_at hl 1 rfl) ?_
        refine lv_iload_n C.1 C.2.1 dX8_firstChange_63 rfl (lv_at hl 2 rfl) ?_
        obtain ⟨v9, u8, hu8, hf⟩ := b2_some hf
        refine cWi (As := [.ref x1, .int x2]) (rest := []) (mc := 0) (ms := 0) C (mX5_failureOf hu8) vX5_failureOf wM_X8_229 ⟨Nat.le_of_ble_eq_true rfl, Nat.le_of_ble_eq_true rfl⟩ hP hD hS hA hZ (rcc_X5 C hP) hl.1 rfl rfl (Nat.le_of_ble_eq_true rfl) dX8_firstChange_64 ⟨Nat.le_of_ble_eq_true rfl, Nat.le_of_ble_eq_true rfl⟩ (fun H locs hP hD hS => ?_)
        refine lv_iload_n C.1 C.2.1 dX8_firstChange_67 rfl (lv_at hl 3 rfl) ?_
        refine lv_icmp_ne (tgt := 84) C.1 C.2.1 dX8_firstChange_68 (by decide) (fun c10 => ?_) (fun c10 => ?_)
        · rw [if_neg c10] at hf
          refine lv_iload C.1 C.2.1 dX8_firstChange_84 (lv_at hl 5 rfl) ?_
          refine lv_iconst (v := 1) C.1 C.2.1 dX8_firstChange_86 (by decide) ?_
          refine lv_iadd C.1 C.2.1 dX8_firstChange_87 ?_
          exact endWi C hP hD hS (Nat.le_refl _) (Nat.le_refl _) hf dX8_firstChange_88
        · rw [if_pos c10] at hf
          refine lv_aload_n C.1 C.2.1 dX8_firstChange_71 rfl (lv_at hl 0 rfl) ?_
          refine gtc_X8_meeting C hP wF_X8_28 dX8_firstChange_72 ?_
          refine gtc_X5_found C hP wF_X8_232 dX8_firstChange_75 ?_
          refine lv_lload C.1 C.2.1 dX8_firstChange_78 (lv_at hl 4 rfl) ?_
          refine W.lcmp C.1 C.2.1 dX8_firstChange_80 ?_
          refine lv_if_eq (tgt := 89) C.1 C.2.1 dX8_firstChange_81 (by decide) (fun c11 => ?_) (fun c11 => ?_)
          · rw [if_pos c11] at hf
            refine lv_iinc (v := (x6 + 1)) (lv' := [(6, .int (x6 + 1)), (0, .ref (ad 0)), (1, .ref x1), (2, .int x2), (3, .int x3), (4, .long x4)]) C.1 C.2.1 dX8_firstChange_89 hl (k := 5) rfl rfl (by decide) rfl (fun ls hl => ?_)
            refine lv_goto (tgt := 25) C.1 C.2.1 dX8_firstChange_92 (by decide) ?_
            exact ih u8 x1 x2 x3 x4 (x6 + 1) _ _ hP hD hS _ (lv_sub hl [1, 2, 3, 4, 5, 0] rfl) hf
          · rw [if_neg c11] at hf
            refine lv_iload C.1 C.2.1 dX8_firstChange_84 (lv_at hl 5 rfl) ?_
            refine lv_iconst (v := 1) C.1 C.2.1 dX8_firstChange_86 (by decide) ?_
            refine lv_iadd C.1 C.2.1 dX8_firstChange_87 ?_
            exact endWi C hP hD hS (Nat.le_refl _) (Nat.le_refl _) hf dX8_firstChange_88
set_option maxRecDepth 100000 in
set_option maxHeartbeats 4000000 in
theorem mX8_firstChange {r0 : Int32} {u0 : ST} {x1 : Nat} {x2 : Int32} (hf : fX8_firstChange u x1 x2 = some (r0, u0)) : MWi l yX8_firstChange cX8_firstChange 7 (some .int) 19 455 0 0 [.ref (ad 0), .ref x1, .int x2] g (cW g ad) u r0 u0 := by
  refine entW (Qc := fun A => va_Qi (fun r v => r = r0 ∧ v = u0) (BW g A (cW g ad)) A) (by decide) (Nat.le_of_ble_eq_true rfl) ?_
  intro p e s m below meth c ls A C hP hD hS hA hZ hl
  have hl : lv_has ls 7 [(0, .ref (ad 0)), (1, .ref x1), (2, .int x2)] := hl
  rw [fX8_firstChange] at hf
  refine lv_aload_n C.1 C.2.1 dX8_firstChange_0 rfl (lv_at hl 0 rfl) ?_
  refine gtc_X8_meeting C hP wF_X8_28 dX8_firstChange_1 ?_
  refine lv_aload_n C.1 C.2.1 dX8_firstChange_4 rfl (lv_at hl 1 rfl) ?_
  refine lv_iload_n C.1 C.2.1 dX8_firstChange_5 rfl (lv_at hl 2 rfl) ?_
  obtain ⟨v2, u1, hu1, hf⟩ := b2_some hf
  refine cWi (As := [.ref x1, .int x2]) (rest := []) (mc := 0) (ms := 0) C (mX5_failureOf hu1) vX5_failureOf wM_X8_229 ⟨Nat.le_of_ble_eq_true rfl, Nat.le_of_ble_eq_true rfl⟩ hP hD hS hA hZ (rcc_X5 C hP) hl.1 rfl rfl (Nat.le_of_ble_eq_true rfl) dX8_firstChange_6 ⟨Nat.le_of_ble_eq_true rfl, Nat.le_of_ble_eq_true rfl⟩ (fun H locs hP hD hS => ?_)
  refine lv_istore_n (lv' := [(3, .int v2), (0, .ref (ad 0)), (1, .ref x1), (2, .int x2)]) C.1 C.2.1 dX8_firstChange_9 rfl hl (by decide) rfl (fun ls hl => ?_)
  refine lv_aload_n C.1 C.2.1 dX8_firstChange_10 rfl (lv_at hl 1 rfl) ?_
  refine gtc_X8_meeting C hP wF_X8_28 dX8_firstChange_11 ?_
  refine gtc_X5_found C hP wF_X8_232 dX8_firstChange_14 ?_
  refine lv_lstore (lv' := [(4, .long (sL u1 501)), (3, .int v2), (0, .ref (ad 0)), (1, .ref x1), (2, .int x2)]) C.1 C.2.1 dX8_firstChange_17 hl (by decide) rfl (fun ls hl => ?_)
  refine lv_aload_n C.1 C.2.1 dX8_firstChange_19 rfl (lv_at hl 3 rfl) ?_
  obtain ⟨v3, hv3, hf⟩ := Option.bind_eq_some_iff.mp hf
  refine gC_made C hP hv3 wF_X8_181 dX8_firstChange_20 ?_
  refine lv_istore (lv' := [(6, .int v3), (4, .long (sL u1 501)), (3, .int v2), (0, .ref (ad 0)), (1, .ref x1), (2, .int x2)]) C.1 C.2.1 dX8_firstChange_23 hl (by decide) rfl (fun ls hl => ?_)
  exact bX8_firstChange_L25 C hA hZ 5000 u1 x1 x2 v2 (sL u1 501) v3 _ _ hP hD hS _ (lv_sub hl [3, 4, 5, 2, 1, 0] rfl) hf
end
theorem vX8_firstChange : YV yX8_firstChange cX8_firstChange 7 (some .int) 2 := ⟨⟨wK_X8_firstChange, wZ_X8, by decide +kernel⟩, wI_X8_firstChange, wV_X8_firstChange⟩
def fX8_culprit_L107 (u : ST) (x4 : Int32) (y1 : Int32) : Option (Int32 × ST) :=
  (fX8_redo u y1 (sI u 4)).bind fun u15 =>
  some (x4, u15)
def fX8_culprit (u : ST) (x1 : Int32) (x2 : Int32) : Option (Int32 × ST) :=
  (fX8_callerAt u x1).bind fun v1 =>
  oC v1 (
    some ((-1), u)) fun a2 =>
    (fX7_isClass u x2).bind fun v3 =>
    if v3 = 0 then
      some ((-1), u)
    else
      (pcI u a2 12).bind fun v5 =>
      if v5 ≤ (sI u 4) then
        (fX2_clear u).bind fun u7 =>
        (pcI u7 a2 12).bind fun v8 =>
        (fX8_redo u7 0 v8).bind fun u9 =>
        (fX7_isClass u9 x2).bind fun v10 =>
        if v10 = 0 then
          (pcI u9 a2 12).bind fun v16 =>
          (fX8_redo u9 v16 (sI u9 4)).bind fun u17 =>
          some ((-1), u17)
        else
          b2 (fX8_firstChange u9 a2 x2) fun v13 u12 =>
          if v13 = 0 then
            fX8_culprit_L107 u12 v13 (sI u12 4)
          else
            fX8_culprit_L107 u12 v13 v13
      else
        some ((-2), u)
section
variable {p : Program} {l : Launch} {e : Env} {s : State} {m : MethodId} {args : Array Value} {below : List Frame} {meth : Method} {c : Code} {H : Heap} {locs : List Loc} {g : GP} {ls : Array Slot} {A : Nat → Prop} {ad : Nat → Nat} {u : ST}
set_option maxRecDepth 100000 in
set_option maxHeartbeats 4000000 in
theorem bX8_culprit_L107 {r0 : Int32} {u0 : ST} {x4 : Int32} {y1 : Int32} (C : Cx p s m args meth c cX8_culprit 5 RX8 (some .int) g) (hA : ∀ q, s.heap.size ≤ q → A q) (hZ : SF A s) (hP : va_P g.1 vwCl (cW g ad u) H) (hD : va_D A (cW g ad u)) (hS : va_S A s.heap H locs) (hl : lv_has ls 5 [(0, .ref (ad 0)), (4, .int x4)]) (hf : fX8_culprit_L107 u x4 y1 = some (r0, u0)) : W p l e (rmW 20 481 0 0) s m args below meth c H locs 0 0 (MQ below (va_Qi (fun r v => r = r0 ∧ v = u0) (BW g A (cW g ad)) A) args s 0 0 A) (F0 m 107 ls [.int y1, .ref (ad 0)]) := by
  rw [fX8_culprit_L107] at hf
  refine lv_aload_n C.1 C.2.1 dX8_culprit_107 rfl (lv_at hl 0 rfl) ?_
  refine gtc_X8_editCount C hP wF_X8_126 dX8_culprit_108 ?_
  obtain ⟨u15, hu15, hf⟩ := Option.bind_eq_some_iff.mp hf
  refine cWv (As := [.int y1, .int (sI u 4)]) (rest := []) (mc := 0) (ms := 0) C (mX8_redo hu15) vX8_redo wM_X8_132 ⟨Nat.le_of_ble_eq_true rfl, Nat.le_of_ble_eq_true rfl⟩ hP hD hS hA hZ (rcc_X8 C hP) hl.1 rfl rfl (Nat.le_of_ble_eq_true rfl) dX8_culprit_111 ⟨Nat.le_of_ble_eq_true rfl, Nat.le_of_ble_eq_true rfl⟩ (fun H locs hP hD hS => ?_)
  refine lv_iload C.1 C.2.1 dX8_culprit_114 (lv_at hl 1 rfl) ?_
  exact endWi C hP hD hS (Nat.le_refl _) (Nat.le_refl _) hf dX8_culprit_116
set_option maxRecDepth 100000 in
set_option maxHeartbeats 4000000 in
theorem mX8_culprit {r0 : Int32} {u0 : ST} {x1 : Int32} {x2 : Int32} (hf : fX8_culprit u x1 x2 = some (r0, u0)) : MWi l yX8_culprit cX8_culprit 5 (some .int) 20 481 0 0 [.ref (ad 0), .int x1, .int x2] g (cW g ad) u r0 u0 := by
  refine entW (Qc := fun A => va_Qi (fun r v => r = r0 ∧ v = u0) (BW g A (cW g ad)) A) (by decide) (Nat.le_of_ble_eq_true rfl) ?_
  intro p e s m below meth c ls A C hP hD hS hA hZ hl
  have hl : lv_has ls 5 [(0, .ref (ad 0)), (1, .int x1), (2, .int x2)] := hl
  rw [fX8_culprit] at hf
  refine lv_aload_n C.1 C.2.1 dX8_culprit_0 rfl (lv_at hl 0 rfl) ?_
  refine lv_iload_n C.1 C.2.1 dX8_culprit_1 rfl (lv_at hl 1 rfl) ?_
  obtain ⟨v1, hv1, hf⟩ := Option.bind_eq_some_iff.mp hf
  refine cRq (As := [.int x1]) (rest := []) C (mX8_callerAt hv1) vX8_callerAt wM_X8_146 ⟨Nat.le_of_ble_eq_true rfl, Nat.le_of_ble_eq_true rfl⟩ hP (rcc_X8 C hP) (fun U hU hW => SF.go hZ hS hU hW (fun _ h => h.elim)) hl.1 rfl rfl (Nat.le_of_ble_eq_true rfl) dX8_culprit_2 ⟨Nat.le_of_ble_eq_true rfl, Nat.le_of_ble_eq_true rfl⟩ ?_
  cases v1 with
  | none =>
    dsimp only [oC] at hf
    refine lv_astore_nN (lv' := [(3, .null), (0, .ref (ad 0)), (1, .int x1), (2, .int x2)]) C.1 C.2.1 dX8_culprit_5 rfl hl (by decide) rfl (fun ls hl => ?_)
    refine lv_aload_nN C.1 C.2.1 dX8_culprit_6 rfl (lv_at hl 0 rfl) ?_
    refine lv_ifnullN (tgt := 24) C.1 C.2.1 dX8_culprit_7 (by decide) ?_
    refine lv_iconst (v := -1) C.1 C.2.1 dX8_culprit_24 (by decide) ?_
    exact endWi C hP hD hS (Nat.le_refl _) (Nat.le_refl _) hf dX8_culprit_25
  | some a2 =>
    dsimp only [oC] at hf
    refine lv_astore_n (lv' := [(3, .ref a2), (0, .ref (ad 0)), (1, .int x1), (2, .int x2)]) C.1 C.2.1 dX8_culprit_5 rfl hl (by decide) rfl (fun ls hl => ?_)
    refine lv_aload_n C.1 C.2.1 dX8_culprit_6 rfl (lv_at hl 0 rfl) ?_
    refine lv_ifnull C.1 C.2.1 dX8_culprit_7 ?_
    refine lv_aload_n C.1 C.2.1 dX8_culprit_10 rfl (lv_at hl 1 rfl) ?_
    refine gtc_X8_house C hP wF_X8_10 dX8_culprit_11 ?_
    refine gtc_X2_types C hP wF_X8_49 dX8_culprit_14 ?_
    refine lv_iload_n C.1 C.2.1 dX8_culprit_17 rfl (lv_at hl 3 rfl) ?_
    obtain ⟨v3, hv3, hf⟩ := Option.bind_eq_some_iff.mp hf
    refine cRi (As := [.int x2]) (rest := []) C (mX7_isClass hv3) vX7_isClass wM_X8_70 ⟨Nat.le_of_ble_eq_true rfl, Nat.le_of_ble_eq_true rfl⟩ hP (rcc_X7 C hP) (fun U hU hW => SF.go hZ hS hU hW (fun _ h => h.elim)) hl.1 rfl rfl (Nat.le_of_ble_eq_true rfl) dX8_culprit_18 ⟨Nat.le_of_ble_eq_true rfl, Nat.le_of_ble_eq_true rfl⟩ ?_
    refine lv_if_ne (tgt := 26) C.1 C.2.1 dX8_culprit_21 (by decide) (fun c4 => ?_) (fun c4 => ?_)
    · rw [if_neg c4] at hf
      refine lv_aload_n C.1 C.2.1 dX8_culprit_26 rfl (lv_at hl 1 rfl) ?_
      refine gtc_X8_editCount C hP wF_X8_126 dX8_culprit_27 ?_
      refine lv_aload_n C.1 C.2.1 dX8_culprit_30 rfl (lv_at hl 0 rfl) ?_
      obtain ⟨v5, hv5, hf⟩ := Option.bind_eq_some_iff.mp hf
      refine gC_made C hP hv5 wF_X8_181 dX8_culprit_31 ?_
      refine lv_icmp_ge (tgt := 40) C.1 C.2.1 dX8_culprit_34 (by decide) (fun c6 => ?_) (fun c6 => ?_)
      · rw [if_pos c6] at hf
        refine lv_aload_n C.1 C.2.1 dX8_culprit_40 rfl (lv_at hl 1 rfl) ?_
        refine gtc_X8_house C hP wF_X8_10 dX8_culprit_41 ?_
        obtain ⟨u7, hu7, hf⟩ := Option.bind_eq_some_iff.mp hf
        refine cWv (As := []) (rest := []) (mc := 0) (ms := 0) C (mX2_clear hu7) vX2_clear wM_X8_129 ⟨Nat.le_of_ble_eq_true rfl, Nat.le_of_ble_eq_true rfl⟩ hP hD hS hA hZ (rcc_X2 C hP) hl.1 rfl rfl (Nat.le_of_ble_eq_true rfl) dX8_culprit_44 ⟨Nat.le_of_ble_eq_true rfl, Nat.le_of_ble_eq_true rfl⟩ (fun H locs hP hD hS => ?_)
        refine lv_aload_n C.1 C.2.1 dX8_culprit_47 rfl (lv_at hl 1 rfl) ?_
        refine lv_iconst (v := 0) C.1 C.2.1 dX8_culprit_48 (by decide) ?_
        refine lv_aload_n C.1 C.2.1 dX8_culprit_49 rfl (lv_at hl 0 rfl) ?_
        obtain ⟨v8, hv8, hf⟩ := Option.bind_eq_some_iff.mp hf
        refine gC_made C hP hv8 wF_X8_181 dX8_culprit_50 ?_
        obtain ⟨u9, hu9, hf⟩ := Option.bind_eq_some_iff.mp hf
        refine cWv (As := [.int 0, .int v8]) (rest := []) (mc := 0) (ms := 0) C (mX8_redo hu9) vX8_redo wM_X8_132 ⟨Nat.le_of_ble_eq_true rfl, Nat.le_of_ble_eq_true rfl⟩ hP hD hS hA hZ (rcc_X8 C hP) hl.1 rfl rfl (Nat.le_of_ble_eq_true rfl) dX8_culprit_53 ⟨Nat.le_of_ble_eq_true rfl, Nat.le_of_ble_eq_true rfl⟩ (fun H locs hP hD hS => ?_)
        refine lv_aload_n C.1 C.2.1 dX8_culprit_56 rfl (lv_at hl 1 rfl) ?_
        refine gtc_X8_house C hP wF_X8_10 dX8_culprit_57 ?_
        refine gtc_X2_types C hP wF_X8_49 dX8_culprit_60 ?_
        refine lv_iload_n C.1 C.2.1 dX8_culprit_63 rfl (lv_at hl 3 rfl) ?_
        obtain ⟨v10, hv10, hf⟩ := Option.bind_eq_some_iff.mp hf
        refine cRi (As := [.int x2]) (rest := []) C (mX7_isClass hv10) vX7_isClass wM_X8_70 ⟨Nat.le_of_ble_eq_true rfl, Nat.le_of_ble_eq_true rfl⟩ hP (rcc_X7 C hP) (fun U hU hW => SF.go hZ hS hU hW (fun _ h => h.elim)) hl.1 rfl rfl (Nat.le_of_ble_eq_true rfl) dX8_culprit_64 ⟨Nat.le_of_ble_eq_true rfl, Nat.le_of_ble_eq_true rfl⟩ ?_
        refine lv_if_ne (tgt := 84) C.1 C.2.1 dX8_culprit_67 (by decide) (fun c11 => ?_) (fun c11 => ?_)
        · rw [if_neg c11] at hf
          refine lv_aload_n C.1 C.2.1 dX8_culprit_84 rfl (lv_at hl 1 rfl) ?_
          refine lv_aload_n C.1 C.2.1 dX8_culprit_85 rfl (lv_at hl 0 rfl) ?_
          refine lv_iload_n C.1 C.2.1 dX8_culprit_86 rfl (lv_at hl 3 rfl) ?_
          obtain ⟨v13, u12, hu12, hf⟩ := b2_some hf
          refine cWi (As := [.ref a2, .int x2]) (rest := []) (mc := 0) (ms := 0) C (mX8_firstChange hu12) vX8_firstChange wM_X8_184 ⟨Nat.le_of_ble_eq_true rfl, Nat.le_of_ble_eq_true rfl⟩ hP hD hS hA hZ (rcc_X8 C hP) hl.1 rfl rfl (Nat.le_of_ble_eq_true rfl) dX8_culprit_87 ⟨Nat.le_of_ble_eq_true rfl, Nat.le_of_ble_eq_true rfl⟩ (fun H locs hP hD hS => ?_)
          refine lv_istore (lv' := [(4, .int v13), (3, .ref a2), (0, .ref (ad 0)), (1, .int x1), (2, .int x2)]) C.1 C.2.1 dX8_culprit_90 hl (by decide) rfl (fun ls hl => ?_)
          refine lv_aload_n C.1 C.2.1 dX8_culprit_92 rfl (lv_at hl 2 rfl) ?_
          refine lv_iload C.1 C.2.1 dX8_culprit_93 (lv_at hl 0 rfl) ?_
          refine lv_if_ne (tgt := 105) C.1 C.2.1 dX8_culprit_95 (by decide) (fun c14 => ?_) (fun c14 => ?_)
          · rw [if_neg c14] at hf
            refine lv_iload C.1 C.2.1 dX8_culprit_105 (lv_at hl 0 rfl) ?_
            exact bX8_culprit_L107 C hA hZ hP hD hS (lv_sub hl [2, 0] rfl) hf
          · rw [if_pos c14] at hf
            refine lv_aload_n C.1 C.2.1 dX8_culprit_98 rfl (lv_at hl 2 rfl) ?_
            refine gtc_X8_editCount C hP wF_X8_126 dX8_culprit_99 ?_
            refine lv_goto (tgt := 107) C.1 C.2.1 dX8_culprit_102 (by decide) ?_
            exact bX8_culprit_L107 C hA hZ hP hD hS (lv_sub hl [2, 0] rfl) hf
        · rw [if_pos c11] at hf
          refine lv_aload_n C.1 C.2.1 dX8_culprit_70 rfl (lv_at hl 1 rfl) ?_
          refine lv_aload_n C.1 C.2.1 dX8_culprit_71 rfl (lv_at hl 0 rfl) ?_
          obtain ⟨v16, hv16, hf⟩ := Option.bind_eq_some_iff.mp hf
          refine gC_made C hP hv16 wF_X8_181 dX8_culprit_72 ?_
          refine lv_aload_n C.1 C.2.1 dX8_culprit_75 rfl (lv_at hl 1 rfl) ?_
          refine gtc_X8_editCount C hP wF_X8_126 dX8_culprit_76 ?_
          obtain ⟨u17, hu17, hf⟩ := Option.bind_eq_some_iff.mp hf
          refine cWv (As := [.int v16, .int (sI u9 4)]) (rest := []) (mc := 0) (ms := 0) C (mX8_redo hu17) vX8_redo wM_X8_132 ⟨Nat.le_of_ble_eq_true rfl, Nat.le_of_ble_eq_true rfl⟩ hP hD hS hA hZ (rcc_X8 C hP) hl.1 rfl rfl (Nat.le_of_ble_eq_true rfl) dX8_culprit_79 ⟨Nat.le_of_ble_eq_true rfl, Nat.le_of_ble_eq_true rfl⟩ (fun H locs hP hD hS => ?_)
          refine lv_iconst (v := -1) C.1 C.2.1 dX8_culprit_82 (by decide) ?_
          exact endWi C hP hD hS (Nat.le_refl _) (Nat.le_refl _) hf dX8_culprit_83
      · rw [if_neg c6] at hf
        refine lv_bipush (v := -2) C.1 C.2.1 dX8_culprit_37 (by decide) ?_
        exact endWi C hP hD hS (Nat.le_refl _) (Nat.le_refl _) hf dX8_culprit_39
    · rw [if_pos c4] at hf
      refine lv_iconst (v := -1) C.1 C.2.1 dX8_culprit_24 (by decide) ?_
      exact endWi C hP hD hS (Nat.le_refl _) (Nat.le_refl _) hf dX8_culprit_25
end
theorem vX8_culprit : YV yX8_culprit cX8_culprit 5 (some .int) 2 := ⟨⟨wK_X8_culprit, wZ_X8, by decide +kernel⟩, wI_X8_culprit, wV_X8_culprit⟩
def fX0_tell (u : ST) (x0 : Nat) (x1 : Int32) : Option Int32 :=
  if x1 = 0 then
    (pcI u x0 0).bind fun v2 =>
    some v2
  else
  if x1 = 1 then
    (pcI u x0 1).bind fun v4 =>
    some v4
  else
  if x1 = 2 then
    (pcI u x0 2).bind fun v6 =>
    some v6
  else
  if x1 = 3 then
    (pcI u x0 5).bind fun v8 =>
    some v8
  else
  if x1 = 4 then
    (pcI u x0 6).bind fun v10 =>
    some v10
  else
  if x1 = 5 then
    (pcI u x0 10).bind fun v12 =>
    if v12 = 0 then
      some 0
    else
      some 1
  else
  if x1 = 6 then
    (pcI u x0 12).bind fun v15 =>
    some v15
  else
    some (-1)
section
variable {p : Program} {l : Launch} {e : Env} {s : State} {m : MethodId} {args : Array Value} {below : List Frame} {meth : Method} {c : Code} {H : Heap} {locs : List Loc} {g : GP} {ls : Array Slot} {A : Nat → Prop} {ad : Nat → Nat} {u : ST}
set_option maxRecDepth 100000 in
set_option maxHeartbeats 4000000 in
theorem mX0_tell {r0 : Int32} {x0 : Nat} {x1 : Int32} (hf : fX0_tell u x0 x1 = some r0) : MRi l yX0_tell cX0_tell 2 (some .int) 0 0 [.ref x0, .int x1] g (cW g ad u) r0 := by
  refine entR (by decide) (Nat.le_of_ble_eq_true rfl) ?_
  intro p e s m below meth c ls C hP hZ hl
  have hl : lv_has ls 2 [(0, .ref x0), (1, .int x1)] := hl
  rw [fX0_tell] at hf
  refine lv_iload_n C.1 C.2.1 dX0_tell_0 rfl (lv_at hl 1 rfl) ?_
  by_cases c1 : x1 = 0
  · rw [if_pos c1] at hf
    have e9 : (x1 : Int32).toInt = 0 := by rw [c1]; rfl
    refine lv_tableIn (off := 43) (tgt := 44) C.1 C.2.1 dX0_tell_1 (by rw [e9]; decide) (by rw [e9]; decide) (by rw [e9]; rfl) (by decide) ?_
    refine lv_aload_n C.1 C.2.1 dX0_tell_44 rfl (lv_at hl 0 rfl) ?_
    obtain ⟨v2, hv2, hf⟩ := Option.bind_eq_some_iff.mp hf
    refine gC_sort C hP hv2 wF_X0_9 dX0_tell_45 ?_
    exact endRi C hf dX0_tell_48
  rw [if_neg c1] at hf
  by_cases c3 : x1 = 1
  · rw [if_pos c3] at hf
    have e9 : (x1 : Int32).toInt = 1 := by rw [c3]; rfl
    refine lv_tableIn (off := 48) (tgt := 49) C.1 C.2.1 dX0_tell_1 (by rw [e9]; decide) (by rw [e9]; decide) (by rw [e9]; rfl) (by decide) ?_
    refine lv_aload_n C.1 C.2.1 dX0_tell_49 rfl (lv_at hl 0 rfl) ?_
    obtain ⟨v4, hv4, hf⟩ := Option.bind_eq_some_iff.mp hf
    refine gC_t C hP hv4 wF_X0_15 dX0_tell_50 ?_
    exact endRi C hf dX0_tell_53
  rw [if_neg c3] at hf
  by_cases c5 : x1 = 2
  · rw [if_pos c5] at hf
    have e9 : (x1 : Int32).toInt = 2 := by rw [c5]; rfl
    refine lv_tableIn (off := 53) (tgt := 54) C.1 C.2.1 dX0_tell_1 (by rw [e9]; decide) (by rw [e9]; decide) (by rw [e9]; rfl) (by decide) ?_
    refine lv_aload_n C.1 C.2.1 dX0_tell_54 rfl (lv_at hl 0 rfl) ?_
    obtain ⟨v6, hv6, hf⟩ := Option.bind_eq_some_iff.mp hf
    refine gC_n C hP hv6 wF_X0_18 dX0_tell_55 ?_
    exact endRi C hf dX0_tell_58
  rw [if_neg c5] at hf
  by_cases c7 : x1 = 3
  · rw [if_pos c7] at hf
    have e9 : (x1 : Int32).toInt = 3 := by rw [c7]; rfl
    refine lv_tableIn (off := 58) (tgt := 59) C.1 C.2.1 dX0_tell_1 (by rw [e9]; decide) (by rw [e9]; decide) (by rw [e9]; rfl) (by decide) ?_
    refine lv_aload_n C.1 C.2.1 dX0_tell_59 rfl (lv_at hl 0 rfl) ?_
    obtain ⟨v8, hv8, hf⟩ := Option.bind_eq_some_iff.mp hf
    refine gC_first C hP hv8 wF_X0_27 dX0_tell_60 ?_
    exact endRi C hf dX0_tell_63
  rw [if_neg c7] at hf
  by_cases c9 : x1 = 4
  · rw [if_pos c9] at hf
    have e9 : (x1 : Int32).toInt = 4 := by rw [c9]; rfl
    refine lv_tableIn (off := 63) (tgt := 64) C.1 C.2.1 dX0_tell_1 (by rw [e9]; decide) (by rw [e9]; decide) (by rw [e9]; rfl) (by decide) ?_
    refine lv_aload_n C.1 C.2.1 dX0_tell_64 rfl (lv_at hl 0 rfl) ?_
    obtain ⟨v10, hv10, hf⟩ := Option.bind_eq_some_iff.mp hf
    refine gC_second C hP hv10 wF_X0_30 dX0_tell_65 ?_
    exact endRi C hf dX0_tell_68
  rw [if_neg c9] at hf
  by_cases c11 : x1 = 5
  · rw [if_pos c11] at hf
    have e9 : (x1 : Int32).toInt = 5 := by rw [c11]; rfl
    refine lv_tableIn (off := 68) (tgt := 69) C.1 C.2.1 dX0_tell_1 (by rw [e9]; decide) (by rw [e9]; decide) (by rw [e9]; rfl) (by decide) ?_
    refine lv_aload_n C.1 C.2.1 dX0_tell_69 rfl (lv_at hl 0 rfl) ?_
    obtain ⟨v12, hv12, hf⟩ := Option.bind_eq_some_iff.mp hf
    refine gC_keeps C hP hv12 wF_X0_43 dX0_tell_70 ?_
    refine lv_if_eq (tgt := 80) C.1 C.2.1 dX0_tell_73 (by decide) (fun c13 => ?_) (fun c13 => ?_)
    · rw [if_pos c13] at hf
      refine lv_iconst (v := 0) C.1 C.2.1 dX0_tell_80 (by decide) ?_
      exact endRi C hf dX0_tell_81
    · rw [if_neg c13] at hf
      refine lv_iconst (v := 1) C.1 C.2.1 dX0_tell_76 (by decide) ?_
      refine lv_goto (tgt := 81) C.1 C.2.1 dX0_tell_77 (by decide) ?_
      exact endRi C hf dX0_tell_81
  rw [if_neg c11] at hf
  by_cases c14 : x1 = 6
  · rw [if_pos c14] at hf
    have e9 : (x1 : Int32).toInt = 6 := by rw [c14]; rfl
    refine lv_tableIn (off := 81) (tgt := 82) C.1 C.2.1 dX0_tell_1 (by rw [e9]; decide) (by rw [e9]; decide) (by rw [e9]; rfl) (by decide) ?_
    refine lv_aload_n C.1 C.2.1 dX0_tell_82 rfl (lv_at hl 0 rfl) ?_
    obtain ⟨v15, hv15, hf⟩ := Option.bind_eq_some_iff.mp hf
    refine gC_made C hP hv15 wF_X0_50 dX0_tell_83 ?_
    exact endRi C hf dX0_tell_86
  rw [if_neg c14] at hf
  refine lv_tableOut (tgt := 87) C.1 C.2.1 dX0_tell_1 (by have q0 := neI c1 (k := 0) rfl; have q1 := neI c3 (k := 1) rfl; have q2 := neI c5 (k := 2) rfl; have q3 := neI c7 (k := 3) rfl; have q4 := neI c9 (k := 4) rfl; have q5 := neI c11 (k := 5) rfl; have q6 := neI c14 (k := 6) rfl; omega) (by decide) ?_
  refine lv_iconst (v := -1) C.1 C.2.1 dX0_tell_87 (by decide) ?_
  exact endRi C hf dX0_tell_88
end
theorem vX0_tell : YV yX0_tell cX0_tell 2 (some .int) 1 := ⟨⟨wK_X0_tell, wZ_X0, by decide +kernel⟩, wI_X0_tell, wV_X0_tell⟩
def fX8_caller (u : ST) (x1 : Int32) (x2 : Int32) : Option Int32 :=
  (fX8_callerAt u x1).bind fun v1 =>
  oC v1 (
    some (-1)) fun a2 =>
    ck (isC u a2) <|
    (fX0_tell u a2 x2).bind fun v4 =>
    some v4
section
variable {p : Program} {l : Launch} {e : Env} {s : State} {m : MethodId} {args : Array Value} {below : List Frame} {meth : Method} {c : Code} {H : Heap} {locs : List Loc} {g : GP} {ls : Array Slot} {A : Nat → Prop} {ad : Nat → Nat} {u : ST}
set_option maxRecDepth 100000 in
set_option maxHeartbeats 4000000 in
theorem mX8_caller {r0 : Int32} {x1 : Int32} {x2 : Int32} (hf : fX8_caller u x1 x2 = some r0) : MRi l yX8_caller cX8_caller 4 (some .int) 1 21 [.ref (ad 0), .int x1, .int x2] g (cW g ad u) r0 := by
  refine entR (by decide) (Nat.le_of_ble_eq_true rfl) ?_
  intro p e s m below meth c ls C hP hZ hl
  have hl : lv_has ls 4 [(0, .ref (ad 0)), (1, .int x1), (2, .int x2)] := hl
  rw [fX8_caller] at hf
  refine lv_aload_n C.1 C.2.1 dX8_caller_0 rfl (lv_at hl 0 rfl) ?_
  refine lv_iload_n C.1 C.2.1 dX8_caller_1 rfl (lv_at hl 1 rfl) ?_
  obtain ⟨v1, hv1, hf⟩ := Option.bind_eq_some_iff.mp hf
  refine cRq (As := [.int x1]) (rest := []) C (mX8_callerAt hv1) vX8_callerAt wM_X8_146 ⟨Nat.le_of_ble_eq_true rfl, Nat.le_of_ble_eq_true rfl⟩ hP (rcc_X8 C hP) (fun U hU hW => SF.go hZ va_S.rf hU hW (fun _ h => h)) hl.1 rfl rfl (Nat.le_of_ble_eq_true rfl) dX8_caller_2 ⟨Nat.le_of_ble_eq_true rfl, Nat.le_of_ble_eq_true rfl⟩ ?_
  cases v1 with
  | none =>
    dsimp only [oC] at hf
    refine lv_astore_nN (lv' := [(3, .null), (0, .ref (ad 0)), (1, .int x1), (2, .int x2)]) C.1 C.2.1 dX8_caller_5 rfl hl (by decide) rfl (fun ls hl => ?_)
    refine lv_aload_nN C.1 C.2.1 dX8_caller_6 rfl (lv_at hl 0 rfl) ?_
    refine lv_ifnonnullN C.1 C.2.1 dX8_caller_7 ?_
    refine lv_iconst (v := -1) C.1 C.2.1 dX8_caller_10 (by decide) ?_
    refine lv_goto (tgt := 19) C.1 C.2.1 dX8_caller_11 (by decide) ?_
    exact endRi C hf dX8_caller_19
  | some a2 =>
    dsimp only [oC] at hf
    refine lv_astore_n (lv' := [(3, .ref a2), (0, .ref (ad 0)), (1, .int x1), (2, .int x2)]) C.1 C.2.1 dX8_caller_5 rfl hl (by decide) rfl (fun ls hl => ?_)
    refine lv_aload_n C.1 C.2.1 dX8_caller_6 rfl (lv_at hl 0 rfl) ?_
    refine lv_ifnonnull (tgt := 14) C.1 C.2.1 dX8_caller_7 (by decide) ?_
    refine lv_aload_n C.1 C.2.1 dX8_caller_14 rfl (lv_at hl 0 rfl) ?_
    refine lv_iload_n C.1 C.2.1 dX8_caller_15 rfl (lv_at hl 3 rfl) ?_
    obtain ⟨hp3, hf⟩ := ck_some hf
    obtain ⟨v4, hv4, hf⟩ := Option.bind_eq_some_iff.mp hf
    refine cRi (As := [.int x2]) (rest := []) C (mX0_tell hv4) vX0_tell wM_X8_187 ⟨Nat.le_of_ble_eq_true rfl, Nat.le_of_ble_eq_true rfl⟩ hP (rcP_C C hP hp3) (fun U hU hW => SF.go hZ va_S.rf hU hW (fun _ h => h)) hl.1 rfl rfl (Nat.le_of_ble_eq_true rfl) dX8_caller_16 ⟨Nat.le_of_ble_eq_true rfl, Nat.le_of_ble_eq_true rfl⟩ ?_
    exact endRi C hf dX8_caller_19
end
theorem vX8_caller : YV yX8_caller cX8_caller 4 (some .int) 2 := ⟨⟨wK_X8_caller, wZ_X8, by decide +kernel⟩, wI_X8_caller, wV_X8_caller⟩
def fX7_tell (u : ST) (x1 : Int32) (x2 : Int32) : Option Int32 :=
  (fX7_isType u x1).bind fun v1 =>
  if v1 = 0 then
    some (-1)
  else
    if x2 = 0 then
      (rdI u 8 12 x1).bind fun v4 =>
      if v4 = 0 then
        some 0
      else
        some 1
    else
    if x2 = 1 then
      (rdI u 9 12 x1).bind fun v7 =>
      some v7
    else
    if x2 = 2 then
      (rdI u 10 12 x1).bind fun v9 =>
      some v9
    else
    if x2 = 3 then
      (rdI u 11 12 x1).bind fun v11 =>
      some v11
    else
    if x2 = 4 then
      (fX7_faceAt u x1 (x2 - 4)).bind fun v13 =>
      some v13
    else
    if x2 = 5 then
      (fX7_faceAt u x1 (x2 - 4)).bind fun v15 =>
      some v15
    else
    if x2 = 6 then
      (fX7_faceAt u x1 (x2 - 4)).bind fun v17 =>
      some v17
    else
      some (-1)
section
variable {p : Program} {l : Launch} {e : Env} {s : State} {m : MethodId} {args : Array Value} {below : List Frame} {meth : Method} {c : Code} {H : Heap} {locs : List Loc} {g : GP} {ls : Array Slot} {A : Nat → Prop} {ad : Nat → Nat} {u : ST}
set_option maxRecDepth 100000 in
set_option maxHeartbeats 4000000 in
theorem mX7_tell {r0 : Int32} {x1 : Int32} {x2 : Int32} (hf : fX7_tell u x1 x2 = some r0) : MRi l yX7_tell cX7_tell 3 (some .int) 1 22 [.ref (ad 2), .int x1, .int x2] g (cW g ad u) r0 := by
  refine entR (by decide) (Nat.le_of_ble_eq_true rfl) ?_
  intro p e s m below meth c ls C hP hZ hl
  have hl : lv_has ls 3 [(0, .ref (ad 2)), (1, .int x1), (2, .int x2)] := hl
  rw [fX7_tell] at hf
  refine lv_aload_n C.1 C.2.1 dX7_tell_0 rfl (lv_at hl 0 rfl) ?_
  refine lv_iload_n C.1 C.2.1 dX7_tell_1 rfl (lv_at hl 1 rfl) ?_
  obtain ⟨v1, hv1, hf⟩ := Option.bind_eq_some_iff.mp hf
  refine cRi (As := [.int x1]) (rest := []) C (mX7_isType hv1) vX7_isType wM_X7_45 ⟨Nat.le_of_ble_eq_true rfl, Nat.le_of_ble_eq_true rfl⟩ hP (rcc_X7 C hP) (fun U hU hW => SF.go hZ va_S.rf hU hW (fun _ h => h)) hl.1 rfl rfl (Nat.le_of_ble_eq_true rfl) dX7_tell_2 ⟨Nat.le_of_ble_eq_true rfl, Nat.le_of_ble_eq_true rfl⟩ ?_
  refine lv_if_ne (tgt := 10) C.1 C.2.1 dX7_tell_5 (by decide) (fun c2 => ?_) (fun c2 => ?_)
  · rw [if_neg c2] at hf
    refine lv_iload_n C.1 C.2.1 dX7_tell_10 rfl (lv_at hl 2 rfl) ?_
    by_cases c3 : x2 = 0
    · rw [if_pos c3] at hf
      have e9 : (x2 : Int32).toInt = 0 := by rw [c3]; rfl
      refine lv_tableIn (off := 41) (tgt := 52) C.1 C.2.1 dX7_tell_11 (by rw [e9]; decide) (by rw [e9]; decide) (by rw [e9]; rfl) (by decide) ?_
      refine lv_aload_n C.1 C.2.1 dX7_tell_52 rfl (lv_at hl 0 rfl) ?_
      refine gtc_X7_isFace C hP wF_X7_11 dX7_tell_53 ?_
      refine lv_iload_n C.1 C.2.1 dX7_tell_56 rfl (lv_at hl 1 rfl) ?_
      obtain ⟨v4, hv4, hf⟩ := Option.bind_eq_some_iff.mp hf
      refine ldc_8 C hP hv4 dX7_tell_57 ?_
      refine lv_if_eq (tgt := 65) C.1 C.2.1 dX7_tell_58 (by decide) (fun c5 => ?_) (fun c5 => ?_)
      · rw [if_pos c5] at hf
        refine lv_iconst (v := 0) C.1 C.2.1 dX7_tell_65 (by decide) ?_
        exact endRi C hf dX7_tell_66
      · rw [if_neg c5] at hf
        refine lv_iconst (v := 1) C.1 C.2.1 dX7_tell_61 (by decide) ?_
        refine lv_goto (tgt := 66) C.1 C.2.1 dX7_tell_62 (by decide) ?_
        exact endRi C hf dX7_tell_66
    rw [if_neg c3] at hf
    by_cases c6 : x2 = 1
    · rw [if_pos c6] at hf
      have e9 : (x2 : Int32).toInt = 1 := by rw [c6]; rfl
      refine lv_tableIn (off := 56) (tgt := 67) C.1 C.2.1 dX7_tell_11 (by rw [e9]; decide) (by rw [e9]; decide) (by rw [e9]; rfl) (by decide) ?_
      refine lv_aload_n C.1 C.2.1 dX7_tell_67 rfl (lv_at hl 0 rfl) ?_
      refine gtc_X7_above C hP wF_X7_15 dX7_tell_68 ?_
      refine lv_iload_n C.1 C.2.1 dX7_tell_71 rfl (lv_at hl 1 rfl) ?_
      obtain ⟨v7, hv7, hf⟩ := Option.bind_eq_some_iff.mp hf
      refine ldc_9 C hP hv7 dX7_tell_72 ?_
      exact endRi C hf dX7_tell_73
    rw [if_neg c6] at hf
    by_cases c8 : x2 = 2
    · rw [if_pos c8] at hf
      have e9 : (x2 : Int32).toInt = 2 := by rw [c8]; rfl
      refine lv_tableIn (off := 63) (tgt := 74) C.1 C.2.1 dX7_tell_11 (by rw [e9]; decide) (by rw [e9]; decide) (by rw [e9]; rfl) (by decide) ?_
      refine lv_aload_n C.1 C.2.1 dX7_tell_74 rfl (lv_at hl 0 rfl) ?_
      refine gtc_X7_marks C hP wF_X7_19 dX7_tell_75 ?_
      refine lv_iload_n C.1 C.2.1 dX7_tell_78 rfl (lv_at hl 1 rfl) ?_
      obtain ⟨v9, hv9, hf⟩ := Option.bind_eq_some_iff.mp hf
      refine ldc_10 C hP hv9 dX7_tell_79 ?_
      exact endRi C hf dX7_tell_80
    rw [if_neg c8] at hf
    by_cases c10 : x2 = 3
    · rw [if_pos c10] at hf
      have e9 : (x2 : Int32).toInt = 3 := by rw [c10]; rfl
      refine lv_tableIn (off := 70) (tgt := 81) C.1 C.2.1 dX7_tell_11 (by rw [e9]; decide) (by rw [e9]; decide) (by rw [e9]; rfl) (by decide) ?_
      refine lv_aload_n C.1 C.2.1 dX7_tell_81 rfl (lv_at hl 0 rfl) ?_
      refine gtc_X7_faceCount C hP wF_X7_22 dX7_tell_82 ?_
      refine lv_iload_n C.1 C.2.1 dX7_tell_85 rfl (lv_at hl 1 rfl) ?_
      obtain ⟨v11, hv11, hf⟩ := Option.bind_eq_some_iff.mp hf
      refine ldc_11 C hP hv11 dX7_tell_86 ?_
      exact endRi C hf dX7_tell_87
    rw [if_neg c10] at hf
    by_cases c12 : x2 = 4
    · rw [if_pos c12] at hf
      have e9 : (x2 : Int32).toInt = 4 := by rw [c12]; rfl
      refine lv_tableIn (off := 77) (tgt := 88) C.1 C.2.1 dX7_tell_11 (by rw [e9]; decide) (by rw [e9]; decide) (by rw [e9]; rfl) (by decide) ?_
      refine lv_aload_n C.1 C.2.1 dX7_tell_88 rfl (lv_at hl 0 rfl) ?_
      refine lv_iload_n C.1 C.2.1 dX7_tell_89 rfl (lv_at hl 1 rfl) ?_
      refine lv_iload_n C.1 C.2.1 dX7_tell_90 rfl (lv_at hl 2 rfl) ?_
      refine lv_iconst (v := 4) C.1 C.2.1 dX7_tell_91 (by decide) ?_
      refine lv_isub C.1 C.2.1 dX7_tell_92 ?_
      obtain ⟨v13, hv13, hf⟩ := Option.bind_eq_some_iff.mp hf
      refine cRi (As := [.int x1, .int (x2 - 4)]) (rest := []) C (mX7_faceAt hv13) vX7_faceAt wM_X7_60 ⟨Nat.le_of_ble_eq_true rfl, Nat.le_of_ble_eq_true rfl⟩ hP (rcc_X7 C hP) (fun U hU hW => SF.go hZ va_S.rf hU hW (fun _ h => h)) hl.1 rfl rfl (Nat.le_of_ble_eq_true rfl) dX7_tell_93 ⟨Nat.le_of_ble_eq_true rfl, Nat.le_of_ble_eq_true rfl⟩ ?_
      exact endRi C hf dX7_tell_96
    rw [if_neg c12] at hf
    by_cases c14 : x2 = 5
    · rw [if_pos c14] at hf
      have e9 : (x2 : Int32).toInt = 5 := by rw [c14]; rfl
      refine lv_tableIn (off := 77) (tgt := 88) C.1 C.2.1 dX7_tell_11 (by rw [e9]; decide) (by rw [e9]; decide) (by rw [e9]; rfl) (by decide) ?_
      refine lv_aload_n C.1 C.2.1 dX7_tell_88 rfl (lv_at hl 0 rfl) ?_
      refine lv_iload_n C.1 C.2.1 dX7_tell_89 rfl (lv_at hl 1 rfl) ?_
      refine lv_iload_n C.1 C.2.1 dX7_tell_90 rfl (lv_at hl 2 rfl) ?_
      refine lv_iconst (v := 4) C.1 C.2.1 dX7_tell_91 (by decide) ?_
      refine lv_isub C.1 C.2.1 dX7_tell_92 ?_
      obtain ⟨v15, hv15, hf⟩ := Option.bind_eq_some_iff.mp hf
      refine cRi (As := [.int x1, .int (x2 - 4)]) (rest := []) C (mX7_faceAt hv15) vX7_faceAt wM_X7_60 ⟨Nat.le_of_ble_eq_true rfl, Nat.le_of_ble_eq_true rfl⟩ hP (rcc_X7 C hP) (fun U hU hW => SF.go hZ va_S.rf hU hW (fun _ h => h)) hl.1 rfl rfl (Nat.le_of_ble_eq_true rfl) dX7_tell_93 ⟨Nat.le_of_ble_eq_true rfl, Nat.le_of_ble_eq_true rfl⟩ ?_
      exact endRi C hf dX7_tell_96
    rw [if_neg c14] at hf
    by_cases c16 : x2 = 6
    · rw [if_pos c16] at hf
      have e9 : (x2 : Int32).toInt = 6 := by rw [c16]; rfl
      refine lv_tableIn (off := 77) (tgt := 88) C.1 C.2.1 dX7_tell_11 (by rw [e9]; decide) (by rw [e9]; decide) (by rw [e9]; rfl) (by decide) ?_
      refine lv_aload_n C.1 C.2.1 dX7_tell_88 rfl (lv_at hl 0 rfl) ?_
      refine lv_iload_n C.1 C.2.1 dX7_tell_89 rfl (lv_at hl 1 rfl) ?_
      refine lv_iload_n C.1 C.2.1 dX7_tell_90 rfl (lv_at hl 2 rfl) ?_
      refine lv_iconst (v := 4) C.1 C.2.1 dX7_tell_91 (by decide) ?_
      refine lv_isub C.1 C.2.1 dX7_tell_92 ?_
      obtain ⟨v17, hv17, hf⟩ := Option.bind_eq_some_iff.mp hf
      refine cRi (As := [.int x1, .int (x2 - 4)]) (rest := []) C (mX7_faceAt hv17) vX7_faceAt wM_X7_60 ⟨Nat.le_of_ble_eq_true rfl, Nat.le_of_ble_eq_true rfl⟩ hP (rcc_X7 C hP) (fun U hU hW => SF.go hZ va_S.rf hU hW (fun _ h => h)) hl.1 rfl rfl (Nat.le_of_ble_eq_true rfl) dX7_tell_93 ⟨Nat.le_of_ble_eq_true rfl, Nat.le_of_ble_eq_true rfl⟩ ?_
      exact endRi C hf dX7_tell_96
    rw [if_neg c16] at hf
    refine lv_tableOut (tgt := 97) C.1 C.2.1 dX7_tell_11 (by have q0 := neI c3 (k := 0) rfl; have q1 := neI c6 (k := 1) rfl; have q2 := neI c8 (k := 2) rfl; have q3 := neI c10 (k := 3) rfl; have q4 := neI c12 (k := 4) rfl; have q5 := neI c14 (k := 5) rfl; have q6 := neI c16 (k := 6) rfl; omega) (by decide) ?_
    refine lv_iconst (v := -1) C.1 C.2.1 dX7_tell_97 (by decide) ?_
    exact endRi C hf dX7_tell_98
  · rw [if_pos c2] at hf
    refine lv_iconst (v := -1) C.1 C.2.1 dX7_tell_8 (by decide) ?_
    exact endRi C hf dX7_tell_9
end
theorem vX7_tell : YV yX7_tell cX7_tell 3 (some .int) 2 := ⟨⟨wK_X7_tell, wZ_X7, by decide +kernel⟩, wI_X7_tell, wV_X7_tell⟩
def fX8_told (u : ST) (x1 : Int32) (x2 : Int32) : Option Int32 :=
  (fX7_tell u x1 x2).bind fun v1 =>
  some v1
section
variable {p : Program} {l : Launch} {e : Env} {s : State} {m : MethodId} {args : Array Value} {below : List Frame} {meth : Method} {c : Code} {H : Heap} {locs : List Loc} {g : GP} {ls : Array Slot} {A : Nat → Prop} {ad : Nat → Nat} {u : ST}
set_option maxRecDepth 100000 in
set_option maxHeartbeats 4000000 in
theorem mX8_told {r0 : Int32} {x1 : Int32} {x2 : Int32} (hf : fX8_told u x1 x2 = some r0) : MRi l yX8_told cX8_told 3 (some .int) 2 44 [.ref (ad 0), .int x1, .int x2] g (cW g ad u) r0 := by
  refine entR (by decide) (Nat.le_of_ble_eq_true rfl) ?_
  intro p e s m below meth c ls C hP hZ hl
  have hl : lv_has ls 3 [(0, .ref (ad 0)), (1, .int x1), (2, .int x2)] := hl
  rw [fX8_told] at hf
  refine lv_aload_n C.1 C.2.1 dX8_told_0 rfl (lv_at hl 0 rfl) ?_
  refine gtc_X8_house C hP wF_X8_10 dX8_told_1 ?_
  refine gtc_X2_types C hP wF_X8_49 dX8_told_4 ?_
  refine lv_iload_n C.1 C.2.1 dX8_told_7 rfl (lv_at hl 1 rfl) ?_
  refine lv_iload_n C.1 C.2.1 dX8_told_8 rfl (lv_at hl 2 rfl) ?_
  obtain ⟨v1, hv1, hf⟩ := Option.bind_eq_some_iff.mp hf
  refine cRi (As := [.int x1, .int x2]) (rest := []) C (mX7_tell hv1) vX7_tell wM_X8_191 ⟨Nat.le_of_ble_eq_true rfl, Nat.le_of_ble_eq_true rfl⟩ hP (rcc_X7 C hP) (fun U hU hW => SF.go hZ va_S.rf hU hW (fun _ h => h)) hl.1 rfl rfl (Nat.le_of_ble_eq_true rfl) dX8_told_9 ⟨Nat.le_of_ble_eq_true rfl, Nat.le_of_ble_eq_true rfl⟩ ?_
  exact endRi C hf dX8_told_12
end
theorem vX8_told : YV yX8_told cX8_told 3 (some .int) 2 := ⟨⟨wK_X8_told, wZ_X8, by decide +kernel⟩, wI_X8_told, wV_X8_told⟩
def fX8_below (u : ST) (x1 : Int32) (x2 : Int32) : Option Int32 :=
  (fX7_isType u x1).bind fun v1 =>
  if v1 = 0 then
    some (-1)
  else
    (fX7_isType u x2).bind fun v3 =>
    if v3 = 0 then
      some (-1)
    else
      (fX7_isBelow u x1 x2).bind fun v5 =>
      if v5 = 0 then
        some 0
      else
        some 1
section
variable {p : Program} {l : Launch} {e : Env} {s : State} {m : MethodId} {args : Array Value} {below : List Frame} {meth : Method} {c : Code} {H : Heap} {locs : List Loc} {g : GP} {ls : Array Slot} {A : Nat → Prop} {ad : Nat → Nat} {u : ST}
set_option maxRecDepth 100000 in
set_option maxHeartbeats 4000000 in
theorem mX8_below {r0 : Int32} {x1 : Int32} {x2 : Int32} (hf : fX8_below u x1 x2 = some r0) : MRi l yX8_below cX8_below 3 (some .int) 1 22 [.ref (ad 0), .int x1, .int x2] g (cW g ad u) r0 := by
  refine entR (by decide) (Nat.le_of_ble_eq_true rfl) ?_
  intro p e s m below meth c ls C hP hZ hl
  have hl : lv_has ls 3 [(0, .ref (ad 0)), (1, .int x1), (2, .int x2)] := hl
  rw [fX8_below] at hf
  refine lv_aload_n C.1 C.2.1 dX8_below_0 rfl (lv_at hl 0 rfl) ?_
  refine gtc_X8_house C hP wF_X8_10 dX8_below_1 ?_
  refine gtc_X2_types C hP wF_X8_49 dX8_below_4 ?_
  refine lv_iload_n C.1 C.2.1 dX8_below_7 rfl (lv_at hl 1 rfl) ?_
  obtain ⟨v1, hv1, hf⟩ := Option.bind_eq_some_iff.mp hf
  refine cRi (As := [.int x1]) (rest := []) C (mX7_isType hv1) vX7_isType wM_X8_85 ⟨Nat.le_of_ble_eq_true rfl, Nat.le_of_ble_eq_true rfl⟩ hP (rcc_X7 C hP) (fun U hU hW => SF.go hZ va_S.rf hU hW (fun _ h => h)) hl.1 rfl rfl (Nat.le_of_ble_eq_true rfl) dX8_below_8 ⟨Nat.le_of_ble_eq_true rfl, Nat.le_of_ble_eq_true rfl⟩ ?_
  refine lv_if_eq (tgt := 28) C.1 C.2.1 dX8_below_11 (by decide) (fun c2 => ?_) (fun c2 => ?_)
  · rw [if_pos c2] at hf
    refine lv_iconst (v := -1) C.1 C.2.1 dX8_below_28 (by decide) ?_
    exact endRi C hf dX8_below_29
  · rw [if_neg c2] at hf
    refine lv_aload_n C.1 C.2.1 dX8_below_14 rfl (lv_at hl 0 rfl) ?_
    refine gtc_X8_house C hP wF_X8_10 dX8_below_15 ?_
    refine gtc_X2_types C hP wF_X8_49 dX8_below_18 ?_
    refine lv_iload_n C.1 C.2.1 dX8_below_21 rfl (lv_at hl 2 rfl) ?_
    obtain ⟨v3, hv3, hf⟩ := Option.bind_eq_some_iff.mp hf
    refine cRi (As := [.int x2]) (rest := []) C (mX7_isType hv3) vX7_isType wM_X8_85 ⟨Nat.le_of_ble_eq_true rfl, Nat.le_of_ble_eq_true rfl⟩ hP (rcc_X7 C hP) (fun U hU hW => SF.go hZ va_S.rf hU hW (fun _ h => h)) hl.1 rfl rfl (Nat.le_of_ble_eq_true rfl) dX8_below_22 ⟨Nat.le_of_ble_eq_true rfl, Nat.le_of_ble_eq_true rfl⟩ ?_
    refine lv_if_ne (tgt := 30) C.1 C.2.1 dX8_below_25 (by decide) (fun c4 => ?_) (fun c4 => ?_)
    · rw [if_neg c4] at hf
      refine lv_aload_n C.1 C.2.1 dX8_below_30 rfl (lv_at hl 0 rfl) ?_
      refine gtc_X8_house C hP wF_X8_10 dX8_below_31 ?_
      refine gtc_X2_types C hP wF_X8_49 dX8_below_34 ?_
      refine lv_iload_n C.1 C.2.1 dX8_below_37 rfl (lv_at hl 1 rfl) ?_
      refine lv_iload_n C.1 C.2.1 dX8_below_38 rfl (lv_at hl 2 rfl) ?_
      obtain ⟨v5, hv5, hf⟩ := Option.bind_eq_some_iff.mp hf
      refine cRi (As := [.int x1, .int x2]) (rest := []) C (mX7_isBelow hv5) vX7_isBelow wM_X8_74 ⟨Nat.le_of_ble_eq_true rfl, Nat.le_of_ble_eq_true rfl⟩ hP (rcc_X7 C hP) (fun U hU hW => SF.go hZ va_S.rf hU hW (fun _ h => h)) hl.1 rfl rfl (Nat.le_of_ble_eq_true rfl) dX8_below_39 ⟨Nat.le_of_ble_eq_true rfl, Nat.le_of_ble_eq_true rfl⟩ ?_
      refine lv_if_eq (tgt := 49) C.1 C.2.1 dX8_below_42 (by decide) (fun c6 => ?_) (fun c6 => ?_)
      · rw [if_pos c6] at hf
        refine lv_iconst (v := 0) C.1 C.2.1 dX8_below_49 (by decide) ?_
        exact endRi C hf dX8_below_50
      · rw [if_neg c6] at hf
        refine lv_iconst (v := 1) C.1 C.2.1 dX8_below_45 (by decide) ?_
        refine lv_goto (tgt := 50) C.1 C.2.1 dX8_below_46 (by decide) ?_
        exact endRi C hf dX8_below_50
    · rw [if_pos c4] at hf
      refine lv_iconst (v := -1) C.1 C.2.1 dX8_below_28 (by decide) ?_
      exact endRi C hf dX8_below_29
end
theorem vX8_below : YV yX8_below cX8_below 3 (some .int) 2 := ⟨⟨wK_X8_below, wZ_X8, by decide +kernel⟩, wI_X8_below, wV_X8_below⟩
def fX6_tell (u : ST) (x1 : Int32) (x2 : Int32) : Option Int32 :=
  (fX6_isMember u x1).bind fun v1 =>
  if v1 = 0 then
    some (-1)
  else
    if x2 = 0 then
      (rdI u 16 60 x1).bind fun v4 =>
      if v4 = 0 then
        some 0
      else
        some 1
    else
    if x2 = 1 then
      (rdI u 15 60 x1).bind fun v7 =>
      some v7
    else
    if x2 = 2 then
      (rdI u 17 60 x1).bind fun v9 =>
      some v9
    else
    if x2 = 3 then
      (rdI u 18 60 x1).bind fun v11 =>
      some v11
    else
    if x2 = 4 then
      (rdI u 19 60 x1).bind fun v13 =>
      some v13
    else
    if x2 = 5 then
      (rdI u 20 60 x1).bind fun v15 =>
      some v15
    else
      some (-1)
section
variable {p : Program} {l : Launch} {e : Env} {s : State} {m : MethodId} {args : Array Value} {below : List Frame} {meth : Method} {c : Code} {H : Heap} {locs : List Loc} {g : GP} {ls : Array Slot} {A : Nat → Prop} {ad : Nat → Nat} {u : ST}
set_option maxRecDepth 100000 in
set_option maxHeartbeats 4000000 in
theorem mX6_tell {r0 : Int32} {x1 : Int32} {x2 : Int32} (hf : fX6_tell u x1 x2 = some r0) : MRi l yX6_tell cX6_tell 3 (some .int) 1 21 [.ref (ad 3), .int x1, .int x2] g (cW g ad u) r0 := by
  refine entR (by decide) (Nat.le_of_ble_eq_true rfl) ?_
  intro p e s m below meth c ls C hP hZ hl
  have hl : lv_has ls 3 [(0, .ref (ad 3)), (1, .int x1), (2, .int x2)] := hl
  rw [fX6_tell] at hf
  refine lv_aload_n C.1 C.2.1 dX6_tell_0 rfl (lv_at hl 0 rfl) ?_
  refine lv_iload_n C.1 C.2.1 dX6_tell_1 rfl (lv_at hl 1 rfl) ?_
  obtain ⟨v1, hv1, hf⟩ := Option.bind_eq_some_iff.mp hf
  refine cRi (As := [.int x1]) (rest := []) C (mX6_isMember hv1) vX6_isMember wM_X6_39 ⟨Nat.le_of_ble_eq_true rfl, Nat.le_of_ble_eq_true rfl⟩ hP (rcc_X6 C hP) (fun U hU hW => SF.go hZ va_S.rf hU hW (fun _ h => h)) hl.1 rfl rfl (Nat.le_of_ble_eq_true rfl) dX6_tell_2 ⟨Nat.le_of_ble_eq_true rfl, Nat.le_of_ble_eq_true rfl⟩ ?_
  refine lv_if_ne (tgt := 10) C.1 C.2.1 dX6_tell_5 (by decide) (fun c2 => ?_) (fun c2 => ?_)
  · rw [if_neg c2] at hf
    refine lv_iload_n C.1 C.2.1 dX6_tell_10 rfl (lv_at hl 2 rfl) ?_
    by_cases c3 : x2 = 0
    · rw [if_pos c3] at hf
      have e9 : (x2 : Int32).toInt = 0 := by rw [c3]; rfl
      refine lv_tableIn (off := 37) (tgt := 48) C.1 C.2.1 dX6_tell_11 (by rw [e9]; decide) (by rw [e9]; decide) (by rw [e9]; rfl) (by decide) ?_
      refine lv_aload_n C.1 C.2.1 dX6_tell_48 rfl (lv_at hl 0 rfl) ?_
      refine gtc_X6_isMethod C hP wF_X6_15 dX6_tell_49 ?_
      refine lv_iload_n C.1 C.2.1 dX6_tell_52 rfl (lv_at hl 1 rfl) ?_
      obtain ⟨v4, hv4, hf⟩ := Option.bind_eq_some_iff.mp hf
      refine ldc_16 C hP hv4 dX6_tell_53 ?_
      refine lv_if_eq (tgt := 61) C.1 C.2.1 dX6_tell_54 (by decide) (fun c5 => ?_) (fun c5 => ?_)
      · rw [if_pos c5] at hf
        refine lv_iconst (v := 0) C.1 C.2.1 dX6_tell_61 (by decide) ?_
        exact endRi C hf dX6_tell_62
      · rw [if_neg c5] at hf
        refine lv_iconst (v := 1) C.1 C.2.1 dX6_tell_57 (by decide) ?_
        refine lv_goto (tgt := 62) C.1 C.2.1 dX6_tell_58 (by decide) ?_
        exact endRi C hf dX6_tell_62
    rw [if_neg c3] at hf
    by_cases c6 : x2 = 1
    · rw [if_pos c6] at hf
      have e9 : (x2 : Int32).toInt = 1 := by rw [c6]; rfl
      refine lv_tableIn (off := 52) (tgt := 63) C.1 C.2.1 dX6_tell_11 (by rw [e9]; decide) (by rw [e9]; decide) (by rw [e9]; rfl) (by decide) ?_
      refine lv_aload_n C.1 C.2.1 dX6_tell_63 rfl (lv_at hl 0 rfl) ?_
      refine gtc_X6_owner C hP wF_X6_11 dX6_tell_64 ?_
      refine lv_iload_n C.1 C.2.1 dX6_tell_67 rfl (lv_at hl 1 rfl) ?_
      obtain ⟨v7, hv7, hf⟩ := Option.bind_eq_some_iff.mp hf
      refine ldc_15 C hP hv7 dX6_tell_68 ?_
      exact endRi C hf dX6_tell_69
    rw [if_neg c6] at hf
    by_cases c8 : x2 = 2
    · rw [if_pos c8] at hf
      have e9 : (x2 : Int32).toInt = 2 := by rw [c8]; rfl
      refine lv_tableIn (off := 59) (tgt := 70) C.1 C.2.1 dX6_tell_11 (by rw [e9]; decide) (by rw [e9]; decide) (by rw [e9]; rfl) (by decide) ?_
      refine lv_aload_n C.1 C.2.1 dX6_tell_70 rfl (lv_at hl 0 rfl) ?_
      refine gtc_X6_name C hP wF_X6_19 dX6_tell_71 ?_
      refine lv_iload_n C.1 C.2.1 dX6_tell_74 rfl (lv_at hl 1 rfl) ?_
      obtain ⟨v9, hv9, hf⟩ := Option.bind_eq_some_iff.mp hf
      refine ldc_17 C hP hv9 dX6_tell_75 ?_
      exact endRi C hf dX6_tell_76
    rw [if_neg c8] at hf
    by_cases c10 : x2 = 3
    · rw [if_pos c10] at hf
      have e9 : (x2 : Int32).toInt = 3 := by rw [c10]; rfl
      refine lv_tableIn (off := 66) (tgt := 77) C.1 C.2.1 dX6_tell_11 (by rw [e9]; decide) (by rw [e9]; decide) (by rw [e9]; rfl) (by decide) ?_
      refine lv_aload_n C.1 C.2.1 dX6_tell_77 rfl (lv_at hl 0 rfl) ?_
      refine gtc_X6_marks C hP wF_X6_22 dX6_tell_78 ?_
      refine lv_iload_n C.1 C.2.1 dX6_tell_81 rfl (lv_at hl 1 rfl) ?_
      obtain ⟨v11, hv11, hf⟩ := Option.bind_eq_some_iff.mp hf
      refine ldc_18 C hP hv11 dX6_tell_82 ?_
      exact endRi C hf dX6_tell_83
    rw [if_neg c10] at hf
    by_cases c12 : x2 = 4
    · rw [if_pos c12] at hf
      have e9 : (x2 : Int32).toInt = 4 := by rw [c12]; rfl
      refine lv_tableIn (off := 73) (tgt := 84) C.1 C.2.1 dX6_tell_11 (by rw [e9]; decide) (by rw [e9]; decide) (by rw [e9]; rfl) (by decide) ?_
      refine lv_aload_n C.1 C.2.1 dX6_tell_84 rfl (lv_at hl 0 rfl) ?_
      refine gtc_X6_first C hP wF_X6_25 dX6_tell_85 ?_
      refine lv_iload_n C.1 C.2.1 dX6_tell_88 rfl (lv_at hl 1 rfl) ?_
      obtain ⟨v13, hv13, hf⟩ := Option.bind_eq_some_iff.mp hf
      refine ldc_19 C hP hv13 dX6_tell_89 ?_
      exact endRi C hf dX6_tell_90
    rw [if_neg c12] at hf
    by_cases c14 : x2 = 5
    · rw [if_pos c14] at hf
      have e9 : (x2 : Int32).toInt = 5 := by rw [c14]; rfl
      refine lv_tableIn (off := 80) (tgt := 91) C.1 C.2.1 dX6_tell_11 (by rw [e9]; decide) (by rw [e9]; decide) (by rw [e9]; rfl) (by decide) ?_
      refine lv_aload_n C.1 C.2.1 dX6_tell_91 rfl (lv_at hl 0 rfl) ?_
      refine gtc_X6_second C hP wF_X6_28 dX6_tell_92 ?_
      refine lv_iload_n C.1 C.2.1 dX6_tell_95 rfl (lv_at hl 1 rfl) ?_
      obtain ⟨v15, hv15, hf⟩ := Option.bind_eq_some_iff.mp hf
      refine ldc_20 C hP hv15 dX6_tell_96 ?_
      exact endRi C hf dX6_tell_97
    rw [if_neg c14] at hf
    refine lv_tableOut (tgt := 98) C.1 C.2.1 dX6_tell_11 (by have q0 := neI c3 (k := 0) rfl; have q1 := neI c6 (k := 1) rfl; have q2 := neI c8 (k := 2) rfl; have q3 := neI c10 (k := 3) rfl; have q4 := neI c12 (k := 4) rfl; have q5 := neI c14 (k := 5) rfl; omega) (by decide) ?_
    refine lv_iconst (v := -1) C.1 C.2.1 dX6_tell_98 (by decide) ?_
    exact endRi C hf dX6_tell_99
  · rw [if_pos c2] at hf
    refine lv_iconst (v := -1) C.1 C.2.1 dX6_tell_8 (by decide) ?_
    exact endRi C hf dX6_tell_9
end
theorem vX6_tell : YV yX6_tell cX6_tell 3 (some .int) 2 := ⟨⟨wK_X6_tell, wZ_X6, by decide +kernel⟩, wI_X6_tell, wV_X6_tell⟩
def fX8_member (u : ST) (x1 : Int32) (x2 : Int32) : Option Int32 :=
  (fX6_tell u x1 x2).bind fun v1 =>
  some v1
section
variable {p : Program} {l : Launch} {e : Env} {s : State} {m : MethodId} {args : Array Value} {below : List Frame} {meth : Method} {c : Code} {H : Heap} {locs : List Loc} {g : GP} {ls : Array Slot} {A : Nat → Prop} {ad : Nat → Nat} {u : ST}
set_option maxRecDepth 100000 in
set_option maxHeartbeats 4000000 in
theorem mX8_member {r0 : Int32} {x1 : Int32} {x2 : Int32} (hf : fX8_member u x1 x2 = some r0) : MRi l yX8_member cX8_member 3 (some .int) 2 43 [.ref (ad 0), .int x1, .int x2] g (cW g ad u) r0 := by
  refine entR (by decide) (Nat.le_of_ble_eq_true rfl) ?_
  intro p e s m below meth c ls C hP hZ hl
  have hl : lv_has ls 3 [(0, .ref (ad 0)), (1, .int x1), (2, .int x2)] := hl
  rw [fX8_member] at hf
  refine lv_aload_n C.1 C.2.1 dX8_member_0 rfl (lv_at hl 0 rfl) ?_
  refine gtc_X8_house C hP wF_X8_10 dX8_member_1 ?_
  refine gtc_X2_members C hP wF_X8_95 dX8_member_4 ?_
  refine lv_iload_n C.1 C.2.1 dX8_member_7 rfl (lv_at hl 1 rfl) ?_
  refine lv_iload_n C.1 C.2.1 dX8_member_8 rfl (lv_at hl 2 rfl) ?_
  obtain ⟨v1, hv1, hf⟩ := Option.bind_eq_some_iff.mp hf
  refine cRi (As := [.int x1, .int x2]) (rest := []) C (mX6_tell hv1) vX6_tell wM_X8_193 ⟨Nat.le_of_ble_eq_true rfl, Nat.le_of_ble_eq_true rfl⟩ hP (rcc_X6 C hP) (fun U hU hW => SF.go hZ va_S.rf hU hW (fun _ h => h)) hl.1 rfl rfl (Nat.le_of_ble_eq_true rfl) dX8_member_9 ⟨Nat.le_of_ble_eq_true rfl, Nat.le_of_ble_eq_true rfl⟩ ?_
  exact endRi C hf dX8_member_12
end
theorem vX8_member : YV yX8_member cX8_member 3 (some .int) 2 := ⟨⟨wK_X8_member, wZ_X8, by decide +kernel⟩, wI_X8_member, wV_X8_member⟩
def fX8_selected (u : ST) (x1 : Int32) (x2 : Int32) : Option Int32 :=
  (fX7_isClass u x1).bind fun v1 =>
  if v1 = 0 then
    some (-1)
  else
    (fX6_isMethod u x2).bind fun v3 =>
    if v3 = 0 then
      some (-1)
    else
      (rdI u 17 60 x2).bind fun v5 =>
      (rdI u 19 60 x2).bind fun v6 =>
      (rdI u 20 60 x2).bind fun v7 =>
      (fX2_select u x1 v5 v6 v7).bind fun v8 =>
      some v8
section
variable {p : Program} {l : Launch} {e : Env} {s : State} {m : MethodId} {args : Array Value} {below : List Frame} {meth : Method} {c : Code} {H : Heap} {locs : List Loc} {g : GP} {ls : Array Slot} {A : Nat → Prop} {ad : Nat → Nat} {u : ST}
set_option maxRecDepth 100000 in
set_option maxHeartbeats 4000000 in
theorem mX8_selected {r0 : Int32} {x1 : Int32} {x2 : Int32} (hf : fX8_selected u x1 x2 = some r0) : MRi l yX8_selected cX8_selected 4 (some .int) 4 101 [.ref (ad 0), .int x1, .int x2] g (cW g ad u) r0 := by
  refine entR (by decide) (Nat.le_of_ble_eq_true rfl) ?_
  intro p e s m below meth c ls C hP hZ hl
  have hl : lv_has ls 4 [(0, .ref (ad 0)), (1, .int x1), (2, .int x2)] := hl
  rw [fX8_selected] at hf
  refine lv_aload_n C.1 C.2.1 dX8_selected_0 rfl (lv_at hl 0 rfl) ?_
  refine gtc_X8_house C hP wF_X8_10 dX8_selected_1 ?_
  refine gtc_X2_types C hP wF_X8_49 dX8_selected_4 ?_
  refine lv_iload_n C.1 C.2.1 dX8_selected_7 rfl (lv_at hl 1 rfl) ?_
  obtain ⟨v1, hv1, hf⟩ := Option.bind_eq_some_iff.mp hf
  refine cRi (As := [.int x1]) (rest := []) C (mX7_isClass hv1) vX7_isClass wM_X8_70 ⟨Nat.le_of_ble_eq_true rfl, Nat.le_of_ble_eq_true rfl⟩ hP (rcc_X7 C hP) (fun U hU hW => SF.go hZ va_S.rf hU hW (fun _ h => h)) hl.1 rfl rfl (Nat.le_of_ble_eq_true rfl) dX8_selected_8 ⟨Nat.le_of_ble_eq_true rfl, Nat.le_of_ble_eq_true rfl⟩ ?_
  refine lv_if_eq (tgt := 28) C.1 C.2.1 dX8_selected_11 (by decide) (fun c2 => ?_) (fun c2 => ?_)
  · rw [if_pos c2] at hf
    refine lv_iconst (v := -1) C.1 C.2.1 dX8_selected_28 (by decide) ?_
    exact endRi C hf dX8_selected_29
  · rw [if_neg c2] at hf
    refine lv_aload_n C.1 C.2.1 dX8_selected_14 rfl (lv_at hl 0 rfl) ?_
    refine gtc_X8_house C hP wF_X8_10 dX8_selected_15 ?_
    refine gtc_X2_members C hP wF_X8_95 dX8_selected_18 ?_
    refine lv_iload_n C.1 C.2.1 dX8_selected_21 rfl (lv_at hl 2 rfl) ?_
    obtain ⟨v3, hv3, hf⟩ := Option.bind_eq_some_iff.mp hf
    refine cRi (As := [.int x2]) (rest := []) C (mX6_isMethod hv3) vX6_isMethod wM_X8_194 ⟨Nat.le_of_ble_eq_true rfl, Nat.le_of_ble_eq_true rfl⟩ hP (rcc_X6 C hP) (fun U hU hW => SF.go hZ va_S.rf hU hW (fun _ h => h)) hl.1 rfl rfl (Nat.le_of_ble_eq_true rfl) dX8_selected_22 ⟨Nat.le_of_ble_eq_true rfl, Nat.le_of_ble_eq_true rfl⟩ ?_
    refine lv_if_ne (tgt := 30) C.1 C.2.1 dX8_selected_25 (by decide) (fun c4 => ?_) (fun c4 => ?_)
    · rw [if_neg c4] at hf
      refine lv_aload_n C.1 C.2.1 dX8_selected_30 rfl (lv_at hl 0 rfl) ?_
      refine gtc_X8_house C hP wF_X8_10 dX8_selected_31 ?_
      refine gtc_X2_members C hP wF_X8_95 dX8_selected_34 ?_
      refine lv_astore_n (lv' := [(3, .ref (ad 3)), (0, .ref (ad 0)), (1, .int x1), (2, .int x2)]) C.1 C.2.1 dX8_selected_37 rfl hl (by decide) rfl (fun ls hl => ?_)
      refine lv_aload_n C.1 C.2.1 dX8_selected_38 rfl (lv_at hl 1 rfl) ?_
      refine gtc_X8_house C hP wF_X8_10 dX8_selected_39 ?_
      refine lv_iload_n C.1 C.2.1 dX8_selected_42 rfl (lv_at hl 2 rfl) ?_
      refine lv_aload_n C.1 C.2.1 dX8_selected_43 rfl (lv_at hl 0 rfl) ?_
      refine gtc_X6_name C hP wF_X8_197 dX8_selected_44 ?_
      refine lv_iload_n C.1 C.2.1 dX8_selected_47 rfl (lv_at hl 3 rfl) ?_
      obtain ⟨v5, hv5, hf⟩ := Option.bind_eq_some_iff.mp hf
      refine ldc_17 C hP hv5 dX8_selected_48 ?_
      refine lv_aload_n C.1 C.2.1 dX8_selected_49 rfl (lv_at hl 0 rfl) ?_
      refine gtc_X6_first C hP wF_X8_200 dX8_selected_50 ?_
      refine lv_iload_n C.1 C.2.1 dX8_selected_53 rfl (lv_at hl 3 rfl) ?_
      obtain ⟨v6, hv6, hf⟩ := Option.bind_eq_some_iff.mp hf
      refine ldc_19 C hP hv6 dX8_selected_54 ?_
      refine lv_aload_n C.1 C.2.1 dX8_selected_55 rfl (lv_at hl 0 rfl) ?_
      refine gtc_X6_second C hP wF_X8_203 dX8_selected_56 ?_
      refine lv_iload_n C.1 C.2.1 dX8_selected_59 rfl (lv_at hl 3 rfl) ?_
      obtain ⟨v7, hv7, hf⟩ := Option.bind_eq_some_iff.mp hf
      refine ldc_20 C hP hv7 dX8_selected_60 ?_
      obtain ⟨v8, hv8, hf⟩ := Option.bind_eq_some_iff.mp hf
      refine cRi (As := [.int x1, .int v5, .int v6, .int v7]) (rest := []) C (mX2_select hv8) vX2_select wM_X8_206 ⟨Nat.le_of_ble_eq_true rfl, Nat.le_of_ble_eq_true rfl⟩ hP (rcc_X2 C hP) (fun U hU hW => SF.go hZ va_S.rf hU hW (fun _ h => h)) hl.1 rfl rfl (Nat.le_of_ble_eq_true rfl) dX8_selected_61 ⟨Nat.le_of_ble_eq_true rfl, Nat.le_of_ble_eq_true rfl⟩ ?_
      exact endRi C hf dX8_selected_64
    · rw [if_pos c4] at hf
      refine lv_iconst (v := -1) C.1 C.2.1 dX8_selected_28 (by decide) ?_
      exact endRi C hf dX8_selected_29
end
theorem vX8_selected : YV yX8_selected cX8_selected 4 (some .int) 2 := ⟨⟨wK_X8_selected, wZ_X8, by decide +kernel⟩, wI_X8_selected, wV_X8_selected⟩
def fX8_count (u : ST) (x1 : Int32) : Option Int32 :=
  if x1 = 0 then
    some (sI u 200)
  else
  if x1 = 1 then
    some (sI u 300)
  else
  if x1 = 2 then
    some (sI u 6)
  else
  if x1 = 3 then
    some (sI u 4)
  else
    some (-1)
section
variable {p : Program} {l : Launch} {e : Env} {s : State} {m : MethodId} {args : Array Value} {below : List Frame} {meth : Method} {c : Code} {H : Heap} {locs : List Loc} {g : GP} {ls : Array Slot} {A : Nat → Prop} {ad : Nat → Nat} {u : ST}
set_option maxRecDepth 100000 in
set_option maxHeartbeats 4000000 in
theorem mX8_count {r0 : Int32} {x1 : Int32} (hf : fX8_count u x1 = some r0) : MRi l yX8_count cX8_count 2 (some .int) 0 0 [.ref (ad 0), .int x1] g (cW g ad u) r0 := by
  refine entR (by decide) (Nat.le_of_ble_eq_true rfl) ?_
  intro p e s m below meth c ls C hP hZ hl
  have hl : lv_has ls 2 [(0, .ref (ad 0)), (1, .int x1)] := hl
  rw [fX8_count] at hf
  refine lv_iload_n C.1 C.2.1 dX8_count_0 rfl (lv_at hl 1 rfl) ?_
  by_cases c1 : x1 = 0
  · rw [if_pos c1] at hf
    have e9 : (x1 : Int32).toInt = 0 := by rw [c1]; rfl
    refine lv_tableIn (off := 31) (tgt := 32) C.1 C.2.1 dX8_count_1 (by rw [e9]; decide) (by rw [e9]; decide) (by rw [e9]; rfl) (by decide) ?_
    refine lv_aload_n C.1 C.2.1 dX8_count_32 rfl (lv_at hl 0 rfl) ?_
    refine gtc_X8_house C hP wF_X8_10 dX8_count_33 ?_
    refine gtc_X2_types C hP wF_X8_49 dX8_count_36 ?_
    refine gtc_X7_size C hP wF_X8_59 dX8_count_39 ?_
    exact endRi C hf dX8_count_42
  rw [if_neg c1] at hf
  by_cases c2 : x1 = 1
  · rw [if_pos c2] at hf
    have e9 : (x1 : Int32).toInt = 1 := by rw [c2]; rfl
    refine lv_tableIn (off := 42) (tgt := 43) C.1 C.2.1 dX8_count_1 (by rw [e9]; decide) (by rw [e9]; decide) (by rw [e9]; rfl) (by decide) ?_
    refine lv_aload_n C.1 C.2.1 dX8_count_43 rfl (lv_at hl 0 rfl) ?_
    refine gtc_X8_house C hP wF_X8_10 dX8_count_44 ?_
    refine gtc_X2_members C hP wF_X8_95 dX8_count_47 ?_
    refine gtc_X6_size C hP wF_X8_210 dX8_count_50 ?_
    exact endRi C hf dX8_count_53
  rw [if_neg c2] at hf
  by_cases c3 : x1 = 2
  · rw [if_pos c3] at hf
    have e9 : (x1 : Int32).toInt = 2 := by rw [c3]; rfl
    refine lv_tableIn (off := 53) (tgt := 54) C.1 C.2.1 dX8_count_1 (by rw [e9]; decide) (by rw [e9]; decide) (by rw [e9]; rfl) (by decide) ?_
    refine lv_aload_n C.1 C.2.1 dX8_count_54 rfl (lv_at hl 0 rfl) ?_
    refine gtc_X8_callerCount C hP wF_X8_211 dX8_count_55 ?_
    exact endRi C hf dX8_count_58
  rw [if_neg c3] at hf
  by_cases c4 : x1 = 3
  · rw [if_pos c4] at hf
    have e9 : (x1 : Int32).toInt = 3 := by rw [c4]; rfl
    refine lv_tableIn (off := 58) (tgt := 59) C.1 C.2.1 dX8_count_1 (by rw [e9]; decide) (by rw [e9]; decide) (by rw [e9]; rfl) (by decide) ?_
    refine lv_aload_n C.1 C.2.1 dX8_count_59 rfl (lv_at hl 0 rfl) ?_
    refine gtc_X8_editCount C hP wF_X8_126 dX8_count_60 ?_
    exact endRi C hf dX8_count_63
  rw [if_neg c4] at hf
  refine lv_tableOut (tgt := 64) C.1 C.2.1 dX8_count_1 (by have q0 := neI c1 (k := 0) rfl; have q1 := neI c2 (k := 1) rfl; have q2 := neI c3 (k := 2) rfl; have q3 := neI c4 (k := 3) rfl; omega) (by decide) ?_
  refine lv_iconst (v := -1) C.1 C.2.1 dX8_count_64 (by decide) ?_
  exact endRi C hf dX8_count_65
end
theorem vX8_count : YV yX8_count cX8_count 2 (some .int) 1 := ⟨⟨wK_X8_count, wZ_X8, by decide +kernel⟩, wI_X8_count, wV_X8_count⟩
def fX7_digestOn_L17 (u : ST) (K5 : Int64 → Int32 → Option Int64) : Nat → Int64 → Int32 → Int32 → Option Int64
  | 0, _, _, _ => none
  | n + 1, x3, x5, x6 =>
    if 6 < x6 then
      K5 x3 (x5 + 1)
    else
      (fX7_tell u x5 x6).bind fun v3 =>
      fX7_digestOn_L17 u K5 n ((31 * x3) + ((v3 : Int32).toInt64)) x5 (x6 + 1)
def fX7_digestOn_L5 (u : ST) : Nat → Int64 → Int32 → Option Int64
  | 0, _, _ => none
  | n + 1, x3, x5 =>
    if (sI u 200) ≤ x5 then
      some x3
    else
      fX7_digestOn_L17 u (fX7_digestOn_L5 u n) 5000 x3 x5 0
def fX7_digestOn (u : ST) (x1 : Int64) : Option Int64 :=
  fX7_digestOn_L5 u 5000 x1 0
section
variable {p : Program} {l : Launch} {e : Env} {s : State} {m : MethodId} {args : Array Value} {below : List Frame} {meth : Method} {c : Code} {H : Heap} {locs : List Loc} {g : GP} {ls : Array Slot} {A : Nat → Prop} {ad : Nat → Nat} {u : ST}
set_option maxRecDepth 100000 in
set_option maxHeartbeats 4000000 in
theorem bX7_digestOn_L17 {r0 : Int64} {K5 : Int64 → Int32 → Option Int64} (C : Cx p s m args meth c cX7_digestOn 7 RX7 (some .long) g) (hZ : SF (fun _ => False) s) (hK5 : ∀ (x3 : Int64) (x5 : Int32), ∀ (ls : Array Slot), lv_has ls 7 [(0, .ref (ad 2)), (3, .long x3), (5, .int x5)] → K5 x3 x5 = some r0 → W p l e (rmR 2 44) s m args below meth c s.heap [] 0 0 (MQ below (vp_Sl (fun r => r = r0)) args s 0 0 (fun _ => False)) (F0 m 5 ls [])) (n : Nat) : ∀ (x3 : Int64) (x5 : Int32) (x6 : Int32), va_P g.1 vwCl (cW g ad u) s.heap → ∀ (ls : Array Slot), lv_has ls 7 [(0, .ref (ad 2)), (3, .long x3), (5, .int x5), (6, .int x6)] → fX7_digestOn_L17 u K5 n x3 x5 x6 = some r0 → W p l e (rmR 2 44) s m args below meth c s.heap [] 0 0 (MQ below (vp_Sl (fun r => r = r0)) args s 0 0 (fun _ => False)) (F0 m 17 ls []) := by
  induction n with
  | zero =>
    intro x3 x5 x6 hP ls hl hf
    exact absurd hf (by simp [fX7_digestOn_L17])
  | succ n ih0 =>
    intro x3 x5 x6 hP ls hl hf
    have ih := fun (x3 : Int64) (x5 : Int32) (x6 : Int32) => ih0 x3 x5 x6 hP
    rw [fX7_digestOn_L17] at hf
    refine lv_iload C.1 C.2.1 dX7_digestOn_17 (lv_at hl 3 rfl) ?_
    refine lv_bipush (v := 6) C.1 C.2.1 dX7_digestOn_19 (by decide) ?_
    refine lv_icmp_gt (tgt := 46) C.1 C.2.1 dX7_digestOn_21 (by decide) (fun c2 => ?_) (fun c2 => ?_)
    · rw [if_pos c2] at hf
      refine lv_iinc (v := (x5 + 1)) (lv' := [(5, .int (x5 + 1)), (0, .ref (ad 2)), (3, .long x3), (6, .int x6)]) C.1 C.2.1 dX7_digestOn_46 hl (k := 2) rfl rfl (by decide) rfl (fun ls hl => ?_)
      refine lv_goto (tgt := 5) C.1 C.2.1 dX7_digestOn_49 (by decide) ?_
      exact hK5 x3 (x5 + 1) _ (lv_sub hl [1, 2, 0] rfl) hf
    · rw [if_neg c2] at hf
      refine lv_ldc2 (v := 31) C.1 C.2.1 C.2.2.2.1 (C.2.2.2.2.1 _ wKL_X7_84) dX7_digestOn_24 ?_
      refine lv_lload_n C.1 C.2.1 dX7_digestOn_27 rfl (lv_at hl 1 rfl) ?_
      refine lv_lmul C.1 C.2.1 dX7_digestOn_28 ?_
      refine lv_aload_n C.1 C.2.1 dX7_digestOn_29 rfl (lv_at hl 0 rfl) ?_
      refine lv_iload C.1 C.2.1 dX7_digestOn_30 (lv_at hl 2 rfl) ?_
      refine lv_iload C.1 C.2.1 dX7_digestOn_32 (lv_at hl 3 rfl) ?_
      obtain ⟨v3, hv3, hf⟩ := Option.bind_eq_some_iff.mp hf
      refine cRi (As := [.int x5, .int x6]) (rest := [.long (31 * x3)]) C (mX7_tell hv3) vX7_tell wM_X7_86 ⟨Nat.le_of_ble_eq_true rfl, Nat.le_of_ble_eq_true rfl⟩ hP (rcc_X7 C hP) (fun U hU hW => SF.go hZ va_S.rf hU hW (fun _ h => h)) hl.1 rfl rfl (Nat.le_of_ble_eq_true rfl) dX7_digestOn_34 ⟨Nat.le_of_ble_eq_true rfl, Nat.le_of_ble_eq_true rfl⟩ ?_
      refine lv_i2l C.1 C.2.1 dX7_digestOn_37 rfl ?_
      refine lv_ladd C.1 C.2.1 dX7_digestOn_38 ?_
      refine lv_lstore_n (lv' := [(3, .long ((31 * x3) + ((v3 : Int32).toInt64))), (0, .ref (ad 2)), (5, .int x5), (6, .int x6)]) C.1 C.2.1 dX7_digestOn_39 rfl hl (by decide) rfl (fun ls hl => ?_)
      refine lv_iinc (v := (x6 + 1)) (lv' := [(6, .int (x6 + 1)), (3, .long ((31 * x3) + ((v3 : Int32).toInt64))), (0, .ref (ad 2)), (5, .int x5)]) C.1 C.2.1 dX7_digestOn_40 hl (k := 3) rfl rfl (by decide) rfl (fun ls hl => ?_)
      refine lv_goto (tgt := 17) C.1 C.2.1 dX7_digestOn_43 (by decide) ?_
      exact ih ((31 * x3) + ((v3 : Int32).toInt64)) x5 (x6 + 1) _ (lv_sub hl [2, 1, 3, 0] rfl) hf
set_option maxRecDepth 100000 in
set_option maxHeartbeats 4000000 in
theorem bX7_digestOn_L5 {r0 : Int64} (C : Cx p s m args meth c cX7_digestOn 7 RX7 (some .long) g) (hZ : SF (fun _ => False) s) (n : Nat) : ∀ (x3 : Int64) (x5 : Int32), va_P g.1 vwCl (cW g ad u) s.heap → ∀ (ls : Array Slot), lv_has ls 7 [(0, .ref (ad 2)), (3, .long x3), (5, .int x5)] → fX7_digestOn_L5 u n x3 x5 = some r0 → W p l e (rmR 2 44) s m args below meth c s.heap [] 0 0 (MQ below (vp_Sl (fun r => r = r0)) args s 0 0 (fun _ => False)) (F0 m 5 ls []) := by
  induction n with
  | zero =>
    intro x3 x5 hP ls hl hf
    exact absurd hf (by simp [fX7_digestOn_L5])
  | succ n ih0 =>
    intro x3 x5 hP ls hl hf
    have ih := fun (x3 : Int64) (x5 : Int32) => ih0 x3 x5 hP
    rw [fX7_digestOn_L5] at hf
    refine lv_iload C.1 C.2.1 dX7_digestOn_5 (lv_at hl 2 rfl) ?_
    refine lv_aload_n C.1 C.2.1 dX7_digestOn_7 rfl (lv_at hl 0 rfl) ?_
    refine gtc_X7_size C hP wF_X7_34 dX7_digestOn_8 ?_
    refine lv_icmp_ge (tgt := 52) C.1 C.2.1 dX7_digestOn_11 (by decide) (fun c1 => ?_) (fun c1 => ?_)
    · rw [if_pos c1] at hf
      refine lv_lload_n C.1 C.2.1 dX7_digestOn_52 rfl (lv_at hl 1 rfl) ?_
      exact endRl C hf dX7_digestOn_53
    · rw [if_neg c1] at hf
      refine lv_iconst (v := 0) C.1 C.2.1 dX7_digestOn_14 (by decide) ?_
      refine lv_istore (lv' := [(6, .int 0), (0, .ref (ad 2)), (3, .long x3), (5, .int x5)]) C.1 C.2.1 dX7_digestOn_15 hl (by decide) rfl (fun ls hl => ?_)
      exact bX7_digestOn_L17 C hZ ih 5000 x3 x5 0 hP _ (lv_sub hl [1, 2, 3, 0] rfl) hf
set_option maxRecDepth 100000 in
set_option maxHeartbeats 4000000 in
theorem mX7_digestOn {r0 : Int64} {x1 : Int64} (hf : fX7_digestOn u x1 = some r0) : MRl l yX7_digestOn cX7_digestOn 7 (some .long) 2 44 [.ref (ad 2), .long x1] g (cW g ad u) r0 := by
  refine entR (by decide) (Nat.le_of_ble_eq_true rfl) ?_
  intro p e s m below meth c ls C hP hZ hl
  have hl : lv_has ls 7 [(0, .ref (ad 2)), (1, .long x1)] := hl
  rw [fX7_digestOn] at hf
  refine lv_lload_n C.1 C.2.1 dX7_digestOn_0 rfl (lv_at hl 1 rfl) ?_
  refine lv_lstore_n (lv' := [(3, .long x1), (0, .ref (ad 2)), (1, .long x1)]) C.1 C.2.1 dX7_digestOn_1 rfl hl (by decide) rfl (fun ls hl => ?_)
  refine lv_iconst (v := 0) C.1 C.2.1 dX7_digestOn_2 (by decide) ?_
  refine lv_istore (lv' := [(5, .int 0), (3, .long x1), (0, .ref (ad 2)), (1, .long x1)]) C.1 C.2.1 dX7_digestOn_3 hl (by decide) rfl (fun ls hl => ?_)
  exact bX7_digestOn_L5 C hZ 5000 x1 0 hP _ (lv_sub hl [2, 1, 0] rfl) hf
end
theorem vX7_digestOn : YV yX7_digestOn cX7_digestOn 7 (some .long) 1 := ⟨⟨wK_X7_digestOn, wZ_X7, by decide +kernel⟩, wI_X7_digestOn, wV_X7_digestOn⟩
def fX6_digestOn_L76 (u : ST) (K5 : Int64 → Int32 → Option Int64) (x3 : Int64) (x5 : Int32) : Option Int64 :=
  K5 x3 (x5 + 1)
def fX6_digestOn_L34 (u : ST) (K5 : Int64 → Int32 → Option Int64) : Nat → Int64 → Int32 → Int32 → Option Int64
  | 0, _, _, _ => none
  | n + 1, x3, x5, x6 =>
    if 5 < x6 then
      (rdL u 21 60 x5).bind fun v5 =>
      fX6_digestOn_L76 u K5 ((31 * x3) + v5) x5
    else
      (fX6_tell u x5 x6).bind fun v6 =>
      fX6_digestOn_L34 u K5 n ((31 * x3) + ((v6 : Int32).toInt64)) x5 (x6 + 1)
def fX6_digestOn_L5 (u : ST) : Nat → Int64 → Int32 → Option Int64
  | 0, _, _ => none
  | n + 1, x3, x5 =>
    if 60 ≤ x5 then
      some x3
    else
      (fX6_isMember u x5).bind fun v2 =>
      if v2 = 0 then
        fX6_digestOn_L76 u (fX6_digestOn_L5 u n) x3 x5
      else
        fX6_digestOn_L34 u (fX6_digestOn_L5 u n) 5000 ((31 * x3) + ((x5 : Int32).toInt64)) x5 0
def fX6_digestOn (u : ST) (x1 : Int64) : Option Int64 :=
  fX6_digestOn_L5 u 5000 x1 0
section
variable {p : Program} {l : Launch} {e : Env} {s : State} {m : MethodId} {args : Array Value} {below : List Frame} {meth : Method} {c : Code} {H : Heap} {locs : List Loc} {g : GP} {ls : Array Slot} {A : Nat → Prop} {ad : Nat → Nat} {u : ST}
set_option maxRecDepth 100000 in
set_option maxHeartbeats 4000000 in
theorem bX6_digestOn_L76 {r0 : Int64} {K5 : Int64 → Int32 → Option Int64} {x3 : Int64} {x5 : Int32} (C : Cx p s m args meth c cX6_digestOn 7 RX6 (some .long) g) (hZ : SF (fun _ => False) s) (hK5 : ∀ (x3 : Int64) (x5 : Int32), ∀ (ls : Array Slot), lv_has ls 7 [(0, .ref (ad 3)), (3, .long x3), (5, .int x5)] → K5 x3 x5 = some r0 → W p l e (rmR 2 43) s m args below meth c s.heap [] 0 0 (MQ below (vp_Sl (fun r => r = r0)) args s 0 0 (fun _ => False)) (F0 m 5 ls [])) (hP : va_P g.1 vwCl (cW g ad u) s.heap) (hl : lv_has ls 7 [(0, .ref (ad 3)), (3, .long x3), (5, .int x5)]) (hf : fX6_digestOn_L76 u K5 x3 x5 = some r0) : W p l e (rmR 2 43) s m args below meth c s.heap [] 0 0 (MQ below (vp_Sl (fun r => r = r0)) args s 0 0 (fun _ => False)) (F0 m 76 ls []) := by
  rw [fX6_digestOn_L76] at hf
  refine lv_iinc (v := (x5 + 1)) (lv' := [(5, .int (x5 + 1)), (0, .ref (ad 3)), (3, .long x3)]) C.1 C.2.1 dX6_digestOn_76 hl (k := 2) rfl rfl (by decide) rfl (fun ls hl => ?_)
  refine lv_goto (tgt := 5) C.1 C.2.1 dX6_digestOn_79 (by decide) ?_
  exact hK5 x3 (x5 + 1) _ (lv_sub hl [1, 2, 0] rfl) hf
set_option maxRecDepth 100000 in
set_option maxHeartbeats 4000000 in
theorem bX6_digestOn_L34 {r0 : Int64} {K5 : Int64 → Int32 → Option Int64} (C : Cx p s m args meth c cX6_digestOn 7 RX6 (some .long) g) (hZ : SF (fun _ => False) s) (hK5 : ∀ (x3 : Int64) (x5 : Int32), ∀ (ls : Array Slot), lv_has ls 7 [(0, .ref (ad 3)), (3, .long x3), (5, .int x5)] → K5 x3 x5 = some r0 → W p l e (rmR 2 43) s m args below meth c s.heap [] 0 0 (MQ below (vp_Sl (fun r => r = r0)) args s 0 0 (fun _ => False)) (F0 m 5 ls [])) (n : Nat) : ∀ (x3 : Int64) (x5 : Int32) (x6 : Int32), va_P g.1 vwCl (cW g ad u) s.heap → ∀ (ls : Array Slot), lv_has ls 7 [(0, .ref (ad 3)), (3, .long x3), (5, .int x5), (6, .int x6)] → fX6_digestOn_L34 u K5 n x3 x5 x6 = some r0 → W p l e (rmR 2 43) s m args below meth c s.heap [] 0 0 (MQ below (vp_Sl (fun r => r = r0)) args s 0 0 (fun _ => False)) (F0 m 34 ls []) := by
  induction n with
  | zero =>
    intro x3 x5 x6 hP ls hl hf
    exact absurd hf (by simp [fX6_digestOn_L34])
  | succ n ih0 =>
    intro x3 x5 x6 hP ls hl hf
    have ih := fun (x3 : Int64) (x5 : Int32) (x6 : Int32) => ih0 x3 x5 x6 hP
    rw [fX6_digestOn_L34] at hf
    refine lv_iload C.1 C.2.1 dX6_digestOn_34 (lv_at hl 3 rfl) ?_
    refine lv_iconst (v := 5) C.1 C.2.1 dX6_digestOn_36 (by decide) ?_
    refine lv_icmp_gt (tgt := 62) C.1 C.2.1 dX6_digestOn_37 (by decide) (fun c4 => ?_) (fun c4 => ?_)
    · rw [if_pos c4] at hf
      refine lv_ldc2 (v := 31) C.1 C.2.1 C.2.2.2.1 (C.2.2.2.2.1 _ wKL_X6_89) dX6_digestOn_62 ?_
      refine lv_lload_n C.1 C.2.1 dX6_digestOn_65 rfl (lv_at hl 1 rfl) ?_
      refine lv_lmul C.1 C.2.1 dX6_digestOn_66 ?_
      refine lv_aload_n C.1 C.2.1 dX6_digestOn_67 rfl (lv_at hl 0 rfl) ?_
      refine gtc_X6_value C hP wF_X6_31 dX6_digestOn_68 ?_
      refine lv_iload C.1 C.2.1 dX6_digestOn_71 (lv_at hl 2 rfl) ?_
      obtain ⟨v5, hv5, hf⟩ := Option.bind_eq_some_iff.mp hf
      refine ldc_21 C hP hv5 dX6_digestOn_73 ?_
      refine lv_ladd C.1 C.2.1 dX6_digestOn_74 ?_
      refine lv_lstore_n (lv' := [(3, .long ((31 * x3) + v5)), (0, .ref (ad 3)), (5, .int x5), (6, .int x6)]) C.1 C.2.1 dX6_digestOn_75 rfl hl (by decide) rfl (fun ls hl => ?_)
      exact bX6_digestOn_L76 C hZ hK5 hP (lv_sub hl [1, 0, 2] rfl) hf
    · rw [if_neg c4] at hf
      refine lv_ldc2 (v := 31) C.1 C.2.1 C.2.2.2.1 (C.2.2.2.2.1 _ wKL_X6_89) dX6_digestOn_40 ?_
      refine lv_lload_n C.1 C.2.1 dX6_digestOn_43 rfl (lv_at hl 1 rfl) ?_
      refine lv_lmul C.1 C.2.1 dX6_digestOn_44 ?_
      refine lv_aload_n C.1 C.2.1 dX6_digestOn_45 rfl (lv_at hl 0 rfl) ?_
      refine lv_iload C.1 C.2.1 dX6_digestOn_46 (lv_at hl 2 rfl) ?_
      refine lv_iload C.1 C.2.1 dX6_digestOn_48 (lv_at hl 3 rfl) ?_
      obtain ⟨v6, hv6, hf⟩ := Option.bind_eq_some_iff.mp hf
      refine cRi (As := [.int x5, .int x6]) (rest := [.long (31 * x3)]) C (mX6_tell hv6) vX6_tell wM_X6_91 ⟨Nat.le_of_ble_eq_true rfl, Nat.le_of_ble_eq_true rfl⟩ hP (rcc_X6 C hP) (fun U hU hW => SF.go hZ va_S.rf hU hW (fun _ h => h)) hl.1 rfl rfl (Nat.le_of_ble_eq_true rfl) dX6_digestOn_50 ⟨Nat.le_of_ble_eq_true rfl, Nat.le_of_ble_eq_true rfl⟩ ?_
      refine lv_i2l C.1 C.2.1 dX6_digestOn_53 rfl ?_
      refine lv_ladd C.1 C.2.1 dX6_digestOn_54 ?_
      refine lv_lstore_n (lv' := [(3, .long ((31 * x3) + ((v6 : Int32).toInt64))), (0, .ref (ad 3)), (5, .int x5), (6, .int x6)]) C.1 C.2.1 dX6_digestOn_55 rfl hl (by decide) rfl (fun ls hl => ?_)
      refine lv_iinc (v := (x6 + 1)) (lv' := [(6, .int (x6 + 1)), (3, .long ((31 * x3) + ((v6 : Int32).toInt64))), (0, .ref (ad 3)), (5, .int x5)]) C.1 C.2.1 dX6_digestOn_56 hl (k := 3) rfl rfl (by decide) rfl (fun ls hl => ?_)
      refine lv_goto (tgt := 34) C.1 C.2.1 dX6_digestOn_59 (by decide) ?_
      exact ih ((31 * x3) + ((v6 : Int32).toInt64)) x5 (x6 + 1) _ (lv_sub hl [2, 1, 3, 0] rfl) hf
set_option maxRecDepth 100000 in
set_option maxHeartbeats 4000000 in
theorem bX6_digestOn_L5 {r0 : Int64} (C : Cx p s m args meth c cX6_digestOn 7 RX6 (some .long) g) (hZ : SF (fun _ => False) s) (n : Nat) : ∀ (x3 : Int64) (x5 : Int32), va_P g.1 vwCl (cW g ad u) s.heap → ∀ (ls : Array Slot), lv_has ls 7 [(0, .ref (ad 3)), (3, .long x3), (5, .int x5)] → fX6_digestOn_L5 u n x3 x5 = some r0 → W p l e (rmR 2 43) s m args below meth c s.heap [] 0 0 (MQ below (vp_Sl (fun r => r = r0)) args s 0 0 (fun _ => False)) (F0 m 5 ls []) := by
  induction n with
  | zero =>
    intro x3 x5 hP ls hl hf
    exact absurd hf (by simp [fX6_digestOn_L5])
  | succ n ih0 =>
    intro x3 x5 hP ls hl hf
    have ih := fun (x3 : Int64) (x5 : Int32) => ih0 x3 x5 hP
    rw [fX6_digestOn_L5] at hf
    refine lv_iload C.1 C.2.1 dX6_digestOn_5 (lv_at hl 2 rfl) ?_
    refine lv_bipush (v := 60) C.1 C.2.1 dX6_digestOn_7 (by decide) ?_
    refine lv_icmp_ge (tgt := 82) C.1 C.2.1 dX6_digestOn_9 (by decide) (fun c1 => ?_) (fun c1 => ?_)
    · rw [if_pos c1] at hf
      refine lv_lload_n C.1 C.2.1 dX6_digestOn_82 rfl (lv_at hl 1 rfl) ?_
      exact endRl C hf dX6_digestOn_83
    · rw [if_neg c1] at hf
      refine lv_aload_n C.1 C.2.1 dX6_digestOn_12 rfl (lv_at hl 0 rfl) ?_
      refine lv_iload C.1 C.2.1 dX6_digestOn_13 (lv_at hl 2 rfl) ?_
      obtain ⟨v2, hv2, hf⟩ := Option.bind_eq_some_iff.mp hf
      refine cRi (As := [.int x5]) (rest := []) C (mX6_isMember hv2) vX6_isMember wM_X6_39 ⟨Nat.le_of_ble_eq_true rfl, Nat.le_of_ble_eq_true rfl⟩ hP (rcc_X6 C hP) (fun U hU hW => SF.go hZ va_S.rf hU hW (fun _ h => h)) hl.1 rfl rfl (Nat.le_of_ble_eq_true rfl) dX6_digestOn_15 ⟨Nat.le_of_ble_eq_true rfl, Nat.le_of_ble_eq_true rfl⟩ ?_
      refine lv_if_eq (tgt := 76) C.1 C.2.1 dX6_digestOn_18 (by decide) (fun c3 => ?_) (fun c3 => ?_)
      · rw [if_pos c3] at hf
        exact bX6_digestOn_L76 C hZ ih hP (lv_sub hl [0, 1, 2] rfl) hf
      · rw [if_neg c3] at hf
        refine lv_ldc2 (v := 31) C.1 C.2.1 C.2.2.2.1 (C.2.2.2.2.1 _ wKL_X6_89) dX6_digestOn_21 ?_
        refine lv_lload_n C.1 C.2.1 dX6_digestOn_24 rfl (lv_at hl 1 rfl) ?_
        refine lv_lmul C.1 C.2.1 dX6_digestOn_25 ?_
        refine lv_iload C.1 C.2.1 dX6_digestOn_26 (lv_at hl 2 rfl) ?_
        refine lv_i2l C.1 C.2.1 dX6_digestOn_28 rfl ?_
        refine lv_ladd C.1 C.2.1 dX6_digestOn_29 ?_
        refine lv_lstore_n (lv' := [(3, .long ((31 * x3) + ((x5 : Int32).toInt64))), (0, .ref (ad 3)), (5, .int x5)]) C.1 C.2.1 dX6_digestOn_30 rfl hl (by decide) rfl (fun ls hl => ?_)
        refine lv_iconst (v := 0) C.1 C.2.1 dX6_digestOn_31 (by decide) ?_
        refine lv_istore (lv' := [(6, .int 0), (3, .long ((31 * x3) + ((x5 : Int32).toInt64))), (0, .ref (ad 3)), (5, .int x5)]) C.1 C.2.1 dX6_digestOn_32 hl (by decide) rfl (fun ls hl => ?_)
        exact bX6_digestOn_L34 C hZ ih 5000 ((31 * x3) + ((x5 : Int32).toInt64)) x5 0 hP _ (lv_sub hl [2, 1, 3, 0] rfl) hf
set_option maxRecDepth 100000 in
set_option maxHeartbeats 4000000 in
theorem mX6_digestOn {r0 : Int64} {x1 : Int64} (hf : fX6_digestOn u x1 = some r0) : MRl l yX6_digestOn cX6_digestOn 7 (some .long) 2 43 [.ref (ad 3), .long x1] g (cW g ad u) r0 := by
  refine entR (by decide) (Nat.le_of_ble_eq_true rfl) ?_
  intro p e s m below meth c ls C hP hZ hl
  have hl : lv_has ls 7 [(0, .ref (ad 3)), (1, .long x1)] := hl
  rw [fX6_digestOn] at hf
  refine lv_lload_n C.1 C.2.1 dX6_digestOn_0 rfl (lv_at hl 1 rfl) ?_
  refine lv_lstore_n (lv' := [(3, .long x1), (0, .ref (ad 3)), (1, .long x1)]) C.1 C.2.1 dX6_digestOn_1 rfl hl (by decide) rfl (fun ls hl => ?_)
  refine lv_iconst (v := 0) C.1 C.2.1 dX6_digestOn_2 (by decide) ?_
  refine lv_istore (lv' := [(5, .int 0), (3, .long x1), (0, .ref (ad 3)), (1, .long x1)]) C.1 C.2.1 dX6_digestOn_3 hl (by decide) rfl (fun ls hl => ?_)
  exact bX6_digestOn_L5 C hZ 5000 x1 0 hP _ (lv_sub hl [2, 1, 0] rfl) hf
end
theorem vX6_digestOn : YV yX6_digestOn cX6_digestOn 7 (some .long) 1 := ⟨⟨wK_X6_digestOn, wZ_X6, by decide +kernel⟩, wI_X6_digestOn, wV_X6_digestOn⟩
def fX8_digest (u : ST) : Option Int64 :=
  (fX7_digestOn u 17).bind fun v1 =>
  (fX6_digestOn u v1).bind fun v2 =>
  some ((31 * v2) + (((sI u 4) : Int32).toInt64))
section
variable {p : Program} {l : Launch} {e : Env} {s : State} {m : MethodId} {args : Array Value} {below : List Frame} {meth : Method} {c : Code} {H : Heap} {locs : List Loc} {g : GP} {ls : Array Slot} {A : Nat → Prop} {ad : Nat → Nat} {u : ST}
set_option maxRecDepth 100000 in
set_option maxHeartbeats 4000000 in
theorem mX8_digest {r0 : Int64} (hf : fX8_digest u = some r0) : MRl l yX8_digest cX8_digest 1 (some .long) 3 70 [.ref (ad 0)] g (cW g ad u) r0 := by
  refine entR (by decide) (Nat.le_of_ble_eq_true rfl) ?_
  intro p e s m below meth c ls C hP hZ hl
  have hl : lv_has ls 1 [(0, .ref (ad 0))] := hl
  rw [fX8_digest] at hf
  refine lv_ldc2 (v := 31) C.1 C.2.1 C.2.2.2.1 (C.2.2.2.2.1 _ wKL_X8_214) dX8_digest_0 ?_
  refine lv_aload_n C.1 C.2.1 dX8_digest_3 rfl (lv_at hl 0 rfl) ?_
  refine gtc_X8_house C hP wF_X8_10 dX8_digest_4 ?_
  refine gtc_X2_members C hP wF_X8_95 dX8_digest_7 ?_
  refine lv_aload_n C.1 C.2.1 dX8_digest_10 rfl (lv_at hl 0 rfl) ?_
  refine gtc_X8_house C hP wF_X8_10 dX8_digest_11 ?_
  refine gtc_X2_types C hP wF_X8_49 dX8_digest_14 ?_
  refine lv_ldc2 (v := 17) C.1 C.2.1 C.2.2.2.1 (C.2.2.2.2.1 _ wKL_X8_216) dX8_digest_17 ?_
  obtain ⟨v1, hv1, hf⟩ := Option.bind_eq_some_iff.mp hf
  refine cRl (As := [.long 17]) (rest := [.ref (ad 3), .long 31]) C (mX7_digestOn hv1) vX7_digestOn wM_X8_218 ⟨Nat.le_of_ble_eq_true rfl, Nat.le_of_ble_eq_true rfl⟩ hP (rcc_X7 C hP) (fun U hU hW => SF.go hZ va_S.rf hU hW (fun _ h => h)) hl.1 rfl rfl (Nat.le_of_ble_eq_true rfl) dX8_digest_20 ⟨Nat.le_of_ble_eq_true rfl, Nat.le_of_ble_eq_true rfl⟩ ?_
  obtain ⟨v2, hv2, hf⟩ := Option.bind_eq_some_iff.mp hf
  refine cRl (As := [.long v1]) (rest := [.long 31]) C (mX6_digestOn hv2) vX6_digestOn wM_X8_222 ⟨Nat.le_of_ble_eq_true rfl, Nat.le_of_ble_eq_true rfl⟩ hP (rcc_X6 C hP) (fun U hU hW => SF.go hZ va_S.rf hU hW (fun _ h => h)) hl.1 rfl rfl (Nat.le_of_ble_eq_true rfl) dX8_digest_23 ⟨Nat.le_of_ble_eq_true rfl, Nat.le_of_ble_eq_true rfl⟩ ?_
  refine lv_lmul C.1 C.2.1 dX8_digest_26 ?_
  refine lv_aload_n C.1 C.2.1 dX8_digest_27 rfl (lv_at hl 0 rfl) ?_
  refine gtc_X8_editCount C hP wF_X8_126 dX8_digest_28 ?_
  refine lv_i2l C.1 C.2.1 dX8_digest_31 rfl ?_
  refine lv_ladd C.1 C.2.1 dX8_digest_32 ?_
  exact endRl C hf dX8_digest_33
end
theorem vX8_digest : YV yX8_digest cX8_digest 1 (some .long) 0 := ⟨⟨wK_X8_digest, wZ_X8, by decide +kernel⟩, wI_X8_digest, wV_X8_digest⟩
