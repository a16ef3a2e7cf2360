theorem neI {x y : Int32} {k : Int} (h : ¬ x = y) (hy : y.toInt = k) : x.toInt ≠ k := fun e => h (Int32.toInt_inj.mp (by rw [e, hy]))
def nn64 (r : UInt64) : Bool := decide (r &&& 0x7fffffffffffffff ≤ 0x7ff0000000000000)
theorem nn64_n {r : UInt64} (h : nn64 r = true) : vf_n64 r := by simpa [nn64, vf_n64] using h
def b2 {α β : Type} (o : Option (α × ST)) (k : α → ST → Option β) : Option β := match o with
  | none => none
  | some (a, b) => k a b
theorem b2_some {α β : Type} {o : Option (α × ST)} {k : α → ST → Option β} {r : β} (h : b2 o k = some r) : ∃ a b, o = some (a, b) ∧ k a b = some r := by
  match o, h with
  | some (a, b), h => exact ⟨a, b, rfl, h⟩
theorem b2_eq {α β : Type} {a : α} {b : ST} {k : α → ST → Option β} : b2 (some (a, b)) k = k a b := rfl
theorem entRF {l : Launch} {y : MethodName} {cc : ByteArray} {n : Nat} {ret : Option FieldType} {f k : Nat} {av : List Value} {g : GP} {ws : va_W} {Qc : Array Value → State → Outcome → State → Prop} (hy : plainFor y = true) (hn : (lg_sl av).length ≤ n)
    (body : ∀ (p : Program) (e : Env) (s : State) (m : MethodId) (below : List Frame) (meth : Method) (c : Code) (ls : Array Slot), Cx p s m av.toArray meth c cc n y.cls ret g → va_P g.1 vwCl ws s.heap → SF (fun _ => False) s → lv_has ls n (lv_args 0 av) → W p l e (rmR f k) s m av.toArray below meth c s.heap [] 0 0 (MQ below Qc av.toArray s 0 0 (fun _ => False)) (F0 m 0 ls [])) : Met l y (wl y cc n ret) (rmR f k) (va_Pc av (PR g ws)) Qc 0 0 (fun _ => False) := by
  refine va_MetF (cc := cc) (maxL := n) (ret := ret) hy rfl ?_
  intro p e s m args below meth c s₁ B hml hv
  obtain ⟨rfl, hP, hK, hZ⟩ := hv
  have hts := atoms_spec (ws := wl y cc n ret) B.pre
  have hown : s.vm.findClass y.cls = some m.cls := findClass_of_methodNamed B.named
  rw [lg_entry_eq]
  exact body p e s m below meth c _ ⟨B.exec, B.bytes, hml, hown, fun w hw => hts w (List.mem_cons_of_mem _ hw), B.returns, B.notSynchronized, hK⟩ hP hZ (lv_entry av hn)
abbrev RJF : String := "java/lang/Float"
abbrev RJD : String := "java/lang/Double"
abbrev cJF_isNaN : ByteArray := prog_13_method_6_code
abbrev yJF_isNaN : MethodName := ⟨"java/lang/Float", "isNaN", "(F)Z"⟩
theorem dJF_isNaN_0 : decode cJF_isNaN 0 = .ok (.fload_n 0, 1) := by decide +kernel
theorem dJF_isNaN_1 : decode cJF_isNaN 1 = .ok (.fload_n 0, 1) := by decide +kernel
theorem dJF_isNaN_2 : decode cJF_isNaN 2 = .ok (.fcmp .l, 1) := by decide +kernel
theorem dJF_isNaN_3 : decode cJF_isNaN 3 = .ok (.ifCond .eq 7, 3) := by decide +kernel
theorem dJF_isNaN_6 : decode cJF_isNaN 6 = .ok (.iconst 1, 1) := by decide +kernel
theorem dJF_isNaN_7 : decode cJF_isNaN 7 = .ok (.goto 4, 3) := by decide +kernel
theorem dJF_isNaN_10 : decode cJF_isNaN 10 = .ok (.iconst 0, 1) := by decide +kernel
theorem dJF_isNaN_11 : decode cJF_isNaN 11 = .ok (.ireturn, 1) := by decide +kernel
theorem wK_JF_isNaN : Cond.code yJF_isNaN cJF_isNaN 1 (some .boolean) ∈ lw_g := wK_java_lang_Float_isNaN__F_Z
theorem wS_JF_isNaN : Cond.static yJF_isNaN ∈ lw_g := wS_java_lang_Float_isNaN__F_Z
abbrev cJF_floatToIntBits : ByteArray := prog_13_method_24_code
abbrev yJF_floatToIntBits : MethodName := ⟨"java/lang/Float", "floatToIntBits", "(F)I"⟩
theorem dJF_floatToIntBits_0 : decode cJF_floatToIntBits 0 = .ok (.fload_n 0, 1) := by decide +kernel
theorem dJF_floatToIntBits_1 : decode cJF_floatToIntBits 1 = .ok (.invokestatic 59, 3) := by decide +kernel
theorem dJF_floatToIntBits_4 : decode cJF_floatToIntBits 4 = .ok (.ifCond .ne 8, 3) := by decide +kernel
theorem dJF_floatToIntBits_7 : decode cJF_floatToIntBits 7 = .ok (.fload_n 0, 1) := by decide +kernel
theorem dJF_floatToIntBits_8 : decode cJF_floatToIntBits 8 = .ok (.invokestatic 74, 3) := by decide +kernel
theorem dJF_floatToIntBits_11 : decode cJF_floatToIntBits 11 = .ok (.ireturn, 1) := by decide +kernel
theorem dJF_floatToIntBits_12 : decode cJF_floatToIntBits 12 = .ok (.ldc 77, 2) := by decide +kernel
theorem dJF_floatToIntBits_14 : decode cJF_floatToIntBits 14 = .ok (.ireturn, 1) := by decide +kernel
theorem wK_JF_floatToIntBits : Cond.code yJF_floatToIntBits cJF_floatToIntBits 1 (some .int) ∈ lw_g := wK_java_lang_Float_floatToIntBits__F_I
theorem wS_JF_floatToIntBits : Cond.static yJF_floatToIntBits ∈ lw_g := wS_java_lang_Float_floatToIntBits__F_I
abbrev cJD_isNaN : ByteArray := prog_12_method_6_code
abbrev yJD_isNaN : MethodName := ⟨"java/lang/Double", "isNaN", "(D)Z"⟩
theorem dJD_isNaN_0 : decode cJD_isNaN 0 = .ok (.dload_n 0, 1) := by decide +kernel
theorem dJD_isNaN_1 : decode cJD_isNaN 1 = .ok (.dload_n 0, 1) := by decide +kernel
theorem dJD_isNaN_2 : decode cJD_isNaN 2 = .ok (.dcmp .l, 1) := by decide +kernel
theorem dJD_isNaN_3 : decode cJD_isNaN 3 = .ok (.ifCond .eq 7, 3) := by decide +kernel
theorem dJD_isNaN_6 : decode cJD_isNaN 6 = .ok (.iconst 1, 1) := by decide +kernel
theorem dJD_isNaN_7 : decode cJD_isNaN 7 = .ok (.goto 4, 3) := by decide +kernel
theorem dJD_isNaN_10 : decode cJD_isNaN 10 = .ok (.iconst 0, 1) := by decide +kernel
theorem dJD_isNaN_11 : decode cJD_isNaN 11 = .ok (.ireturn, 1) := by decide +kernel
theorem wK_JD_isNaN : Cond.code yJD_isNaN cJD_isNaN 2 (some .boolean) ∈ lw_g := wK_java_lang_Double_isNaN__D_Z
theorem wS_JD_isNaN : Cond.static yJD_isNaN ∈ lw_g := wS_java_lang_Double_isNaN__D_Z
abbrev cJD_doubleToLongBits : ByteArray := prog_12_method_23_code
abbrev yJD_doubleToLongBits : MethodName := ⟨"java/lang/Double", "doubleToLongBits", "(D)J"⟩
theorem dJD_doubleToLongBits_0 : decode cJD_doubleToLongBits 0 = .ok (.dload_n 0, 1) := by decide +kernel
theorem dJD_doubleToLongBits_1 : decode cJD_doubleToLongBits 1 = .ok (.invokestatic 122, 3) := by decide +kernel
theorem dJD_doubleToLongBits_4 : decode cJD_doubleToLongBits 4 = .ok (.ifCond .ne 8, 3) := by decide +kernel
theorem dJD_doubleToLongBits_7 : decode cJD_doubleToLongBits 7 = .ok (.dload_n 0, 1) := by decide +kernel
theorem dJD_doubleToLongBits_8 : decode cJD_doubleToLongBits 8 = .ok (.invokestatic 134, 3) := by decide +kernel
theorem dJD_doubleToLongBits_11 : decode cJD_doubleToLongBits 11 = .ok (.lreturn, 1) := by decide +kernel
theorem dJD_doubleToLongBits_12 : decode cJD_doubleToLongBits 12 = .ok (.ldc2_w 137, 3) := by decide +kernel
theorem dJD_doubleToLongBits_15 : decode cJD_doubleToLongBits 15 = .ok (.lreturn, 1) := by decide +kernel
theorem wK_JD_doubleToLongBits : Cond.code yJD_doubleToLongBits cJD_doubleToLongBits 2 (some .long) ∈ lw_g := wK_java_lang_Double_doubleToLongBits__D_J
theorem wS_JD_doubleToLongBits : Cond.static yJD_doubleToLongBits ∈ lw_g := wS_java_lang_Double_doubleToLongBits__D_J
theorem wZ_JF : Cond.initialized RJF ∈ lw_g := wZ_java_lang_Float
theorem wZ_JD : Cond.initialized RJD ∈ lw_g := wZ_java_lang_Double
theorem wNat_floatToRawIntBits : Cond.native ⟨"java/lang/Float", "floatToRawIntBits", "(F)I"⟩ ∈ lw_g := gd (tb_5 _ (List.mem_of_getElem? (i := 80) rfl)) rfl
theorem wNat_doubleToRawLongBits : Cond.native ⟨"java/lang/Double", "doubleToRawLongBits", "(D)J"⟩ ∈ lw_g := gd (tb_5 _ (List.mem_of_getElem? (i := 90) rfl)) rfl
theorem wNat_longBitsToDouble : Cond.native ⟨"java/lang/Double", "longBitsToDouble", "(J)D"⟩ ∈ lw_g := gd (tb_5 _ (List.mem_of_getElem? (i := 197) rfl)) rfl
theorem wNat_intBitsToFloat : Cond.native ⟨"java/lang/Float", "intBitsToFloat", "(I)F"⟩ ∈ lw_g := gd (tb_5 _ (List.mem_of_getElem? (i := 200) rfl)) rfl
theorem wM_JF_59 : Cond.methodLink RJF 59 ⟨"java/lang/Float", "isNaN", "(F)Z"⟩ ∈ lw_g := wM_java_lang_Float_59
theorem wM_JF_74 : Cond.methodLink RJF 74 ⟨"java/lang/Float", "floatToRawIntBits", "(F)I"⟩ ∈ lw_g := wM_java_lang_Float_74
theorem wM_JD_122 : Cond.methodLink RJD 122 ⟨"java/lang/Double", "isNaN", "(D)Z"⟩ ∈ lw_g := wM_java_lang_Double_122
theorem wM_JD_134 : Cond.methodLink RJD 134 ⟨"java/lang/Double", "doubleToRawLongBits", "(D)J"⟩ ∈ lw_g := wM_java_lang_Double_134
theorem wKc_JF_77 : Cond.constant RJF 77 2143289344 ∈ lw_g := wK_java_lang_Float_77
theorem wKL_JD_137 : Cond.constantLong RJD 137 9221120237041090560 ∈ lw_g := wKL_java_lang_Double_137
