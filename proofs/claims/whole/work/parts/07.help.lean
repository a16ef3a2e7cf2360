theorem neI {x y : Int32} {k : Int} (h : ¬ x = y) (hy : y.toInt = k) : x.toInt ≠ k := fun e => h (Int32.toInt_inj.mp (by rw [e, hy]))
def nn64 (r : UInt64) : Bool := decide (r &&& 0x7fffffffffffffff ≤ 0x7ff0000000000000)
theorem nn64_n {r : UInt64} (h : nn64 r = true) : vf_n64 r := by simpa [nn64, vf_n64] using h
def b2 {α β : Type} (o : Option (α × ST)) (k : α → ST → Option β) : Option β := match o with
  | none => none
  | some (a, b) => k a b
theorem b2_some {α β : Type} {o : Option (α × ST)} {k : α → ST → Option β} {r : β} (h : b2 o k = some r) : ∃ a b, o = some (a, b) ∧ k a b = some r := by
  match o, h with
  | some (a, b), h => exact ⟨a, b, rfl, h⟩
theorem b2_eq {α β : Type} {a : α} {b : ST} {k : α → ST → Option β} : b2 (some (a, b)) k = k a b := rfl
theorem entRF {l : Launch} {y : MethodName} {cc : ByteArray} {n : Nat} {ret : Option FieldType} {f k : Nat} {av : List Value} {g : GP} {ws : va_W} {Qc : Array Value → State → Outcome → State → Prop} (hy : plainFor y = true) (hn : (lg_sl av).length ≤ n)
    (body : ∀ (p : Program) (e : Env) (s : State) (m : MethodId) (below : List Frame) (meth : Method) (c : Code) (ls : Array Slot), Cx p s m av.toArray meth c cc n y.cls ret g → va_P g.1 vwCl ws s.heap → SF (fun _ => False) s → lv_has ls n (lv_args 0 av) → W p l e (rmR f k) s m av.toArray below meth c s.heap [] 0 0 (MQ below Qc av.toArray s 0 0 (fun _ => False)) (F0 m 0 ls [])) : Met l y (wl y cc n ret) (rmR f k) (va_Pc av (PR g ws)) Qc 0 0 (fun _ => False) := by
  refine va_MetF (cc := cc) (maxL := n) (ret := ret) hy rfl ?_
  intro p e s m args below meth c s₁ B hml hv
  obtain ⟨rfl, hP, hK, hZ⟩ := hv
  have hts := atoms_spec (ws := wl y cc n ret) B.pre
  have hown : s.vm.findClass y.cls = some m.cls := findClass_of_methodNamed B.named
  rw [lg_entry_eq]
  exact body p e s m below meth c _ ⟨B.exec, B.bytes, hml, hown, fun w hw => hts w (List.mem_cons_of_mem _ hw), B.returns, B.notSynchronized, hK⟩ hP hZ (lv_entry av hn)
theorem entWI {l : Launch} {y : MethodName} {cc : ByteArray} {n : Nat} {ret : Option FieldType} {f k mc ms : Nat} {av : List Value} {g : GP} {ws : va_W} {Qc : (Nat → Prop) → Array Value → State → Outcome → State → Prop} (hy : plainName y.cls = true) (hyn : y.name = "<init>") (hn : (lg_sl av).length ≤ n)
    (body : ∀ (p : Program) (e : Env) (s : State) (m : MethodId) (below : List Frame) (meth : Method) (c : Code) (ls : Array Slot) (A : Nat → Prop), meth.name = "<init>" → Cx p s m av.toArray meth c cc n y.cls ret g → va_P g.1 vwCl ws s.heap → va_D A ws → va_S A s.heap s.heap [] → (∀ q, s.heap.size ≤ q → A q) → SF A s → lv_has ls n (lv_args 0 av) → W p l e (rmW f k mc ms) s m av.toArray below meth c s.heap [] 0 0 (MQ below (Qc A) av.toArray s mc ms A) (F0 m 0 ls [])) : ∀ sz : Nat, Met l y (wl y cc n ret) (rmW f k mc ms) (va_Pc av (PW g ws sz)) (Qc (va_A ws sz)) mc ms (va_A ws sz) := by
  intro sz
  refine Met.ofW (cc := cc) (maxL := n) (ret := ret) hy rfl ?_
  intro p e s m args below meth c s₁ B hml hv
  obtain ⟨rfl, hsz, hP, hK, hD, hZ⟩ := hv
  subst hsz
  have hts := atoms_spec (ws := wl y cc n ret) B.pre
  have hown : s.vm.findClass y.cls = some m.cls := findClass_of_methodNamed B.named
  have hin : meth.name = "<init>" := (name_of_methodNamed B.named B.method).1.trans hyn
  rw [lg_entry_eq]
  exact body p e s m below meth c _ (va_A ws s.heap.size) hin ⟨B.exec, B.bytes, hml, hown, fun w hw => hts w (List.mem_cons_of_mem _ hw), B.returns, B.notSynchronized, hK⟩ hP (hD.self) va_S.rf (fun q h => Or.inr h) hZ (lv_entry av hn)
def YI (y : MethodName) (cc : ByteArray) (n : Nat) (k : Nat) : Prop := YW y cc n none k ∧ y.name = "<init>" ∧ Cond.instanceMethod y ∈ lw_g
/-! answers that wait for a new cell's address -/
abbrev NR : Type := (Int32 × ST) ⊕ (Nat → Option (Int32 × ST))
def okN (u : ST) (x : NR) : Prop := ∀ K, x = .inr K → ∀ q, q ∉ pA u → ∃ r v, K q = some (r, v)
def poN (u : ST) (x : NR) (r : Int32) (v : ST) : Prop := x = .inl (r, v) ∨ ∃ K q, x = .inr K ∧ q ∉ pA u ∧ K q = some (r, v)
def MNi (l : Launch) (y : MethodName) (cc : ByteArray) (n : Nat) (ret : Option FieldType) (f k mc ms : Nat) (av : List Value) (g : GP) (w : ST → va_W) (u : ST) (x : NR) : Prop := ∀ sz : Nat, Met l y (wl y cc n ret) (rmW f k mc ms) (va_Pc av (PW g (w u) sz)) (va_Qi (poN u x) (BW g (va_A (w u) sz) w) (va_A (w u) sz)) mc ms (va_A (w u) sz)
section NewRows
variable {p : Program} {l : Launch} {e : Env} {R : Room} {s : State} {m : MethodId} {args : Array Value} {below : List Frame} {meth : Method} {c : Code} {H : Heap} {locs : List Loc} {cells slots : Nat} {Q : State → Prop}
variable {cc : ByteArray} {nL : Nat} {own : String} {ret : Option FieldType} {g : GP} {pc : Nat} {ls : Array Slot} {A : Nat → Prop} {w : ST → va_W} {u u1 : ST} {mc ms : Nat}
variable {y : MethodName} {cy : ByteArray} {ny na f k idx b : Nat} {ry : Option FieldType} {As rest st : List Value} {ws : va_W}
theorem Wmono {Q1 Q2 : State → Prop} {fr : JFrame} (h : ∀ t, Q1 t → Q2 t) (kk : W p l e R s m args below meth c H locs cells slots Q1 fr) : W p l e R s m args below meth c H locs cells slots Q2 fr := by
  intro T hT X
  obtain ⟨t, a, b⟩ := kk T hT X
  exact ⟨t, a, h t b⟩
theorem Nmono {K : Nat → Option (Int32 × ST)} {q : Nat} {r0 : Int32} {u0 : ST} {B : ST → State → Prop} (hq : q ∉ pA u) (hK : K q = some (r0, u0)) : ∀ t, MQ below (va_Qi (fun r v => r = r0 ∧ v = u0) B A) args s mc ms A t → MQ below (va_Qi (poN u (.inr K)) B A) args s mc ms A t := by
  rintro t ⟨o, h1, h2, ⟨⟨r, v, h3, ⟨rfl, rfl⟩, h4⟩, h5⟩, h6⟩
  exact ⟨o, h1, h2, ⟨⟨r, v, h3, Or.inr ⟨K, q, rfl, hq, hK⟩, h4⟩, h5⟩, h6⟩
theorem endN {v : Int32} {x : NR} (C : Cx p s m args meth c cc nL own (some .int) g) (hP : va_P g.1 vwCl (w u1) H) (hD : va_D A (w u1)) (hS : va_S A s.heap H locs) (hc : cells ≤ mc) (hs : slots ≤ ms) (hf : some (Sum.inl (v, u1)) = some x) (hdg : decode cc pc = .ok (.ireturn, 1)) : W p l e R s m args below meth c H locs cells slots (MQ below (va_Qi (poN u x) (BW g A w) A) args s mc ms A) (F0 m pc ls [.int v]) := by
  obtain ⟨hx, hb, hml, hown, hts, hr, hlocks, hK⟩ := C
  cases hf
  refine W.widen (k := mc) (n := ms) hc hs ?_
  exact W.iret (v := v) hx hb hr (fun t ht hW => ⟨⟨v, u1, rfl, Or.inl rfl, by rw [ht]; exact hP, va_K.moved hW.alike hK, hD⟩, hS.F ht⟩) hS.2.2 hdg
theorem endNN {v : Int32} {x : NR} (C : Cx p s m args meth c cc nL own (some .int) g) (hP : va_P g.1 vwCl (w u1) H) (hD : va_D A (w u1)) (hS : va_S A s.heap H locs) (hc : cells ≤ mc) (hs : slots ≤ ms) (hp : poN u x v u1) (hdg : decode cc pc = .ok (.ireturn, 1)) : W p l e R s m args below meth c H locs cells slots (MQ below (va_Qi (poN u x) (BW g A w) A) args s mc ms A) (F0 m pc ls [.int v]) := by
  obtain ⟨hx, hb, hml, hown, hts, hr, hlocks, hK⟩ := C
  refine W.widen (k := mc) (n := ms) hc hs ?_
  exact W.iret (v := v) hx hb hr (fun t ht hW => ⟨⟨v, u1, rfl, hp, by rw [ht]; exact hP, va_K.moved hW.alike hK, hD⟩, hS.F ht⟩) hS.2.2 hdg
theorem cNi {x : NR} (C : Cx p s m args meth c cc nL own ret g) (hM : MNi l y cy ny ry f k mc ms (.ref b :: As) g w u x) (Y : YV y cy ny ry na) (hl : Cond.methodLink own idx y ∈ lw_g) (hR : f + 1 ≤ R.frames ∧ 8 + (ny + 11) + k ≤ R.locals) (hP : va_P g.1 vwCl (w u) H) (hD : va_D A (w u)) (hS : va_S A s.heap H locs) (hA : ∀ q, s.heap.size ≤ q → A q) (hZ : SF A s) (hrc : ∃ cell : Cell, H[b]? = some cell ∧ cell.vm.isStatics = false ∧ s.vm.findClass y.cls = some cell.cls) (hls : ls.size = nL) (hn : As.length = na) (hst : st = As.reverse ++ .ref b :: rest) (hroom : (rest.map fun v => v.category).sum ≤ 8) (hdg : decode cc pc = .ok (.invokevirtual idx, 3)) (hf : cells + mc ≤ R.cells ∧ slots + ms ≤ R.slots)
    (kk : ∀ (r1 : Int32) (u1 : ST) (H1 : Heap) (locs1 : List Loc), poN u x r1 u1 → va_P g.1 vwCl (w u1) H1 → va_D A (w u1) → va_S A s.heap H1 locs1 → W p l e R s m args below meth c H1 locs1 (cells + mc) (slots + ms) Q (F0 m (pc + 3) ls (.int r1 :: rest))) : W p l e R s m args below meth c H locs cells slots Q (F0 m pc ls st) := by
  have hF := freeAll hD hS hA
  refine va_calli (va_runV (As := As) (rest := rest) ⟨C.1, C.2.1, C.2.2.1, C.2.2.2.1, C.2.2.2.2.1⟩ (hM H.size) ⟨mkCB C Y.1 hl hR, C.2.2.2.2.1 _ Y.2.1, C.2.2.2.2.1 _ Y.2.2⟩ ⟨blindW, hrc, fun U hU hW => ⟨rfl, by rw [hU], by rw [hU]; exact hP, va_K.moved hW.alike C.2.2.2.2.2.2.2, hD.weaken (fun _ _ _ _ => trivial), SF.go hZ hS hU hW hF⟩⟩ rfl hn hls hst (lv_room hroom) hdg hf) hS (fun q _ h => hF q h) hF (fun r v t H1 locs1 ht hvm hw hB hz1 hk1 hS1 => ?_)
  obtain ⟨b1, b2, b3⟩ := hB
  rw [ht] at b1
  exact kk r v H1 locs1 hw b1 (b3.weaken (fun _ _ _ h => hF _ h)) hS1
theorem cIv (C : Cx p s m args meth c cc nL own ret g) (hM : MWv l y cy ny none f k mc ms (.ref b :: As) g w u u1) (Y : YI y cy ny na) (hl : Cond.methodLink own idx y ∈ lw_g) (hR : f + 1 ≤ R.frames ∧ 8 + (ny + 11) + k ≤ R.locals) (hP : va_P g.1 vwCl (w u) H) (hD : va_D A (w u)) (hS : va_S A s.heap H locs) (hA : ∀ q, s.heap.size ≤ q → A q) (hZ : SF A s) (hls : ls.size = nL) (hn : As.length = na) (hst : st = As.reverse ++ .ref b :: rest) (hroom : (rest.map fun v => v.category).sum ≤ 8) (hdg : decode cc pc = .ok (.invokespecial idx, 3)) (hf : cells + mc ≤ R.cells ∧ slots + ms ≤ R.slots)
    (kk : ∀ (H1 : Heap) (locs1 : List Loc), va_P g.1 vwCl (w u1) H1 → va_D A (w u1) → va_S A s.heap H1 locs1 → W p l e R s m args below meth c H1 locs1 (cells + mc) (slots + ms) Q (F0 m (pc + 3) ls rest)) : W p l e R s m args below meth c H locs cells slots Q (F0 m pc ls st) := by
  have hF := freeAll hD hS hA
  refine va_callv (va_runI (As := As) (rest := rest) ⟨C.1, C.2.1, C.2.2.1, C.2.2.2.1, C.2.2.2.2.1⟩ (hM H.size) ⟨mkCB C Y.1 hl hR, Y.2.1, C.2.2.2.2.1 _ Y.2.2⟩ ⟨blindW, fun U hU hW => ⟨rfl, by rw [hU], by rw [hU]; exact hP, va_K.moved hW.alike C.2.2.2.2.2.2.2, hD.weaken (fun _ _ _ _ => trivial), SF.go hZ hS hU hW hF⟩⟩ rfl hn hls hst (lv_room hroom) hdg hf) hS (fun q _ h => hF q h) hF (fun v t H1 locs1 ht hvm hw hB hz1 hk1 hS1 => ?_)
  subst hw
  obtain ⟨b1, b2, b3⟩ := hB
  rw [ht] at b1
  exact kk H1 locs1 b1 (b3.weaken (fun _ _ _ h => hF _ h)) hS1
theorem cINv {host : String} (C : Cx p s m args meth c cc nL own ret g) (hM : MWv l y cy ny none f k mc ms (.ref b :: As) g w u u1) (Y : YI y cy ny na) (hl : va_Nw (.methodLinkNest own idx y host) s) (hR : f + 1 ≤ R.frames ∧ 8 + (ny + 11) + k ≤ R.locals) (hP : va_P g.1 vwCl (w u) H) (hD : va_D A (w u)) (hS : va_S A s.heap H locs) (hA : ∀ q, s.heap.size ≤ q → A q) (hZ : SF A s) (hls : ls.size = nL) (hn : As.length = na) (hst : st = As.reverse ++ .ref b :: rest) (hroom : (rest.map fun v => v.category).sum ≤ 8) (hdg : decode cc pc = .ok (.invokespecial idx, 3)) (hf : cells + mc ≤ R.cells ∧ slots + ms ≤ R.slots)
    (kk : ∀ (H1 : Heap) (locs1 : List Loc), va_P g.1 vwCl (w u1) H1 → va_D A (w u1) → va_S A s.heap H1 locs1 → W p l e R s m args below meth c H1 locs1 (cells + mc) (slots + ms) Q (F0 m (pc + 3) ls rest)) : W p l e R s m args below meth c H locs cells slots Q (F0 m pc ls st) := by
  have hF := freeAll hD hS hA
  refine va_callv (va_runIN (As := As) (rest := rest) ⟨C.1, C.2.1, C.2.2.1, C.2.2.2.1, C.2.2.2.2.1⟩ (hM H.size) ⟨va_cnB (rm := rmW f k mc ms) na C.2.2.2.2.1 (goodAll Y.1.1) rfl rfl rfl hl (C.2.2.2.2.1 _ Y.1.2.1) Y.1.2.2 hR, Y.2.1, C.2.2.2.2.1 _ Y.2.2⟩ ⟨blindW, fun U hU hW => ⟨rfl, by rw [hU], by rw [hU]; exact hP, va_K.moved hW.alike C.2.2.2.2.2.2.2, hD.weaken (fun _ _ _ _ => trivial), SF.go hZ hS hU hW hF⟩⟩ rfl hn hls hst (lv_room hroom) hdg hf) hS (fun q _ h => hF q h) hF (fun v t H1 locs1 ht hvm hw hB hz1 hk1 hS1 => ?_)
  subst hw
  obtain ⟨b1, b2, b3⟩ := hB
  rw [ht] at b1
  exact kk H1 locs1 b1 (b3.weaken (fun _ _ _ h => hF _ h)) hS1
end NewRows
theorem lk2 {a b o1 o2 d k : Int} (h1 : k ≠ a) (h2 : k ≠ b) : Op.lookupswitch.offset [(a, o1), (b, o2)] d k = d := by
  simp [Op.lookupswitch.offset_cons, Op.lookupswitch.offset_nil, h1, h2, Ne.symm h1, Ne.symm h2]
abbrev RJF : String := "java/lang/Float"
abbrev RJD : String := "java/lang/Double"
abbrev cJF_isNaN : ByteArray := prog_13_method_6_code
abbrev yJF_isNaN : MethodName := ⟨"java/lang/Float", "isNaN", "(F)Z"⟩
theorem dJF_isNaN_0 : decode cJF_isNaN 0 = .ok (.fload_n 0, 1) := by decide +kernel
theorem dJF_isNaN_1 : decode cJF_isNaN 1 = .ok (.fload_n 0, 1) := by decide +kernel
theorem dJF_isNaN_2 : decode cJF_isNaN 2 = .ok (.fcmp .l, 1) := by decide +kernel
theorem dJF_isNaN_3 : decode cJF_isNaN 3 = .ok (.ifCond .eq 7, 3) := by decide +kernel
theorem dJF_isNaN_6 : decode cJF_isNaN 6 = .ok (.iconst 1, 1) := by decide +kernel
theorem dJF_isNaN_7 : decode cJF_isNaN 7 = .ok (.goto 4, 3) := by decide +kernel
theorem dJF_isNaN_10 : decode cJF_isNaN 10 = .ok (.iconst 0, 1) := by decide +kernel
theorem dJF_isNaN_11 : decode cJF_isNaN 11 = .ok (.ireturn, 1) := by decide +kernel
theorem wK_JF_isNaN : Cond.code yJF_isNaN cJF_isNaN 1 (some .boolean) ∈ lw_g := wK_java_lang_Float_isNaN__F_Z
theorem wS_JF_isNaN : Cond.static yJF_isNaN ∈ lw_g := wS_java_lang_Float_isNaN__F_Z
abbrev cJF_floatToIntBits : ByteArray := prog_13_method_24_code
abbrev yJF_floatToIntBits : MethodName := ⟨"java/lang/Float", "floatToIntBits", "(F)I"⟩
theorem dJF_floatToIntBits_0 : decode cJF_floatToIntBits 0 = .ok (.fload_n 0, 1) := by decide +kernel
theorem dJF_floatToIntBits_1 : decode cJF_floatToIntBits 1 = .ok (.invokestatic 59, 3) := by decide +kernel
theorem dJF_floatToIntBits_4 : decode cJF_floatToIntBits 4 = .ok (.ifCond .ne 8, 3) := by decide +kernel
theorem dJF_floatToIntBits_7 : decode cJF_floatToIntBits 7 = .ok (.fload_n 0, 1) := by decide +kernel
theorem dJF_floatToIntBits_8 : decode cJF_floatToIntBits 8 = .ok (.invokestatic 74, 3) := by decide +kernel
theorem dJF_floatToIntBits_11 : decode cJF_floatToIntBits 11 = .ok (.ireturn, 1) := by decide +kernel
theorem dJF_floatToIntBits_12 : decode cJF_floatToIntBits 12 = .ok (.ldc 77, 2) := by decide +kernel
theorem dJF_floatToIntBits_14 : decode cJF_floatToIntBits 14 = .ok (.ireturn, 1) := by decide +kernel
theorem wK_JF_floatToIntBits : Cond.code yJF_floatToIntBits cJF_floatToIntBits 1 (some .int) ∈ lw_g := wK_java_lang_Float_floatToIntBits__F_I
theorem wS_JF_floatToIntBits : Cond.static yJF_floatToIntBits ∈ lw_g := wS_java_lang_Float_floatToIntBits__F_I
abbrev cJD_isNaN : ByteArray := prog_12_method_6_code
abbrev yJD_isNaN : MethodName := ⟨"java/lang/Double", "isNaN", "(D)Z"⟩
theorem dJD_isNaN_0 : decode cJD_isNaN 0 = .ok (.dload_n 0, 1) := by decide +kernel
theorem dJD_isNaN_1 : decode cJD_isNaN 1 = .ok (.dload_n 0, 1) := by decide +kernel
theorem dJD_isNaN_2 : decode cJD_isNaN 2 = .ok (.dcmp .l, 1) := by decide +kernel
theorem dJD_isNaN_3 : decode cJD_isNaN 3 = .ok (.ifCond .eq 7, 3) := by decide +kernel
theorem dJD_isNaN_6 : decode cJD_isNaN 6 = .ok (.iconst 1, 1) := by decide +kernel
theorem dJD_isNaN_7 : decode cJD_isNaN 7 = .ok (.goto 4, 3) := by decide +kernel
theorem dJD_isNaN_10 : decode cJD_isNaN 10 = .ok (.iconst 0, 1) := by decide +kernel
theorem dJD_isNaN_11 : decode cJD_isNaN 11 = .ok (.ireturn, 1) := by decide +kernel
theorem wK_JD_isNaN : Cond.code yJD_isNaN cJD_isNaN 2 (some .boolean) ∈ lw_g := wK_java_lang_Double_isNaN__D_Z
theorem wS_JD_isNaN : Cond.static yJD_isNaN ∈ lw_g := wS_java_lang_Double_isNaN__D_Z
abbrev cJD_doubleToLongBits : ByteArray := prog_12_method_23_code
abbrev yJD_doubleToLongBits : MethodName := ⟨"java/lang/Double", "doubleToLongBits", "(D)J"⟩
theorem dJD_doubleToLongBits_0 : decode cJD_doubleToLongBits 0 = .ok (.dload_n 0, 1) := by decide +kernel
theorem dJD_doubleToLongBits_1 : decode cJD_doubleToLongBits 1 = .ok (.invokestatic 122, 3) := by decide +kernel
theorem dJD_doubleToLongBits_4 : decode cJD_doubleToLongBits 4 = .ok (.ifCond .ne 8, 3) := by decide +kernel
theorem dJD_doubleToLongBits_7 : decode cJD_doubleToLongBits 7 = .ok (.dload_n 0, 1) := by decide +kernel
theorem dJD_doubleToLongBits_8 : decode cJD_doubleToLongBits 8 = .ok (.invokestatic 134, 3) := by decide +kernel
theorem dJD_doubleToLongBits_11 : decode cJD_doubleToLongBits 11 = .ok (.lreturn, 1) := by decide +kernel
theorem dJD_doubleToLongBits_12 : decode cJD_doubleToLongBits 12 = .ok (.ldc2_w 137, 3) := by decide +kernel
theorem dJD_doubleToLongBits_15 : decode cJD_doubleToLongBits 15 = .ok (.lreturn, 1) := by decide +kernel
theorem wK_JD_doubleToLongBits : Cond.code yJD_doubleToLongBits cJD_doubleToLongBits 2 (some .long) ∈ lw_g := wK_java_lang_Double_doubleToLongBits__D_J
theorem wS_JD_doubleToLongBits : Cond.static yJD_doubleToLongBits ∈ lw_g := wS_java_lang_Double_doubleToLongBits__D_J
theorem wZ_JF : Cond.initialized RJF ∈ lw_g := wZ_java_lang_Float
theorem wZ_JD : Cond.initialized RJD ∈ lw_g := wZ_java_lang_Double
theorem wNat_floatToRawIntBits : Cond.native ⟨"java/lang/Float", "floatToRawIntBits", "(F)I"⟩ ∈ lw_g := gd (tb_5 _ (List.mem_of_getElem? (i := 80) rfl)) rfl
theorem wNat_doubleToRawLongBits : Cond.native ⟨"java/lang/Double", "doubleToRawLongBits", "(D)J"⟩ ∈ lw_g := gd (tb_5 _ (List.mem_of_getElem? (i := 90) rfl)) rfl
theorem wNat_longBitsToDouble : Cond.native ⟨"java/lang/Double", "longBitsToDouble", "(J)D"⟩ ∈ lw_g := gd (tb_5 _ (List.mem_of_getElem? (i := 197) rfl)) rfl
theorem wNat_intBitsToFloat : Cond.native ⟨"java/lang/Float", "intBitsToFloat", "(I)F"⟩ ∈ lw_g := gd (tb_5 _ (List.mem_of_getElem? (i := 200) rfl)) rfl
theorem wM_JF_59 : Cond.methodLink RJF 59 ⟨"java/lang/Float", "isNaN", "(F)Z"⟩ ∈ lw_g := wM_java_lang_Float_59
theorem wM_JF_74 : Cond.methodLink RJF 74 ⟨"java/lang/Float", "floatToRawIntBits", "(F)I"⟩ ∈ lw_g := wM_java_lang_Float_74
theorem wM_JD_122 : Cond.methodLink RJD 122 ⟨"java/lang/Double", "isNaN", "(D)Z"⟩ ∈ lw_g := wM_java_lang_Double_122
theorem wM_JD_134 : Cond.methodLink RJD 134 ⟨"java/lang/Double", "doubleToRawLongBits", "(D)J"⟩ ∈ lw_g := wM_java_lang_Double_134
theorem wKc_JF_77 : Cond.constant RJF 77 2143289344 ∈ lw_g := wK_java_lang_Float_77
theorem wKL_JD_137 : Cond.constantLong RJD 137 9221120237041090560 ∈ lw_g := wKL_java_lang_Double_137
