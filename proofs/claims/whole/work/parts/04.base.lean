/-! ===== the frame in which every method of the two sides is walked: one state, one world a side ===== -/
abbrev GP : Type := va_G × ClassId × ClassId × ClassId × ClassId × ClassId
abbrev tyl (g : GP) : List (ClassId × FieldType) := [(g.2.1, .int), (g.2.2.1, .long), (g.2.2.2.1, .boolean), (g.2.2.2.2.1, .object RX1), (g.2.2.2.2.2, .object RX0)]
/-- ints, longs, rows of ints, rows of longs, rows of references; the pool: its addresses, which of them are Edits, their ints, their long; the address of 'again' -/
abbrev ST : Type := (Nat → Int32) × (Nat → Int64) × (Nat → Nat → Int32) × (Nat → Nat → Int64) × (Nat → Nat → Option Nat) × List Nat × (Nat → Bool) × (Nat → Nat → Int32) × (Nat → Int64) × Nat
def sI (u : ST) : Nat → Int32 := u.1
def sL (u : ST) : Nat → Int64 := u.2.1
def aI (u : ST) : Nat → Nat → Int32 := u.2.2.1
def aL (u : ST) : Nat → Nat → Int64 := u.2.2.2.1
def aR (u : ST) : Nat → Nat → Option Nat := u.2.2.2.2.1
def pA (u : ST) : List Nat := u.2.2.2.2.2.1
def pK (u : ST) : Nat → Bool := u.2.2.2.2.2.2.1
def pI (u : ST) : Nat → Nat → Int32 := u.2.2.2.2.2.2.2.1
def pV (u : ST) : Nat → Int64 := u.2.2.2.2.2.2.2.2.1
def ag (u : ST) : Nat := u.2.2.2.2.2.2.2.2.2
def mkS (a : Nat → Int32) (b : Nat → Int64) (c : Nat → Nat → Int32) (d : Nat → Nat → Int64) (e : Nat → Nat → Option Nat) (f : List Nat) (g : Nat → Bool) (h : Nat → Nat → Int32) (i : Nat → Int64) (j : Nat) : ST := (a, b, c, d, e, f, g, h, i, j)
def uI (u : ST) (k : Nat) (v : Int32) : ST := mkS (va_up (sI u) k v) (sL u) (aI u) (aL u) (aR u) (pA u) (pK u) (pI u) (pV u) (ag u)
def uL (u : ST) (k : Nat) (v : Int64) : ST := mkS (sI u) (va_up (sL u) k v) (aI u) (aL u) (aR u) (pA u) (pK u) (pI u) (pV u) (ag u)
def vI (u : ST) (k : Nat) (f : Nat → Int32) : ST := mkS (sI u) (sL u) (va_up (aI u) k f) (aL u) (aR u) (pA u) (pK u) (pI u) (pV u) (ag u)
def vL (u : ST) (k : Nat) (f : Nat → Int64) : ST := mkS (sI u) (sL u) (aI u) (va_up (aL u) k f) (aR u) (pA u) (pK u) (pI u) (pV u) (ag u)
def vR (u : ST) (k : Nat) (f : Nat → Option Nat) : ST := mkS (sI u) (sL u) (aI u) (aL u) (va_up (aR u) k f) (pA u) (pK u) (pI u) (pV u) (ag u)
def qI (u : ST) (a k : Nat) (v : Int32) : ST := mkS (sI u) (sL u) (aI u) (aL u) (aR u) (pA u) (pK u) (va_up (pI u) a (va_up (pI u a) k v)) (pV u) (ag u)
def qV (u : ST) (a : Nat) (v : Int64) : ST := mkS (sI u) (sL u) (aI u) (aL u) (aR u) (pA u) (pK u) (pI u) (va_up (pV u) a v) (ag u)
/-- a new one in the pool: an Edit (true) or a Caller, all of whose numbers are 0 -/
def qN (u : ST) (a : Nat) (k : Bool) : ST := mkS (sI u) (sL u) (aI u) (aL u) (aR u) (pA u ++ [a]) (va_up (pK u) a k) (va_up (pI u) a (fun _ => 0)) (va_up (pV u) a 0) (ag u)
/-! reads and writes that may fail -/
def vin (i : Int32) (n : Nat) : Bool := !decide (i < 0) && decide (i.toNatClampNeg < n)
theorem vin_in {i : Int32} {n : Nat} (h : vin i n = true) : vp_in i n := by
  simp only [vin, Bool.and_eq_true, Bool.not_eq_true', decide_eq_false_iff_not, decide_eq_true_eq] at h
  rintro (q | q)
  · exact h.1 q
  · omega
def ck {α : Type} (b : Bool) (x : Option α) : Option α := if b = true then x else none
theorem ck_some {α : Type} {b : Bool} {x : Option α} {r : α} (h : ck b x = some r) : b = true ∧ x = some r := by
  unfold ck at h
  split at h
  · exact ⟨by assumption, h⟩
  · cases h
theorem ck_pos {α : Type} {b : Bool} {x : Option α} (h : b = true) : ck b x = x := by simp [ck, h]
def isB (x : Int32) : Bool := decide (x = 0) || decide (x = 1)
theorem isB_or {x : Int32} (h : isB x = true) : x = 0 ∨ x = 1 := by simpa [isB] using h
theorem isB_nar {x : Int32} (h : isB x = true) : narrow .boolean (.int x) = .int x := by
  rcases isB_or h with rfl | rfl <;> rfl
theorem isB_fit {x : Int32} (h : isB x = true) : fits .boolean (.int x) = true := by
  rcases isB_or h with rfl | rfl <;> rfl
theorem isB_vp {x : Int32} (h : isB x = true) : vp_nar .boolean x = x := by
  rcases isB_or h with rfl | rfl <;> rfl
def oC {β : Type} (o : Option Nat) (x : β) (k : Nat → β) : β := match o with
  | none => x
  | some a => k a
/-! the static things -/
def wid (k : Nat) : Int32 := ([1, 250, 244, 248, 240, 224, 192, 128] : List Int32).getD k 0
def SF (A : Nat → Prop) (U : State) : Prop := va_Nw (.methodLinkNest RX8 44 yX0_init "Edits13") U ∧ ∃ t : Nat, va_Z "Edits13$Kinds" "WIDER" "[I" (.ref t) A U U.heap ∧ va_T .int t 8 (fun k => .int (wid k)) A U U.heap
theorem SF.go {A A1 : Nat → Prop} {s U : State} {H : Heap} {locs : List Loc} (h : SF A s) (hS : va_S A s.heap H locs) (hU : U.heap = H) (hW : s.WarmedH U.vm) (hA : ∀ q, A1 q → A q) : SF A1 U := by
  obtain ⟨h0, t, h1, h2⟩ := h
  subst hU
  exact ⟨h0.warmM hW, t, ((h1.kept hS.2.1).moved hW.alike).narrow hA, ((h2.kept hS.2.1).moved hW.alike).narrow hA⟩
theorem SF.calling {A : Nat → Prop} {U : State} (g : JFrame) (mk : MethodId) (a : Array Value) (h : SF A U) : SF A (U.calling g mk a) := by
  obtain ⟨h0, t, h1, h2⟩ := h
  exact ⟨va_Nw.same rfl (u := U) (U := U.calling g mk a) rfl h0, t, va_Z.moved (u := U) (U := U.calling g mk a) (Vm.Alike.refl U.vm) h1, va_T.moved (u := U) (U := U.calling g mk a) (Vm.Alike.refl U.vm) h2⟩
def Cx (p : Program) (s : State) (m : MethodId) (args : Array Value) (meth : Method) (c : Code) (cc : ByteArray) (nL : Nat) (own : String) (ret : Option FieldType) (g : GP) : Prop :=
  p.tables.exec = Jvm.exec ∧ c.code = cc ∧ c.maxLocals = nL ∧ s.vm.findClass own = some m.cls ∧ (∀ w ∈ lw_g, w.before args s = true) ∧ meth.sig.returnType = ret ∧ meth.locks = false ∧ va_K g.1 vwCl (tyl g) s
abbrev wl (y : MethodName) (cc : ByteArray) (n : Nat) (ret : Option FieldType) : List Cond := Cond.code y cc n ret :: lw_g
abbrev rmR (f k : Nat) : Room := { frames := f, cells := 0, slots := 0, locals := k }
abbrev rmW (f k mc ms : Nat) : Room := { frames := f, cells := mc, slots := ms, locals := k }
def PR (g : GP) (ws : va_W) (U : State) : Prop := va_P g.1 vwCl ws U.heap ∧ va_K g.1 vwCl (tyl g) U ∧ SF (fun _ => False) U
def PW (g : GP) (ws : va_W) (sz : Nat) (U : State) : Prop := U.heap.size = sz ∧ va_P g.1 vwCl ws U.heap ∧ va_K g.1 vwCl (tyl g) U ∧ va_D (fun _ => True) ws ∧ SF (va_A ws sz) U
def BW (g : GP) (A : Nat → Prop) (w : ST → va_W) (u : ST) (t : State) : Prop := va_P g.1 vwCl (w u) t.heap ∧ va_K g.1 vwCl (tyl g) t ∧ va_D A (w u)
/-- a method that only reads: what it answers -/
def MRi (l : Launch) (y : MethodName) (cc : ByteArray) (n : Nat) (ret : Option FieldType) (f k : Nat) (av : List Value) (g : GP) (ws : va_W) (r0 : Int32) : Prop := Met l y (wl y cc n ret) (rmR f k) (va_Pc av (PR g ws)) (vp_Si (fun r => r = r0)) 0 0 (fun _ => False)
def MRl (l : Launch) (y : MethodName) (cc : ByteArray) (n : Nat) (ret : Option FieldType) (f k : Nat) (av : List Value) (g : GP) (ws : va_W) (r0 : Int64) : Prop := Met l y (wl y cc n ret) (rmR f k) (va_Pc av (PR g ws)) (vp_Sl (fun r => r = r0)) 0 0 (fun _ => False)
def MRq (l : Launch) (y : MethodName) (cc : ByteArray) (n : Nat) (ret : Option FieldType) (f k : Nat) (av : List Value) (g : GP) (ws : va_W) (r0 : Option Nat) : Prop := Met l y (wl y cc n ret) (rmR f k) (va_Pc av (PR g ws)) (va_Sq (fun r => r = r0)) 0 0 (fun _ => False)
/-- a method that writes: what it answers, and the state behind it -/
def MWi (l : Launch) (y : MethodName) (cc : ByteArray) (n : Nat) (ret : Option FieldType) (f k mc ms : Nat) (av : List Value) (g : GP) (w : ST → va_W) (u : ST) (r0 : Int32) (u0 : ST) : Prop := ∀ sz : Nat, Met l y (wl y cc n ret) (rmW f k mc ms) (va_Pc av (PW g (w u) sz)) (va_Qi (fun r v => r = r0 ∧ v = u0) (BW g (va_A (w u) sz) w) (va_A (w u) sz)) mc ms (va_A (w u) sz)
def MWv (l : Launch) (y : MethodName) (cc : ByteArray) (n : Nat) (ret : Option FieldType) (f k mc ms : Nat) (av : List Value) (g : GP) (w : ST → va_W) (u : ST) (u0 : ST) : Prop := ∀ sz : Nat, Met l y (wl y cc n ret) (rmW f k mc ms) (va_Pc av (PW g (w u) sz)) (va_Qv (fun v => v = u0) (BW g (va_A (w u) sz) w) (va_A (w u) sz)) mc ms (va_A (w u) sz)
/-! ===== entries ===== -/
theorem entR {l : Launch} {y : MethodName} {cc : ByteArray} {n : Nat} {ret : Option FieldType} {f k : Nat} {av : List Value} {g : GP} {ws : va_W} {Qc : Array Value → State → Outcome → State → Prop} (hy : plainName y.cls = true) (hn : (lg_sl av).length ≤ n)
    (body : ∀ (p : Program) (e : Env) (s : State) (m : MethodId) (below : List Frame) (meth : Method) (c : Code) (ls : Array Slot), Cx p s m av.toArray meth c cc n y.cls ret g → va_P g.1 vwCl ws s.heap → SF (fun _ => False) s → lv_has ls n (lv_args 0 av) → W p l e (rmR f k) s m av.toArray below meth c s.heap [] 0 0 (MQ below Qc av.toArray s 0 0 (fun _ => False)) (F0 m 0 ls [])) : Met l y (wl y cc n ret) (rmR f k) (va_Pc av (PR g ws)) Qc 0 0 (fun _ => False) := by
  refine Met.ofW (cc := cc) (maxL := n) (ret := ret) hy rfl ?_
  intro p e s m args below meth c s₁ B hml hv
  obtain ⟨rfl, hP, hK, hZ⟩ := hv
  have hts := atoms_spec (ws := wl y cc n ret) B.pre
  have hown : s.vm.findClass y.cls = some m.cls := findClass_of_methodNamed B.named
  rw [lg_entry_eq]
  exact body p e s m below meth c _ ⟨B.exec, B.bytes, hml, hown, fun w hw => hts w (List.mem_cons_of_mem _ hw), B.returns, B.notSynchronized, hK⟩ hP hZ (lv_entry av hn)
theorem entW {l : Launch} {y : MethodName} {cc : ByteArray} {n : Nat} {ret : Option FieldType} {f k mc ms : Nat} {av : List Value} {g : GP} {ws : va_W} {Qc : (Nat → Prop) → Array Value → State → Outcome → State → Prop} (hy : plainName y.cls = true) (hn : (lg_sl av).length ≤ n)
    (body : ∀ (p : Program) (e : Env) (s : State) (m : MethodId) (below : List Frame) (meth : Method) (c : Code) (ls : Array Slot) (A : Nat → Prop), Cx p s m av.toArray meth c cc n y.cls ret g → va_P g.1 vwCl ws s.heap → va_D A ws → va_S A s.heap s.heap [] → (∀ q, s.heap.size ≤ q → A q) → SF A s → lv_has ls n (lv_args 0 av) → W p l e (rmW f k mc ms) s m av.toArray below meth c s.heap [] 0 0 (MQ below (Qc A) av.toArray s mc ms A) (F0 m 0 ls [])) : ∀ sz : Nat, Met l y (wl y cc n ret) (rmW f k mc ms) (va_Pc av (PW g ws sz)) (Qc (va_A ws sz)) mc ms (va_A ws sz) := by
  intro sz
  refine Met.ofW (cc := cc) (maxL := n) (ret := ret) hy rfl ?_
  intro p e s m args below meth c s₁ B hml hv
  obtain ⟨rfl, hsz, hP, hK, hD, hZ⟩ := hv
  subst hsz
  have hts := atoms_spec (ws := wl y cc n ret) B.pre
  have hown : s.vm.findClass y.cls = some m.cls := findClass_of_methodNamed B.named
  rw [lg_entry_eq]
  exact body p e s m below meth c _ (va_A ws s.heap.size) ⟨B.exec, B.bytes, hml, hown, fun w hw => hts w (List.mem_cons_of_mem _ hw), B.returns, B.notSynchronized, hK⟩ hP (hD.self) va_S.rf (fun q h => Or.inr h) hZ (lv_entry av hn)
/-! ===== ends ===== -/
section Ends
variable {p : Program} {l : Launch} {e : Env} {R : Room} {s : State} {m : MethodId} {args : Array Value} {below : List Frame} {meth : Method} {c : Code} {H : Heap} {locs : List Loc} {cells slots : Nat}
variable {cc : ByteArray} {nL : Nat} {own : String} {g : GP} {pc : Nat} {ls : Array Slot} {A : Nat → Prop} {w : ST → va_W} {u u0 : ST} {mc ms : Nat}
theorem endRi {v r0 : Int32} (C : Cx p s m args meth c cc nL own (some .int) g) (hf : some v = some r0) (hdg : decode cc pc = .ok (.ireturn, 1)) : W p l e R s m args below meth c s.heap [] 0 0 (MQ below (vp_Si (fun r => r = r0)) args s 0 0 (fun _ => False)) (F0 m pc ls [.int v]) := by
  obtain ⟨hx, hb, hml, hown, hts, hr, hlocks, hK⟩ := C
  cases hf
  exact W.iret (v := v) hx hb hr (fun t ht hW => ⟨v, rfl, rfl, ht⟩) (fun q hq => by cases hq) hdg
theorem endRz {v r0 : Int32} (C : Cx p s m args meth c cc nL own (some .boolean) g) (hB : isB v = true) (hf : some v = some r0) (hdg : decode cc pc = .ok (.ireturn, 1)) : W p l e R s m args below meth c s.heap [] 0 0 (MQ below (vp_Si (fun r => r = r0)) args s 0 0 (fun _ => False)) (F0 m pc ls [.int v]) := by
  obtain ⟨hx, hb, hml, hown, hts, hr, hlocks, hK⟩ := C
  cases hf
  exact W.zret (v := v) (ty := .boolean) hx hb hr (isB_nar hB) (fun t ht hW => ⟨v, rfl, rfl, ht⟩) (fun q hq => by cases hq) hdg
theorem endRl {v r0 : Int64} (C : Cx p s m args meth c cc nL own (some .long) g) (hf : some v = some r0) (hdg : decode cc pc = .ok (.lreturn, 1)) : W p l e R s m args below meth c s.heap [] 0 0 (MQ below (vp_Sl (fun r => r = r0)) args s 0 0 (fun _ => False)) (F0 m pc ls [.long v]) := by
  obtain ⟨hx, hb, hml, hown, hts, hr, hlocks, hK⟩ := C
  cases hf
  exact W.lret (v := v) hx hb hr (fun t ht hW => ⟨v, rfl, rfl, ht⟩) (fun q hq => by cases hq) hdg
theorem endRq {v r0 : Option Nat} {cn : String} (C : Cx p s m args meth c cc nL own (some (.object cn)) g) (hf : some v = some r0) (hdg : decode cc pc = .ok (.areturn, 1)) : W p l e R s m args below meth c s.heap [] 0 0 (MQ below (va_Sq (fun r => r = r0)) args s 0 0 (fun _ => False)) (F0 m pc ls [va_rf v]) := by
  obtain ⟨hx, hb, hml, hown, hts, hr, hlocks, hK⟩ := C
  cases hf
  exact W.aret (v := va_rf v) hx hb hr (Or.inl ⟨_, rfl⟩) (by cases v with
    | none => exact Or.inl rfl
    | some a => exact Or.inr ⟨a, rfl⟩) (fun t ht hW => ⟨v, rfl, rfl, ht⟩) (fun q hq => by cases hq) hdg
theorem endWi {v r0 : Int32} (C : Cx p s m args meth c cc nL own (some .int) g) (hP : va_P g.1 vwCl (w u) H) (hD : va_D A (w u)) (hS : va_S A s.heap H locs) (hc : cells ≤ mc) (hs : slots ≤ ms) (hf : some (v, u) = some (r0, u0)) (hdg : decode cc pc = .ok (.ireturn, 1)) : W p l e R s m args below meth c H locs cells slots (MQ below (va_Qi (fun r v => r = r0 ∧ v = u0) (BW g A w) A) args s mc ms A) (F0 m pc ls [.int v]) := by
  obtain ⟨hx, hb, hml, hown, hts, hr, hlocks, hK⟩ := C
  cases hf
  refine W.widen (k := mc) (n := ms) hc hs ?_
  exact W.iret (v := v) hx hb hr (fun t ht hW => ⟨⟨v, u, rfl, ⟨rfl, rfl⟩, by rw [ht]; exact hP, va_K.moved hW.alike hK, hD⟩, hS.F ht⟩) hS.2.2 hdg
theorem endWz {v r0 : Int32} (C : Cx p s m args meth c cc nL own (some .boolean) g) (hB : isB v = true) (hP : va_P g.1 vwCl (w u) H) (hD : va_D A (w u)) (hS : va_S A s.heap H locs) (hc : cells ≤ mc) (hs : slots ≤ ms) (hf : some (v, u) = some (r0, u0)) (hdg : decode cc pc = .ok (.ireturn, 1)) : W p l e R s m args below meth c H locs cells slots (MQ below (va_Qi (fun r v => r = r0 ∧ v = u0) (BW g A w) A) args s mc ms A) (F0 m pc ls [.int v]) := by
  obtain ⟨hx, hb, hml, hown, hts, hr, hlocks, hK⟩ := C
  cases hf
  refine W.widen (k := mc) (n := ms) hc hs ?_
  exact W.zret (v := v) (ty := .boolean) hx hb hr (isB_nar hB) (fun t ht hW => ⟨⟨v, u, rfl, ⟨rfl, rfl⟩, by rw [ht]; exact hP, va_K.moved hW.alike hK, hD⟩, hS.F ht⟩) hS.2.2 hdg
theorem endWv (C : Cx p s m args meth c cc nL own none g) (hP : va_P g.1 vwCl (w u) H) (hD : va_D A (w u)) (hS : va_S A s.heap H locs) (hc : cells ≤ mc) (hs : slots ≤ ms) (hf : some u = some u0) (hdg : decode cc pc = .ok (.return_, 1)) : W p l e R s m args below meth c H locs cells slots (MQ below (va_Qv (fun v => v = u0) (BW g A w) A) args s mc ms A) (F0 m pc ls []) := by
  obtain ⟨hx, hb, hml, hown, hts, hr, hlocks, hK⟩ := C
  cases hf
  refine W.widen (k := mc) (n := ms) hc hs ?_
  exact W.vret hx hb hr (fun t ht hW => ⟨⟨u, rfl, rfl, by rw [ht]; exact hP, va_K.moved hW.alike hK, hD⟩, hS.F ht⟩) hS.2.2 hdg
end Ends
/-! ===== calls ===== -/
def YW (y : MethodName) (cc : ByteArray) (n : Nat) (ret : Option FieldType) (k : Nat) : Prop := Cond.code y cc n ret ∈ lw_g ∧ Cond.initialized y.cls ∈ lw_g ∧ (y.cls ≠ "java/lang/invoke/MethodHandle" ∧ y.cls ≠ "java/lang/invoke/VarHandle" ∧ (parseMethodDescriptor y.desc).map (fun d => d.parameters.length) = some k)
def YV (y : MethodName) (cc : ByteArray) (n : Nat) (ret : Option FieldType) (k : Nat) : Prop := YW y cc n ret k ∧ Cond.instanceMethod y ∈ lw_g ∧ Cond.selects y.cls y y ∈ lw_g
def YS (y : MethodName) (cc : ByteArray) (n : Nat) (ret : Option FieldType) (k : Nat) : Prop := YW y cc n ret k ∧ Cond.static y ∈ lw_g
theorem goodAll {y : MethodName} {cc : ByteArray} {n : Nat} {ret : Option FieldType} (h : Cond.code y cc n ret ∈ lw_g) : GoodIn lw_g (wl y cc n ret) := by
  intro w hw
  rcases List.mem_cons.mp hw with rfl | hw
  · exact ⟨h, lw_g_good _ h⟩
  · exact ⟨hw, lw_g_good _ hw⟩
theorem freeAll {A : Nat → Prop} {ws : va_W} {H0 H : Heap} {locs : List Loc} (hD : va_D A ws) (hS : va_S A H0 H locs) (hA : ∀ q, H0.size ≤ q → A q) : ∀ q, va_A ws H.size q → A q := by
  rintro q (⟨k, e, h⟩ | h)
  · exact hD.2 k (q, e) h
  · exact hA q (Nat.le_trans hS.1 h)
theorem blindR {g : GP} {ws : va_W} {av : List Value} : FrameBlind (va_Pc av (PR g ws)) := by
  intro a U fr mk q
  obtain ⟨q0, q1, q2, q3⟩ := q
  exact ⟨q0, q1, va_K.moved (u := U) (U := U.calling fr mk a) (Vm.Alike.refl U.vm) q2, q3.calling fr mk a⟩
theorem blindW {g : GP} {ws : va_W} {sz : Nat} {av : List Value} : FrameBlind (va_Pc av (PW g ws sz)) := by
  intro a U fr mk q
  obtain ⟨q0, q1, q2, q3, q4, q5⟩ := q
  exact ⟨q0, q1, q2, va_K.moved (u := U) (U := U.calling fr mk a) (Vm.Alike.refl U.vm) q3, q4, q5.calling fr mk a⟩
section Calls
variable {p : Program} {l : Launch} {e : Env} {R : Room} {s : State} {m : MethodId} {args : Array Value} {below : List Frame} {meth : Method} {c : Code} {H : Heap} {locs : List Loc} {cells slots : Nat} {Q : State → Prop}
variable {cc : ByteArray} {nL : Nat} {own : String} {ret : Option FieldType} {g : GP} {pc : Nat} {ls : Array Slot} {A : Nat → Prop} {w : ST → va_W} {u u1 : ST} {mc ms : Nat}
variable {y : MethodName} {cy : ByteArray} {ny na f k idx b : Nat} {ry : Option FieldType} {As rest st : List Value} {ws : va_W}
theorem mkCB {rm : Room} (C : Cx p s m args meth c cc nL own ret g) (Y : YW y cy ny ry na) (hl : Cond.methodLink own idx y ∈ lw_g) (hR : rm.frames + 1 ≤ R.frames ∧ 8 + (ny + 11) + rm.locals ≤ R.locals) : CallB R s args own idx y cy ny ry (wl y cy ny ry) rm rm.cells rm.slots na :=
  callB_of na C.2.2.2.2.1 (goodAll Y.1) rfl rfl rfl (C.2.2.2.2.1 _ Y.2.1) (C.2.2.2.2.1 _ hl) Y.2.2 hR
theorem cRi {r1 : Int32} (C : Cx p s m args meth c cc nL own ret g) (hM : MRi l y cy ny ry f k (.ref b :: As) g ws r1) (Y : YV y cy ny ry na) (hl : Cond.methodLink own idx y ∈ lw_g) (hR : f + 1 ≤ R.frames ∧ 8 + (ny + 11) + k ≤ R.locals) (hP : va_P g.1 vwCl ws H) (hrc : ∃ cell : Cell, H[b]? = some cell ∧ cell.vm.isStatics = false ∧ s.vm.findClass y.cls = some cell.cls) (hZ : ∀ U : State, U.heap = H → s.WarmedH U.vm → SF (fun _ => False) U) (hls : ls.size = nL) (hn : As.length = na) (hst : st = As.reverse ++ .ref b :: rest) (hroom : (rest.map fun v => v.category).sum ≤ 8) (hdg : decode cc pc = .ok (.invokevirtual idx, 3)) (hf : cells ≤ R.cells ∧ slots ≤ R.slots)
    (kk : W p l e R s m args below meth c H locs cells slots Q (F0 m (pc + 3) ls (.int r1 :: rest))) : W p l e R s m args below meth c H locs cells slots Q (F0 m pc ls st) := by
  refine vp_callSi (W.runV (As := As) (rest := rest) ⟨C.1, C.2.1, C.2.2.1, C.2.2.2.1, C.2.2.2.2.1⟩ hM ⟨mkCB C Y.1 hl hR, C.2.2.2.2.1 _ Y.2.1, C.2.2.2.2.1 _ Y.2.2⟩ ⟨blindR, hrc, fun U hU hW => ⟨rfl, by rw [hU]; exact hP, va_K.moved hW.alike C.2.2.2.2.2.2.2, hZ U hU hW⟩⟩ rfl hn hls hst (lv_room hroom) hdg hf) (fun r hr => ?_)
  subst hr
  exact kk
theorem cRl {r1 : Int64} (C : Cx p s m args meth c cc nL own ret g) (hM : MRl l y cy ny ry f k (.ref b :: As) g ws r1) (Y : YV y cy ny ry na) (hl : Cond.methodLink own idx y ∈ lw_g) (hR : f + 1 ≤ R.frames ∧ 8 + (ny + 11) + k ≤ R.locals) (hP : va_P g.1 vwCl ws H) (hrc : ∃ cell : Cell, H[b]? = some cell ∧ cell.vm.isStatics = false ∧ s.vm.findClass y.cls = some cell.cls) (hZ : ∀ U : State, U.heap = H → s.WarmedH U.vm → SF (fun _ => False) U) (hls : ls.size = nL) (hn : As.length = na) (hst : st = As.reverse ++ .ref b :: rest) (hroom : (rest.map fun v => v.category).sum ≤ 8) (hdg : decode cc pc = .ok (.invokevirtual idx, 3)) (hf : cells ≤ R.cells ∧ slots ≤ R.slots)
    (kk : W p l e R s m args below meth c H locs cells slots Q (F0 m (pc + 3) ls (.long r1 :: rest))) : W p l e R s m args below meth c H locs cells slots Q (F0 m pc ls st) := by
  refine vp_callSl (W.runV (As := As) (rest := rest) ⟨C.1, C.2.1, C.2.2.1, C.2.2.2.1, C.2.2.2.2.1⟩ hM ⟨mkCB C Y.1 hl hR, C.2.2.2.2.1 _ Y.2.1, C.2.2.2.2.1 _ Y.2.2⟩ ⟨blindR, hrc, fun U hU hW => ⟨rfl, by rw [hU]; exact hP, va_K.moved hW.alike C.2.2.2.2.2.2.2, hZ U hU hW⟩⟩ rfl hn hls hst (lv_room hroom) hdg hf) (fun r hr => ?_)
  subst hr
  exact kk
theorem cRq {r1 : Option Nat} (C : Cx p s m args meth c cc nL own ret g) (hM : MRq l y cy ny ry f k (.ref b :: As) g ws r1) (Y : YV y cy ny ry na) (hl : Cond.methodLink own idx y ∈ lw_g) (hR : f + 1 ≤ R.frames ∧ 8 + (ny + 11) + k ≤ R.locals) (hP : va_P g.1 vwCl ws H) (hrc : ∃ cell : Cell, H[b]? = some cell ∧ cell.vm.isStatics = false ∧ s.vm.findClass y.cls = some cell.cls) (hZ : ∀ U : State, U.heap = H → s.WarmedH U.vm → SF (fun _ => False) U) (hls : ls.size = nL) (hn : As.length = na) (hst : st = As.reverse ++ .ref b :: rest) (hroom : (rest.map fun v => v.category).sum ≤ 8) (hdg : decode cc pc = .ok (.invokevirtual idx, 3)) (hf : cells ≤ R.cells ∧ slots ≤ R.slots)
    (kk : W p l e R s m args below meth c H locs cells slots Q (F0 m (pc + 3) ls (va_rf r1 :: rest))) : W p l e R s m args below meth c H locs cells slots Q (F0 m pc ls st) := by
  refine va_csq (W.runV (As := As) (rest := rest) ⟨C.1, C.2.1, C.2.2.1, C.2.2.2.1, C.2.2.2.2.1⟩ hM ⟨mkCB C Y.1 hl hR, C.2.2.2.2.1 _ Y.2.1, C.2.2.2.2.1 _ Y.2.2⟩ ⟨blindR, hrc, fun U hU hW => ⟨rfl, by rw [hU]; exact hP, va_K.moved hW.alike C.2.2.2.2.2.2.2, hZ U hU hW⟩⟩ rfl hn hls hst (lv_room hroom) hdg hf) (fun r hr => ?_)
  subst hr
  exact kk
theorem cSi {r1 : Int32} (C : Cx p s m args meth c cc nL own ret g) (hM : MRi l y cy ny ry f k As g ws r1) (Y : YS y cy ny ry na) (hl : Cond.methodLink own idx y ∈ lw_g) (hR : f + 1 ≤ R.frames ∧ 8 + (ny + 11) + k ≤ R.locals) (hP : va_P g.1 vwCl ws H) (hZ : ∀ U : State, U.heap = H → s.WarmedH U.vm → SF (fun _ => False) U) (hls : ls.size = nL) (hn : As.length = na) (hst : st = As.reverse ++ rest) (hroom : (rest.map fun v => v.category).sum ≤ 8) (hdg : decode cc pc = .ok (.invokestatic idx, 3)) (hf : cells ≤ R.cells ∧ slots ≤ R.slots)
    (kk : W p l e R s m args below meth c H locs cells slots Q (F0 m (pc + 3) ls (.int r1 :: rest))) : W p l e R s m args below meth c H locs cells slots Q (F0 m pc ls st) := by
  refine vp_callSi (W.runS (As := As) (rest := rest) ⟨C.1, C.2.1, C.2.2.1, C.2.2.2.1, C.2.2.2.2.1⟩ hM ⟨mkCB C Y.1 hl hR, C.2.2.2.2.1 _ Y.2⟩ ⟨blindR, fun U hU hW => ⟨rfl, by rw [hU]; exact hP, va_K.moved hW.alike C.2.2.2.2.2.2.2, hZ U hU hW⟩⟩ rfl hn hls hst (lv_room hroom) hdg hf) (fun r hr => ?_)
  subst hr
  exact kk
theorem cSl {r1 : Int64} (C : Cx p s m args meth c cc nL own ret g) (hM : MRl l y cy ny ry f k As g ws r1) (Y : YS y cy ny ry na) (hl : Cond.methodLink own idx y ∈ lw_g) (hR : f + 1 ≤ R.frames ∧ 8 + (ny + 11) + k ≤ R.locals) (hP : va_P g.1 vwCl ws H) (hZ : ∀ U : State, U.heap = H → s.WarmedH U.vm → SF (fun _ => False) U) (hls : ls.size = nL) (hn : As.length = na) (hst : st = As.reverse ++ rest) (hroom : (rest.map fun v => v.category).sum ≤ 8) (hdg : decode cc pc = .ok (.invokestatic idx, 3)) (hf : cells ≤ R.cells ∧ slots ≤ R.slots)
    (kk : W p l e R s m args below meth c H locs cells slots Q (F0 m (pc + 3) ls (.long r1 :: rest))) : W p l e R s m args below meth c H locs cells slots Q (F0 m pc ls st) := by
  refine vp_callSl (W.runS (As := As) (rest := rest) ⟨C.1, C.2.1, C.2.2.1, C.2.2.2.1, C.2.2.2.2.1⟩ hM ⟨mkCB C Y.1 hl hR, C.2.2.2.2.1 _ Y.2⟩ ⟨blindR, fun U hU hW => ⟨rfl, by rw [hU]; exact hP, va_K.moved hW.alike C.2.2.2.2.2.2.2, hZ U hU hW⟩⟩ rfl hn hls hst (lv_room hroom) hdg hf) (fun r hr => ?_)
  subst hr
  exact kk
theorem cWi {r1 : Int32} (C : Cx p s m args meth c cc nL own ret g) (hM : MWi l y cy ny ry f k mc ms (.ref b :: As) g w u r1 u1) (Y : YV y cy ny ry na) (hl : Cond.methodLink own idx y ∈ lw_g) (hR : f + 1 ≤ R.frames ∧ 8 + (ny + 11) + k ≤ R.locals) (hP : va_P g.1 vwCl (w u) H) (hD : va_D A (w u)) (hS : va_S A s.heap H locs) (hA : ∀ q, s.heap.size ≤ q → A q) (hZ : SF A s) (hrc : ∃ cell : Cell, H[b]? = some cell ∧ cell.vm.isStatics = false ∧ s.vm.findClass y.cls = some cell.cls) (hls : ls.size = nL) (hn : As.length = na) (hst : st = As.reverse ++ .ref b :: rest) (hroom : (rest.map fun v => v.category).sum ≤ 8) (hdg : decode cc pc = .ok (.invokevirtual idx, 3)) (hf : cells + mc ≤ R.cells ∧ slots + ms ≤ R.slots)
    (kk : ∀ (H1 : Heap) (locs1 : List Loc), va_P g.1 vwCl (w u1) H1 → va_D A (w u1) → va_S A s.heap H1 locs1 → W p l e R s m args below meth c H1 locs1 (cells + mc) (slots + ms) Q (F0 m (pc + 3) ls (.int r1 :: rest))) : W p l e R s m args below meth c H locs cells slots Q (F0 m pc ls st) := by
  have hF := freeAll hD hS hA
  refine va_calli (va_runV (As := As) (rest := rest) ⟨C.1, C.2.1, C.2.2.1, C.2.2.2.1, C.2.2.2.2.1⟩ (hM H.size) ⟨mkCB C Y.1 hl hR, C.2.2.2.2.1 _ Y.2.1, C.2.2.2.2.1 _ Y.2.2⟩ ⟨blindW, hrc, fun U hU hW => ⟨rfl, by rw [hU], by rw [hU]; exact hP, va_K.moved hW.alike C.2.2.2.2.2.2.2, hD.weaken (fun _ _ _ _ => trivial), SF.go hZ hS hU hW hF⟩⟩ rfl hn hls hst (lv_room hroom) hdg hf) hS (fun q _ h => hF q h) hF (fun r v t H1 locs1 ht hvm hw hB hz1 hk1 hS1 => ?_)
  obtain ⟨rfl, rfl⟩ := hw
  obtain ⟨b1, b2, b3⟩ := hB
  rw [ht] at b1
  exact kk H1 locs1 b1 (b3.weaken (fun _ _ _ h => hF _ h)) hS1
theorem cWv (C : Cx p s m args meth c cc nL own ret g) (hM : MWv l y cy ny ry f k mc ms (.ref b :: As) g w u u1) (Y : YV y cy ny ry na) (hl : Cond.methodLink own idx y ∈ lw_g) (hR : f + 1 ≤ R.frames ∧ 8 + (ny + 11) + k ≤ R.locals) (hP : va_P g.1 vwCl (w u) H) (hD : va_D A (w u)) (hS : va_S A s.heap H locs) (hA : ∀ q, s.heap.size ≤ q → A q) (hZ : SF A s) (hrc : ∃ cell : Cell, H[b]? = some cell ∧ cell.vm.isStatics = false ∧ s.vm.findClass y.cls = some cell.cls) (hls : ls.size = nL) (hn : As.length = na) (hst : st = As.reverse ++ .ref b :: rest) (hroom : (rest.map fun v => v.category).sum ≤ 8) (hdg : decode cc pc = .ok (.invokevirtual idx, 3)) (hf : cells + mc ≤ R.cells ∧ slots + ms ≤ R.slots)
    (kk : ∀ (H1 : Heap) (locs1 : List Loc), va_P g.1 vwCl (w u1) H1 → va_D A (w u1) → va_S A s.heap H1 locs1 → W p l e R s m args below meth c H1 locs1 (cells + mc) (slots + ms) Q (F0 m (pc + 3) ls rest)) : W p l e R s m args below meth c H locs cells slots Q (F0 m pc ls st) := by
  have hF := freeAll hD hS hA
  refine va_callv (va_runV (As := As) (rest := rest) ⟨C.1, C.2.1, C.2.2.1, C.2.2.2.1, C.2.2.2.2.1⟩ (hM H.size) ⟨mkCB C Y.1 hl hR, C.2.2.2.2.1 _ Y.2.1, C.2.2.2.2.1 _ Y.2.2⟩ ⟨blindW, hrc, fun U hU hW => ⟨rfl, by rw [hU], by rw [hU]; exact hP, va_K.moved hW.alike C.2.2.2.2.2.2.2, hD.weaken (fun _ _ _ _ => trivial), SF.go hZ hS hU hW hF⟩⟩ rfl hn hls hst (lv_room hroom) hdg hf) hS (fun q _ h => hF q h) hF (fun v t H1 locs1 ht hvm hw hB hz1 hk1 hS1 => ?_)
  subst hw
  obtain ⟨b1, b2, b3⟩ := hB
  rw [ht] at b1
  exact kk H1 locs1 b1 (b3.weaken (fun _ _ _ h => hF _ h)) hS1
end Calls
