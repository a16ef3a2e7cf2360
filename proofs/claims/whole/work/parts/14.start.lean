/-! THE CLAIM OUT OF ONE WALK OF THE LAW'S BODY. Your part is whole_start (and what it stands on); all else here is the same for every law, but numbers. -/
def R_law : String := "Edits13Law"
def lw_P (b : Addr) (xs : List Int32) (args : Array Value) (s : State) : Prop := args = #[.ref b] ∧ s.IntsAt b xs ∧ xs.length ≤ 3584 ∧ (Jvm.Cond.and given_1 narrow_1).before args s = true
/-- what a walk over the start with the record d0 says of its end, said of the start itself -/
theorem lw_closed {s t : State} {o : Outcome} {d0 : Drawn} {L : List Loc} {k n : Nat} (hd0 : s.drawn.sameBut d0 lw_cs) (hv : ∃ v, o = .returned v) (hW : (s.setDrawn d0).WarmedH t.vm) (hs : (s.setDrawn d0).sameButNew ({ t with vm := s.vm } : State) L k n) : State.butDraws s t lw_cs (fun t1 => Framed s o t1 L k n) := by
  have h2 : t.drawn = d0 := congrArg State.drawn hs.1
  refine ⟨⟨hv, hW, State.sameButNew.setDrawn hs s.drawn⟩, ?_, by decide⟩
  rw [h2]
  exact hd0
def lw_Q (_ : Array Value) (s : State) (o : Outcome) (t : State) : Prop := o = .returned (some (.int 1)) ∧ State.butDraws s t lw_cs (fun t1 => Framed s o t1 [] 600000 7302250)
def lw_Z (below : List Frame) (a : Array Value) (s : State) : State → Prop := fun t => ∃ o, t.status = .running ∧ Ended t below o ∧ lw_Q a s o t
/-- the law's own end, with 1 on the stack, nothing written that was there before, its room as the claim has it; d0: the record of draws at this point (at the entry s.drawn: begin with 'refine W.base ?_' and 'have hd0 := Drawn.sameBut.refl s.drawn lw_cs') -/
theorem lw_ret {p : Program} {l : Launch} {e : Env} {s : State} {m : MethodId} {below : List Frame} {meth : Method} {c : Code} {b : Nat} {d0 : Drawn} (hd0 : s.drawn.sameBut d0 lw_cs) (hx : p.tables.exec = Jvm.exec) (hb : c.code = code) (hr : meth.sig.returnType = ret) (hlocks : meth.locks = false) {pc : Nat} {H : Heap} {ls : Array Slot} (hdg : decode code pc = .ok (.ireturn, 1)) : W p l e room_1 (s.setDrawn d0) m #[Value.ref b] below meth c H [] 600000 7302250 (lw_Z below #[Value.ref b] s) (F0 m pc ls [.int 1]) := by
  intro T hT X
  obtain ⟨fs, hret, hrun, hended, hW, hframe⟩ := X.leave (v := some (.int 1)) (hlocks := hlocks) (fun h => by rw [hr] at h; cases h)
  have hmeth' : T.vm.method? m = some meth := X.method'
  refine ⟨T.setFrames fs, ?_, .returned (some (.int 1)), hrun, hended, rfl, lw_closed hd0 ⟨_, rfl⟩ hW hframe⟩
  jvm_step X.here [X.here.top, hx, hb, hdg, hmeth', hr, ret, narrow_b1]
  (try refine ⟨rfl, ?_⟩); (try refine ⟨rfl, ?_⟩)
  first | (intro acts; rw [hret _ acts rfl rfl rfl]) | rw [hret _ _ rfl rfl rfl]
  exact Steps.refl _
/-- what holds at the law's entry: the machine, the code, the tables' words (any of lw_tbl by 'hts w (by decide +kernel)'), the script of L ints xs at the cell b, what the Statement gives of the start (any of its parts by flat_of_before) -/
def lw_At (p : Program) (s : State) (m : MethodId) (meth : Method) (c : Code) (b L : Nat) (xs : Nat → Int32) : Prop :=
  p.tables.exec = Jvm.exec ∧ c.code = code ∧ meth.sig.returnType = ret ∧ c.maxLocals = 4 ∧ s.vm.findClass R_law = some m.cls ∧ (∀ w ∈ lw_tbl, w.before #[Value.ref b] s = true) ∧ va_X b L xs s s.heap ∧ b < s.heap.size ∧ meth.locks = false ∧ (Jvm.Cond.and given_1 narrow_1).before #[Value.ref b] s = true

def iniC (a : Nat) (f : Nat → Int32) : ST := mkS (fun _ => 0) (fun _ => 0) (va_up (fun _ _ => 0) 15 f) (fun _ _ => 0) (fun _ _ => none) [a] (fun _ => false) (fun _ _ => 0) (fun _ => 0) a
def iniM : ST := mkS (fun _ => 0) (fun _ => 0) (fun _ _ => 0) (fun _ _ => 0) (fun _ _ => none) [] (fun _ => false) (fun _ _ => 0) (fun _ => 0) 0
theorem arrK {s : State} {args : Array Value} {ty : FieldType} (h : (Cond.arrayClass ty).before args s = true) : ∃ cA : ClassId, ArrOfT s cA ty ∧ s.vm.findClass ("[" ++ ty.toString) = some cA := by
  obtain ⟨cA, kA, comp, h1, h2, h3⟩ := Cond.arrayClass_spec h
  exact ⟨cA, fun n z => ⟨fun k h => (by cases h), kA, h2, comp, h3⟩, h1⟩
theorem arrO {s : State} {args : Array Value} {C : String} (h : (Cond.arrayOver (.object C)).before args s = true) : ∃ cA : ClassId, ArrOfT s cA (.object C) ∧ va_RA s cA (.object C) := by
  obtain ⟨comp, cA, kA, h1, h2, h3, h4, h5⟩ := Cond.arrayOver_spec h
  exact ⟨cA, fun n z => ⟨fun k h => (by cases h), kA, h3, comp, h4⟩, kA, comp, h3, h4, h1, h5⟩
set_option maxRecDepth 100000 in
set_option maxHeartbeats 16000000 in
theorem start_of {Rl : ST → ST → Prop} (S : Sims Rl) (h0 : ∀ (a : Nat) (f : Nat → Int32), (∀ j, j < 60 → f j = -2) → Rl (iniC a f) iniM) {p : Program} {e : Env} {s : State} {m : MethodId} {below : List Frame} {meth : Method} {c : Code} (l : Launch) {b L : Nat} {xs : Nat → Int32} (hL : L ≤ 3584) (C0 : lw_At p s m meth c b L xs) : W p l e room_1 s m #[Value.ref b] below meth c s.heap [] 0 0 (lw_Z below #[Value.ref b] s) (entryFrame m ([Value.ref b] : List Value).toArray 4) := by
  obtain ⟨hx, hb, hr, hml, hown, hts, hX, hbl, hlocks, hgv⟩ := id C0
  have htg : ∀ w ∈ lw_g, w.before #[Value.ref b] s = true := fun w h => hts w (lw_g_tbl w h)
  have hfl := flat_of_before _ hgv
  have hA : ∀ q : Nat, s.heap.size ≤ q → (fun q : Nat => s.heap.size ≤ q) q := fun _ h => h
  have hbA : ¬ (fun q : Nat => s.heap.size ≤ q) b := Nat.not_le.mpr hbl
  have hnA : ∀ a : Nat, a < s.heap.size → ¬ (fun q : Nat => s.heap.size ≤ q) a := fun a h => Nat.not_le.mpr h
  obtain ⟨c0, iS0, hKn0⟩ := u_known (C := RX0) (T := TX0) (N := 13) (n := 13) htg inX0 (htg _ wT_X0)
  obtain ⟨c1, iS1, hKn1⟩ := u_known (C := RX1) (T := TX1) (N := 7) (n := 7) htg inX1 (htg _ wT_X1)
  obtain ⟨c2, iS2, hKn2⟩ := u_known (C := RX2) (T := TX2) (N := 2) (n := 2) htg inX2 (htg _ wT_X2)
  obtain ⟨c3, iS3, hKn3⟩ := u_known (C := RX4) (T := TX4) (N := 3) (n := 3) htg inX4 (htg _ wT_X4)
  obtain ⟨c4, iS4, hKn4⟩ := u_known (C := RX5) (T := TX5) (N := 2) (n := 2) htg inX5 (htg _ wT_X5)
  obtain ⟨c5, iS5, hKn5⟩ := u_known (C := RX6) (T := TX6) (N := 8) (n := 8) htg inX6 (htg _ wT_X6)
  obtain ⟨c6, iS6, hKn6⟩ := u_known (C := RX7) (T := TX7) (N := 11) (n := 11) htg inX7 (htg _ wT_X7)
  obtain ⟨c7, iS7, hKn7⟩ := u_known (C := RX8) (T := TX8) (N := 9) (n := 9) htg inX8 (htg _ wT_X8)
  obtain ⟨c8, iS8, hKn8⟩ := u_known (C := RX9) (T := TX9) (N := 45) (n := 45) htg inX9 (htg _ wT_X9)
  obtain ⟨dC, dI, hKc⟩ : ∃ (dC : Nat → ClassId) (dI : Nat → Nat → Nat), ∀ (k : Nat) (q : vw_C), vwCl[k]? = some q → u_Kn s q.1 q.2.1 q.2.2 (dC k) (dI k) := by
    refine ⟨fun k => match k with
      | 0 => c0
      | 1 => c1
      | 2 => c2
      | 3 => c3
      | 4 => c4
      | 5 => c5
      | 6 => c6
      | 7 => c7
      | _ => c8, fun k => match k with
      | 0 => iS0
      | 1 => iS1
      | 2 => iS2
      | 3 => iS3
      | 4 => iS4
      | 5 => iS5
      | 6 => iS6
      | 7 => iS7
      | _ => iS8, ?_⟩
    intro k q hq
    match k, hq with
    | 0, hq => cases hq; exact hKn0
    | 1, hq => cases hq; exact hKn1
    | 2, hq => cases hq; exact hKn2
    | 3, hq => cases hq; exact hKn3
    | 4, hq => cases hq; exact hKn4
    | 5, hq => cases hq; exact hKn5
    | 6, hq => cases hq; exact hKn6
    | 7, hq => cases hq; exact hKn7
    | 8, hq => cases hq; exact hKn8
    | k + 9, hq => simp [vwCl] at hq
  obtain ⟨cI, aI1, aI2⟩ := arrK (htg _ wA_I)
  obtain ⟨cJ, aJ1, aJ2⟩ := arrK (htg _ wA_J)
  obtain ⟨cZ, aZ1, aZ2⟩ := arrK (htg _ wA_Z)
  obtain ⟨cE, aE1, aE2⟩ := arrO (hts (Cond.arrayOver (.object RX1)) (tb_1 _ (List.mem_of_getElem? (i := 164) rfl)))
  obtain ⟨cC, aC1, aC2⟩ := arrO (hts (Cond.arrayOver (.object RX0)) (tb_1 _ (List.mem_of_getElem? (i := 166) rfl)))
  obtain ⟨g, hg⟩ : ∃ g : GP, g = ((dC, dI), cI, cJ, cZ, cE, cC) := ⟨_, rfl⟩
  have hK : va_K g.1 vwCl (tyl g) s := by
    subst hg
    refine ⟨hKc, fun k q hq => ?_⟩
    match k, hq with
    | 0, hq => cases hq; exact ⟨aI1, aI2⟩
    | 1, hq => cases hq; exact ⟨aJ1, aJ2⟩
    | 2, hq => cases hq; exact ⟨aZ1, aZ2⟩
    | 3, hq => cases hq; exact ⟨aE1, aE2⟩
    | 4, hq => cases hq; exact ⟨aC1, aC2⟩
    | k + 5, hq => simp [tyl] at hq
  clear hg
  have hZ : SF (fun q : Nat => s.heap.size ≤ q) s := by
    refine ⟨va_Nw.of rfl (hts _ wN_X8_44), ?_⟩
    obtain ⟨t, ht, hT⟩ := va_Tof (A := fun q : Nat => s.heap.size ≤ q) (tm := Term.static "Edits13$Kinds" "WIDER" "[I") (ty := .int) (N := 8) (f := fun k => .int (wid k)) (args := #[Value.ref b]) (s := s) (by decide) (hfl _ (by decide +kernel)) (va_eqt (z := 8) (hfl _ (by decide +kernel))) (fun j hj => by
      match j, hj with
      | 0, _ => exact va_eqt (z := 1) (hfl (Cond.eq (.elem (.static "Edits13$Kinds" "WIDER" "[I") (.int 0)) (.int 1)) (by decide +kernel))
      | 1, _ => exact va_eqt (z := 250) (hfl (Cond.eq (.elem (.static "Edits13$Kinds" "WIDER" "[I") (.int 1)) (.int 250)) (by decide +kernel))
      | 2, _ => exact va_eqt (z := 244) (hfl (Cond.eq (.elem (.static "Edits13$Kinds" "WIDER" "[I") (.int 2)) (.int 244)) (by decide +kernel))
      | 3, _ => exact va_eqt (z := 248) (hfl (Cond.eq (.elem (.static "Edits13$Kinds" "WIDER" "[I") (.int 3)) (.int 248)) (by decide +kernel))
      | 4, _ => exact va_eqt (z := 240) (hfl (Cond.eq (.elem (.static "Edits13$Kinds" "WIDER" "[I") (.int 4)) (.int 240)) (by decide +kernel))
      | 5, _ => exact va_eqt (z := 224) (hfl (Cond.eq (.elem (.static "Edits13$Kinds" "WIDER" "[I") (.int 5)) (.int 224)) (by decide +kernel))
      | 6, _ => exact va_eqt (z := 192) (hfl (Cond.eq (.elem (.static "Edits13$Kinds" "WIDER" "[I") (.int 6)) (.int 192)) (by decide +kernel))
      | 7, _ => exact va_eqt (z := 128) (hfl (Cond.eq (.elem (.static "Edits13$Kinds" "WIDER" "[I") (.int 7)) (.int 128)) (by decide +kernel))
      | k + 8, h => exact absurd h (by omega)) hnA
    exact ⟨t, va_Zof (args := #[Value.ref b]) (hts (Cond.laysStatic "Edits13$Kinds" "WIDER" "[I") (tb_2 _ (List.mem_of_getElem? (i := 221) rfl))) (htg _ wZ_X3) ht hnA, hT⟩
  have hN : nst s := ⟨va_Nw.of rfl (hts _ wN_X8_9), va_Nw.of rfl (hts _ wN_X2_11), va_AO.of (hts (Cond.arrayOver (.object RX1)) (tb_1 _ (List.mem_of_getElem? (i := 164) rfl))), va_AO.of (hts (Cond.arrayOver (.object RX0)) (tb_1 _ (List.mem_of_getElem? (i := 166) rfl)))⟩
  have C : Cx p s m #[Value.ref b] meth c cL_law 4 RL ret g := ⟨hx, hb, hml, hown, htg, hr, hlocks, hK⟩
  have hS : va_S (fun q : Nat => s.heap.size ≤ q) s.heap s.heap [] := va_S.rf
  have hP : va_P g.1 vwCl [] s.heap := fun k q h => by simp at h
  have hD : va_D (fun q : Nat => s.heap.size ≤ q) [] := ⟨fun i j p q h => by simp at h, fun k q h => by simp at h⟩
  have hl := lv_entry ([.ref b]) (n := 4) (Nat.le_of_ble_eq_true rfl)
  rw [lg_entry_eq]
  generalize (lg_sl ([.ref b]) ++ List.replicate (4 - (lg_sl ([.ref b])).length) Slot.unset).toArray = ls at hl ⊢
  have hl : lv_has ls 4 [(0, .ref b)] := hl
  refine va_new (D := g.1) (ci := 7) (fs := [.null, .null, .null, .null, .int 0, .null, .int 0, .null, .long 0]) (C := RX8) (T := TX8) (N := 9) C.1 C.2.1 C.2.2.2.2.1 inX8 tyX8 tyX8_ok C.2.2.2.1 (C.2.2.2.2.1 _ wC_L_7) (C.2.2.2.2.1 _ wT_X8) (C.2.2.2.2.1 _ wZ_X8) hK hP hD hS hA rfl (fun j hj => by
    match j, hj with
    | 0, _ => rfl
    | 1, _ => rfl
    | 2, _ => rfl
    | 3, _ => rfl
    | 4, _ => rfl
    | 5, _ => rfl
    | 6, _ => rfl
    | 7, _ => rfl
    | 8, _ => rfl
    | k + 9, h => exact absurd h (by omega)) (Nat.le_of_ble_eq_true rfl) (Nat.le_of_ble_eq_true rfl) dL_law_0 (fun q0 H hP hD hS => ?_)
  refine lv_dup C.1 C.2.1 dL_law_3 rfl ?_
  refine cCt (As := []) (rest := [.ref q0]) C (kX8_init [] q0) vX8_init wM_L_9 ⟨Nat.le_of_ble_eq_true rfl, Nat.le_of_ble_eq_true rfl⟩ hP hD hS hA hZ hN hl.1 rfl rfl (Nat.le_of_ble_eq_true rfl) dL_law_4 ⟨Nat.le_of_ble_eq_true rfl, Nat.le_of_ble_eq_true rfl⟩ (fun v1 H locs hp hPa hDa hSa => ?_)
  clear hP hD hS
  obtain ⟨rfl, hw1⟩ := hp
  have hP : va_P g.1 vwCl (tX8_init g v1) H := hPa
  have hD : va_D (fun q : Nat => s.heap.size ≤ q) (tX8_init g v1) := hDa
  have hS := hSa
  refine lv_astore_n (lv' := [(1, .ref (v1.1 0)), (0, .ref b)]) C.1 C.2.1 dL_law_7 rfl hl (by decide) rfl (fun ls hl => ?_)
  refine va_new (D := g.1) (ci := 8) (fs := [.int 0, .null, .null, .null, .null, .null, .null, .null, .null, .null, .null, .null, .null, .null, .null, .null, .int 0, .null, .null, .null, .null, .null, .null, .null, .null, .int 0, .null, .null, .int 0, .null, .null, .null, .null, .null, .null, .null, .null, .null, .null, .null, .null, .null, .null, .long 0, .long 0]) (C := RX9) (T := TX9) (N := 45) C.1 C.2.1 C.2.2.2.2.1 inX9 tyX9 tyX9_ok C.2.2.2.1 (C.2.2.2.2.1 _ wC_L_10) (C.2.2.2.2.1 _ wT_X9) (C.2.2.2.2.1 _ wZ_X9) hK hP hD hS hA rfl (fun j hj => by
    match j, hj with
    | 0, _ => rfl
    | 1, _ => rfl
    | 2, _ => rfl
    | 3, _ => rfl
    | 4, _ => rfl
    | 5, _ => rfl
    | 6, _ => rfl
    | 7, _ => rfl
    | 8, _ => rfl
    | 9, _ => rfl
    | 10, _ => rfl
    | 11, _ => rfl
    | 12, _ => rfl
    | 13, _ => rfl
    | 14, _ => rfl
    | 15, _ => rfl
    | 16, _ => rfl
    | 17, _ => rfl
    | 18, _ => rfl
    | 19, _ => rfl
    | 20, _ => rfl
    | 21, _ => rfl
    | 22, _ => rfl
    | 23, _ => rfl
    | 24, _ => rfl
    | 25, _ => rfl
    | 26, _ => rfl
    | 27, _ => rfl
    | 28, _ => rfl
    | 29, _ => rfl
    | 30, _ => rfl
    | 31, _ => rfl
    | 32, _ => rfl
    | 33, _ => rfl
    | 34, _ => rfl
    | 35, _ => rfl
    | 36, _ => rfl
    | 37, _ => rfl
    | 38, _ => rfl
    | 39, _ => rfl
    | 40, _ => rfl
    | 41, _ => rfl
    | 42, _ => rfl
    | 43, _ => rfl
    | 44, _ => rfl
    | k + 45, h => exact absurd h (by omega)) (Nat.le_of_ble_eq_true rfl) (Nat.le_of_ble_eq_true rfl) dL_law_8 (fun q9 H hP hD hS => ?_)
  refine lv_dup C.1 C.2.1 dL_law_11 rfl ?_
  refine cCt (As := []) (rest := [.ref q9]) C (kX9_init (tX8_init g v1) q9) vX9_init wM_L_12 ⟨Nat.le_of_ble_eq_true rfl, Nat.le_of_ble_eq_true rfl⟩ hP hD hS hA hZ hN hl.1 rfl rfl (Nat.le_of_ble_eq_true rfl) dL_law_12 ⟨Nat.le_of_ble_eq_true rfl, Nat.le_of_ble_eq_true rfl⟩ (fun v2 H locs hp hPa hDa hSa => ?_)
  clear hP hD hS
  obtain rfl := hp
  refine lv_astore_n (lv' := [(2, .ref (v2.1 0)), (1, .ref (v1.1 0)), (0, .ref b)]) C.1 C.2.1 dL_law_15 rfl hl (by decide) rfl (fun ls hl => ?_)
  refine lv_iconst (v := 0) C.1 C.2.1 dL_law_16 (by decide) ?_
  refine lv_istore_n (lv' := [(3, .int 0), (2, .ref (v2.1 0)), (1, .ref (v1.1 0)), (0, .ref b)]) C.1 C.2.1 dL_law_17 rfl hl (by decide) rfl (fun ls hl => ?_)
  have hP : va_P g.1 vwCl (cW g v1.1 (iniC (v1.1 23) v1.2) ++ mW g v2.1 iniM) H := hPa.sub [0, 1, 2, 10, 18, 20, 21, 22, 3, 4, 5, 6, 7, 8, 9, 11, 12, 13, 14, 15, 16, 17, 19, 23, 24, 25, 26, 27, 28, 29, 30, 31, 32, 33, 34, 35, 36, 37, 38, 39, 40, 41, 42, 43, 44, 45, 46, 47, 48, 49, 50, 51, 52, 53, 54, 55, 56, 57, 58, 59, 60, 61, 62, 63] rfl
  have hD : va_D (fun q : Nat => s.heap.size ≤ q) (cW g v1.1 (iniC (v1.1 23) v1.2) ++ mW g v2.1 iniM) := hDa.sub [0, 1, 2, 10, 18, 20, 21, 22, 3, 4, 5, 6, 7, 8, 9, 11, 12, 13, 14, 15, 16, 17, 19, 23, 24, 25, 26, 27, 28, 29, 30, 31, 32, 33, 34, 35, 36, 37, 38, 39, 40, 41, 42, 43, 44, 45, 46, 47, 48, 49, 50, 51, 52, 53, 54, 55, 56, 57, 58, 59, 60, 61, 62, 63] (by decide) rfl
  refine law_loop (Rl := Rl) (A := fun q : Nat => s.heap.size ≤ q) S hL C hX hbl hbA hA hZ (fun H locs ls cells slots h1 h2 hS => ?_) (L + 1) 0 (Nat.zero_le _) (by omega) _ _ (h0 (v1.1 23) v1.2 hw1) _ _ _ _ _ (by decide) (by decide) hP hD hSa (lv_sub hl [3, 2, 1, 0] rfl)
  refine va_forget (fun q hq => hS.2.2 q hq) ?_
  refine W.widen (k := 600000) (n := 7302250) h1 h2 ?_
  exact lw_ret (d0 := s.drawn) (Drawn.sameBut.refl s.drawn lw_cs) hx hb hr hlocks dL_law_1186
