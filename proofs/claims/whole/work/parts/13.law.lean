theorem P_left {D : va_G} {cl : List vw_C} {X Y : va_W} {H : Heap} (h : va_P D cl (X ++ Y) H) : va_P D cl X H := fun k q hq => h k q (by rw [List.getElem?_append_left (List.getElem?_eq_some_iff.mp hq).1]; exact hq)
theorem P_right {D : va_G} {cl : List vw_C} {X Y : va_W} {H : Heap} (h : va_P D cl (X ++ Y) H) : va_P D cl Y H := fun k q hq => h (X.length + k) q (by rw [List.getElem?_append_right (by omega)]; simpa using hq)
theorem D_left {A : Nat → Prop} {X Y : va_W} (h : va_D A (X ++ Y)) : va_D A X := ⟨fun i j p q hi hj e => h.1 i j p q (by rw [List.getElem?_append_left (List.getElem?_eq_some_iff.mp hi).1]; exact hi) (by rw [List.getElem?_append_left (List.getElem?_eq_some_iff.mp hj).1]; exact hj) e, fun k q hq => h.2 k q (by rw [List.getElem?_append_left (List.getElem?_eq_some_iff.mp hq).1]; exact hq)⟩
theorem at_right {X Y : va_W} {k : Nat} {q : Nat × va_E} (h : Y[k]? = some q) : (X ++ Y)[X.length + k]? = some q := by rw [List.getElem?_append_right (by omega)]; simpa using h
theorem at_left {X Y : va_W} {k : Nat} {q : Nat × va_E} (h : X[k]? = some q) : (X ++ Y)[k]? = some q := by rw [List.getElem?_append_left (List.getElem?_eq_some_iff.mp h).1]; exact h
theorem D_right {A : Nat → Prop} {X Y : va_W} (h : va_D A (X ++ Y)) : va_D A Y := ⟨fun i j p q hi hj e => by have := h.1 _ _ p q (at_right (X := X) hi) (at_right (X := X) hj) e; omega, fun k q hq => h.2 _ q (at_right (X := X) hq)⟩
theorem D_apart {A : Nat → Prop} {X Y : va_W} (h : va_D A (X ++ Y)) {i j : Nat} {p q : Nat × va_E} (hi : X[i]? = some p) (hj : Y[j]? = some q) : p.1 ≠ q.1 := by
  intro e
  have h1 := h.1 _ _ p q (at_left (Y := Y) hi) (at_right (X := X) hj) e
  have h2 := (List.getElem?_eq_some_iff.mp hi).1
  omega
theorem freeL {A : Nat → Prop} {X Y : va_W} {H0 H : Heap} {locs : List Loc} (hD : va_D A (X ++ Y)) (hS : va_S A H0 H locs) (hA : ∀ q, H0.size ≤ q → A q) : ∀ q, va_A X H.size q → A q := freeAll (D_left hD) hS hA
theorem freeR {A : Nat → Prop} {X Y : va_W} {H0 H : Heap} {locs : List Loc} (hD : va_D A (X ++ Y)) (hS : va_S A H0 H locs) (hA : ∀ q, H0.size ≤ q → A q) : ∀ q, va_A Y H.size q → A q := freeAll (D_right hD) hS hA
theorem frX {A : Nat → Prop} {D : va_G} {cl : List vw_C} {X Y X' : va_W} {H H1 : Heap} (hP : va_P D cl (X ++ Y) H) (hD : va_D A (X ++ Y)) (hk : ∀ q : Nat, q < H.size → ¬ va_A X H.size q → H1[q]? = H[q]?) (hF : ∀ q, va_A X H.size q → A q) (hP1 : va_P D cl X' H1) (hD1 : va_D (va_A X H.size) X') : va_P D cl (X' ++ Y) H1 ∧ va_D A (X' ++ Y) := by
  have apart : ∀ (k : Nat) (q : Nat × va_E), Y[k]? = some q → q.1 < H.size ∧ ¬ va_A X H.size q.1 := by
    intro k q hq
    have hl := (P_right hP k q hq).lt
    refine ⟨hl, ?_⟩
    rintro (⟨k2, e, h⟩ | h)
    · exact D_apart hD h hq rfl
    · omega
  refine ⟨va_P.app hP1 (fun k q hq => ((P_right hP) k q hq).kept (hk q.1 (apart k q hq).1 (apart k q hq).2)), va_D.app (hD1.weaken (fun k q _ h => hF q.1 h)) (D_right hD) (fun i j x y hx hy hxy => ?_)⟩
  exact (apart j y hy).2 (by rw [← hxy]; exact hD1.2 i x hx)
theorem frY {A : Nat → Prop} {D : va_G} {cl : List vw_C} {X Y Y' : va_W} {H H1 : Heap} (hP : va_P D cl (X ++ Y) H) (hD : va_D A (X ++ Y)) (hk : ∀ q : Nat, q < H.size → ¬ va_A Y H.size q → H1[q]? = H[q]?) (hF : ∀ q, va_A Y H.size q → A q) (hP1 : va_P D cl Y' H1) (hD1 : va_D (va_A Y H.size) Y') : va_P D cl (X ++ Y') H1 ∧ va_D A (X ++ Y') := by
  have apart : ∀ (k : Nat) (q : Nat × va_E), X[k]? = some q → q.1 < H.size ∧ ¬ va_A Y H.size q.1 := by
    intro k q hq
    have hl := (P_left hP k q hq).lt
    refine ⟨hl, ?_⟩
    rintro (⟨k2, e, h⟩ | h)
    · exact D_apart hD hq h rfl
    · omega
  refine ⟨va_P.app (fun k q hq => ((P_left hP) k q hq).kept (hk q.1 (apart k q hq).1 (apart k q hq).2)) hP1, va_D.app (D_left hD) (hD1.weaken (fun k q _ h => hF q.1 h)) (fun i j x y hx hy hxy => ?_)⟩
  exact (apart i x hx).2 (by rw [hxy]; exact hD1.2 j y hy)
section LawCalls
variable {p : Program} {l : Launch} {e : Env} {R : Room} {s : State} {m : MethodId} {args : Array Value} {below : List Frame} {meth : Method} {c : Code} {H : Heap} {locs : List Loc} {cells slots : Nat} {Q : State → Prop}
variable {cc : ByteArray} {nL : Nat} {own : String} {ret : Option FieldType} {g : GP} {pc : Nat} {ls : Array Slot} {A : Nat → Prop} {w : ST → va_W} {u u1 : ST} {mc ms : Nat}
variable {y : MethodName} {cy : ByteArray} {ny na f k idx b : Nat} {ry : Option FieldType} {As rest st : List Value} {Y0 X0 : va_W}

theorem lW_X {r1 : Int32} (C : Cx p s m args meth c cc nL own ret g) (hM : MWi l y cy ny ry f k mc ms (.ref b :: As) g w u r1 u1) (Y : YV y cy ny ry na) (hl : Cond.methodLink own idx y ∈ lw_g) (hR : f + 1 ≤ R.frames ∧ 8 + (ny + 11) + k ≤ R.locals) (hP : va_P g.1 vwCl (w u ++ Y0) H) (hD : va_D A (w u ++ Y0)) (hS : va_S A s.heap H locs) (hA : ∀ q, s.heap.size ≤ q → A q) (hZ : SF A s) (hrc : ∃ cell : Cell, H[b]? = some cell ∧ cell.vm.isStatics = false ∧ s.vm.findClass y.cls = some cell.cls) (hls : ls.size = nL) (hn : As.length = na) (hst : st = As.reverse ++ .ref b :: rest) (hroom : (rest.map fun v => v.category).sum ≤ 8) (hdg : decode cc pc = .ok (.invokevirtual idx, 3)) (hf : cells + mc ≤ R.cells ∧ slots + ms ≤ R.slots)
    (kk : ∀ (H1 : Heap) (locs1 : List Loc), va_P g.1 vwCl (w u1 ++ Y0) H1 → va_D A (w u1 ++ Y0) → va_S A s.heap H1 locs1 → W p l e R s m args below meth c H1 locs1 (cells + mc) (slots + ms) Q (F0 m (pc + 3) ls (.int r1 :: rest))) : W p l e R s m args below meth c H locs cells slots Q (F0 m pc ls st) := by
  have hF := freeL hD hS hA
  refine va_calli (va_runV (As := As) (rest := rest) ⟨C.1, C.2.1, C.2.2.1, C.2.2.2.1, C.2.2.2.2.1⟩ (hM H.size) ⟨mkCB C Y.1 hl hR, C.2.2.2.2.1 _ Y.2.1, C.2.2.2.2.1 _ Y.2.2⟩ ⟨blindW, hrc, fun U hU hW => ⟨rfl, by rw [hU], by rw [hU]; exact P_left hP, va_K.moved hW.alike C.2.2.2.2.2.2.2, (D_left hD).weaken (fun _ _ _ _ => trivial), SF.go hZ hS hU hW hF⟩⟩ rfl hn hls hst (lv_room hroom) hdg hf) hS (fun q _ h => hF q h) hF (fun r v t H1 locs1 ht hvm hw hB hz1 hk1 hS1 => ?_)
  obtain ⟨rfl, rfl⟩ := hw
  obtain ⟨b1, b2, b3⟩ := hB
  rw [ht] at b1
  obtain ⟨p1, d1⟩ := frX hP hD hk1 hF b1 b3
  exact kk H1 locs1 p1 d1 hS1

theorem lW_Y {r1 : Int32} (C : Cx p s m args meth c cc nL own ret g) (hM : MWi l y cy ny ry f k mc ms (.ref b :: As) g w u r1 u1) (Y : YV y cy ny ry na) (hl : Cond.methodLink own idx y ∈ lw_g) (hR : f + 1 ≤ R.frames ∧ 8 + (ny + 11) + k ≤ R.locals) (hP : va_P g.1 vwCl (X0 ++ w u) H) (hD : va_D A (X0 ++ w u)) (hS : va_S A s.heap H locs) (hA : ∀ q, s.heap.size ≤ q → A q) (hZ : SF A s) (hrc : ∃ cell : Cell, H[b]? = some cell ∧ cell.vm.isStatics = false ∧ s.vm.findClass y.cls = some cell.cls) (hls : ls.size = nL) (hn : As.length = na) (hst : st = As.reverse ++ .ref b :: rest) (hroom : (rest.map fun v => v.category).sum ≤ 8) (hdg : decode cc pc = .ok (.invokevirtual idx, 3)) (hf : cells + mc ≤ R.cells ∧ slots + ms ≤ R.slots)
    (kk : ∀ (H1 : Heap) (locs1 : List Loc), va_P g.1 vwCl (X0 ++ w u1) H1 → va_D A (X0 ++ w u1) → va_S A s.heap H1 locs1 → W p l e R s m args below meth c H1 locs1 (cells + mc) (slots + ms) Q (F0 m (pc + 3) ls (.int r1 :: rest))) : W p l e R s m args below meth c H locs cells slots Q (F0 m pc ls st) := by
  have hF := freeR hD hS hA
  refine va_calli (va_runV (As := As) (rest := rest) ⟨C.1, C.2.1, C.2.2.1, C.2.2.2.1, C.2.2.2.2.1⟩ (hM H.size) ⟨mkCB C Y.1 hl hR, C.2.2.2.2.1 _ Y.2.1, C.2.2.2.2.1 _ Y.2.2⟩ ⟨blindW, hrc, fun U hU hW => ⟨rfl, by rw [hU], by rw [hU]; exact P_right hP, va_K.moved hW.alike C.2.2.2.2.2.2.2, (D_right hD).weaken (fun _ _ _ _ => trivial), SF.go hZ hS hU hW hF⟩⟩ rfl hn hls hst (lv_room hroom) hdg hf) hS (fun q _ h => hF q h) hF (fun r v t H1 locs1 ht hvm hw hB hz1 hk1 hS1 => ?_)
  obtain ⟨rfl, rfl⟩ := hw
  obtain ⟨b1, b2, b3⟩ := hB
  rw [ht] at b1
  obtain ⟨p1, d1⟩ := frY hP hD hk1 hF b1 b3
  exact kk H1 locs1 p1 d1 hS1

theorem lN_X {x : NR} (C : Cx p s m args meth c cc nL own ret g) (hM : MNi l y cy ny ry f k mc ms (.ref b :: As) g w u x) (Y : YV y cy ny ry na) (hl : Cond.methodLink own idx y ∈ lw_g) (hR : f + 1 ≤ R.frames ∧ 8 + (ny + 11) + k ≤ R.locals) (hP : va_P g.1 vwCl (w u ++ Y0) H) (hD : va_D A (w u ++ Y0)) (hS : va_S A s.heap H locs) (hA : ∀ q, s.heap.size ≤ q → A q) (hZ : SF A s) (hrc : ∃ cell : Cell, H[b]? = some cell ∧ cell.vm.isStatics = false ∧ s.vm.findClass y.cls = some cell.cls) (hls : ls.size = nL) (hn : As.length = na) (hst : st = As.reverse ++ .ref b :: rest) (hroom : (rest.map fun v => v.category).sum ≤ 8) (hdg : decode cc pc = .ok (.invokevirtual idx, 3)) (hf : cells + mc ≤ R.cells ∧ slots + ms ≤ R.slots)
    (kk : ∀ (r1 : Int32) (u1 : ST) (H1 : Heap) (locs1 : List Loc), poN u x r1 u1 → va_P g.1 vwCl (w u1 ++ Y0) H1 → va_D A (w u1 ++ Y0) → va_S A s.heap H1 locs1 → W p l e R s m args below meth c H1 locs1 (cells + mc) (slots + ms) Q (F0 m (pc + 3) ls (.int r1 :: rest))) : W p l e R s m args below meth c H locs cells slots Q (F0 m pc ls st) := by
  have hF := freeL hD hS hA
  refine va_calli (va_runV (As := As) (rest := rest) ⟨C.1, C.2.1, C.2.2.1, C.2.2.2.1, C.2.2.2.2.1⟩ (hM H.size) ⟨mkCB C Y.1 hl hR, C.2.2.2.2.1 _ Y.2.1, C.2.2.2.2.1 _ Y.2.2⟩ ⟨blindW, hrc, fun U hU hW => ⟨rfl, by rw [hU], by rw [hU]; exact P_left hP, va_K.moved hW.alike C.2.2.2.2.2.2.2, (D_left hD).weaken (fun _ _ _ _ => trivial), SF.go hZ hS hU hW hF⟩⟩ rfl hn hls hst (lv_room hroom) hdg hf) hS (fun q _ h => hF q h) hF (fun r v t H1 locs1 ht hvm hw hB hz1 hk1 hS1 => ?_)
  obtain ⟨b1, b2, b3⟩ := hB
  rw [ht] at b1
  obtain ⟨p1, d1⟩ := frX hP hD hk1 hF b1 b3
  exact kk r v H1 locs1 hw p1 d1 hS1

end LawCalls
theorem scr_in {i k L : Nat} (h : i + k < L) (hL : L ≤ 3584) : vp_in (nI i + nI k) L := by rw [nI_add]; exact vp_in_nI h (by omega)
theorem scr_in0 {i L : Nat} (h : i < L) (hL : L ≤ 3584) : vp_in (nI i) L := vp_in_nI h (by omega)
theorem lg_self (x : Int64) : lg_cmp x x = 0 := by simp [lg_cmp]
theorem lw_in {L k : Nat} (hL : L ≤ 3584) (hk : 7 * k ≤ L) (h : ¬ (Int32.ofNat L - 7 < nI (7 * k))) : 7 * k + 7 ≤ L := by
  have e1 : (nI L - nI 7).toInt = (L : Int) - 7 := by have := pk_sub_toInt (a := L) (b := 7) (by omega) (by omega); simpa using this
  have e2 : (nI (7 * k)).toInt = ((7 * k : Nat) : Int) := nI_toInt (by omega)
  rw [Int32.lt_iff_toInt_lt] at h
  have e3 : (Int32.ofNat L - 7) = nI L - nI 7 := rfl
  rw [e3, e1, e2] at h
  omega
theorem nI_7 (k : Nat) : nI (7 * k) + 7 = nI (7 * (k + 1)) := by
  have : (7 : Int32) = nI 7 := rfl
  rw [this, nI_add]
  congr 1
def sim_type (Rl : ST → ST → Prop) : Prop := ∀ (u z : ST) (x1 : Int32) (x2 : Int32) (x3 : Int32) , Rl u z → (x1 = 0 ∨ x1 = 1) → ∃ x r z1, fX8_type u x1 x2 x3 = some x ∧ okN u x ∧ fX9_type z x1 x2 x3 = some (r, z1) ∧ ∀ r1 u1, poN u x r1 u1 → r1 = r ∧ Rl u1 z1
def sim_above (Rl : ST → ST → Prop) : Prop := ∀ (u z : ST) (x1 : Int32) (x2 : Int32) , Rl u z → ∃ x r z1, fX8_above u x1 x2 = some x ∧ okN u x ∧ fX9_above z x1 x2 = some (r, z1) ∧ ∀ r1 u1, poN u x r1 u1 → r1 = r ∧ Rl u1 z1
def sim_face (Rl : ST → ST → Prop) : Prop := ∀ (u z : ST) (x1 : Int32) (x2 : Int32) , Rl u z → ∃ x r z1, fX8_face u x1 x2 = some x ∧ okN u x ∧ fX9_face z x1 x2 = some (r, z1) ∧ ∀ r1 u1, poN u x r1 u1 → r1 = r ∧ Rl u1 z1
def sim_unface (Rl : ST → ST → Prop) : Prop := ∀ (u z : ST) (x1 : Int32) (x2 : Int32) , Rl u z → ∃ x r z1, fX8_unface u x1 x2 = some x ∧ okN u x ∧ fX9_unface z x1 x2 = some (r, z1) ∧ ∀ r1 u1, poN u x r1 u1 → r1 = r ∧ Rl u1 z1
def sim_marks (Rl : ST → ST → Prop) : Prop := ∀ (u z : ST) (x1 : Int32) (x2 : Int32) , Rl u z → ∃ x r z1, fX8_marks u x1 x2 = some x ∧ okN u x ∧ fX9_marks z x1 x2 = some (r, z1) ∧ ∀ r1 u1, poN u x r1 u1 → r1 = r ∧ Rl u1 z1
def sim_field (Rl : ST → ST → Prop) : Prop := ∀ (u z : ST) (x1 : Int32) (x2 : Int32) (x3 : Int32) (x4 : Int32) (x5 : Int64) , Rl u z → ∃ x r z1, fX8_field u x1 x2 x3 x4 x5 = some x ∧ okN u x ∧ fX9_field z x1 x2 x3 x4 x5 = some (r, z1) ∧ ∀ r1 u1, poN u x r1 u1 → r1 = r ∧ Rl u1 z1
def sim_method (Rl : ST → ST → Prop) : Prop := ∀ (u z : ST) (x1 : Int32) (x2 : Int32) (x3 : Int32) (x4 : Int32) (x5 : Int32) (x6 : Int32) , Rl u z → ∃ x r z1, fX8_method u x1 x2 x3 x4 x5 x6 = some x ∧ okN u x ∧ fX9_method z x1 x2 x3 x4 x5 x6 = some (r, z1) ∧ ∀ r1 u1, poN u x r1 u1 → r1 = r ∧ Rl u1 z1
def sim_drop (Rl : ST → ST → Prop) : Prop := ∀ (u z : ST) (x1 : Int32) , Rl u z → ∃ x r z1, fX8_drop u x1 = some x ∧ okN u x ∧ fX9_drop z x1 = some (r, z1) ∧ ∀ r1 u1, poN u x r1 u1 → r1 = r ∧ Rl u1 z1
def sim_mark (Rl : ST → ST → Prop) : Prop := ∀ (u z : ST) (x1 : Int32) (x2 : Int32) , Rl u z → ∃ x r z1, fX8_mark u x1 x2 = some x ∧ okN u x ∧ fX9_mark z x1 x2 = some (r, z1) ∧ ∀ r1 u1, poN u x r1 u1 → r1 = r ∧ Rl u1 z1
def sim_set (Rl : ST → ST → Prop) : Prop := ∀ (u z : ST) (x1 : Int32) (x2 : Int64) , Rl u z → ∃ x r z1, fX8_set u x1 x2 = some x ∧ okN u x ∧ fX9_set z x1 x2 = some (r, z1) ∧ ∀ r1 u1, poN u x r1 u1 → r1 = r ∧ Rl u1 z1
def sim_retype (Rl : ST → ST → Prop) : Prop := ∀ (u z : ST) (x1 : Int32) (x2 : Int32) (x3 : Int64) , Rl u z → ∃ x r z1, fX8_retype u x1 x2 x3 = some x ∧ okN u x ∧ fX9_retype z x1 x2 x3 = some (r, z1) ∧ ∀ r1 u1, poN u x r1 u1 → r1 = r ∧ Rl u1 z1
def sim_move (Rl : ST → ST → Prop) : Prop := ∀ (u z : ST) (x1 : Int32) (x2 : Int32) , Rl u z → ∃ x r z1, fX8_move u x1 x2 = some x ∧ okN u x ∧ fX9_move z x1 x2 = some (r, z1) ∧ ∀ r1 u1, poN u x r1 u1 → r1 = r ∧ Rl u1 z1
def sim_undo (Rl : ST → ST → Prop) : Prop := ∀ (u z : ST) , Rl u z → ∃ r u1 z1, fX8_undo u = some (r, u1) ∧ fX9_undo z = some (r, z1) ∧ Rl u1 z1
def sim_get (Rl : ST → ST → Prop) : Prop := ∀ (u z : ST) (x1 : Int32) (x2 : Int32) , Rl u z → ∃ x r z1, fX8_get u x1 x2 = some x ∧ okN u x ∧ fX9_get z x1 x2 = some (r, z1) ∧ ∀ r1 u1, poN u x r1 u1 → r1 = r ∧ Rl u1 z1
def sim_call (Rl : ST → ST → Prop) : Prop := ∀ (u z : ST) (x1 : Int32) (x2 : Int32) (x3 : Int32) (x4 : Int32) , Rl u z → ∃ x r z1, fX8_call u x1 x2 x3 x4 = some x ∧ okN u x ∧ fX9_call z x1 x2 x3 x4 = some (r, z1) ∧ ∀ r1 u1, poN u x r1 u1 → r1 = r ∧ Rl u1 z1
def sim_make (Rl : ST → ST → Prop) : Prop := ∀ (u z : ST) (x1 : Int32) , Rl u z → ∃ x r z1, fX8_make u x1 = some x ∧ okN u x ∧ fX9_make z x1 = some (r, z1) ∧ ∀ r1 u1, poN u x r1 u1 → r1 = r ∧ Rl u1 z1
def sim_meet (Rl : ST → ST → Prop) : Prop := ∀ (u z : ST) (x1 : Int32) (x2 : Int32) , Rl u z → ∃ r u1 z1, fX8_meet u x1 x2 = some (r, u1) ∧ fX9_meet z x1 x2 = some (r, z1) ∧ Rl u1 z1
def sim_asked (Rl : ST → ST → Prop) : Prop := ∀ (u z : ST) , Rl u z → ∃ r, fX8_asked u = some r ∧ fX9_asked z = some r
def sim_anew (Rl : ST → ST → Prop) : Prop := ∀ (u z : ST) (x1 : Int32) (x2 : Int32) , Rl u z → ∃ r u1 z1, fX8_anew u x1 x2 = some (r, u1) ∧ fX9_anew z x1 x2 = some (r, z1) ∧ Rl u1 z1
def sim_culprit (Rl : ST → ST → Prop) : Prop := ∀ (u z : ST) (x1 : Int32) (x2 : Int32) , Rl u z → ∃ r u1 z1, fX8_culprit u x1 x2 = some (r, u1) ∧ fX9_culprit z x1 x2 = some (r, z1) ∧ Rl u1 z1
def sim_caller (Rl : ST → ST → Prop) : Prop := ∀ (u z : ST) (x1 : Int32) (x2 : Int32) , Rl u z → ∃ r, fX8_caller u x1 x2 = some r ∧ fX9_caller z x1 x2 = some r
def sim_told (Rl : ST → ST → Prop) : Prop := ∀ (u z : ST) (x1 : Int32) (x2 : Int32) , Rl u z → ∃ r, fX8_told u x1 x2 = some r ∧ fX9_told z x1 x2 = some r
def sim_below (Rl : ST → ST → Prop) : Prop := ∀ (u z : ST) (x1 : Int32) (x2 : Int32) , Rl u z → ∃ r z1, fX8_below u x1 x2 = some r ∧ fX9_below z x1 x2 = some (r, z1) ∧ Rl u z1
def sim_member (Rl : ST → ST → Prop) : Prop := ∀ (u z : ST) (x1 : Int32) (x2 : Int32) , Rl u z → ∃ r, fX8_member u x1 x2 = some r ∧ fX9_member z x1 x2 = some r
def sim_selected (Rl : ST → ST → Prop) : Prop := ∀ (u z : ST) (x1 : Int32) (x2 : Int32) , Rl u z → ∃ r z1, fX8_selected u x1 x2 = some r ∧ fX9_selected z x1 x2 = some (r, z1) ∧ Rl u z1
def sim_count (Rl : ST → ST → Prop) : Prop := ∀ (u z : ST) (x1 : Int32) , Rl u z → ∃ r, fX8_count u x1 = some r ∧ fX9_count z x1 = some r
def sim_digest (Rl : ST → ST → Prop) : Prop := ∀ (u z : ST) , Rl u z → ∃ r, fX8_digest u = some r ∧ fX9_digest z = some r
def Sims (Rl : ST → ST → Prop) : Prop := sim_type Rl ∧ sim_above Rl ∧ sim_face Rl ∧ sim_unface Rl ∧ sim_marks Rl ∧ sim_field Rl ∧ sim_method Rl ∧ sim_drop Rl ∧ sim_mark Rl ∧ sim_set Rl ∧ sim_retype Rl ∧ sim_move Rl ∧ sim_undo Rl ∧ sim_get Rl ∧ sim_call Rl ∧ sim_make Rl ∧ sim_meet Rl ∧ sim_asked Rl ∧ sim_anew Rl ∧ sim_culprit Rl ∧ sim_caller Rl ∧ sim_told Rl ∧ sim_below Rl ∧ sim_member Rl ∧ sim_selected Rl ∧ sim_count Rl ∧ sim_digest Rl
set_option maxRecDepth 100000 in
set_option maxHeartbeats 16000000 in
theorem law_loop {p : Program} {l : Launch} {e : Env} {s : State} {m : MethodId} {below : List Frame} {meth : Method} {c : Code} {g : GP} {b L : Nat} {xs : Nat → Int32} {adc adm : Nat → Nat} {Rl : ST → ST → Prop} {Q : State → Prop} {A : Nat → Prop} (S : Sims Rl) (hL : L ≤ 3584) (C : Cx p s m #[Value.ref b] meth c cL_law 4 RL ret g) (hX : va_X b L xs s s.heap) (hbl : b < s.heap.size) (hbA : ¬ A b) (hA : ∀ q, s.heap.size ≤ q → A q) (hZ : SF A s)
    (hret : ∀ (H : Heap) (locs : List Loc) (ls : Array Slot) (cells slots : Nat), cells ≤ 600000 → slots ≤ 7302250 → va_S A s.heap H locs → W p l e room_1 s m #[Value.ref b] below meth c H locs cells slots Q (F0 m 1186 ls [.int 1])) :
    ∀ (n k : Nat), 7 * k ≤ L → L < 7 * k + 7 * n → ∀ (u z : ST), Rl u z → ∀ (H : Heap) (locs : List Loc) (ls : Array Slot) (cells slots : Nat), cells ≤ 100 + k → slots ≤ 20000 + 13 * k → va_P g.1 vwCl (cW g adc u ++ mW g adm z) H → va_D A (cW g adc u ++ mW g adm z) → va_S A s.heap H locs → lv_has ls 4 [(0, .ref b), (1, .ref (adc 0)), (2, .ref (adm 0)), (3, .int (nI (7 * k)))] → W p l e room_1 s m #[Value.ref b] below meth c H locs cells slots Q (F0 m 18 ls []) := by
  obtain ⟨S0, S1, S2, S3, S4, S5, S6, S7, S8, S9, S10, S11, S12, S13, S14, S15, S16, S17, S18, S19, S20, S21, S22, S23, S24, S25, S26⟩ := S
  intro n
  induction n with
  | zero => intro k h1 h2; omega
  | succ n ih =>
    intro k hk hkn u z hRl H locs ls cells slots hc hs hP hD hS hl
    have hstep : ∀ (u z : ST), Rl u z → ∀ (H : Heap) (locs : List Loc) (ls : Array Slot) (cells slots : Nat), (cells ≤ 100 + (k + 1) ∧ 7 * k + 7 ≤ L) → slots ≤ 20000 + 13 * (k + 1) → va_P g.1 vwCl (cW g adc u ++ mW g adm z) H → va_D A (cW g adc u ++ mW g adm z) → va_S A s.heap H locs → lv_has ls 4 [(0, .ref b), (1, .ref (adc 0)), (2, .ref (adm 0)), (3, .int (nI (7 * k)))] → W p l e room_1 s m #[Value.ref b] below meth c H locs cells slots Q (F0 m 1179 ls []) := by
      intro u z hRl H locs ls cells slots hc hs hP hD hS hl
      refine lv_iinc (v := nI (7 * (k + 1))) (lv' := [(3, .int (nI (7 * (k + 1)))), (0, .ref b), (1, .ref (adc 0)), (2, .ref (adm 0))]) C.1 C.2.1 dL_law_1179 hl (k := 3) rfl (nI_7 k) (by decide) rfl (fun ls hl => ?_)
      refine lv_goto (tgt := 18) C.1 C.2.1 dL_law_1182 (by decide) ?_
      exact ih (k + 1) (by omega) (by omega) u z hRl H locs ls cells slots hc.1 hs hP hD hS (lv_sub hl [1, 2, 3, 0] rfl)
    refine lv_iload_n C.1 C.2.1 dL_law_18 rfl (lv_at hl 3 rfl) ?_
    refine lv_aload_n C.1 C.2.1 dL_law_19 rfl (lv_at hl 0 rfl) ?_
    refine va_slen C.1 C.2.1 hX hbl hbA hS dL_law_20 ?_
    refine lv_bipush (v := 7) C.1 C.2.1 dL_law_21 (by decide) ?_
    refine lv_isub C.1 C.2.1 dL_law_23 ?_
    refine lv_icmp_gt (tgt := 1185) C.1 C.2.1 dL_law_24 (by decide) (fun c0 => ?_) (fun c0 => ?_)
    · refine lv_iconst (v := 1) C.1 C.2.1 dL_law_1185 (by decide) ?_
      exact hret H locs ls cells slots (by omega) (by omega) hS
    have h7 := lw_in hL hk c0
    refine lv_aload_n C.1 C.2.1 dL_law_27 rfl (lv_at hl 0 rfl) ?_
    refine lv_iload_n C.1 C.2.1 dL_law_28 rfl (lv_at hl 3 rfl) ?_
    refine va_sld C.1 C.2.1 hX hbl hbA hS (scr_in0 (by omega) hL) dL_law_29 ?_
    refine lv_bipush (v := 31) C.1 C.2.1 dL_law_30 (by decide) ?_
    refine lv_iand C.1 C.2.1 dL_law_32 ?_
    refine lv_topi (fun sw esw => ?_)
    by_cases d0 : sw = 0
    · have e9 : sw.toInt = 0 := by rw [d0]; rfl
      refine lv_tableIn (off := 123) (tgt := 156) C.1 C.2.1 dL_law_33 (by rw [e9]; decide) (by rw [e9]; decide) (by rw [e9]; rfl) (by decide) ?_
      refine lv_aload_n C.1 C.2.1 dL_law_156 rfl (lv_at hl 1 rfl) ?_
      refine lv_aload_n C.1 C.2.1 dL_law_157 rfl (lv_at hl 0 rfl) ?_
      refine lv_iload_n C.1 C.2.1 dL_law_158 rfl (lv_at hl 3 rfl) ?_
      refine lv_iconst (v := 1) C.1 C.2.1 dL_law_159 (by decide) ?_
      refine lv_iadd C.1 C.2.1 dL_law_160 ?_
      refine va_sld C.1 C.2.1 hX hbl hbA hS (scr_in (k := 1) (by omega) hL) dL_law_161 ?_
      refine lv_if_eq (tgt := 169) C.1 C.2.1 dL_law_162 (by decide) (fun c1 => ?_) (fun c1 => ?_)
      · refine lv_iconst (v := 0) C.1 C.2.1 dL_law_169 (by decide) ?_
        refine lv_aload_n C.1 C.2.1 dL_law_170 rfl (lv_at hl 0 rfl) ?_
        refine lv_iload_n C.1 C.2.1 dL_law_171 rfl (lv_at hl 3 rfl) ?_
        refine lv_iconst (v := 2) C.1 C.2.1 dL_law_172 (by decide) ?_
        refine lv_iadd C.1 C.2.1 dL_law_173 ?_
        refine va_sld C.1 C.2.1 hX hbl hbA hS (scr_in (k := 2) (by omega) hL) dL_law_174 ?_
        refine lv_aload_n C.1 C.2.1 dL_law_175 rfl (lv_at hl 0 rfl) ?_
        refine lv_iload_n C.1 C.2.1 dL_law_176 rfl (lv_at hl 3 rfl) ?_
        refine lv_iconst (v := 3) C.1 C.2.1 dL_law_177 (by decide) ?_
        refine lv_iadd C.1 C.2.1 dL_law_178 ?_
        refine va_sld C.1 C.2.1 hX hbl hbA hS (scr_in (k := 3) (by omega) hL) dL_law_179 ?_
        obtain ⟨xx, rr, z1, ha, hok, hb2, hcl⟩ := S0 u z 0 (xs (((nI (7 * k)) + 2)).toNatClampNeg) (xs (((nI (7 * k)) + 3)).toNatClampNeg) hRl (Or.inl rfl)
        refine lN_X (As := [.int 0, .int (xs (((nI (7 * k)) + 2)).toNatClampNeg), .int (xs (((nI (7 * k)) + 3)).toNatClampNeg)]) (rest := []) (mc := 1) (ms := 7) C (mX8_type ha hok) vX8_type wM_L_13 ⟨Nat.le_of_ble_eq_true rfl, Nat.le_of_ble_eq_true rfl⟩ hP hD hS hA hZ (rcc_X8 C (P_left hP)) hl.1 rfl rfl (Nat.le_of_ble_eq_true rfl) dL_law_180 ⟨by show _ ≤ 600000; omega, by show _ ≤ 7302250; omega⟩ (fun r1 u1 H locs hp hP hD hS => ?_)
        obtain ⟨er, hRl1⟩ := hcl r1 u1 hp
        refine lv_aload_n C.1 C.2.1 dL_law_183 rfl (lv_at hl 2 rfl) ?_
        refine lv_aload_n C.1 C.2.1 dL_law_184 rfl (lv_at hl 0 rfl) ?_
        refine lv_iload_n C.1 C.2.1 dL_law_185 rfl (lv_at hl 3 rfl) ?_
        refine lv_iconst (v := 1) C.1 C.2.1 dL_law_186 (by decide) ?_
        refine lv_iadd C.1 C.2.1 dL_law_187 ?_
        refine va_sld C.1 C.2.1 hX hbl hbA hS (scr_in (k := 1) (by omega) hL) dL_law_188 ?_
        refine lv_if_eq (tgt := 196) C.1 C.2.1 dL_law_189 (by decide) (fun c2 => ?_) (fun c2 => ?_)
        · refine lv_iconst (v := 0) C.1 C.2.1 dL_law_196 (by decide) ?_
          refine lv_aload_n C.1 C.2.1 dL_law_197 rfl (lv_at hl 0 rfl) ?_
          refine lv_iload_n C.1 C.2.1 dL_law_198 rfl (lv_at hl 3 rfl) ?_
          refine lv_iconst (v := 2) C.1 C.2.1 dL_law_199 (by decide) ?_
          refine lv_iadd C.1 C.2.1 dL_law_200 ?_
          refine va_sld C.1 C.2.1 hX hbl hbA hS (scr_in (k := 2) (by omega) hL) dL_law_201 ?_
          refine lv_aload_n C.1 C.2.1 dL_law_202 rfl (lv_at hl 0 rfl) ?_
          refine lv_iload_n C.1 C.2.1 dL_law_203 rfl (lv_at hl 3 rfl) ?_
          refine lv_iconst (v := 3) C.1 C.2.1 dL_law_204 (by decide) ?_
          refine lv_iadd C.1 C.2.1 dL_law_205 ?_
          refine va_sld C.1 C.2.1 hX hbl hbA hS (scr_in (k := 3) (by omega) hL) dL_law_206 ?_
          refine lW_Y (As := [.int 0, .int (xs (((nI (7 * k)) + 2)).toNatClampNeg), .int (xs (((nI (7 * k)) + 3)).toNatClampNeg)]) (rest := [.int r1]) (mc := 0) (ms := 0) C (mX9_type hb2) vX9_type wM_L_17 ⟨Nat.le_of_ble_eq_true rfl, Nat.le_of_ble_eq_true rfl⟩ hP hD hS hA hZ (rcm_X9 C (P_right hP)) hl.1 rfl rfl (Nat.le_of_ble_eq_true rfl) dL_law_207 ⟨by show _ ≤ 600000; omega, by show _ ≤ 7302250; omega⟩ (fun H locs hP hD hS => ?_)
          refine lv_icmp_eq (tgt := 1179) C.1 C.2.1 dL_law_210 (by decide) (fun c9 => ?_) (fun c9 => ?_)
          · exact hstep u1 z1 hRl1 _ _ _ _ _ (by omega) (by omega) hP hD hS hl
          · exact absurd er c9
        · exact absurd c1 c2
      · refine lv_iconst (v := 1) C.1 C.2.1 dL_law_165 (by decide) ?_
        refine lv_goto (tgt := 170) C.1 C.2.1 dL_law_166 (by decide) ?_
        refine lv_aload_n C.1 C.2.1 dL_law_170 rfl (lv_at hl 0 rfl) ?_
        refine lv_iload_n C.1 C.2.1 dL_law_171 rfl (lv_at hl 3 rfl) ?_
        refine lv_iconst (v := 2) C.1 C.2.1 dL_law_172 (by decide) ?_
        refine lv_iadd C.1 C.2.1 dL_law_173 ?_
        refine va_sld C.1 C.2.1 hX hbl hbA hS (scr_in (k := 2) (by omega) hL) dL_law_174 ?_
        refine lv_aload_n C.1 C.2.1 dL_law_175 rfl (lv_at hl 0 rfl) ?_
        refine lv_iload_n C.1 C.2.1 dL_law_176 rfl (lv_at hl 3 rfl) ?_
        refine lv_iconst (v := 3) C.1 C.2.1 dL_law_177 (by decide) ?_
        refine lv_iadd C.1 C.2.1 dL_law_178 ?_
        refine va_sld C.1 C.2.1 hX hbl hbA hS (scr_in (k := 3) (by omega) hL) dL_law_179 ?_
        obtain ⟨xx, rr, z1, ha, hok, hb2, hcl⟩ := S0 u z 1 (xs (((nI (7 * k)) + 2)).toNatClampNeg) (xs (((nI (7 * k)) + 3)).toNatClampNeg) hRl (Or.inr rfl)
        refine lN_X (As := [.int 1, .int (xs (((nI (7 * k)) + 2)).toNatClampNeg), .int (xs (((nI (7 * k)) + 3)).toNatClampNeg)]) (rest := []) (mc := 1) (ms := 7) C (mX8_type ha hok) vX8_type wM_L_13 ⟨Nat.le_of_ble_eq_true rfl, Nat.le_of_ble_eq_true rfl⟩ hP hD hS hA hZ (rcc_X8 C (P_left hP)) hl.1 rfl rfl (Nat.le_of_ble_eq_true rfl) dL_law_180 ⟨by show _ ≤ 600000; omega, by show _ ≤ 7302250; omega⟩ (fun r1 u1 H locs hp hP hD hS => ?_)
        obtain ⟨er, hRl1⟩ := hcl r1 u1 hp
        refine lv_aload_n C.1 C.2.1 dL_law_183 rfl (lv_at hl 2 rfl) ?_
        refine lv_aload_n C.1 C.2.1 dL_law_184 rfl (lv_at hl 0 rfl) ?_
        refine lv_iload_n C.1 C.2.1 dL_law_185 rfl (lv_at hl 3 rfl) ?_
        refine lv_iconst (v := 1) C.1 C.2.1 dL_law_186 (by decide) ?_
        refine lv_iadd C.1 C.2.1 dL_law_187 ?_
        refine va_sld C.1 C.2.1 hX hbl hbA hS (scr_in (k := 1) (by omega) hL) dL_law_188 ?_
        refine lv_if_eq (tgt := 196) C.1 C.2.1 dL_law_189 (by decide) (fun c2 => ?_) (fun c2 => ?_)
        · exact absurd c2 c1
        · refine lv_iconst (v := 1) C.1 C.2.1 dL_law_192 (by decide) ?_
          refine lv_goto (tgt := 197) C.1 C.2.1 dL_law_193 (by decide) ?_
          refine lv_aload_n C.1 C.2.1 dL_law_197 rfl (lv_at hl 0 rfl) ?_
          refine lv_iload_n C.1 C.2.1 dL_law_198 rfl (lv_at hl 3 rfl) ?_
          refine lv_iconst (v := 2) C.1 C.2.1 dL_law_199 (by decide) ?_
          refine lv_iadd C.1 C.2.1 dL_law_200 ?_
          refine va_sld C.1 C.2.1 hX hbl hbA hS (scr_in (k := 2) (by omega) hL) dL_law_201 ?_
          refine lv_aload_n C.1 C.2.1 dL_law_202 rfl (lv_at hl 0 rfl) ?_
          refine lv_iload_n C.1 C.2.1 dL_law_203 rfl (lv_at hl 3 rfl) ?_
          refine lv_iconst (v := 3) C.1 C.2.1 dL_law_204 (by decide) ?_
          refine lv_iadd C.1 C.2.1 dL_law_205 ?_
          refine va_sld C.1 C.2.1 hX hbl hbA hS (scr_in (k := 3) (by omega) hL) dL_law_206 ?_
          refine lW_Y (As := [.int 1, .int (xs (((nI (7 * k)) + 2)).toNatClampNeg), .int (xs (((nI (7 * k)) + 3)).toNatClampNeg)]) (rest := [.int r1]) (mc := 0) (ms := 0) C (mX9_type hb2) vX9_type wM_L_17 ⟨Nat.le_of_ble_eq_true rfl, Nat.le_of_ble_eq_true rfl⟩ hP hD hS hA hZ (rcm_X9 C (P_right hP)) hl.1 rfl rfl (Nat.le_of_ble_eq_true rfl) dL_law_207 ⟨by show _ ≤ 600000; omega, by show _ ≤ 7302250; omega⟩ (fun H locs hP hD hS => ?_)
          refine lv_icmp_eq (tgt := 1179) C.1 C.2.1 dL_law_210 (by decide) (fun c9 => ?_) (fun c9 => ?_)
          · exact hstep u1 z1 hRl1 _ _ _ _ _ (by omega) (by omega) hP hD hS hl
          · exact absurd er c9
    by_cases d1 : sw = 1
    · have e9 : sw.toInt = 1 := by rw [d1]; rfl
      refine lv_tableIn (off := 182) (tgt := 215) C.1 C.2.1 dL_law_33 (by rw [e9]; decide) (by rw [e9]; decide) (by rw [e9]; rfl) (by decide) ?_
      refine lv_aload_n C.1 C.2.1 dL_law_215 rfl (lv_at hl 1 rfl) ?_
      refine lv_aload_n C.1 C.2.1 dL_law_216 rfl (lv_at hl 0 rfl) ?_
      refine lv_iload_n C.1 C.2.1 dL_law_217 rfl (lv_at hl 3 rfl) ?_
      refine lv_iconst (v := 1) C.1 C.2.1 dL_law_218 (by decide) ?_
      refine lv_iadd C.1 C.2.1 dL_law_219 ?_
      refine va_sld C.1 C.2.1 hX hbl hbA hS (scr_in (k := 1) (by omega) hL) dL_law_220 ?_
      refine lv_aload_n C.1 C.2.1 dL_law_221 rfl (lv_at hl 0 rfl) ?_
      refine lv_iload_n C.1 C.2.1 dL_law_222 rfl (lv_at hl 3 rfl) ?_
      refine lv_iconst (v := 2) C.1 C.2.1 dL_law_223 (by decide) ?_
      refine lv_iadd C.1 C.2.1 dL_law_224 ?_
      refine va_sld C.1 C.2.1 hX hbl hbA hS (scr_in (k := 2) (by omega) hL) dL_law_225 ?_
      obtain ⟨xx, rr, z1, ha, hok, hb2, hcl⟩ := S1 u z (xs (((nI (7 * k)) + 1)).toNatClampNeg) (xs (((nI (7 * k)) + 2)).toNatClampNeg) hRl
      refine lN_X (As := [.int (xs (((nI (7 * k)) + 1)).toNatClampNeg), .int (xs (((nI (7 * k)) + 2)).toNatClampNeg)]) (rest := []) (mc := 1) (ms := 7) C (mX8_above ha hok) vX8_above wM_L_18 ⟨Nat.le_of_ble_eq_true rfl, Nat.le_of_ble_eq_true rfl⟩ hP hD hS hA hZ (rcc_X8 C (P_left hP)) hl.1 rfl rfl (Nat.le_of_ble_eq_true rfl) dL_law_226 ⟨by show _ ≤ 600000; omega, by show _ ≤ 7302250; omega⟩ (fun r1 u1 H locs hp hP hD hS => ?_)
      obtain ⟨er, hRl1⟩ := hcl r1 u1 hp
      refine lv_aload_n C.1 C.2.1 dL_law_229 rfl (lv_at hl 2 rfl) ?_
      refine lv_aload_n C.1 C.2.1 dL_law_230 rfl (lv_at hl 0 rfl) ?_
      refine lv_iload_n C.1 C.2.1 dL_law_231 rfl (lv_at hl 3 rfl) ?_
      refine lv_iconst (v := 1) C.1 C.2.1 dL_law_232 (by decide) ?_
      refine lv_iadd C.1 C.2.1 dL_law_233 ?_
      refine va_sld C.1 C.2.1 hX hbl hbA hS (scr_in (k := 1) (by omega) hL) dL_law_234 ?_
      refine lv_aload_n C.1 C.2.1 dL_law_235 rfl (lv_at hl 0 rfl) ?_
      refine lv_iload_n C.1 C.2.1 dL_law_236 rfl (lv_at hl 3 rfl) ?_
      refine lv_iconst (v := 2) C.1 C.2.1 dL_law_237 (by decide) ?_
      refine lv_iadd C.1 C.2.1 dL_law_238 ?_
      refine va_sld C.1 C.2.1 hX hbl hbA hS (scr_in (k := 2) (by omega) hL) dL_law_239 ?_
      refine lW_Y (As := [.int (xs (((nI (7 * k)) + 1)).toNatClampNeg), .int (xs (((nI (7 * k)) + 2)).toNatClampNeg)]) (rest := [.int r1]) (mc := 0) (ms := 0) C (mX9_above hb2) vX9_above wM_L_22 ⟨Nat.le_of_ble_eq_true rfl, Nat.le_of_ble_eq_true rfl⟩ hP hD hS hA hZ (rcm_X9 C (P_right hP)) hl.1 rfl rfl (Nat.le_of_ble_eq_true rfl) dL_law_240 ⟨by show _ ≤ 600000; omega, by show _ ≤ 7302250; omega⟩ (fun H locs hP hD hS => ?_)
      refine lv_icmp_eq (tgt := 1179) C.1 C.2.1 dL_law_243 (by decide) (fun c9 => ?_) (fun c9 => ?_)
      · exact hstep u1 z1 hRl1 _ _ _ _ _ (by omega) (by omega) hP hD hS hl
      · exact absurd er c9
    by_cases d2 : sw = 2
    · have e9 : sw.toInt = 2 := by rw [d2]; rfl
      refine lv_tableIn (off := 215) (tgt := 248) C.1 C.2.1 dL_law_33 (by rw [e9]; decide) (by rw [e9]; decide) (by rw [e9]; rfl) (by decide) ?_
      refine lv_aload_n C.1 C.2.1 dL_law_248 rfl (lv_at hl 1 rfl) ?_
      refine lv_aload_n C.1 C.2.1 dL_law_249 rfl (lv_at hl 0 rfl) ?_
      refine lv_iload_n C.1 C.2.1 dL_law_250 rfl (lv_at hl 3 rfl) ?_
      refine lv_iconst (v := 1) C.1 C.2.1 dL_law_251 (by decide) ?_
      refine lv_iadd C.1 C.2.1 dL_law_252 ?_
      refine va_sld C.1 C.2.1 hX hbl hbA hS (scr_in (k := 1) (by omega) hL) dL_law_253 ?_
      refine lv_aload_n C.1 C.2.1 dL_law_254 rfl (lv_at hl 0 rfl) ?_
      refine lv_iload_n C.1 C.2.1 dL_law_255 rfl (lv_at hl 3 rfl) ?_
      refine lv_iconst (v := 2) C.1 C.2.1 dL_law_256 (by decide) ?_
      refine lv_iadd C.1 C.2.1 dL_law_257 ?_
      refine va_sld C.1 C.2.1 hX hbl hbA hS (scr_in (k := 2) (by omega) hL) dL_law_258 ?_
      obtain ⟨xx, rr, z1, ha, hok, hb2, hcl⟩ := S2 u z (xs (((nI (7 * k)) + 1)).toNatClampNeg) (xs (((nI (7 * k)) + 2)).toNatClampNeg) hRl
      refine lN_X (As := [.int (xs (((nI (7 * k)) + 1)).toNatClampNeg), .int (xs (((nI (7 * k)) + 2)).toNatClampNeg)]) (rest := []) (mc := 1) (ms := 7) C (mX8_face ha hok) vX8_face wM_L_23 ⟨Nat.le_of_ble_eq_true rfl, Nat.le_of_ble_eq_true rfl⟩ hP hD hS hA hZ (rcc_X8 C (P_left hP)) hl.1 rfl rfl (Nat.le_of_ble_eq_true rfl) dL_law_259 ⟨by show _ ≤ 600000; omega, by show _ ≤ 7302250; omega⟩ (fun r1 u1 H locs hp hP hD hS => ?_)
      obtain ⟨er, hRl1⟩ := hcl r1 u1 hp
      refine lv_aload_n C.1 C.2.1 dL_law_262 rfl (lv_at hl 2 rfl) ?_
      refine lv_aload_n C.1 C.2.1 dL_law_263 rfl (lv_at hl 0 rfl) ?_
      refine lv_iload_n C.1 C.2.1 dL_law_264 rfl (lv_at hl 3 rfl) ?_
      refine lv_iconst (v := 1) C.1 C.2.1 dL_law_265 (by decide) ?_
      refine lv_iadd C.1 C.2.1 dL_law_266 ?_
      refine va_sld C.1 C.2.1 hX hbl hbA hS (scr_in (k := 1) (by omega) hL) dL_law_267 ?_
      refine lv_aload_n C.1 C.2.1 dL_law_268 rfl (lv_at hl 0 rfl) ?_
      refine lv_iload_n C.1 C.2.1 dL_law_269 rfl (lv_at hl 3 rfl) ?_
      refine lv_iconst (v := 2) C.1 C.2.1 dL_law_270 (by decide) ?_
      refine lv_iadd C.1 C.2.1 dL_law_271 ?_
      refine va_sld C.1 C.2.1 hX hbl hbA hS (scr_in (k := 2) (by omega) hL) dL_law_272 ?_
      refine lW_Y (As := [.int (xs (((nI (7 * k)) + 1)).toNatClampNeg), .int (xs (((nI (7 * k)) + 2)).toNatClampNeg)]) (rest := [.int r1]) (mc := 0) (ms := 0) C (mX9_face hb2) vX9_face wM_L_26 ⟨Nat.le_of_ble_eq_true rfl, Nat.le_of_ble_eq_true rfl⟩ hP hD hS hA hZ (rcm_X9 C (P_right hP)) hl.1 rfl rfl (Nat.le_of_ble_eq_true rfl) dL_law_273 ⟨by show _ ≤ 600000; omega, by show _ ≤ 7302250; omega⟩ (fun H locs hP hD hS => ?_)
      refine lv_icmp_eq (tgt := 1179) C.1 C.2.1 dL_law_276 (by decide) (fun c9 => ?_) (fun c9 => ?_)
      · exact hstep u1 z1 hRl1 _ _ _ _ _ (by omega) (by omega) hP hD hS hl
      · exact absurd er c9
    by_cases d3 : sw = 3
    · have e9 : sw.toInt = 3 := by rw [d3]; rfl
      refine lv_tableIn (off := 248) (tgt := 281) C.1 C.2.1 dL_law_33 (by rw [e9]; decide) (by rw [e9]; decide) (by rw [e9]; rfl) (by decide) ?_
      refine lv_aload_n C.1 C.2.1 dL_law_281 rfl (lv_at hl 1 rfl) ?_
      refine lv_aload_n C.1 C.2.1 dL_law_282 rfl (lv_at hl 0 rfl) ?_
      refine lv_iload_n C.1 C.2.1 dL_law_283 rfl (lv_at hl 3 rfl) ?_
      refine lv_iconst (v := 1) C.1 C.2.1 dL_law_284 (by decide) ?_
      refine lv_iadd C.1 C.2.1 dL_law_285 ?_
      refine va_sld C.1 C.2.1 hX hbl hbA hS (scr_in (k := 1) (by omega) hL) dL_law_286 ?_
      refine lv_aload_n C.1 C.2.1 dL_law_287 rfl (lv_at hl 0 rfl) ?_
      refine lv_iload_n C.1 C.2.1 dL_law_288 rfl (lv_at hl 3 rfl) ?_
      refine lv_iconst (v := 2) C.1 C.2.1 dL_law_289 (by decide) ?_
      refine lv_iadd C.1 C.2.1 dL_law_290 ?_
      refine va_sld C.1 C.2.1 hX hbl hbA hS (scr_in (k := 2) (by omega) hL) dL_law_291 ?_
      obtain ⟨xx, rr, z1, ha, hok, hb2, hcl⟩ := S3 u z (xs (((nI (7 * k)) + 1)).toNatClampNeg) (xs (((nI (7 * k)) + 2)).toNatClampNeg) hRl
      refine lN_X (As := [.int (xs (((nI (7 * k)) + 1)).toNatClampNeg), .int (xs (((nI (7 * k)) + 2)).toNatClampNeg)]) (rest := []) (mc := 1) (ms := 7) C (mX8_unface ha hok) vX8_unface wM_L_27 ⟨Nat.le_of_ble_eq_true rfl, Nat.le_of_ble_eq_true rfl⟩ hP hD hS hA hZ (rcc_X8 C (P_left hP)) hl.1 rfl rfl (Nat.le_of_ble_eq_true rfl) dL_law_292 ⟨by show _ ≤ 600000; omega, by show _ ≤ 7302250; omega⟩ (fun r1 u1 H locs hp hP hD hS => ?_)
      obtain ⟨er, hRl1⟩ := hcl r1 u1 hp
      refine lv_aload_n C.1 C.2.1 dL_law_295 rfl (lv_at hl 2 rfl) ?_
      refine lv_aload_n C.1 C.2.1 dL_law_296 rfl (lv_at hl 0 rfl) ?_
      refine lv_iload_n C.1 C.2.1 dL_law_297 rfl (lv_at hl 3 rfl) ?_
      refine lv_iconst (v := 1) C.1 C.2.1 dL_law_298 (by decide) ?_
      refine lv_iadd C.1 C.2.1 dL_law_299 ?_
      refine va_sld C.1 C.2.1 hX hbl hbA hS (scr_in (k := 1) (by omega) hL) dL_law_300 ?_
      refine lv_aload_n C.1 C.2.1 dL_law_301 rfl (lv_at hl 0 rfl) ?_
      refine lv_iload_n C.1 C.2.1 dL_law_302 rfl (lv_at hl 3 rfl) ?_
      refine lv_iconst (v := 2) C.1 C.2.1 dL_law_303 (by decide) ?_
      refine lv_iadd C.1 C.2.1 dL_law_304 ?_
      refine va_sld C.1 C.2.1 hX hbl hbA hS (scr_in (k := 2) (by omega) hL) dL_law_305 ?_
      refine lW_Y (As := [.int (xs (((nI (7 * k)) + 1)).toNatClampNeg), .int (xs (((nI (7 * k)) + 2)).toNatClampNeg)]) (rest := [.int r1]) (mc := 0) (ms := 0) C (mX9_unface hb2) vX9_unface wM_L_30 ⟨Nat.le_of_ble_eq_true rfl, Nat.le_of_ble_eq_true rfl⟩ hP hD hS hA hZ (rcm_X9 C (P_right hP)) hl.1 rfl rfl (Nat.le_of_ble_eq_true rfl) dL_law_306 ⟨by show _ ≤ 600000; omega, by show _ ≤ 7302250; omega⟩ (fun H locs hP hD hS => ?_)
      refine lv_icmp_eq (tgt := 1179) C.1 C.2.1 dL_law_309 (by decide) (fun c9 => ?_) (fun c9 => ?_)
      · exact hstep u1 z1 hRl1 _ _ _ _ _ (by omega) (by omega) hP hD hS hl
      · exact absurd er c9
    by_cases d4 : sw = 4
    · have e9 : sw.toInt = 4 := by rw [d4]; rfl
      refine lv_tableIn (off := 281) (tgt := 314) C.1 C.2.1 dL_law_33 (by rw [e9]; decide) (by rw [e9]; decide) (by rw [e9]; rfl) (by decide) ?_
      refine lv_aload_n C.1 C.2.1 dL_law_314 rfl (lv_at hl 1 rfl) ?_
      refine lv_aload_n C.1 C.2.1 dL_law_315 rfl (lv_at hl 0 rfl) ?_
      refine lv_iload_n C.1 C.2.1 dL_law_316 rfl (lv_at hl 3 rfl) ?_
      refine lv_iconst (v := 1) C.1 C.2.1 dL_law_317 (by decide) ?_
      refine lv_iadd C.1 C.2.1 dL_law_318 ?_
      refine va_sld C.1 C.2.1 hX hbl hbA hS (scr_in (k := 1) (by omega) hL) dL_law_319 ?_
      refine lv_aload_n C.1 C.2.1 dL_law_320 rfl (lv_at hl 0 rfl) ?_
      refine lv_iload_n C.1 C.2.1 dL_law_321 rfl (lv_at hl 3 rfl) ?_
      refine lv_iconst (v := 2) C.1 C.2.1 dL_law_322 (by decide) ?_
      refine lv_iadd C.1 C.2.1 dL_law_323 ?_
      refine va_sld C.1 C.2.1 hX hbl hbA hS (scr_in (k := 2) (by omega) hL) dL_law_324 ?_
      obtain ⟨xx, rr, z1, ha, hok, hb2, hcl⟩ := S4 u z (xs (((nI (7 * k)) + 1)).toNatClampNeg) (xs (((nI (7 * k)) + 2)).toNatClampNeg) hRl
      refine lN_X (As := [.int (xs (((nI (7 * k)) + 1)).toNatClampNeg), .int (xs (((nI (7 * k)) + 2)).toNatClampNeg)]) (rest := []) (mc := 1) (ms := 7) C (mX8_marks ha hok) vX8_marks wM_L_31 ⟨Nat.le_of_ble_eq_true rfl, Nat.le_of_ble_eq_true rfl⟩ hP hD hS hA hZ (rcc_X8 C (P_left hP)) hl.1 rfl rfl (Nat.le_of_ble_eq_true rfl) dL_law_325 ⟨by show _ ≤ 600000; omega, by show _ ≤ 7302250; omega⟩ (fun r1 u1 H locs hp hP hD hS => ?_)
      obtain ⟨er, hRl1⟩ := hcl r1 u1 hp
      refine lv_aload_n C.1 C.2.1 dL_law_328 rfl (lv_at hl 2 rfl) ?_
      refine lv_aload_n C.1 C.2.1 dL_law_329 rfl (lv_at hl 0 rfl) ?_
      refine lv_iload_n C.1 C.2.1 dL_law_330 rfl (lv_at hl 3 rfl) ?_
      refine lv_iconst (v := 1) C.1 C.2.1 dL_law_331 (by decide) ?_
      refine lv_iadd C.1 C.2.1 dL_law_332 ?_
      refine va_sld C.1 C.2.1 hX hbl hbA hS (scr_in (k := 1) (by omega) hL) dL_law_333 ?_
      refine lv_aload_n C.1 C.2.1 dL_law_334 rfl (lv_at hl 0 rfl) ?_
      refine lv_iload_n C.1 C.2.1 dL_law_335 rfl (lv_at hl 3 rfl) ?_
      refine lv_iconst (v := 2) C.1 C.2.1 dL_law_336 (by decide) ?_
      refine lv_iadd C.1 C.2.1 dL_law_337 ?_
      refine va_sld C.1 C.2.1 hX hbl hbA hS (scr_in (k := 2) (by omega) hL) dL_law_338 ?_
      refine lW_Y (As := [.int (xs (((nI (7 * k)) + 1)).toNatClampNeg), .int (xs (((nI (7 * k)) + 2)).toNatClampNeg)]) (rest := [.int r1]) (mc := 0) (ms := 0) C (mX9_marks hb2) vX9_marks wM_L_34 ⟨Nat.le_of_ble_eq_true rfl, Nat.le_of_ble_eq_true rfl⟩ hP hD hS hA hZ (rcm_X9 C (P_right hP)) hl.1 rfl rfl (Nat.le_of_ble_eq_true rfl) dL_law_339 ⟨by show _ ≤ 600000; omega, by show _ ≤ 7302250; omega⟩ (fun H locs hP hD hS => ?_)
      refine lv_icmp_eq (tgt := 1179) C.1 C.2.1 dL_law_342 (by decide) (fun c9 => ?_) (fun c9 => ?_)
      · exact hstep u1 z1 hRl1 _ _ _ _ _ (by omega) (by omega) hP hD hS hl
      · exact absurd er c9
    by_cases d5 : sw = 5
    · have e9 : sw.toInt = 5 := by rw [d5]; rfl
      refine lv_tableIn (off := 314) (tgt := 347) C.1 C.2.1 dL_law_33 (by rw [e9]; decide) (by rw [e9]; decide) (by rw [e9]; rfl) (by decide) ?_
      refine lv_aload_n C.1 C.2.1 dL_law_347 rfl (lv_at hl 1 rfl) ?_
      refine lv_aload_n C.1 C.2.1 dL_law_348 rfl (lv_at hl 0 rfl) ?_
      refine lv_iload_n C.1 C.2.1 dL_law_349 rfl (lv_at hl 3 rfl) ?_
      refine lv_iconst (v := 1) C.1 C.2.1 dL_law_350 (by decide) ?_
      refine lv_iadd C.1 C.2.1 dL_law_351 ?_
      refine va_sld C.1 C.2.1 hX hbl hbA hS (scr_in (k := 1) (by omega) hL) dL_law_352 ?_
      refine lv_aload_n C.1 C.2.1 dL_law_353 rfl (lv_at hl 0 rfl) ?_
      refine lv_iload_n C.1 C.2.1 dL_law_354 rfl (lv_at hl 3 rfl) ?_
      refine lv_iconst (v := 2) C.1 C.2.1 dL_law_355 (by decide) ?_
      refine lv_iadd C.1 C.2.1 dL_law_356 ?_
      refine va_sld C.1 C.2.1 hX hbl hbA hS (scr_in (k := 2) (by omega) hL) dL_law_357 ?_
      refine lv_aload_n C.1 C.2.1 dL_law_358 rfl (lv_at hl 0 rfl) ?_
      refine lv_iload_n C.1 C.2.1 dL_law_359 rfl (lv_at hl 3 rfl) ?_
      refine lv_iconst (v := 3) C.1 C.2.1 dL_law_360 (by decide) ?_
      refine lv_iadd C.1 C.2.1 dL_law_361 ?_
      refine va_sld C.1 C.2.1 hX hbl hbA hS (scr_in (k := 3) (by omega) hL) dL_law_362 ?_
      refine lv_aload_n C.1 C.2.1 dL_law_363 rfl (lv_at hl 0 rfl) ?_
      refine lv_iload_n C.1 C.2.1 dL_law_364 rfl (lv_at hl 3 rfl) ?_
      refine lv_iconst (v := 4) C.1 C.2.1 dL_law_365 (by decide) ?_
      refine lv_iadd C.1 C.2.1 dL_law_366 ?_
      refine va_sld C.1 C.2.1 hX hbl hbA hS (scr_in (k := 4) (by omega) hL) dL_law_367 ?_
      refine lv_aload_n C.1 C.2.1 dL_law_368 rfl (lv_at hl 0 rfl) ?_
      refine lv_iload_n C.1 C.2.1 dL_law_369 rfl (lv_at hl 3 rfl) ?_
      refine lv_iconst (v := 5) C.1 C.2.1 dL_law_370 (by decide) ?_
      refine lv_iadd C.1 C.2.1 dL_law_371 ?_
      refine va_sld C.1 C.2.1 hX hbl hbA hS (scr_in (k := 5) (by omega) hL) dL_law_372 ?_
      refine lv_i2l C.1 C.2.1 dL_law_373 rfl ?_
      refine lv_bipush (v := 32) C.1 C.2.1 dL_law_374 (by decide) ?_
      refine lv_lshl C.1 C.2.1 dL_law_376 rfl ?_
      refine lv_aload_n C.1 C.2.1 dL_law_377 rfl (lv_at hl 0 rfl) ?_
      refine lv_iload_n C.1 C.2.1 dL_law_378 rfl (lv_at hl 3 rfl) ?_
      refine lv_bipush (v := 6) C.1 C.2.1 dL_law_379 (by decide) ?_
      refine lv_iadd C.1 C.2.1 dL_law_381 ?_
      refine va_sld C.1 C.2.1 hX hbl hbA hS (scr_in (k := 6) (by omega) hL) dL_law_382 ?_
      refine lv_i2l C.1 C.2.1 dL_law_383 rfl ?_
      refine lv_ldc2 (v := 4294967295) C.1 C.2.1 C.2.2.2.1 (C.2.2.2.2.1 _ wKL_L_35) dL_law_384 ?_
      refine lv_land C.1 C.2.1 dL_law_387 ?_
      refine lv_lor C.1 C.2.1 dL_law_388 ?_
      obtain ⟨xx, rr, z1, ha, hok, hb2, hcl⟩ := S5 u z (xs (((nI (7 * k)) + 1)).toNatClampNeg) (xs (((nI (7 * k)) + 2)).toNatClampNeg) (xs (((nI (7 * k)) + 3)).toNatClampNeg) (xs (((nI (7 * k)) + 4)).toNatClampNeg) ((((xs (((nI (7 * k)) + 5)).toNatClampNeg : Int32).toInt64) <<< ((32 : Int32).toInt64 &&& 63)) ||| (((xs (((nI (7 * k)) + 6)).toNatClampNeg : Int32).toInt64) &&& 4294967295)) hRl
      refine lN_X (As := [.int (xs (((nI (7 * k)) + 1)).toNatClampNeg), .int (xs (((nI (7 * k)) + 2)).toNatClampNeg), .int (xs (((nI (7 * k)) + 3)).toNatClampNeg), .int (xs (((nI (7 * k)) + 4)).toNatClampNeg), .long ((((xs (((nI (7 * k)) + 5)).toNatClampNeg : Int32).toInt64) <<< ((32 : Int32).toInt64 &&& 63)) ||| (((xs (((nI (7 * k)) + 6)).toNatClampNeg : Int32).toInt64) &&& 4294967295))]) (rest := []) (mc := 1) (ms := 7) C (mX8_field ha hok) vX8_field wM_L_37 ⟨Nat.le_of_ble_eq_true rfl, Nat.le_of_ble_eq_true rfl⟩ hP hD hS hA hZ (rcc_X8 C (P_left hP)) hl.1 rfl rfl (Nat.le_of_ble_eq_true rfl) dL_law_389 ⟨by show _ ≤ 600000; omega, by show _ ≤ 7302250; omega⟩ (fun r1 u1 H locs hp hP hD hS => ?_)
      obtain ⟨er, hRl1⟩ := hcl r1 u1 hp
      refine lv_aload_n C.1 C.2.1 dL_law_392 rfl (lv_at hl 2 rfl) ?_
      refine lv_aload_n C.1 C.2.1 dL_law_393 rfl (lv_at hl 0 rfl) ?_
      refine lv_iload_n C.1 C.2.1 dL_law_394 rfl (lv_at hl 3 rfl) ?_
      refine lv_iconst (v := 1) C.1 C.2.1 dL_law_395 (by decide) ?_
      refine lv_iadd C.1 C.2.1 dL_law_396 ?_
      refine va_sld C.1 C.2.1 hX hbl hbA hS (scr_in (k := 1) (by omega) hL) dL_law_397 ?_
      refine lv_aload_n C.1 C.2.1 dL_law_398 rfl (lv_at hl 0 rfl) ?_
      refine lv_iload_n C.1 C.2.1 dL_law_399 rfl (lv_at hl 3 rfl) ?_
      refine lv_iconst (v := 2) C.1 C.2.1 dL_law_400 (by decide) ?_
      refine lv_iadd C.1 C.2.1 dL_law_401 ?_
      refine va_sld C.1 C.2.1 hX hbl hbA hS (scr_in (k := 2) (by omega) hL) dL_law_402 ?_
      refine lv_aload_n C.1 C.2.1 dL_law_403 rfl (lv_at hl 0 rfl) ?_
      refine lv_iload_n C.1 C.2.1 dL_law_404 rfl (lv_at hl 3 rfl) ?_
      refine lv_iconst (v := 3) C.1 C.2.1 dL_law_405 (by decide) ?_
      refine lv_iadd C.1 C.2.1 dL_law_406 ?_
      refine va_sld C.1 C.2.1 hX hbl hbA hS (scr_in (k := 3) (by omega) hL) dL_law_407 ?_
      refine lv_aload_n C.1 C.2.1 dL_law_408 rfl (lv_at hl 0 rfl) ?_
      refine lv_iload_n C.1 C.2.1 dL_law_409 rfl (lv_at hl 3 rfl) ?_
      refine lv_iconst (v := 4) C.1 C.2.1 dL_law_410 (by decide) ?_
      refine lv_iadd C.1 C.2.1 dL_law_411 ?_
      refine va_sld C.1 C.2.1 hX hbl hbA hS (scr_in (k := 4) (by omega) hL) dL_law_412 ?_
      refine lv_aload_n C.1 C.2.1 dL_law_413 rfl (lv_at hl 0 rfl) ?_
      refine lv_iload_n C.1 C.2.1 dL_law_414 rfl (lv_at hl 3 rfl) ?_
      refine lv_iconst (v := 5) C.1 C.2.1 dL_law_415 (by decide) ?_
      refine lv_iadd C.1 C.2.1 dL_law_416 ?_
      refine va_sld C.1 C.2.1 hX hbl hbA hS (scr_in (k := 5) (by omega) hL) dL_law_417 ?_
      refine lv_i2l C.1 C.2.1 dL_law_418 rfl ?_
      refine lv_bipush (v := 32) C.1 C.2.1 dL_law_419 (by decide) ?_
      refine lv_lshl C.1 C.2.1 dL_law_421 rfl ?_
      refine lv_aload_n C.1 C.2.1 dL_law_422 rfl (lv_at hl 0 rfl) ?_
      refine lv_iload_n C.1 C.2.1 dL_law_423 rfl (lv_at hl 3 rfl) ?_
      refine lv_bipush (v := 6) C.1 C.2.1 dL_law_424 (by decide) ?_
      refine lv_iadd C.1 C.2.1 dL_law_426 ?_
      refine va_sld C.1 C.2.1 hX hbl hbA hS (scr_in (k := 6) (by omega) hL) dL_law_427 ?_
      refine lv_i2l C.1 C.2.1 dL_law_428 rfl ?_
      refine lv_ldc2 (v := 4294967295) C.1 C.2.1 C.2.2.2.1 (C.2.2.2.2.1 _ wKL_L_35) dL_law_429 ?_
      refine lv_land C.1 C.2.1 dL_law_432 ?_
      refine lv_lor C.1 C.2.1 dL_law_433 ?_
      refine lW_Y (As := [.int (xs (((nI (7 * k)) + 1)).toNatClampNeg), .int (xs (((nI (7 * k)) + 2)).toNatClampNeg), .int (xs (((nI (7 * k)) + 3)).toNatClampNeg), .int (xs (((nI (7 * k)) + 4)).toNatClampNeg), .long ((((xs (((nI (7 * k)) + 5)).toNatClampNeg : Int32).toInt64) <<< ((32 : Int32).toInt64 &&& 63)) ||| (((xs (((nI (7 * k)) + 6)).toNatClampNeg : Int32).toInt64) &&& 4294967295))]) (rest := [.int r1]) (mc := 0) (ms := 0) C (mX9_field hb2) vX9_field wM_L_41 ⟨Nat.le_of_ble_eq_true rfl, Nat.le_of_ble_eq_true rfl⟩ hP hD hS hA hZ (rcm_X9 C (P_right hP)) hl.1 rfl rfl (Nat.le_of_ble_eq_true rfl) dL_law_434 ⟨by show _ ≤ 600000; omega, by show _ ≤ 7302250; omega⟩ (fun H locs hP hD hS => ?_)
      refine lv_icmp_eq (tgt := 1179) C.1 C.2.1 dL_law_437 (by decide) (fun c9 => ?_) (fun c9 => ?_)
      · exact hstep u1 z1 hRl1 _ _ _ _ _ (by omega) (by omega) hP hD hS hl
      · exact absurd er c9
    by_cases d6 : sw = 6
    · have e9 : sw.toInt = 6 := by rw [d6]; rfl
      refine lv_tableIn (off := 409) (tgt := 442) C.1 C.2.1 dL_law_33 (by rw [e9]; decide) (by rw [e9]; decide) (by rw [e9]; rfl) (by decide) ?_
      refine lv_aload_n C.1 C.2.1 dL_law_442 rfl (lv_at hl 1 rfl) ?_
      refine lv_aload_n C.1 C.2.1 dL_law_443 rfl (lv_at hl 0 rfl) ?_
      refine lv_iload_n C.1 C.2.1 dL_law_444 rfl (lv_at hl 3 rfl) ?_
      refine lv_iconst (v := 1) C.1 C.2.1 dL_law_445 (by decide) ?_
      refine lv_iadd C.1 C.2.1 dL_law_446 ?_
      refine va_sld C.1 C.2.1 hX hbl hbA hS (scr_in (k := 1) (by omega) hL) dL_law_447 ?_
      refine lv_aload_n C.1 C.2.1 dL_law_448 rfl (lv_at hl 0 rfl) ?_
      refine lv_iload_n C.1 C.2.1 dL_law_449 rfl (lv_at hl 3 rfl) ?_
      refine lv_iconst (v := 2) C.1 C.2.1 dL_law_450 (by decide) ?_
      refine lv_iadd C.1 C.2.1 dL_law_451 ?_
      refine va_sld C.1 C.2.1 hX hbl hbA hS (scr_in (k := 2) (by omega) hL) dL_law_452 ?_
      refine lv_aload_n C.1 C.2.1 dL_law_453 rfl (lv_at hl 0 rfl) ?_
      refine lv_iload_n C.1 C.2.1 dL_law_454 rfl (lv_at hl 3 rfl) ?_
      refine lv_iconst (v := 3) C.1 C.2.1 dL_law_455 (by decide) ?_
      refine lv_iadd C.1 C.2.1 dL_law_456 ?_
      refine va_sld C.1 C.2.1 hX hbl hbA hS (scr_in (k := 3) (by omega) hL) dL_law_457 ?_
      refine lv_aload_n C.1 C.2.1 dL_law_458 rfl (lv_at hl 0 rfl) ?_
      refine lv_iload_n C.1 C.2.1 dL_law_459 rfl (lv_at hl 3 rfl) ?_
      refine lv_iconst (v := 4) C.1 C.2.1 dL_law_460 (by decide) ?_
      refine lv_iadd C.1 C.2.1 dL_law_461 ?_
      refine va_sld C.1 C.2.1 hX hbl hbA hS (scr_in (k := 4) (by omega) hL) dL_law_462 ?_
      refine lv_aload_n C.1 C.2.1 dL_law_463 rfl (lv_at hl 0 rfl) ?_
      refine lv_iload_n C.1 C.2.1 dL_law_464 rfl (lv_at hl 3 rfl) ?_
      refine lv_iconst (v := 5) C.1 C.2.1 dL_law_465 (by decide) ?_
      refine lv_iadd C.1 C.2.1 dL_law_466 ?_
      refine va_sld C.1 C.2.1 hX hbl hbA hS (scr_in (k := 5) (by omega) hL) dL_law_467 ?_
      refine lv_aload_n C.1 C.2.1 dL_law_468 rfl (lv_at hl 0 rfl) ?_
      refine lv_iload_n C.1 C.2.1 dL_law_469 rfl (lv_at hl 3 rfl) ?_
      refine lv_bipush (v := 6) C.1 C.2.1 dL_law_470 (by decide) ?_
      refine lv_iadd C.1 C.2.1 dL_law_472 ?_
      refine va_sld C.1 C.2.1 hX hbl hbA hS (scr_in (k := 6) (by omega) hL) dL_law_473 ?_
      obtain ⟨xx, rr, z1, ha, hok, hb2, hcl⟩ := S6 u z (xs (((nI (7 * k)) + 1)).toNatClampNeg) (xs (((nI (7 * k)) + 2)).toNatClampNeg) (xs (((nI (7 * k)) + 3)).toNatClampNeg) (xs (((nI (7 * k)) + 4)).toNatClampNeg) (xs (((nI (7 * k)) + 5)).toNatClampNeg) (xs (((nI (7 * k)) + 6)).toNatClampNeg) hRl
      refine lN_X (As := [.int (xs (((nI (7 * k)) + 1)).toNatClampNeg), .int (xs (((nI (7 * k)) + 2)).toNatClampNeg), .int (xs (((nI (7 * k)) + 3)).toNatClampNeg), .int (xs (((nI (7 * k)) + 4)).toNatClampNeg), .int (xs (((nI (7 * k)) + 5)).toNatClampNeg), .int (xs (((nI (7 * k)) + 6)).toNatClampNeg)]) (rest := []) (mc := 1) (ms := 7) C (mX8_method ha hok) vX8_method wM_L_42 ⟨Nat.le_of_ble_eq_true rfl, Nat.le_of_ble_eq_true rfl⟩ hP hD hS hA hZ (rcc_X8 C (P_left hP)) hl.1 rfl rfl (Nat.le_of_ble_eq_true rfl) dL_law_474 ⟨by show _ ≤ 600000; omega, by show _ ≤ 7302250; omega⟩ (fun r1 u1 H locs hp hP hD hS => ?_)
      obtain ⟨er, hRl1⟩ := hcl r1 u1 hp
      refine lv_aload_n C.1 C.2.1 dL_law_477 rfl (lv_at hl 2 rfl) ?_
      refine lv_aload_n C.1 C.2.1 dL_law_478 rfl (lv_at hl 0 rfl) ?_
      refine lv_iload_n C.1 C.2.1 dL_law_479 rfl (lv_at hl 3 rfl) ?_
      refine lv_iconst (v := 1) C.1 C.2.1 dL_law_480 (by decide) ?_
      refine lv_iadd C.1 C.2.1 dL_law_481 ?_
      refine va_sld C.1 C.2.1 hX hbl hbA hS (scr_in (k := 1) (by omega) hL) dL_law_482 ?_
      refine lv_aload_n C.1 C.2.1 dL_law_483 rfl (lv_at hl 0 rfl) ?_
      refine lv_iload_n C.1 C.2.1 dL_law_484 rfl (lv_at hl 3 rfl) ?_
      refine lv_iconst (v := 2) C.1 C.2.1 dL_law_485 (by decide) ?_
      refine lv_iadd C.1 C.2.1 dL_law_486 ?_
      refine va_sld C.1 C.2.1 hX hbl hbA hS (scr_in (k := 2) (by omega) hL) dL_law_487 ?_
      refine lv_aload_n C.1 C.2.1 dL_law_488 rfl (lv_at hl 0 rfl) ?_
      refine lv_iload_n C.1 C.2.1 dL_law_489 rfl (lv_at hl 3 rfl) ?_
      refine lv_iconst (v := 3) C.1 C.2.1 dL_law_490 (by decide) ?_
      refine lv_iadd C.1 C.2.1 dL_law_491 ?_
      refine va_sld C.1 C.2.1 hX hbl hbA hS (scr_in (k := 3) (by omega) hL) dL_law_492 ?_
      refine lv_aload_n C.1 C.2.1 dL_law_493 rfl (lv_at hl 0 rfl) ?_
      refine lv_iload_n C.1 C.2.1 dL_law_494 rfl (lv_at hl 3 rfl) ?_
      refine lv_iconst (v := 4) C.1 C.2.1 dL_law_495 (by decide) ?_
      refine lv_iadd C.1 C.2.1 dL_law_496 ?_
      refine va_sld C.1 C.2.1 hX hbl hbA hS (scr_in (k := 4) (by omega) hL) dL_law_497 ?_
      refine lv_aload_n C.1 C.2.1 dL_law_498 rfl (lv_at hl 0 rfl) ?_
      refine lv_iload_n C.1 C.2.1 dL_law_499 rfl (lv_at hl 3 rfl) ?_
      refine lv_iconst (v := 5) C.1 C.2.1 dL_law_500 (by decide) ?_
      refine lv_iadd C.1 C.2.1 dL_law_501 ?_
      refine va_sld C.1 C.2.1 hX hbl hbA hS (scr_in (k := 5) (by omega) hL) dL_law_502 ?_
      refine lv_aload_n C.1 C.2.1 dL_law_503 rfl (lv_at hl 0 rfl) ?_
      refine lv_iload_n C.1 C.2.1 dL_law_504 rfl (lv_at hl 3 rfl) ?_
      refine lv_bipush (v := 6) C.1 C.2.1 dL_law_505 (by decide) ?_
      refine lv_iadd C.1 C.2.1 dL_law_507 ?_
      refine va_sld C.1 C.2.1 hX hbl hbA hS (scr_in (k := 6) (by omega) hL) dL_law_508 ?_
      refine lW_Y (As := [.int (xs (((nI (7 * k)) + 1)).toNatClampNeg), .int (xs (((nI (7 * k)) + 2)).toNatClampNeg), .int (xs (((nI (7 * k)) + 3)).toNatClampNeg), .int (xs (((nI (7 * k)) + 4)).toNatClampNeg), .int (xs (((nI (7 * k)) + 5)).toNatClampNeg), .int (xs (((nI (7 * k)) + 6)).toNatClampNeg)]) (rest := [.int r1]) (mc := 0) (ms := 0) C (mX9_method hb2) vX9_method wM_L_46 ⟨Nat.le_of_ble_eq_true rfl, Nat.le_of_ble_eq_true rfl⟩ hP hD hS hA hZ (rcm_X9 C (P_right hP)) hl.1 rfl rfl (Nat.le_of_ble_eq_true rfl) dL_law_509 ⟨by show _ ≤ 600000; omega, by show _ ≤ 7302250; omega⟩ (fun H locs hP hD hS => ?_)
      refine lv_icmp_eq (tgt := 1179) C.1 C.2.1 dL_law_512 (by decide) (fun c9 => ?_) (fun c9 => ?_)
      · exact hstep u1 z1 hRl1 _ _ _ _ _ (by omega) (by omega) hP hD hS hl
      · exact absurd er c9
    by_cases d7 : sw = 7
    · have e9 : sw.toInt = 7 := by rw [d7]; rfl
      refine lv_tableIn (off := 484) (tgt := 517) C.1 C.2.1 dL_law_33 (by rw [e9]; decide) (by rw [e9]; decide) (by rw [e9]; rfl) (by decide) ?_
      refine lv_aload_n C.1 C.2.1 dL_law_517 rfl (lv_at hl 1 rfl) ?_
      refine lv_aload_n C.1 C.2.1 dL_law_518 rfl (lv_at hl 0 rfl) ?_
      refine lv_iload_n C.1 C.2.1 dL_law_519 rfl (lv_at hl 3 rfl) ?_
      refine lv_iconst (v := 1) C.1 C.2.1 dL_law_520 (by decide) ?_
      refine lv_iadd C.1 C.2.1 dL_law_521 ?_
      refine va_sld C.1 C.2.1 hX hbl hbA hS (scr_in (k := 1) (by omega) hL) dL_law_522 ?_
      obtain ⟨xx, rr, z1, ha, hok, hb2, hcl⟩ := S7 u z (xs (((nI (7 * k)) + 1)).toNatClampNeg) hRl
      refine lN_X (As := [.int (xs (((nI (7 * k)) + 1)).toNatClampNeg)]) (rest := []) (mc := 1) (ms := 7) C (mX8_drop ha hok) vX8_drop wM_L_47 ⟨Nat.le_of_ble_eq_true rfl, Nat.le_of_ble_eq_true rfl⟩ hP hD hS hA hZ (rcc_X8 C (P_left hP)) hl.1 rfl rfl (Nat.le_of_ble_eq_true rfl) dL_law_523 ⟨by show _ ≤ 600000; omega, by show _ ≤ 7302250; omega⟩ (fun r1 u1 H locs hp hP hD hS => ?_)
      obtain ⟨er, hRl1⟩ := hcl r1 u1 hp
      refine lv_aload_n C.1 C.2.1 dL_law_526 rfl (lv_at hl 2 rfl) ?_
      refine lv_aload_n C.1 C.2.1 dL_law_527 rfl (lv_at hl 0 rfl) ?_
      refine lv_iload_n C.1 C.2.1 dL_law_528 rfl (lv_at hl 3 rfl) ?_
      refine lv_iconst (v := 1) C.1 C.2.1 dL_law_529 (by decide) ?_
      refine lv_iadd C.1 C.2.1 dL_law_530 ?_
      refine va_sld C.1 C.2.1 hX hbl hbA hS (scr_in (k := 1) (by omega) hL) dL_law_531 ?_
      refine lW_Y (As := [.int (xs (((nI (7 * k)) + 1)).toNatClampNeg)]) (rest := [.int r1]) (mc := 0) (ms := 0) C (mX9_drop hb2) vX9_drop wM_L_51 ⟨Nat.le_of_ble_eq_true rfl, Nat.le_of_ble_eq_true rfl⟩ hP hD hS hA hZ (rcm_X9 C (P_right hP)) hl.1 rfl rfl (Nat.le_of_ble_eq_true rfl) dL_law_532 ⟨by show _ ≤ 600000; omega, by show _ ≤ 7302250; omega⟩ (fun H locs hP hD hS => ?_)
      refine lv_icmp_eq (tgt := 1179) C.1 C.2.1 dL_law_535 (by decide) (fun c9 => ?_) (fun c9 => ?_)
      · exact hstep u1 z1 hRl1 _ _ _ _ _ (by omega) (by omega) hP hD hS hl
      · exact absurd er c9
    by_cases d8 : sw = 8
    · have e9 : sw.toInt = 8 := by rw [d8]; rfl
      refine lv_tableIn (off := 507) (tgt := 540) C.1 C.2.1 dL_law_33 (by rw [e9]; decide) (by rw [e9]; decide) (by rw [e9]; rfl) (by decide) ?_
      refine lv_aload_n C.1 C.2.1 dL_law_540 rfl (lv_at hl 1 rfl) ?_
      refine lv_aload_n C.1 C.2.1 dL_law_541 rfl (lv_at hl 0 rfl) ?_
      refine lv_iload_n C.1 C.2.1 dL_law_542 rfl (lv_at hl 3 rfl) ?_
      refine lv_iconst (v := 1) C.1 C.2.1 dL_law_543 (by decide) ?_
      refine lv_iadd C.1 C.2.1 dL_law_544 ?_
      refine va_sld C.1 C.2.1 hX hbl hbA hS (scr_in (k := 1) (by omega) hL) dL_law_545 ?_
      refine lv_aload_n C.1 C.2.1 dL_law_546 rfl (lv_at hl 0 rfl) ?_
      refine lv_iload_n C.1 C.2.1 dL_law_547 rfl (lv_at hl 3 rfl) ?_
      refine lv_iconst (v := 2) C.1 C.2.1 dL_law_548 (by decide) ?_
      refine lv_iadd C.1 C.2.1 dL_law_549 ?_
      refine va_sld C.1 C.2.1 hX hbl hbA hS (scr_in (k := 2) (by omega) hL) dL_law_550 ?_
      obtain ⟨xx, rr, z1, ha, hok, hb2, hcl⟩ := S8 u z (xs (((nI (7 * k)) + 1)).toNatClampNeg) (xs (((nI (7 * k)) + 2)).toNatClampNeg) hRl
      refine lN_X (As := [.int (xs (((nI (7 * k)) + 1)).toNatClampNeg), .int (xs (((nI (7 * k)) + 2)).toNatClampNeg)]) (rest := []) (mc := 1) (ms := 7) C (mX8_mark ha hok) vX8_mark wM_L_52 ⟨Nat.le_of_ble_eq_true rfl, Nat.le_of_ble_eq_true rfl⟩ hP hD hS hA hZ (rcc_X8 C (P_left hP)) hl.1 rfl rfl (Nat.le_of_ble_eq_true rfl) dL_law_551 ⟨by show _ ≤ 600000; omega, by show _ ≤ 7302250; omega⟩ (fun r1 u1 H locs hp hP hD hS => ?_)
      obtain ⟨er, hRl1⟩ := hcl r1 u1 hp
      refine lv_aload_n C.1 C.2.1 dL_law_554 rfl (lv_at hl 2 rfl) ?_
      refine lv_aload_n C.1 C.2.1 dL_law_555 rfl (lv_at hl 0 rfl) ?_
      refine lv_iload_n C.1 C.2.1 dL_law_556 rfl (lv_at hl 3 rfl) ?_
      refine lv_iconst (v := 1) C.1 C.2.1 dL_law_557 (by decide) ?_
      refine lv_iadd C.1 C.2.1 dL_law_558 ?_
      refine va_sld C.1 C.2.1 hX hbl hbA hS (scr_in (k := 1) (by omega) hL) dL_law_559 ?_
      refine lv_aload_n C.1 C.2.1 dL_law_560 rfl (lv_at hl 0 rfl) ?_
      refine lv_iload_n C.1 C.2.1 dL_law_561 rfl (lv_at hl 3 rfl) ?_
      refine lv_iconst (v := 2) C.1 C.2.1 dL_law_562 (by decide) ?_
      refine lv_iadd C.1 C.2.1 dL_law_563 ?_
      refine va_sld C.1 C.2.1 hX hbl hbA hS (scr_in (k := 2) (by omega) hL) dL_law_564 ?_
      refine lW_Y (As := [.int (xs (((nI (7 * k)) + 1)).toNatClampNeg), .int (xs (((nI (7 * k)) + 2)).toNatClampNeg)]) (rest := [.int r1]) (mc := 0) (ms := 0) C (mX9_mark hb2) vX9_mark wM_L_55 ⟨Nat.le_of_ble_eq_true rfl, Nat.le_of_ble_eq_true rfl⟩ hP hD hS hA hZ (rcm_X9 C (P_right hP)) hl.1 rfl rfl (Nat.le_of_ble_eq_true rfl) dL_law_565 ⟨by show _ ≤ 600000; omega, by show _ ≤ 7302250; omega⟩ (fun H locs hP hD hS => ?_)
      refine lv_icmp_eq (tgt := 1179) C.1 C.2.1 dL_law_568 (by decide) (fun c9 => ?_) (fun c9 => ?_)
      · exact hstep u1 z1 hRl1 _ _ _ _ _ (by omega) (by omega) hP hD hS hl
      · exact absurd er c9
    by_cases d9 : sw = 9
    · have e9 : sw.toInt = 9 := by rw [d9]; rfl
      refine lv_tableIn (off := 540) (tgt := 573) C.1 C.2.1 dL_law_33 (by rw [e9]; decide) (by rw [e9]; decide) (by rw [e9]; rfl) (by decide) ?_
      refine lv_aload_n C.1 C.2.1 dL_law_573 rfl (lv_at hl 1 rfl) ?_
      refine lv_aload_n C.1 C.2.1 dL_law_574 rfl (lv_at hl 0 rfl) ?_
      refine lv_iload_n C.1 C.2.1 dL_law_575 rfl (lv_at hl 3 rfl) ?_
      refine lv_iconst (v := 1) C.1 C.2.1 dL_law_576 (by decide) ?_
      refine lv_iadd C.1 C.2.1 dL_law_577 ?_
      refine va_sld C.1 C.2.1 hX hbl hbA hS (scr_in (k := 1) (by omega) hL) dL_law_578 ?_
      refine lv_aload_n C.1 C.2.1 dL_law_579 rfl (lv_at hl 0 rfl) ?_
      refine lv_iload_n C.1 C.2.1 dL_law_580 rfl (lv_at hl 3 rfl) ?_
      refine lv_iconst (v := 2) C.1 C.2.1 dL_law_581 (by decide) ?_
      refine lv_iadd C.1 C.2.1 dL_law_582 ?_
      refine va_sld C.1 C.2.1 hX hbl hbA hS (scr_in (k := 2) (by omega) hL) dL_law_583 ?_
      refine lv_i2l C.1 C.2.1 dL_law_584 rfl ?_
      refine lv_bipush (v := 32) C.1 C.2.1 dL_law_585 (by decide) ?_
      refine lv_lshl C.1 C.2.1 dL_law_587 rfl ?_
      refine lv_aload_n C.1 C.2.1 dL_law_588 rfl (lv_at hl 0 rfl) ?_
      refine lv_iload_n C.1 C.2.1 dL_law_589 rfl (lv_at hl 3 rfl) ?_
      refine lv_iconst (v := 3) C.1 C.2.1 dL_law_590 (by decide) ?_
      refine lv_iadd C.1 C.2.1 dL_law_591 ?_
      refine va_sld C.1 C.2.1 hX hbl hbA hS (scr_in (k := 3) (by omega) hL) dL_law_592 ?_
      refine lv_i2l C.1 C.2.1 dL_law_593 rfl ?_
      refine lv_ldc2 (v := 4294967295) C.1 C.2.1 C.2.2.2.1 (C.2.2.2.2.1 _ wKL_L_35) dL_law_594 ?_
      refine lv_land C.1 C.2.1 dL_law_597 ?_
      refine lv_lor C.1 C.2.1 dL_law_598 ?_
      obtain ⟨xx, rr, z1, ha, hok, hb2, hcl⟩ := S9 u z (xs (((nI (7 * k)) + 1)).toNatClampNeg) ((((xs (((nI (7 * k)) + 2)).toNatClampNeg : Int32).toInt64) <<< ((32 : Int32).toInt64 &&& 63)) ||| (((xs (((nI (7 * k)) + 3)).toNatClampNeg : Int32).toInt64) &&& 4294967295)) hRl
      refine lN_X (As := [.int (xs (((nI (7 * k)) + 1)).toNatClampNeg), .long ((((xs (((nI (7 * k)) + 2)).toNatClampNeg : Int32).toInt64) <<< ((32 : Int32).toInt64 &&& 63)) ||| (((xs (((nI (7 * k)) + 3)).toNatClampNeg : Int32).toInt64) &&& 4294967295))]) (rest := []) (mc := 1) (ms := 7) C (mX8_set ha hok) vX8_set wM_L_56 ⟨Nat.le_of_ble_eq_true rfl, Nat.le_of_ble_eq_true rfl⟩ hP hD hS hA hZ (rcc_X8 C (P_left hP)) hl.1 rfl rfl (Nat.le_of_ble_eq_true rfl) dL_law_599 ⟨by show _ ≤ 600000; omega, by show _ ≤ 7302250; omega⟩ (fun r1 u1 H locs hp hP hD hS => ?_)
      obtain ⟨er, hRl1⟩ := hcl r1 u1 hp
      refine lv_aload_n C.1 C.2.1 dL_law_602 rfl (lv_at hl 2 rfl) ?_
      refine lv_aload_n C.1 C.2.1 dL_law_603 rfl (lv_at hl 0 rfl) ?_
      refine lv_iload_n C.1 C.2.1 dL_law_604 rfl (lv_at hl 3 rfl) ?_
      refine lv_iconst (v := 1) C.1 C.2.1 dL_law_605 (by decide) ?_
      refine lv_iadd C.1 C.2.1 dL_law_606 ?_
      refine va_sld C.1 C.2.1 hX hbl hbA hS (scr_in (k := 1) (by omega) hL) dL_law_607 ?_
      refine lv_aload_n C.1 C.2.1 dL_law_608 rfl (lv_at hl 0 rfl) ?_
      refine lv_iload_n C.1 C.2.1 dL_law_609 rfl (lv_at hl 3 rfl) ?_
      refine lv_iconst (v := 2) C.1 C.2.1 dL_law_610 (by decide) ?_
      refine lv_iadd C.1 C.2.1 dL_law_611 ?_
      refine va_sld C.1 C.2.1 hX hbl hbA hS (scr_in (k := 2) (by omega) hL) dL_law_612 ?_
      refine lv_i2l C.1 C.2.1 dL_law_613 rfl ?_
      refine lv_bipush (v := 32) C.1 C.2.1 dL_law_614 (by decide) ?_
      refine lv_lshl C.1 C.2.1 dL_law_616 rfl ?_
      refine lv_aload_n C.1 C.2.1 dL_law_617 rfl (lv_at hl 0 rfl) ?_
      refine lv_iload_n C.1 C.2.1 dL_law_618 rfl (lv_at hl 3 rfl) ?_
      refine lv_iconst (v := 3) C.1 C.2.1 dL_law_619 (by decide) ?_
      refine lv_iadd C.1 C.2.1 dL_law_620 ?_
      refine va_sld C.1 C.2.1 hX hbl hbA hS (scr_in (k := 3) (by omega) hL) dL_law_621 ?_
      refine lv_i2l C.1 C.2.1 dL_law_622 rfl ?_
      refine lv_ldc2 (v := 4294967295) C.1 C.2.1 C.2.2.2.1 (C.2.2.2.2.1 _ wKL_L_35) dL_law_623 ?_
      refine lv_land C.1 C.2.1 dL_law_626 ?_
      refine lv_lor C.1 C.2.1 dL_law_627 ?_
      refine lW_Y (As := [.int (xs (((nI (7 * k)) + 1)).toNatClampNeg), .long ((((xs (((nI (7 * k)) + 2)).toNatClampNeg : Int32).toInt64) <<< ((32 : Int32).toInt64 &&& 63)) ||| (((xs (((nI (7 * k)) + 3)).toNatClampNeg : Int32).toInt64) &&& 4294967295))]) (rest := [.int r1]) (mc := 0) (ms := 0) C (mX9_set hb2) vX9_set wM_L_60 ⟨Nat.le_of_ble_eq_true rfl, Nat.le_of_ble_eq_true rfl⟩ hP hD hS hA hZ (rcm_X9 C (P_right hP)) hl.1 rfl rfl (Nat.le_of_ble_eq_true rfl) dL_law_628 ⟨by show _ ≤ 600000; omega, by show _ ≤ 7302250; omega⟩ (fun H locs hP hD hS => ?_)
      refine lv_icmp_eq (tgt := 1179) C.1 C.2.1 dL_law_631 (by decide) (fun c9 => ?_) (fun c9 => ?_)
      · exact hstep u1 z1 hRl1 _ _ _ _ _ (by omega) (by omega) hP hD hS hl
      · exact absurd er c9
    by_cases d10 : sw = 10
    · have e9 : sw.toInt = 10 := by rw [d10]; rfl
      refine lv_tableIn (off := 603) (tgt := 636) C.1 C.2.1 dL_law_33 (by rw [e9]; decide) (by rw [e9]; decide) (by rw [e9]; rfl) (by decide) ?_
      refine lv_aload_n C.1 C.2.1 dL_law_636 rfl (lv_at hl 1 rfl) ?_
      refine lv_aload_n C.1 C.2.1 dL_law_637 rfl (lv_at hl 0 rfl) ?_
      refine lv_iload_n C.1 C.2.1 dL_law_638 rfl (lv_at hl 3 rfl) ?_
      refine lv_iconst (v := 1) C.1 C.2.1 dL_law_639 (by decide) ?_
      refine lv_iadd C.1 C.2.1 dL_law_640 ?_
      refine va_sld C.1 C.2.1 hX hbl hbA hS (scr_in (k := 1) (by omega) hL) dL_law_641 ?_
      refine lv_aload_n C.1 C.2.1 dL_law_642 rfl (lv_at hl 0 rfl) ?_
      refine lv_iload_n C.1 C.2.1 dL_law_643 rfl (lv_at hl 3 rfl) ?_
      refine lv_iconst (v := 2) C.1 C.2.1 dL_law_644 (by decide) ?_
      refine lv_iadd C.1 C.2.1 dL_law_645 ?_
      refine va_sld C.1 C.2.1 hX hbl hbA hS (scr_in (k := 2) (by omega) hL) dL_law_646 ?_
      refine lv_aload_n C.1 C.2.1 dL_law_647 rfl (lv_at hl 0 rfl) ?_
      refine lv_iload_n C.1 C.2.1 dL_law_648 rfl (lv_at hl 3 rfl) ?_
      refine lv_iconst (v := 3) C.1 C.2.1 dL_law_649 (by decide) ?_
      refine lv_iadd C.1 C.2.1 dL_law_650 ?_
      refine va_sld C.1 C.2.1 hX hbl hbA hS (scr_in (k := 3) (by omega) hL) dL_law_651 ?_
      refine lv_i2l C.1 C.2.1 dL_law_652 rfl ?_
      refine lv_bipush (v := 32) C.1 C.2.1 dL_law_653 (by decide) ?_
      refine lv_lshl C.1 C.2.1 dL_law_655 rfl ?_
      refine lv_aload_n C.1 C.2.1 dL_law_656 rfl (lv_at hl 0 rfl) ?_
      refine lv_iload_n C.1 C.2.1 dL_law_657 rfl (lv_at hl 3 rfl) ?_
      refine lv_iconst (v := 4) C.1 C.2.1 dL_law_658 (by decide) ?_
      refine lv_iadd C.1 C.2.1 dL_law_659 ?_
      refine va_sld C.1 C.2.1 hX hbl hbA hS (scr_in (k := 4) (by omega) hL) dL_law_660 ?_
      refine lv_i2l C.1 C.2.1 dL_law_661 rfl ?_
      refine lv_ldc2 (v := 4294967295) C.1 C.2.1 C.2.2.2.1 (C.2.2.2.2.1 _ wKL_L_35) dL_law_662 ?_
      refine lv_land C.1 C.2.1 dL_law_665 ?_
      refine lv_lor C.1 C.2.1 dL_law_666 ?_
      obtain ⟨xx, rr, z1, ha, hok, hb2, hcl⟩ := S10 u z (xs (((nI (7 * k)) + 1)).toNatClampNeg) (xs (((nI (7 * k)) + 2)).toNatClampNeg) ((((xs (((nI (7 * k)) + 3)).toNatClampNeg : Int32).toInt64) <<< ((32 : Int32).toInt64 &&& 63)) ||| (((xs (((nI (7 * k)) + 4)).toNatClampNeg : Int32).toInt64) &&& 4294967295)) hRl
      refine lN_X (As := [.int (xs (((nI (7 * k)) + 1)).toNatClampNeg), .int (xs (((nI (7 * k)) + 2)).toNatClampNeg), .long ((((xs (((nI (7 * k)) + 3)).toNatClampNeg : Int32).toInt64) <<< ((32 : Int32).toInt64 &&& 63)) ||| (((xs (((nI (7 * k)) + 4)).toNatClampNeg : Int32).toInt64) &&& 4294967295))]) (rest := []) (mc := 1) (ms := 7) C (mX8_retype ha hok) vX8_retype wM_L_61 ⟨Nat.le_of_ble_eq_true rfl, Nat.le_of_ble_eq_true rfl⟩ hP hD hS hA hZ (rcc_X8 C (P_left hP)) hl.1 rfl rfl (Nat.le_of_ble_eq_true rfl) dL_law_667 ⟨by show _ ≤ 600000; omega, by show _ ≤ 7302250; omega⟩ (fun r1 u1 H locs hp hP hD hS => ?_)
      obtain ⟨er, hRl1⟩ := hcl r1 u1 hp
      refine lv_aload_n C.1 C.2.1 dL_law_670 rfl (lv_at hl 2 rfl) ?_
      refine lv_aload_n C.1 C.2.1 dL_law_671 rfl (lv_at hl 0 rfl) ?_
      refine lv_iload_n C.1 C.2.1 dL_law_672 rfl (lv_at hl 3 rfl) ?_
      refine lv_iconst (v := 1) C.1 C.2.1 dL_law_673 (by decide) ?_
      refine lv_iadd C.1 C.2.1 dL_law_674 ?_
      refine va_sld C.1 C.2.1 hX hbl hbA hS (scr_in (k := 1) (by omega) hL) dL_law_675 ?_
      refine lv_aload_n C.1 C.2.1 dL_law_676 rfl (lv_at hl 0 rfl) ?_
      refine lv_iload_n C.1 C.2.1 dL_law_677 rfl (lv_at hl 3 rfl) ?_
      refine lv_iconst (v := 2) C.1 C.2.1 dL_law_678 (by decide) ?_
      refine lv_iadd C.1 C.2.1 dL_law_679 ?_
      refine va_sld C.1 C.2.1 hX hbl hbA hS (scr_in (k := 2) (by omega) hL) dL_law_680 ?_
      refine lv_aload_n C.1 C.2.1 dL_law_681 rfl (lv_at hl 0 rfl) ?_
      refine lv_iload_n C.1 C.2.1 dL_law_682 rfl (lv_at hl 3 rfl) ?_
      refine lv_iconst (v := 3) C.1 C.2.1 dL_law_683 (by decide) ?_
      refine lv_iadd C.1 C.2.1 dL_law_684 ?_
      refine va_sld C.1 C.2.1 hX hbl hbA hS (scr_in (k := 3) (by omega) hL) dL_law_685 ?_
      refine lv_i2l C.1 C.2.1 dL_law_686 rfl ?_
      refine lv_bipush (v := 32) C.1 C.2.1 dL_law_687 (by decide) ?_
      refine lv_lshl C.1 C.2.1 dL_law_689 rfl ?_
      refine lv_aload_n C.1 C.2.1 dL_law_690 rfl (lv_at hl 0 rfl) ?_
      refine lv_iload_n C.1 C.2.1 dL_law_691 rfl (lv_at hl 3 rfl) ?_
      refine lv_iconst (v := 4) C.1 C.2.1 dL_law_692 (by decide) ?_
      refine lv_iadd C.1 C.2.1 dL_law_693 ?_
      refine va_sld C.1 C.2.1 hX hbl hbA hS (scr_in (k := 4) (by omega) hL) dL_law_694 ?_
      refine lv_i2l C.1 C.2.1 dL_law_695 rfl ?_
      refine lv_ldc2 (v := 4294967295) C.1 C.2.1 C.2.2.2.1 (C.2.2.2.2.1 _ wKL_L_35) dL_law_696 ?_
      refine lv_land C.1 C.2.1 dL_law_699 ?_
      refine lv_lor C.1 C.2.1 dL_law_700 ?_
      refine lW_Y (As := [.int (xs (((nI (7 * k)) + 1)).toNatClampNeg), .int (xs (((nI (7 * k)) + 2)).toNatClampNeg), .long ((((xs (((nI (7 * k)) + 3)).toNatClampNeg : Int32).toInt64) <<< ((32 : Int32).toInt64 &&& 63)) ||| (((xs (((nI (7 * k)) + 4)).toNatClampNeg : Int32).toInt64) &&& 4294967295))]) (rest := [.int r1]) (mc := 0) (ms := 0) C (mX9_retype hb2) vX9_retype wM_L_65 ⟨Nat.le_of_ble_eq_true rfl, Nat.le_of_ble_eq_true rfl⟩ hP hD hS hA hZ (rcm_X9 C (P_right hP)) hl.1 rfl rfl (Nat.le_of_ble_eq_true rfl) dL_law_701 ⟨by show _ ≤ 600000; omega, by show _ ≤ 7302250; omega⟩ (fun H locs hP hD hS => ?_)
      refine lv_icmp_eq (tgt := 1179) C.1 C.2.1 dL_law_704 (by decide) (fun c9 => ?_) (fun c9 => ?_)
      · exact hstep u1 z1 hRl1 _ _ _ _ _ (by omega) (by omega) hP hD hS hl
      · exact absurd er c9
    by_cases d11 : sw = 11
    · have e9 : sw.toInt = 11 := by rw [d11]; rfl
      refine lv_tableIn (off := 676) (tgt := 709) C.1 C.2.1 dL_law_33 (by rw [e9]; decide) (by rw [e9]; decide) (by rw [e9]; rfl) (by decide) ?_
      refine lv_aload_n C.1 C.2.1 dL_law_709 rfl (lv_at hl 1 rfl) ?_
      refine lv_aload_n C.1 C.2.1 dL_law_710 rfl (lv_at hl 0 rfl) ?_
      refine lv_iload_n C.1 C.2.1 dL_law_711 rfl (lv_at hl 3 rfl) ?_
      refine lv_iconst (v := 1) C.1 C.2.1 dL_law_712 (by decide) ?_
      refine lv_iadd C.1 C.2.1 dL_law_713 ?_
      refine va_sld C.1 C.2.1 hX hbl hbA hS (scr_in (k := 1) (by omega) hL) dL_law_714 ?_
      refine lv_aload_n C.1 C.2.1 dL_law_715 rfl (lv_at hl 0 rfl) ?_
      refine lv_iload_n C.1 C.2.1 dL_law_716 rfl (lv_at hl 3 rfl) ?_
      refine lv_iconst (v := 2) C.1 C.2.1 dL_law_717 (by decide) ?_
      refine lv_iadd C.1 C.2.1 dL_law_718 ?_
      refine va_sld C.1 C.2.1 hX hbl hbA hS (scr_in (k := 2) (by omega) hL) dL_law_719 ?_
      obtain ⟨xx, rr, z1, ha, hok, hb2, hcl⟩ := S11 u z (xs (((nI (7 * k)) + 1)).toNatClampNeg) (xs (((nI (7 * k)) + 2)).toNatClampNeg) hRl
      refine lN_X (As := [.int (xs (((nI (7 * k)) + 1)).toNatClampNeg), .int (xs (((nI (7 * k)) + 2)).toNatClampNeg)]) (rest := []) (mc := 1) (ms := 7) C (mX8_move ha hok) vX8_move wM_L_66 ⟨Nat.le_of_ble_eq_true rfl, Nat.le_of_ble_eq_true rfl⟩ hP hD hS hA hZ (rcc_X8 C (P_left hP)) hl.1 rfl rfl (Nat.le_of_ble_eq_true rfl) dL_law_720 ⟨by show _ ≤ 600000; omega, by show _ ≤ 7302250; omega⟩ (fun r1 u1 H locs hp hP hD hS => ?_)
      obtain ⟨er, hRl1⟩ := hcl r1 u1 hp
      refine lv_aload_n C.1 C.2.1 dL_law_723 rfl (lv_at hl 2 rfl) ?_
      refine lv_aload_n C.1 C.2.1 dL_law_724 rfl (lv_at hl 0 rfl) ?_
      refine lv_iload_n C.1 C.2.1 dL_law_725 rfl (lv_at hl 3 rfl) ?_
      refine lv_iconst (v := 1) C.1 C.2.1 dL_law_726 (by decide) ?_
      refine lv_iadd C.1 C.2.1 dL_law_727 ?_
      refine va_sld C.1 C.2.1 hX hbl hbA hS (scr_in (k := 1) (by omega) hL) dL_law_728 ?_
      refine lv_aload_n C.1 C.2.1 dL_law_729 rfl (lv_at hl 0 rfl) ?_
      refine lv_iload_n C.1 C.2.1 dL_law_730 rfl (lv_at hl 3 rfl) ?_
      refine lv_iconst (v := 2) C.1 C.2.1 dL_law_731 (by decide) ?_
      refine lv_iadd C.1 C.2.1 dL_law_732 ?_
      refine va_sld C.1 C.2.1 hX hbl hbA hS (scr_in (k := 2) (by omega) hL) dL_law_733 ?_
      refine lW_Y (As := [.int (xs (((nI (7 * k)) + 1)).toNatClampNeg), .int (xs (((nI (7 * k)) + 2)).toNatClampNeg)]) (rest := [.int r1]) (mc := 0) (ms := 0) C (mX9_move hb2) vX9_move wM_L_69 ⟨Nat.le_of_ble_eq_true rfl, Nat.le_of_ble_eq_true rfl⟩ hP hD hS hA hZ (rcm_X9 C (P_right hP)) hl.1 rfl rfl (Nat.le_of_ble_eq_true rfl) dL_law_734 ⟨by show _ ≤ 600000; omega, by show _ ≤ 7302250; omega⟩ (fun H locs hP hD hS => ?_)
      refine lv_icmp_eq (tgt := 1179) C.1 C.2.1 dL_law_737 (by decide) (fun c9 => ?_) (fun c9 => ?_)
      · exact hstep u1 z1 hRl1 _ _ _ _ _ (by omega) (by omega) hP hD hS hl
      · exact absurd er c9
    by_cases d12 : sw = 12
    · have e9 : sw.toInt = 12 := by rw [d12]; rfl
      refine lv_tableIn (off := 709) (tgt := 742) C.1 C.2.1 dL_law_33 (by rw [e9]; decide) (by rw [e9]; decide) (by rw [e9]; rfl) (by decide) ?_
      refine lv_aload_n C.1 C.2.1 dL_law_742 rfl (lv_at hl 1 rfl) ?_
      obtain ⟨rr, u1, z1, ha, hb2, hcl⟩ := S12 u z hRl
      refine lW_X (As := []) (rest := []) (mc := 0) (ms := 0) C (mX8_undo ha) vX8_undo wM_L_70 ⟨Nat.le_of_ble_eq_true rfl, Nat.le_of_ble_eq_true rfl⟩ hP hD hS hA hZ (rcc_X8 C (P_left hP)) hl.1 rfl rfl (Nat.le_of_ble_eq_true rfl) dL_law_743 ⟨by show _ ≤ 600000; omega, by show _ ≤ 7302250; omega⟩ (fun H locs hP hD hS => ?_)
      refine lv_aload_n C.1 C.2.1 dL_law_746 rfl (lv_at hl 2 rfl) ?_
      refine lW_Y (As := []) (rest := [.int rr]) (mc := 0) (ms := 0) C (mX9_undo hb2) vX9_undo wM_L_74 ⟨Nat.le_of_ble_eq_true rfl, Nat.le_of_ble_eq_true rfl⟩ hP hD hS hA hZ (rcm_X9 C (P_right hP)) hl.1 rfl rfl (Nat.le_of_ble_eq_true rfl) dL_law_747 ⟨by show _ ≤ 600000; omega, by show _ ≤ 7302250; omega⟩ (fun H locs hP hD hS => ?_)
      refine lv_icmp_eq (tgt := 1179) C.1 C.2.1 dL_law_750 (by decide) (fun c9 => ?_) (fun c9 => ?_)
      · exact hstep u1 z1 hcl _ _ _ _ _ (by omega) (by omega) hP hD hS hl
      · exact absurd rfl c9
    by_cases d13 : sw = 13
    · have e9 : sw.toInt = 13 := by rw [d13]; rfl
      refine lv_tableIn (off := 722) (tgt := 755) C.1 C.2.1 dL_law_33 (by rw [e9]; decide) (by rw [e9]; decide) (by rw [e9]; rfl) (by decide) ?_
      refine lv_aload_n C.1 C.2.1 dL_law_755 rfl (lv_at hl 1 rfl) ?_
      refine lv_aload_n C.1 C.2.1 dL_law_756 rfl (lv_at hl 0 rfl) ?_
      refine lv_iload_n C.1 C.2.1 dL_law_757 rfl (lv_at hl 3 rfl) ?_
      refine lv_iconst (v := 1) C.1 C.2.1 dL_law_758 (by decide) ?_
      refine lv_iadd C.1 C.2.1 dL_law_759 ?_
      refine va_sld C.1 C.2.1 hX hbl hbA hS (scr_in (k := 1) (by omega) hL) dL_law_760 ?_
      refine lv_aload_n C.1 C.2.1 dL_law_761 rfl (lv_at hl 0 rfl) ?_
      refine lv_iload_n C.1 C.2.1 dL_law_762 rfl (lv_at hl 3 rfl) ?_
      refine lv_iconst (v := 2) C.1 C.2.1 dL_law_763 (by decide) ?_
      refine lv_iadd C.1 C.2.1 dL_law_764 ?_
      refine va_sld C.1 C.2.1 hX hbl hbA hS (scr_in (k := 2) (by omega) hL) dL_law_765 ?_
      obtain ⟨xx, rr, z1, ha, hok, hb2, hcl⟩ := S13 u z (xs (((nI (7 * k)) + 1)).toNatClampNeg) (xs (((nI (7 * k)) + 2)).toNatClampNeg) hRl
      refine lN_X (As := [.int (xs (((nI (7 * k)) + 1)).toNatClampNeg), .int (xs (((nI (7 * k)) + 2)).toNatClampNeg)]) (rest := []) (mc := 1) (ms := 13) C (mX8_get ha hok) vX8_get wM_L_75 ⟨Nat.le_of_ble_eq_true rfl, Nat.le_of_ble_eq_true rfl⟩ hP hD hS hA hZ (rcc_X8 C (P_left hP)) hl.1 rfl rfl (Nat.le_of_ble_eq_true rfl) dL_law_766 ⟨by show _ ≤ 600000; omega, by show _ ≤ 7302250; omega⟩ (fun r1 u1 H locs hp hP hD hS => ?_)
      obtain ⟨er, hRl1⟩ := hcl r1 u1 hp
      refine lv_aload_n C.1 C.2.1 dL_law_769 rfl (lv_at hl 2 rfl) ?_
      refine lv_aload_n C.1 C.2.1 dL_law_770 rfl (lv_at hl 0 rfl) ?_
      refine lv_iload_n C.1 C.2.1 dL_law_771 rfl (lv_at hl 3 rfl) ?_
      refine lv_iconst (v := 1) C.1 C.2.1 dL_law_772 (by decide) ?_
      refine lv_iadd C.1 C.2.1 dL_law_773 ?_
      refine va_sld C.1 C.2.1 hX hbl hbA hS (scr_in (k := 1) (by omega) hL) dL_law_774 ?_
      refine lv_aload_n C.1 C.2.1 dL_law_775 rfl (lv_at hl 0 rfl) ?_
      refine lv_iload_n C.1 C.2.1 dL_law_776 rfl (lv_at hl 3 rfl) ?_
      refine lv_iconst (v := 2) C.1 C.2.1 dL_law_777 (by decide) ?_
      refine lv_iadd C.1 C.2.1 dL_law_778 ?_
      refine va_sld C.1 C.2.1 hX hbl hbA hS (scr_in (k := 2) (by omega) hL) dL_law_779 ?_
      refine lW_Y (As := [.int (xs (((nI (7 * k)) + 1)).toNatClampNeg), .int (xs (((nI (7 * k)) + 2)).toNatClampNeg)]) (rest := [.int r1]) (mc := 0) (ms := 0) C (mX9_get hb2) vX9_get wM_L_78 ⟨Nat.le_of_ble_eq_true rfl, Nat.le_of_ble_eq_true rfl⟩ hP hD hS hA hZ (rcm_X9 C (P_right hP)) hl.1 rfl rfl (Nat.le_of_ble_eq_true rfl) dL_law_780 ⟨by show _ ≤ 600000; omega, by show _ ≤ 7302250; omega⟩ (fun H locs hP hD hS => ?_)
      refine lv_icmp_eq (tgt := 1179) C.1 C.2.1 dL_law_783 (by decide) (fun c9 => ?_) (fun c9 => ?_)
      · exact hstep u1 z1 hRl1 _ _ _ _ _ (by omega) (by omega) hP hD hS hl
      · exact absurd er c9
    by_cases d14 : sw = 14
    · have e9 : sw.toInt = 14 := by rw [d14]; rfl
      refine lv_tableIn (off := 755) (tgt := 788) C.1 C.2.1 dL_law_33 (by rw [e9]; decide) (by rw [e9]; decide) (by rw [e9]; rfl) (by decide) ?_
      refine lv_aload_n C.1 C.2.1 dL_law_788 rfl (lv_at hl 1 rfl) ?_
      refine lv_aload_n C.1 C.2.1 dL_law_789 rfl (lv_at hl 0 rfl) ?_
      refine lv_iload_n C.1 C.2.1 dL_law_790 rfl (lv_at hl 3 rfl) ?_
      refine lv_iconst (v := 1) C.1 C.2.1 dL_law_791 (by decide) ?_
      refine lv_iadd C.1 C.2.1 dL_law_792 ?_
      refine va_sld C.1 C.2.1 hX hbl hbA hS (scr_in (k := 1) (by omega) hL) dL_law_793 ?_
      refine lv_aload_n C.1 C.2.1 dL_law_794 rfl (lv_at hl 0 rfl) ?_
      refine lv_iload_n C.1 C.2.1 dL_law_795 rfl (lv_at hl 3 rfl) ?_
      refine lv_iconst (v := 2) C.1 C.2.1 dL_law_796 (by decide) ?_
      refine lv_iadd C.1 C.2.1 dL_law_797 ?_
      refine va_sld C.1 C.2.1 hX hbl hbA hS (scr_in (k := 2) (by omega) hL) dL_law_798 ?_
      refine lv_aload_n C.1 C.2.1 dL_law_799 rfl (lv_at hl 0 rfl) ?_
      refine lv_iload_n C.1 C.2.1 dL_law_800 rfl (lv_at hl 3 rfl) ?_
      refine lv_iconst (v := 3) C.1 C.2.1 dL_law_801 (by decide) ?_
      refine lv_iadd C.1 C.2.1 dL_law_802 ?_
      refine va_sld C.1 C.2.1 hX hbl hbA hS (scr_in (k := 3) (by omega) hL) dL_law_803 ?_
      refine lv_aload_n C.1 C.2.1 dL_law_804 rfl (lv_at hl 0 rfl) ?_
      refine lv_iload_n C.1 C.2.1 dL_law_805 rfl (lv_at hl 3 rfl) ?_
      refine lv_iconst (v := 4) C.1 C.2.1 dL_law_806 (by decide) ?_
      refine lv_iadd C.1 C.2.1 dL_law_807 ?_
      refine va_sld C.1 C.2.1 hX hbl hbA hS (scr_in (k := 4) (by omega) hL) dL_law_808 ?_
      obtain ⟨xx, rr, z1, ha, hok, hb2, hcl⟩ := S14 u z (xs (((nI (7 * k)) + 1)).toNatClampNeg) (xs (((nI (7 * k)) + 2)).toNatClampNeg) (xs (((nI (7 * k)) + 3)).toNatClampNeg) (xs (((nI (7 * k)) + 4)).toNatClampNeg) hRl
      refine lN_X (As := [.int (xs (((nI (7 * k)) + 1)).toNatClampNeg), .int (xs (((nI (7 * k)) + 2)).toNatClampNeg), .int (xs (((nI (7 * k)) + 3)).toNatClampNeg), .int (xs (((nI (7 * k)) + 4)).toNatClampNeg)]) (rest := []) (mc := 1) (ms := 13) C (mX8_call ha hok) vX8_call wM_L_79 ⟨Nat.le_of_ble_eq_true rfl, Nat.le_of_ble_eq_true rfl⟩ hP hD hS hA hZ (rcc_X8 C (P_left hP)) hl.1 rfl rfl (Nat.le_of_ble_eq_true rfl) dL_law_809 ⟨by show _ ≤ 600000; omega, by show _ ≤ 7302250; omega⟩ (fun r1 u1 H locs hp hP hD hS => ?_)
      obtain ⟨er, hRl1⟩ := hcl r1 u1 hp
      refine lv_aload_n C.1 C.2.1 dL_law_812 rfl (lv_at hl 2 rfl) ?_
      refine lv_aload_n C.1 C.2.1 dL_law_813 rfl (lv_at hl 0 rfl) ?_
      refine lv_iload_n C.1 C.2.1 dL_law_814 rfl (lv_at hl 3 rfl) ?_
      refine lv_iconst (v := 1) C.1 C.2.1 dL_law_815 (by decide) ?_
      refine lv_iadd C.1 C.2.1 dL_law_816 ?_
      refine va_sld C.1 C.2.1 hX hbl hbA hS (scr_in (k := 1) (by omega) hL) dL_law_817 ?_
      refine lv_aload_n C.1 C.2.1 dL_law_818 rfl (lv_at hl 0 rfl) ?_
      refine lv_iload_n C.1 C.2.1 dL_law_819 rfl (lv_at hl 3 rfl) ?_
      refine lv_iconst (v := 2) C.1 C.2.1 dL_law_820 (by decide) ?_
      refine lv_iadd C.1 C.2.1 dL_law_821 ?_
      refine va_sld C.1 C.2.1 hX hbl hbA hS (scr_in (k := 2) (by omega) hL) dL_law_822 ?_
      refine lv_aload_n C.1 C.2.1 dL_law_823 rfl (lv_at hl 0 rfl) ?_
      refine lv_iload_n C.1 C.2.1 dL_law_824 rfl (lv_at hl 3 rfl) ?_
      refine lv_iconst (v := 3) C.1 C.2.1 dL_law_825 (by decide) ?_
      refine lv_iadd C.1 C.2.1 dL_law_826 ?_
      refine va_sld C.1 C.2.1 hX hbl hbA hS (scr_in (k := 3) (by omega) hL) dL_law_827 ?_
      refine lv_aload_n C.1 C.2.1 dL_law_828 rfl (lv_at hl 0 rfl) ?_
      refine lv_iload_n C.1 C.2.1 dL_law_829 rfl (lv_at hl 3 rfl) ?_
      refine lv_iconst (v := 4) C.1 C.2.1 dL_law_830 (by decide) ?_
      refine lv_iadd C.1 C.2.1 dL_law_831 ?_
      refine va_sld C.1 C.2.1 hX hbl hbA hS (scr_in (k := 4) (by omega) hL) dL_law_832 ?_
      refine lW_Y (As := [.int (xs (((nI (7 * k)) + 1)).toNatClampNeg), .int (xs (((nI (7 * k)) + 2)).toNatClampNeg), .int (xs (((nI (7 * k)) + 3)).toNatClampNeg), .int (xs (((nI (7 * k)) + 4)).toNatClampNeg)]) (rest := [.int r1]) (mc := 0) (ms := 0) C (mX9_call hb2) vX9_call wM_L_83 ⟨Nat.le_of_ble_eq_true rfl, Nat.le_of_ble_eq_true rfl⟩ hP hD hS hA hZ (rcm_X9 C (P_right hP)) hl.1 rfl rfl (Nat.le_of_ble_eq_true rfl) dL_law_833 ⟨by show _ ≤ 600000; omega, by show _ ≤ 7302250; omega⟩ (fun H locs hP hD hS => ?_)
      refine lv_icmp_eq (tgt := 1179) C.1 C.2.1 dL_law_836 (by decide) (fun c9 => ?_) (fun c9 => ?_)
      · exact hstep u1 z1 hRl1 _ _ _ _ _ (by omega) (by omega) hP hD hS hl
      · exact absurd er c9
    by_cases d15 : sw = 15
    · have e9 : sw.toInt = 15 := by rw [d15]; rfl
      refine lv_tableIn (off := 808) (tgt := 841) C.1 C.2.1 dL_law_33 (by rw [e9]; decide) (by rw [e9]; decide) (by rw [e9]; rfl) (by decide) ?_
      refine lv_aload_n C.1 C.2.1 dL_law_841 rfl (lv_at hl 1 rfl) ?_
      refine lv_aload_n C.1 C.2.1 dL_law_842 rfl (lv_at hl 0 rfl) ?_
      refine lv_iload_n C.1 C.2.1 dL_law_843 rfl (lv_at hl 3 rfl) ?_
      refine lv_iconst (v := 1) C.1 C.2.1 dL_law_844 (by decide) ?_
      refine lv_iadd C.1 C.2.1 dL_law_845 ?_
      refine va_sld C.1 C.2.1 hX hbl hbA hS (scr_in (k := 1) (by omega) hL) dL_law_846 ?_
      obtain ⟨xx, rr, z1, ha, hok, hb2, hcl⟩ := S15 u z (xs (((nI (7 * k)) + 1)).toNatClampNeg) hRl
      refine lN_X (As := [.int (xs (((nI (7 * k)) + 1)).toNatClampNeg)]) (rest := []) (mc := 1) (ms := 13) C (mX8_make ha hok) vX8_make wM_L_84 ⟨Nat.le_of_ble_eq_true rfl, Nat.le_of_ble_eq_true rfl⟩ hP hD hS hA hZ (rcc_X8 C (P_left hP)) hl.1 rfl rfl (Nat.le_of_ble_eq_true rfl) dL_law_847 ⟨by show _ ≤ 600000; omega, by show _ ≤ 7302250; omega⟩ (fun r1 u1 H locs hp hP hD hS => ?_)
      obtain ⟨er, hRl1⟩ := hcl r1 u1 hp
      refine lv_aload_n C.1 C.2.1 dL_law_850 rfl (lv_at hl 2 rfl) ?_
      refine lv_aload_n C.1 C.2.1 dL_law_851 rfl (lv_at hl 0 rfl) ?_
      refine lv_iload_n C.1 C.2.1 dL_law_852 rfl (lv_at hl 3 rfl) ?_
      refine lv_iconst (v := 1) C.1 C.2.1 dL_law_853 (by decide) ?_
      refine lv_iadd C.1 C.2.1 dL_law_854 ?_
      refine va_sld C.1 C.2.1 hX hbl hbA hS (scr_in (k := 1) (by omega) hL) dL_law_855 ?_
      refine lW_Y (As := [.int (xs (((nI (7 * k)) + 1)).toNatClampNeg)]) (rest := [.int r1]) (mc := 0) (ms := 0) C (mX9_make hb2) vX9_make wM_L_87 ⟨Nat.le_of_ble_eq_true rfl, Nat.le_of_ble_eq_true rfl⟩ hP hD hS hA hZ (rcm_X9 C (P_right hP)) hl.1 rfl rfl (Nat.le_of_ble_eq_true rfl) dL_law_856 ⟨by show _ ≤ 600000; omega, by show _ ≤ 7302250; omega⟩ (fun H locs hP hD hS => ?_)
      refine lv_icmp_eq (tgt := 1179) C.1 C.2.1 dL_law_859 (by decide) (fun c9 => ?_) (fun c9 => ?_)
      · exact hstep u1 z1 hRl1 _ _ _ _ _ (by omega) (by omega) hP hD hS hl
      · exact absurd er c9
    by_cases d16 : sw = 16
    · have e9 : sw.toInt = 16 := by rw [d16]; rfl
      refine lv_tableIn (off := 831) (tgt := 864) C.1 C.2.1 dL_law_33 (by rw [e9]; decide) (by rw [e9]; decide) (by rw [e9]; rfl) (by decide) ?_
      refine lv_aload_n C.1 C.2.1 dL_law_864 rfl (lv_at hl 1 rfl) ?_
      refine lv_aload_n C.1 C.2.1 dL_law_865 rfl (lv_at hl 0 rfl) ?_
      refine lv_iload_n C.1 C.2.1 dL_law_866 rfl (lv_at hl 3 rfl) ?_
      refine lv_iconst (v := 1) C.1 C.2.1 dL_law_867 (by decide) ?_
      refine lv_iadd C.1 C.2.1 dL_law_868 ?_
      refine va_sld C.1 C.2.1 hX hbl hbA hS (scr_in (k := 1) (by omega) hL) dL_law_869 ?_
      refine lv_aload_n C.1 C.2.1 dL_law_870 rfl (lv_at hl 0 rfl) ?_
      refine lv_iload_n C.1 C.2.1 dL_law_871 rfl (lv_at hl 3 rfl) ?_
      refine lv_iconst (v := 2) C.1 C.2.1 dL_law_872 (by decide) ?_
      refine lv_iadd C.1 C.2.1 dL_law_873 ?_
      refine va_sld C.1 C.2.1 hX hbl hbA hS (scr_in (k := 2) (by omega) hL) dL_law_874 ?_
      obtain ⟨rr, u1, z1, ha, hb2, hcl⟩ := S16 u z (xs (((nI (7 * k)) + 1)).toNatClampNeg) (xs (((nI (7 * k)) + 2)).toNatClampNeg) hRl
      refine lW_X (As := [.int (xs (((nI (7 * k)) + 1)).toNatClampNeg), .int (xs (((nI (7 * k)) + 2)).toNatClampNeg)]) (rest := []) (mc := 0) (ms := 0) C (mX8_meet ha) vX8_meet wM_L_88 ⟨Nat.le_of_ble_eq_true rfl, Nat.le_of_ble_eq_true rfl⟩ hP hD hS hA hZ (rcc_X8 C (P_left hP)) hl.1 rfl rfl (Nat.le_of_ble_eq_true rfl) dL_law_875 ⟨by show _ ≤ 600000; omega, by show _ ≤ 7302250; omega⟩ (fun H locs hP hD hS => ?_)
      refine lv_aload_n C.1 C.2.1 dL_law_878 rfl (lv_at hl 2 rfl) ?_
      refine lv_aload_n C.1 C.2.1 dL_law_879 rfl (lv_at hl 0 rfl) ?_
      refine lv_iload_n C.1 C.2.1 dL_law_880 rfl (lv_at hl 3 rfl) ?_
      refine lv_iconst (v := 1) C.1 C.2.1 dL_law_881 (by decide) ?_
      refine lv_iadd C.1 C.2.1 dL_law_882 ?_
      refine va_sld C.1 C.2.1 hX hbl hbA hS (scr_in (k := 1) (by omega) hL) dL_law_883 ?_
      refine lv_aload_n C.1 C.2.1 dL_law_884 rfl (lv_at hl 0 rfl) ?_
      refine lv_iload_n C.1 C.2.1 dL_law_885 rfl (lv_at hl 3 rfl) ?_
      refine lv_iconst (v := 2) C.1 C.2.1 dL_law_886 (by decide) ?_
      refine lv_iadd C.1 C.2.1 dL_law_887 ?_
      refine va_sld C.1 C.2.1 hX hbl hbA hS (scr_in (k := 2) (by omega) hL) dL_law_888 ?_
      refine lW_Y (As := [.int (xs (((nI (7 * k)) + 1)).toNatClampNeg), .int (xs (((nI (7 * k)) + 2)).toNatClampNeg)]) (rest := [.int rr]) (mc := 0) (ms := 0) C (mX9_meet hb2) vX9_meet wM_L_91 ⟨Nat.le_of_ble_eq_true rfl, Nat.le_of_ble_eq_true rfl⟩ hP hD hS hA hZ (rcm_X9 C (P_right hP)) hl.1 rfl rfl (Nat.le_of_ble_eq_true rfl) dL_law_889 ⟨by show _ ≤ 600000; omega, by show _ ≤ 7302250; omega⟩ (fun H locs hP hD hS => ?_)
      refine lv_icmp_eq (tgt := 1179) C.1 C.2.1 dL_law_892 (by decide) (fun c9 => ?_) (fun c9 => ?_)
      · exact hstep u1 z1 hcl _ _ _ _ _ (by omega) (by omega) hP hD hS hl
      · exact absurd rfl c9
    by_cases d17 : sw = 17
    · have e9 : sw.toInt = 17 := by rw [d17]; rfl
      refine lv_tableIn (off := 864) (tgt := 897) C.1 C.2.1 dL_law_33 (by rw [e9]; decide) (by rw [e9]; decide) (by rw [e9]; rfl) (by decide) ?_
      refine lv_aload_n C.1 C.2.1 dL_law_897 rfl (lv_at hl 1 rfl) ?_
      obtain ⟨rr, ha, hb2⟩ := S17 u z hRl
      refine cRl (As := []) (rest := []) C (mX8_asked ha) vX8_asked wM_L_92 ⟨Nat.le_of_ble_eq_true rfl, Nat.le_of_ble_eq_true rfl⟩ (P_left hP) (rcc_X8 C (P_left hP)) (fun U hU hW => SF.go hZ hS hU hW (fun _ h => h.elim)) hl.1 rfl rfl (Nat.le_of_ble_eq_true rfl) dL_law_898 ⟨by show _ ≤ 600000; omega, by show _ ≤ 7302250; omega⟩ ?_
      refine lv_aload_n C.1 C.2.1 dL_law_901 rfl (lv_at hl 2 rfl) ?_
      refine cRl (As := []) (rest := [.long rr]) C (mX9_asked hb2) vX9_asked wM_L_96 ⟨Nat.le_of_ble_eq_true rfl, Nat.le_of_ble_eq_true rfl⟩ (P_right hP) (rcm_X9 C (P_right hP)) (fun U hU hW => SF.go hZ hS hU hW (fun _ h => h.elim)) hl.1 rfl rfl (Nat.le_of_ble_eq_true rfl) dL_law_902 ⟨by show _ ≤ 600000; omega, by show _ ≤ 7302250; omega⟩ ?_
      refine W.lcmp C.1 C.2.1 dL_law_905 ?_
      refine lv_if_eq (tgt := 1179) C.1 C.2.1 dL_law_906 (by decide) (fun c9 => ?_) (fun c9 => ?_)
      · exact hstep u z hRl _ _ _ _ _ (by omega) (by omega) hP hD hS hl
      · exact absurd (lg_self rr) c9
    by_cases d18 : sw = 18
    · have e9 : sw.toInt = 18 := by rw [d18]; rfl
      refine lv_tableIn (off := 878) (tgt := 911) C.1 C.2.1 dL_law_33 (by rw [e9]; decide) (by rw [e9]; decide) (by rw [e9]; rfl) (by decide) ?_
      refine lv_aload_n C.1 C.2.1 dL_law_911 rfl (lv_at hl 1 rfl) ?_
      refine lv_aload_n C.1 C.2.1 dL_law_912 rfl (lv_at hl 0 rfl) ?_
      refine lv_iload_n C.1 C.2.1 dL_law_913 rfl (lv_at hl 3 rfl) ?_
      refine lv_iconst (v := 1) C.1 C.2.1 dL_law_914 (by decide) ?_
      refine lv_iadd C.1 C.2.1 dL_law_915 ?_
      refine va_sld C.1 C.2.1 hX hbl hbA hS (scr_in (k := 1) (by omega) hL) dL_law_916 ?_
      refine lv_aload_n C.1 C.2.1 dL_law_917 rfl (lv_at hl 0 rfl) ?_
      refine lv_iload_n C.1 C.2.1 dL_law_918 rfl (lv_at hl 3 rfl) ?_
      refine lv_iconst (v := 2) C.1 C.2.1 dL_law_919 (by decide) ?_
      refine lv_iadd C.1 C.2.1 dL_law_920 ?_
      refine va_sld C.1 C.2.1 hX hbl hbA hS (scr_in (k := 2) (by omega) hL) dL_law_921 ?_
      obtain ⟨rr, u1, z1, ha, hb2, hcl⟩ := S18 u z (xs (((nI (7 * k)) + 1)).toNatClampNeg) (xs (((nI (7 * k)) + 2)).toNatClampNeg) hRl
      refine lW_X (As := [.int (xs (((nI (7 * k)) + 1)).toNatClampNeg), .int (xs (((nI (7 * k)) + 2)).toNatClampNeg)]) (rest := []) (mc := 0) (ms := 0) C (mX8_anew ha) vX8_anew wM_L_97 ⟨Nat.le_of_ble_eq_true rfl, Nat.le_of_ble_eq_true rfl⟩ hP hD hS hA hZ (rcc_X8 C (P_left hP)) hl.1 rfl rfl (Nat.le_of_ble_eq_true rfl) dL_law_922 ⟨by show _ ≤ 600000; omega, by show _ ≤ 7302250; omega⟩ (fun H locs hP hD hS => ?_)
      refine lv_aload_n C.1 C.2.1 dL_law_925 rfl (lv_at hl 2 rfl) ?_
      refine lv_aload_n C.1 C.2.1 dL_law_926 rfl (lv_at hl 0 rfl) ?_
      refine lv_iload_n C.1 C.2.1 dL_law_927 rfl (lv_at hl 3 rfl) ?_
      refine lv_iconst (v := 1) C.1 C.2.1 dL_law_928 (by decide) ?_
      refine lv_iadd C.1 C.2.1 dL_law_929 ?_
      refine va_sld C.1 C.2.1 hX hbl hbA hS (scr_in (k := 1) (by omega) hL) dL_law_930 ?_
      refine lv_aload_n C.1 C.2.1 dL_law_931 rfl (lv_at hl 0 rfl) ?_
      refine lv_iload_n C.1 C.2.1 dL_law_932 rfl (lv_at hl 3 rfl) ?_
      refine lv_iconst (v := 2) C.1 C.2.1 dL_law_933 (by decide) ?_
      refine lv_iadd C.1 C.2.1 dL_law_934 ?_
      refine va_sld C.1 C.2.1 hX hbl hbA hS (scr_in (k := 2) (by omega) hL) dL_law_935 ?_
      refine lW_Y (As := [.int (xs (((nI (7 * k)) + 1)).toNatClampNeg), .int (xs (((nI (7 * k)) + 2)).toNatClampNeg)]) (rest := [.int rr]) (mc := 0) (ms := 0) C (mX9_anew hb2) vX9_anew wM_L_100 ⟨Nat.le_of_ble_eq_true rfl, Nat.le_of_ble_eq_true rfl⟩ hP hD hS hA hZ (rcm_X9 C (P_right hP)) hl.1 rfl rfl (Nat.le_of_ble_eq_true rfl) dL_law_936 ⟨by show _ ≤ 600000; omega, by show _ ≤ 7302250; omega⟩ (fun H locs hP hD hS => ?_)
      refine lv_icmp_eq (tgt := 1179) C.1 C.2.1 dL_law_939 (by decide) (fun c9 => ?_) (fun c9 => ?_)
      · exact hstep u1 z1 hcl _ _ _ _ _ (by omega) (by omega) hP hD hS hl
      · exact absurd rfl c9
    by_cases d19 : sw = 19
    · have e9 : sw.toInt = 19 := by rw [d19]; rfl
      refine lv_tableIn (off := 911) (tgt := 944) C.1 C.2.1 dL_law_33 (by rw [e9]; decide) (by rw [e9]; decide) (by rw [e9]; rfl) (by decide) ?_
      refine lv_aload_n C.1 C.2.1 dL_law_944 rfl (lv_at hl 1 rfl) ?_
      refine lv_aload_n C.1 C.2.1 dL_law_945 rfl (lv_at hl 0 rfl) ?_
      refine lv_iload_n C.1 C.2.1 dL_law_946 rfl (lv_at hl 3 rfl) ?_
      refine lv_iconst (v := 1) C.1 C.2.1 dL_law_947 (by decide) ?_
      refine lv_iadd C.1 C.2.1 dL_law_948 ?_
      refine va_sld C.1 C.2.1 hX hbl hbA hS (scr_in (k := 1) (by omega) hL) dL_law_949 ?_
      refine lv_aload_n C.1 C.2.1 dL_law_950 rfl (lv_at hl 0 rfl) ?_
      refine lv_iload_n C.1 C.2.1 dL_law_951 rfl (lv_at hl 3 rfl) ?_
      refine lv_iconst (v := 2) C.1 C.2.1 dL_law_952 (by decide) ?_
      refine lv_iadd C.1 C.2.1 dL_law_953 ?_
      refine va_sld C.1 C.2.1 hX hbl hbA hS (scr_in (k := 2) (by omega) hL) dL_law_954 ?_
      obtain ⟨rr, u1, z1, ha, hb2, hcl⟩ := S19 u z (xs (((nI (7 * k)) + 1)).toNatClampNeg) (xs (((nI (7 * k)) + 2)).toNatClampNeg) hRl
      refine lW_X (As := [.int (xs (((nI (7 * k)) + 1)).toNatClampNeg), .int (xs (((nI (7 * k)) + 2)).toNatClampNeg)]) (rest := []) (mc := 0) (ms := 0) C (mX8_culprit ha) vX8_culprit wM_L_101 ⟨Nat.le_of_ble_eq_true rfl, Nat.le_of_ble_eq_true rfl⟩ hP hD hS hA hZ (rcc_X8 C (P_left hP)) hl.1 rfl rfl (Nat.le_of_ble_eq_true rfl) dL_law_955 ⟨by show _ ≤ 600000; omega, by show _ ≤ 7302250; omega⟩ (fun H locs hP hD hS => ?_)
      refine lv_aload_n C.1 C.2.1 dL_law_958 rfl (lv_at hl 2 rfl) ?_
      refine lv_aload_n C.1 C.2.1 dL_law_959 rfl (lv_at hl 0 rfl) ?_
      refine lv_iload_n C.1 C.2.1 dL_law_960 rfl (lv_at hl 3 rfl) ?_
      refine lv_iconst (v := 1) C.1 C.2.1 dL_law_961 (by decide) ?_
      refine lv_iadd C.1 C.2.1 dL_law_962 ?_
      refine va_sld C.1 C.2.1 hX hbl hbA hS (scr_in (k := 1) (by omega) hL) dL_law_963 ?_
      refine lv_aload_n C.1 C.2.1 dL_law_964 rfl (lv_at hl 0 rfl) ?_
      refine lv_iload_n C.1 C.2.1 dL_law_965 rfl (lv_at hl 3 rfl) ?_
      refine lv_iconst (v := 2) C.1 C.2.1 dL_law_966 (by decide) ?_
      refine lv_iadd C.1 C.2.1 dL_law_967 ?_
      refine va_sld C.1 C.2.1 hX hbl hbA hS (scr_in (k := 2) (by omega) hL) dL_law_968 ?_
      refine lW_Y (As := [.int (xs (((nI (7 * k)) + 1)).toNatClampNeg), .int (xs (((nI (7 * k)) + 2)).toNatClampNeg)]) (rest := [.int rr]) (mc := 0) (ms := 0) C (mX9_culprit hb2) vX9_culprit wM_L_104 ⟨Nat.le_of_ble_eq_true rfl, Nat.le_of_ble_eq_true rfl⟩ hP hD hS hA hZ (rcm_X9 C (P_right hP)) hl.1 rfl rfl (Nat.le_of_ble_eq_true rfl) dL_law_969 ⟨by show _ ≤ 600000; omega, by show _ ≤ 7302250; omega⟩ (fun H locs hP hD hS => ?_)
      refine lv_icmp_eq (tgt := 1179) C.1 C.2.1 dL_law_972 (by decide) (fun c9 => ?_) (fun c9 => ?_)
      · exact hstep u1 z1 hcl _ _ _ _ _ (by omega) (by omega) hP hD hS hl
      · exact absurd rfl c9
    by_cases d20 : sw = 20
    · have e9 : sw.toInt = 20 := by rw [d20]; rfl
      refine lv_tableIn (off := 944) (tgt := 977) C.1 C.2.1 dL_law_33 (by rw [e9]; decide) (by rw [e9]; decide) (by rw [e9]; rfl) (by decide) ?_
      refine lv_aload_n C.1 C.2.1 dL_law_977 rfl (lv_at hl 1 rfl) ?_
      refine lv_aload_n C.1 C.2.1 dL_law_978 rfl (lv_at hl 0 rfl) ?_
      refine lv_iload_n C.1 C.2.1 dL_law_979 rfl (lv_at hl 3 rfl) ?_
      refine lv_iconst (v := 1) C.1 C.2.1 dL_law_980 (by decide) ?_
      refine lv_iadd C.1 C.2.1 dL_law_981 ?_
      refine va_sld C.1 C.2.1 hX hbl hbA hS (scr_in (k := 1) (by omega) hL) dL_law_982 ?_
      refine lv_aload_n C.1 C.2.1 dL_law_983 rfl (lv_at hl 0 rfl) ?_
      refine lv_iload_n C.1 C.2.1 dL_law_984 rfl (lv_at hl 3 rfl) ?_
      refine lv_iconst (v := 2) C.1 C.2.1 dL_law_985 (by decide) ?_
      refine lv_iadd C.1 C.2.1 dL_law_986 ?_
      refine va_sld C.1 C.2.1 hX hbl hbA hS (scr_in (k := 2) (by omega) hL) dL_law_987 ?_
      obtain ⟨rr, ha, hb2⟩ := S20 u z (xs (((nI (7 * k)) + 1)).toNatClampNeg) (xs (((nI (7 * k)) + 2)).toNatClampNeg) hRl
      refine cRi (As := [.int (xs (((nI (7 * k)) + 1)).toNatClampNeg), .int (xs (((nI (7 * k)) + 2)).toNatClampNeg)]) (rest := []) C (mX8_caller ha) vX8_caller wM_L_105 ⟨Nat.le_of_ble_eq_true rfl, Nat.le_of_ble_eq_true rfl⟩ (P_left hP) (rcc_X8 C (P_left hP)) (fun U hU hW => SF.go hZ hS hU hW (fun _ h => h.elim)) hl.1 rfl rfl (Nat.le_of_ble_eq_true rfl) dL_law_988 ⟨by show _ ≤ 600000; omega, by show _ ≤ 7302250; omega⟩ ?_
      refine lv_aload_n C.1 C.2.1 dL_law_991 rfl (lv_at hl 2 rfl) ?_
      refine lv_aload_n C.1 C.2.1 dL_law_992 rfl (lv_at hl 0 rfl) ?_
      refine lv_iload_n C.1 C.2.1 dL_law_993 rfl (lv_at hl 3 rfl) ?_
      refine lv_iconst (v := 1) C.1 C.2.1 dL_law_994 (by decide) ?_
      refine lv_iadd C.1 C.2.1 dL_law_995 ?_
      refine va_sld C.1 C.2.1 hX hbl hbA hS (scr_in (k := 1) (by omega) hL) dL_law_996 ?_
      refine lv_aload_n C.1 C.2.1 dL_law_997 rfl (lv_at hl 0 rfl) ?_
      refine lv_iload_n C.1 C.2.1 dL_law_998 rfl (lv_at hl 3 rfl) ?_
      refine lv_iconst (v := 2) C.1 C.2.1 dL_law_999 (by decide) ?_
      refine lv_iadd C.1 C.2.1 dL_law_1000 ?_
      refine va_sld C.1 C.2.1 hX hbl hbA hS (scr_in (k := 2) (by omega) hL) dL_law_1001 ?_
      refine cRi (As := [.int (xs (((nI (7 * k)) + 1)).toNatClampNeg), .int (xs (((nI (7 * k)) + 2)).toNatClampNeg)]) (rest := [.int rr]) C (mX9_caller hb2) vX9_caller wM_L_108 ⟨Nat.le_of_ble_eq_true rfl, Nat.le_of_ble_eq_true rfl⟩ (P_right hP) (rcm_X9 C (P_right hP)) (fun U hU hW => SF.go hZ hS hU hW (fun _ h => h.elim)) hl.1 rfl rfl (Nat.le_of_ble_eq_true rfl) dL_law_1002 ⟨by show _ ≤ 600000; omega, by show _ ≤ 7302250; omega⟩ ?_
      refine lv_icmp_eq (tgt := 1179) C.1 C.2.1 dL_law_1005 (by decide) (fun c9 => ?_) (fun c9 => ?_)
      · exact hstep u z hRl _ _ _ _ _ (by omega) (by omega) hP hD hS hl
      · exact absurd rfl c9
    by_cases d21 : sw = 21
    · have e9 : sw.toInt = 21 := by rw [d21]; rfl
      refine lv_tableIn (off := 977) (tgt := 1010) C.1 C.2.1 dL_law_33 (by rw [e9]; decide) (by rw [e9]; decide) (by rw [e9]; rfl) (by decide) ?_
      refine lv_aload_n C.1 C.2.1 dL_law_1010 rfl (lv_at hl 1 rfl) ?_
      refine lv_aload_n C.1 C.2.1 dL_law_1011 rfl (lv_at hl 0 rfl) ?_
      refine lv_iload_n C.1 C.2.1 dL_law_1012 rfl (lv_at hl 3 rfl) ?_
      refine lv_iconst (v := 1) C.1 C.2.1 dL_law_1013 (by decide) ?_
      refine lv_iadd C.1 C.2.1 dL_law_1014 ?_
      refine va_sld C.1 C.2.1 hX hbl hbA hS (scr_in (k := 1) (by omega) hL) dL_law_1015 ?_
      refine lv_aload_n C.1 C.2.1 dL_law_1016 rfl (lv_at hl 0 rfl) ?_
      refine lv_iload_n C.1 C.2.1 dL_law_1017 rfl (lv_at hl 3 rfl) ?_
      refine lv_iconst (v := 2) C.1 C.2.1 dL_law_1018 (by decide) ?_
      refine lv_iadd C.1 C.2.1 dL_law_1019 ?_
      refine va_sld C.1 C.2.1 hX hbl hbA hS (scr_in (k := 2) (by omega) hL) dL_law_1020 ?_
      obtain ⟨rr, ha, hb2⟩ := S21 u z (xs (((nI (7 * k)) + 1)).toNatClampNeg) (xs (((nI (7 * k)) + 2)).toNatClampNeg) hRl
      refine cRi (As := [.int (xs (((nI (7 * k)) + 1)).toNatClampNeg), .int (xs (((nI (7 * k)) + 2)).toNatClampNeg)]) (rest := []) C (mX8_told ha) vX8_told wM_L_109 ⟨Nat.le_of_ble_eq_true rfl, Nat.le_of_ble_eq_true rfl⟩ (P_left hP) (rcc_X8 C (P_left hP)) (fun U hU hW => SF.go hZ hS hU hW (fun _ h => h.elim)) hl.1 rfl rfl (Nat.le_of_ble_eq_true rfl) dL_law_1021 ⟨by show _ ≤ 600000; omega, by show _ ≤ 7302250; omega⟩ ?_
      refine lv_aload_n C.1 C.2.1 dL_law_1024 rfl (lv_at hl 2 rfl) ?_
      refine lv_aload_n C.1 C.2.1 dL_law_1025 rfl (lv_at hl 0 rfl) ?_
      refine lv_iload_n C.1 C.2.1 dL_law_1026 rfl (lv_at hl 3 rfl) ?_
      refine lv_iconst (v := 1) C.1 C.2.1 dL_law_1027 (by decide) ?_
      refine lv_iadd C.1 C.2.1 dL_law_1028 ?_
      refine va_sld C.1 C.2.1 hX hbl hbA hS (scr_in (k := 1) (by omega) hL) dL_law_1029 ?_
      refine lv_aload_n C.1 C.2.1 dL_law_1030 rfl (lv_at hl 0 rfl) ?_
      refine lv_iload_n C.1 C.2.1 dL_law_1031 rfl (lv_at hl 3 rfl) ?_
      refine lv_iconst (v := 2) C.1 C.2.1 dL_law_1032 (by decide) ?_
      refine lv_iadd C.1 C.2.1 dL_law_1033 ?_
      refine va_sld C.1 C.2.1 hX hbl hbA hS (scr_in (k := 2) (by omega) hL) dL_law_1034 ?_
      refine cRi (As := [.int (xs (((nI (7 * k)) + 1)).toNatClampNeg), .int (xs (((nI (7 * k)) + 2)).toNatClampNeg)]) (rest := [.int rr]) C (mX9_told hb2) vX9_told wM_L_112 ⟨Nat.le_of_ble_eq_true rfl, Nat.le_of_ble_eq_true rfl⟩ (P_right hP) (rcm_X9 C (P_right hP)) (fun U hU hW => SF.go hZ hS hU hW (fun _ h => h.elim)) hl.1 rfl rfl (Nat.le_of_ble_eq_true rfl) dL_law_1035 ⟨by show _ ≤ 600000; omega, by show _ ≤ 7302250; omega⟩ ?_
      refine lv_icmp_eq (tgt := 1179) C.1 C.2.1 dL_law_1038 (by decide) (fun c9 => ?_) (fun c9 => ?_)
      · exact hstep u z hRl _ _ _ _ _ (by omega) (by omega) hP hD hS hl
      · exact absurd rfl c9
    by_cases d22 : sw = 22
    · have e9 : sw.toInt = 22 := by rw [d22]; rfl
      refine lv_tableIn (off := 1010) (tgt := 1043) C.1 C.2.1 dL_law_33 (by rw [e9]; decide) (by rw [e9]; decide) (by rw [e9]; rfl) (by decide) ?_
      refine lv_aload_n C.1 C.2.1 dL_law_1043 rfl (lv_at hl 1 rfl) ?_
      refine lv_aload_n C.1 C.2.1 dL_law_1044 rfl (lv_at hl 0 rfl) ?_
      refine lv_iload_n C.1 C.2.1 dL_law_1045 rfl (lv_at hl 3 rfl) ?_
      refine lv_iconst (v := 1) C.1 C.2.1 dL_law_1046 (by decide) ?_
      refine lv_iadd C.1 C.2.1 dL_law_1047 ?_
      refine va_sld C.1 C.2.1 hX hbl hbA hS (scr_in (k := 1) (by omega) hL) dL_law_1048 ?_
      refine lv_aload_n C.1 C.2.1 dL_law_1049 rfl (lv_at hl 0 rfl) ?_
      refine lv_iload_n C.1 C.2.1 dL_law_1050 rfl (lv_at hl 3 rfl) ?_
      refine lv_iconst (v := 2) C.1 C.2.1 dL_law_1051 (by decide) ?_
      refine lv_iadd C.1 C.2.1 dL_law_1052 ?_
      refine va_sld C.1 C.2.1 hX hbl hbA hS (scr_in (k := 2) (by omega) hL) dL_law_1053 ?_
      obtain ⟨rr, z1, ha, hb2, hcl⟩ := S22 u z (xs (((nI (7 * k)) + 1)).toNatClampNeg) (xs (((nI (7 * k)) + 2)).toNatClampNeg) hRl
      refine cRi (As := [.int (xs (((nI (7 * k)) + 1)).toNatClampNeg), .int (xs (((nI (7 * k)) + 2)).toNatClampNeg)]) (rest := []) C (mX8_below ha) vX8_below wM_L_113 ⟨Nat.le_of_ble_eq_true rfl, Nat.le_of_ble_eq_true rfl⟩ (P_left hP) (rcc_X8 C (P_left hP)) (fun U hU hW => SF.go hZ hS hU hW (fun _ h => h.elim)) hl.1 rfl rfl (Nat.le_of_ble_eq_true rfl) dL_law_1054 ⟨by show _ ≤ 600000; omega, by show _ ≤ 7302250; omega⟩ ?_
      refine lv_aload_n C.1 C.2.1 dL_law_1057 rfl (lv_at hl 2 rfl) ?_
      refine lv_aload_n C.1 C.2.1 dL_law_1058 rfl (lv_at hl 0 rfl) ?_
      refine lv_iload_n C.1 C.2.1 dL_law_1059 rfl (lv_at hl 3 rfl) ?_
      refine lv_iconst (v := 1) C.1 C.2.1 dL_law_1060 (by decide) ?_
      refine lv_iadd C.1 C.2.1 dL_law_1061 ?_
      refine va_sld C.1 C.2.1 hX hbl hbA hS (scr_in (k := 1) (by omega) hL) dL_law_1062 ?_
      refine lv_aload_n C.1 C.2.1 dL_law_1063 rfl (lv_at hl 0 rfl) ?_
      refine lv_iload_n C.1 C.2.1 dL_law_1064 rfl (lv_at hl 3 rfl) ?_
      refine lv_iconst (v := 2) C.1 C.2.1 dL_law_1065 (by decide) ?_
      refine lv_iadd C.1 C.2.1 dL_law_1066 ?_
      refine va_sld C.1 C.2.1 hX hbl hbA hS (scr_in (k := 2) (by omega) hL) dL_law_1067 ?_
      refine lW_Y (As := [.int (xs (((nI (7 * k)) + 1)).toNatClampNeg), .int (xs (((nI (7 * k)) + 2)).toNatClampNeg)]) (rest := [.int rr]) (mc := 0) (ms := 0) C (mX9_below hb2) vX9_below wM_L_116 ⟨Nat.le_of_ble_eq_true rfl, Nat.le_of_ble_eq_true rfl⟩ hP hD hS hA hZ (rcm_X9 C (P_right hP)) hl.1 rfl rfl (Nat.le_of_ble_eq_true rfl) dL_law_1068 ⟨by show _ ≤ 600000; omega, by show _ ≤ 7302250; omega⟩ (fun H locs hP hD hS => ?_)
      refine lv_icmp_eq (tgt := 1179) C.1 C.2.1 dL_law_1071 (by decide) (fun c9 => ?_) (fun c9 => ?_)
      · exact hstep u z1 hcl _ _ _ _ _ (by omega) (by omega) hP hD hS hl
      · exact absurd rfl c9
    by_cases d23 : sw = 23
    · have e9 : sw.toInt = 23 := by rw [d23]; rfl
      refine lv_tableIn (off := 1043) (tgt := 1076) C.1 C.2.1 dL_law_33 (by rw [e9]; decide) (by rw [e9]; decide) (by rw [e9]; rfl) (by decide) ?_
      refine lv_aload_n C.1 C.2.1 dL_law_1076 rfl (lv_at hl 1 rfl) ?_
      refine lv_aload_n C.1 C.2.1 dL_law_1077 rfl (lv_at hl 0 rfl) ?_
      refine lv_iload_n C.1 C.2.1 dL_law_1078 rfl (lv_at hl 3 rfl) ?_
      refine lv_iconst (v := 1) C.1 C.2.1 dL_law_1079 (by decide) ?_
      refine lv_iadd C.1 C.2.1 dL_law_1080 ?_
      refine va_sld C.1 C.2.1 hX hbl hbA hS (scr_in (k := 1) (by omega) hL) dL_law_1081 ?_
      refine lv_aload_n C.1 C.2.1 dL_law_1082 rfl (lv_at hl 0 rfl) ?_
      refine lv_iload_n C.1 C.2.1 dL_law_1083 rfl (lv_at hl 3 rfl) ?_
      refine lv_iconst (v := 2) C.1 C.2.1 dL_law_1084 (by decide) ?_
      refine lv_iadd C.1 C.2.1 dL_law_1085 ?_
      refine va_sld C.1 C.2.1 hX hbl hbA hS (scr_in (k := 2) (by omega) hL) dL_law_1086 ?_
      obtain ⟨rr, ha, hb2⟩ := S23 u z (xs (((nI (7 * k)) + 1)).toNatClampNeg) (xs (((nI (7 * k)) + 2)).toNatClampNeg) hRl
      refine cRi (As := [.int (xs (((nI (7 * k)) + 1)).toNatClampNeg), .int (xs (((nI (7 * k)) + 2)).toNatClampNeg)]) (rest := []) C (mX8_member ha) vX8_member wM_L_117 ⟨Nat.le_of_ble_eq_true rfl, Nat.le_of_ble_eq_true rfl⟩ (P_left hP) (rcc_X8 C (P_left hP)) (fun U hU hW => SF.go hZ hS hU hW (fun _ h => h.elim)) hl.1 rfl rfl (Nat.le_of_ble_eq_true rfl) dL_law_1087 ⟨by show _ ≤ 600000; omega, by show _ ≤ 7302250; omega⟩ ?_
      refine lv_aload_n C.1 C.2.1 dL_law_1090 rfl (lv_at hl 2 rfl) ?_
      refine lv_aload_n C.1 C.2.1 dL_law_1091 rfl (lv_at hl 0 rfl) ?_
      refine lv_iload_n C.1 C.2.1 dL_law_1092 rfl (lv_at hl 3 rfl) ?_
      refine lv_iconst (v := 1) C.1 C.2.1 dL_law_1093 (by decide) ?_
      refine lv_iadd C.1 C.2.1 dL_law_1094 ?_
      refine va_sld C.1 C.2.1 hX hbl hbA hS (scr_in (k := 1) (by omega) hL) dL_law_1095 ?_
      refine lv_aload_n C.1 C.2.1 dL_law_1096 rfl (lv_at hl 0 rfl) ?_
      refine lv_iload_n C.1 C.2.1 dL_law_1097 rfl (lv_at hl 3 rfl) ?_
      refine lv_iconst (v := 2) C.1 C.2.1 dL_law_1098 (by decide) ?_
      refine lv_iadd C.1 C.2.1 dL_law_1099 ?_
      refine va_sld C.1 C.2.1 hX hbl hbA hS (scr_in (k := 2) (by omega) hL) dL_law_1100 ?_
      refine cRi (As := [.int (xs (((nI (7 * k)) + 1)).toNatClampNeg), .int (xs (((nI (7 * k)) + 2)).toNatClampNeg)]) (rest := [.int rr]) C (mX9_member hb2) vX9_member wM_L_120 ⟨Nat.le_of_ble_eq_true rfl, Nat.le_of_ble_eq_true rfl⟩ (P_right hP) (rcm_X9 C (P_right hP)) (fun U hU hW => SF.go hZ hS hU hW (fun _ h => h.elim)) hl.1 rfl rfl (Nat.le_of_ble_eq_true rfl) dL_law_1101 ⟨by show _ ≤ 600000; omega, by show _ ≤ 7302250; omega⟩ ?_
      refine lv_icmp_eq (tgt := 1179) C.1 C.2.1 dL_law_1104 (by decide) (fun c9 => ?_) (fun c9 => ?_)
      · exact hstep u z hRl _ _ _ _ _ (by omega) (by omega) hP hD hS hl
      · exact absurd rfl c9
    by_cases d24 : sw = 24
    · have e9 : sw.toInt = 24 := by rw [d24]; rfl
      refine lv_tableIn (off := 1076) (tgt := 1109) C.1 C.2.1 dL_law_33 (by rw [e9]; decide) (by rw [e9]; decide) (by rw [e9]; rfl) (by decide) ?_
      refine lv_aload_n C.1 C.2.1 dL_law_1109 rfl (lv_at hl 1 rfl) ?_
      refine lv_aload_n C.1 C.2.1 dL_law_1110 rfl (lv_at hl 0 rfl) ?_
      refine lv_iload_n C.1 C.2.1 dL_law_1111 rfl (lv_at hl 3 rfl) ?_
      refine lv_iconst (v := 1) C.1 C.2.1 dL_law_1112 (by decide) ?_
      refine lv_iadd C.1 C.2.1 dL_law_1113 ?_
      refine va_sld C.1 C.2.1 hX hbl hbA hS (scr_in (k := 1) (by omega) hL) dL_law_1114 ?_
      refine lv_aload_n C.1 C.2.1 dL_law_1115 rfl (lv_at hl 0 rfl) ?_
      refine lv_iload_n C.1 C.2.1 dL_law_1116 rfl (lv_at hl 3 rfl) ?_
      refine lv_iconst (v := 2) C.1 C.2.1 dL_law_1117 (by decide) ?_
      refine lv_iadd C.1 C.2.1 dL_law_1118 ?_
      refine va_sld C.1 C.2.1 hX hbl hbA hS (scr_in (k := 2) (by omega) hL) dL_law_1119 ?_
      obtain ⟨rr, z1, ha, hb2, hcl⟩ := S24 u z (xs (((nI (7 * k)) + 1)).toNatClampNeg) (xs (((nI (7 * k)) + 2)).toNatClampNeg) hRl
      refine cRi (As := [.int (xs (((nI (7 * k)) + 1)).toNatClampNeg), .int (xs (((nI (7 * k)) + 2)).toNatClampNeg)]) (rest := []) C (mX8_selected ha) vX8_selected wM_L_121 ⟨Nat.le_of_ble_eq_true rfl, Nat.le_of_ble_eq_true rfl⟩ (P_left hP) (rcc_X8 C (P_left hP)) (fun U hU hW => SF.go hZ hS hU hW (fun _ h => h.elim)) hl.1 rfl rfl (Nat.le_of_ble_eq_true rfl) dL_law_1120 ⟨by show _ ≤ 600000; omega, by show _ ≤ 7302250; omega⟩ ?_
      refine lv_aload_n C.1 C.2.1 dL_law_1123 rfl (lv_at hl 2 rfl) ?_
      refine lv_aload_n C.1 C.2.1 dL_law_1124 rfl (lv_at hl 0 rfl) ?_
      refine lv_iload_n C.1 C.2.1 dL_law_1125 rfl (lv_at hl 3 rfl) ?_
      refine lv_iconst (v := 1) C.1 C.2.1 dL_law_1126 (by decide) ?_
      refine lv_iadd C.1 C.2.1 dL_law_1127 ?_
      refine va_sld C.1 C.2.1 hX hbl hbA hS (scr_in (k := 1) (by omega) hL) dL_law_1128 ?_
      refine lv_aload_n C.1 C.2.1 dL_law_1129 rfl (lv_at hl 0 rfl) ?_
      refine lv_iload_n C.1 C.2.1 dL_law_1130 rfl (lv_at hl 3 rfl) ?_
      refine lv_iconst (v := 2) C.1 C.2.1 dL_law_1131 (by decide) ?_
      refine lv_iadd C.1 C.2.1 dL_law_1132 ?_
      refine va_sld C.1 C.2.1 hX hbl hbA hS (scr_in (k := 2) (by omega) hL) dL_law_1133 ?_
      refine lW_Y (As := [.int (xs (((nI (7 * k)) + 1)).toNatClampNeg), .int (xs (((nI (7 * k)) + 2)).toNatClampNeg)]) (rest := [.int rr]) (mc := 0) (ms := 0) C (mX9_selected hb2) vX9_selected wM_L_124 ⟨Nat.le_of_ble_eq_true rfl, Nat.le_of_ble_eq_true rfl⟩ hP hD hS hA hZ (rcm_X9 C (P_right hP)) hl.1 rfl rfl (Nat.le_of_ble_eq_true rfl) dL_law_1134 ⟨by show _ ≤ 600000; omega, by show _ ≤ 7302250; omega⟩ (fun H locs hP hD hS => ?_)
      refine lv_icmp_eq (tgt := 1179) C.1 C.2.1 dL_law_1137 (by decide) (fun c9 => ?_) (fun c9 => ?_)
      · exact hstep u z1 hcl _ _ _ _ _ (by omega) (by omega) hP hD hS hl
      · exact absurd rfl c9
    by_cases d25 : sw = 25
    · have e9 : sw.toInt = 25 := by rw [d25]; rfl
      refine lv_tableIn (off := 1109) (tgt := 1142) C.1 C.2.1 dL_law_33 (by rw [e9]; decide) (by rw [e9]; decide) (by rw [e9]; rfl) (by decide) ?_
      refine lv_aload_n C.1 C.2.1 dL_law_1142 rfl (lv_at hl 1 rfl) ?_
      refine lv_aload_n C.1 C.2.1 dL_law_1143 rfl (lv_at hl 0 rfl) ?_
      refine lv_iload_n C.1 C.2.1 dL_law_1144 rfl (lv_at hl 3 rfl) ?_
      refine lv_iconst (v := 1) C.1 C.2.1 dL_law_1145 (by decide) ?_
      refine lv_iadd C.1 C.2.1 dL_law_1146 ?_
      refine va_sld C.1 C.2.1 hX hbl hbA hS (scr_in (k := 1) (by omega) hL) dL_law_1147 ?_
      obtain ⟨rr, ha, hb2⟩ := S25 u z (xs (((nI (7 * k)) + 1)).toNatClampNeg) hRl
      refine cRi (As := [.int (xs (((nI (7 * k)) + 1)).toNatClampNeg)]) (rest := []) C (mX8_count ha) vX8_count wM_L_125 ⟨Nat.le_of_ble_eq_true rfl, Nat.le_of_ble_eq_true rfl⟩ (P_left hP) (rcc_X8 C (P_left hP)) (fun U hU hW => SF.go hZ hS hU hW (fun _ h => h.elim)) hl.1 rfl rfl (Nat.le_of_ble_eq_true rfl) dL_law_1148 ⟨by show _ ≤ 600000; omega, by show _ ≤ 7302250; omega⟩ ?_
      refine lv_aload_n C.1 C.2.1 dL_law_1151 rfl (lv_at hl 2 rfl) ?_
      refine lv_aload_n C.1 C.2.1 dL_law_1152 rfl (lv_at hl 0 rfl) ?_
      refine lv_iload_n C.1 C.2.1 dL_law_1153 rfl (lv_at hl 3 rfl) ?_
      refine lv_iconst (v := 1) C.1 C.2.1 dL_law_1154 (by decide) ?_
      refine lv_iadd C.1 C.2.1 dL_law_1155 ?_
      refine va_sld C.1 C.2.1 hX hbl hbA hS (scr_in (k := 1) (by omega) hL) dL_law_1156 ?_
      refine cRi (As := [.int (xs (((nI (7 * k)) + 1)).toNatClampNeg)]) (rest := [.int rr]) C (mX9_count hb2) vX9_count wM_L_128 ⟨Nat.le_of_ble_eq_true rfl, Nat.le_of_ble_eq_true rfl⟩ (P_right hP) (rcm_X9 C (P_right hP)) (fun U hU hW => SF.go hZ hS hU hW (fun _ h => h.elim)) hl.1 rfl rfl (Nat.le_of_ble_eq_true rfl) dL_law_1157 ⟨by show _ ≤ 600000; omega, by show _ ≤ 7302250; omega⟩ ?_
      refine lv_icmp_eq (tgt := 1179) C.1 C.2.1 dL_law_1160 (by decide) (fun c9 => ?_) (fun c9 => ?_)
      · exact hstep u z hRl _ _ _ _ _ (by omega) (by omega) hP hD hS hl
      · exact absurd rfl c9
    by_cases d26 : sw = 26
    · have e9 : sw.toInt = 26 := by rw [d26]; rfl
      refine lv_tableIn (off := 1132) (tgt := 1165) C.1 C.2.1 dL_law_33 (by rw [e9]; decide) (by rw [e9]; decide) (by rw [e9]; rfl) (by decide) ?_
      refine lv_aload_n C.1 C.2.1 dL_law_1165 rfl (lv_at hl 1 rfl) ?_
      obtain ⟨rr, ha, hb2⟩ := S26 u z hRl
      refine cRl (As := []) (rest := []) C (mX8_digest ha) vX8_digest wM_L_129 ⟨Nat.le_of_ble_eq_true rfl, Nat.le_of_ble_eq_true rfl⟩ (P_left hP) (rcc_X8 C (P_left hP)) (fun U hU hW => SF.go hZ hS hU hW (fun _ h => h.elim)) hl.1 rfl rfl (Nat.le_of_ble_eq_true rfl) dL_law_1166 ⟨by show _ ≤ 600000; omega, by show _ ≤ 7302250; omega⟩ ?_
      refine lv_aload_n C.1 C.2.1 dL_law_1169 rfl (lv_at hl 2 rfl) ?_
      refine cRl (As := []) (rest := [.long rr]) C (mX9_digest hb2) vX9_digest wM_L_132 ⟨Nat.le_of_ble_eq_true rfl, Nat.le_of_ble_eq_true rfl⟩ (P_right hP) (rcm_X9 C (P_right hP)) (fun U hU hW => SF.go hZ hS hU hW (fun _ h => h.elim)) hl.1 rfl rfl (Nat.le_of_ble_eq_true rfl) dL_law_1170 ⟨by show _ ≤ 600000; omega, by show _ ≤ 7302250; omega⟩ ?_
      refine W.lcmp C.1 C.2.1 dL_law_1173 ?_
      refine lv_if_eq (tgt := 1179) C.1 C.2.1 dL_law_1174 (by decide) (fun c9 => ?_) (fun c9 => ?_)
      · exact hstep u z hRl _ _ _ _ _ (by omega) (by omega) hP hD hS hl
      · exact absurd (lg_self rr) c9
    refine lv_tableOut (tgt := 1179) C.1 C.2.1 dL_law_33 (by have q0 := neI d0 (k := 0) rfl; have q1 := neI d1 (k := 1) rfl; have q2 := neI d2 (k := 2) rfl; have q3 := neI d3 (k := 3) rfl; have q4 := neI d4 (k := 4) rfl; have q5 := neI d5 (k := 5) rfl; have q6 := neI d6 (k := 6) rfl; have q7 := neI d7 (k := 7) rfl; have q8 := neI d8 (k := 8) rfl; have q9 := neI d9 (k := 9) rfl; have q10 := neI d10 (k := 10) rfl; have q11 := neI d11 (k := 11) rfl; have q12 := neI d12 (k := 12) rfl; have q13 := neI d13 (k := 13) rfl; have q14 := neI d14 (k := 14) rfl; have q15 := neI d15 (k := 15) rfl; have q16 := neI d16 (k := 16) rfl; have q17 := neI d17 (k := 17) rfl; have q18 := neI d18 (k := 18) rfl; have q19 := neI d19 (k := 19) rfl; have q20 := neI d20 (k := 20) rfl; have q21 := neI d21 (k := 21) rfl; have q22 := neI d22 (k := 22) rfl; have q23 := neI d23 (k := 23) rfl; have q24 := neI d24 (k := 24) rfl; have q25 := neI d25 (k := 25) rfl; have q26 := neI d26 (k := 26) rfl; omega) (by decide) ?_
    exact hstep u z hRl _ _ _ _ _ (by omega) (by omega) hP hD hS hl
