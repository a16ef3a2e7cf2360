/-! ===== states that differ in some slots alone ===== -/
def E3 (u v : ST) (a b c : List Nat) : Prop := (∀ k, k ∉ a → sI v k = sI u k) ∧ (∀ k, k ∉ b → sL v k = sL u k) ∧ (∀ k, k ∉ c → aI v k = aI u k) ∧ aL v = aL u ∧ aR v = aR u ∧ pA v = pA u ∧ pK v = pK u ∧ pI v = pI u ∧ pV v = pV u ∧ ag v = ag u
theorem E3.refl {u : ST} {a b c : List Nat} : E3 u u a b c := ⟨fun _ _ => rfl, fun _ _ => rfl, fun _ _ => rfl, rfl, rfl, rfl, rfl, rfl, rfl, rfl⟩
theorem E3.trans {u v w : ST} {a b c : List Nat} (h1 : E3 u v a b c) (h2 : E3 v w a b c) : E3 u w a b c := by
  obtain ⟨p1, p2, p3, p4, p5, p6, p7, p8, p9, p10⟩ := h1
  obtain ⟨r1, r2, r3, r4, r5, r6, r7, r8, r9, r10⟩ := h2
  exact ⟨fun k h => (r1 k h).trans (p1 k h), fun k h => (r2 k h).trans (p2 k h), fun k h => (r3 k h).trans (p3 k h), r4.trans p4, r5.trans p5, r6.trans p6, r7.trans p7, r8.trans p8, r9.trans p9, r10.trans p10⟩
theorem E3.uI {u : ST} {a b c : List Nat} {k : Nat} {v : Int32} (h : k ∈ a) : E3 u (uI u k v) a b c := ⟨fun j hj => by
  show va_up (sI u) k v j = sI u j
  exact va_up_ne _ _ (fun e => hj (e ▸ h)), fun _ _ => rfl, fun _ _ => rfl, rfl, rfl, rfl, rfl, rfl, rfl, rfl⟩
theorem E3.uL {u : ST} {a b c : List Nat} {k : Nat} {v : Int64} (h : k ∈ b) : E3 u (uL u k v) a b c := ⟨fun _ _ => rfl, fun j hj => by
  show va_up (sL u) k v j = sL u j
  exact va_up_ne _ _ (fun e => hj (e ▸ h)), fun _ _ => rfl, rfl, rfl, rfl, rfl, rfl, rfl, rfl⟩
theorem E3.vI {u : ST} {a b c : List Nat} {k : Nat} {f : Nat → Int32} (h : k ∈ c) : E3 u (vI u k f) a b c := ⟨fun _ _ => rfl, fun _ _ => rfl, fun j hj => by
  show va_up (aI u) k f j = aI u j
  exact va_up_ne _ _ (fun e => hj (e ▸ h)), rfl, rfl, rfl, rfl, rfl, rfl, rfl⟩
theorem sI_uI (u : ST) (k : Nat) (v : Int32) : sI (uI u k v) k = v := by simp [sI, uI, mkS, va_up]
/-! ===== walks, written down ===== -/
def pw (kd : Nat → List Nat) : Nat → Nat → List Nat
  | 0, _ => []
  | k + 1, t => t :: (kd t).flatMap (pw kd k)
theorem flatMap_congr' {α β : Type} {l : List α} {f g : α → List β} (h : ∀ x, x ∈ l → f x = g x) : l.flatMap f = l.flatMap g := by
  induction l with
  | nil => rfl
  | cons a l ih => rw [List.flatMap_cons, List.flatMap_cons, h a List.mem_cons_self, ih (fun x hx => h x (List.mem_cons_of_mem _ hx))]
theorem pw_fix {h : HA} (hw : WF h) {kd : Nat → List Nat} (hk : ∀ t, t < hN h → ∀ s, s ∈ kd t → s ∈ suc h t) {t : Nat} (ht : t < hN h) : pw kd 12 t = t :: (kd t).flatMap (pw kd 12) := by
  obtain ⟨q, q1, q2, -⟩ := WF_rank hw
  have st : ∀ (n t : Nat), t < hN h → q t = n → ∀ k, n < k → pw kd k t = pw kd (k + 1) t := by
    intro n
    induction n using Nat.strongRecOn with
    | ind n ih =>
      intro t ht hq k hk2
      obtain ⟨k, rfl⟩ : ∃ j, k = j + 1 := ⟨k - 1, by omega⟩
      unfold pw
      congr 1
      refine flatMap_congr' (fun m hm => ?_)
      have hm2 := hk t ht m hm
      have h1 := q2 t ht m hm2
      exact ih (q m) (by omega) m (suc_lt hw ht hm2) rfl k (by omega)
  have h12 := hw.1
  rw [st (q t) t ht rfl 12 (by have := q1 t ht; omega)]
  rfl
/-- what is above; FACES; above, then FACES; FACES, then above -/
def kU (h : HA) (t : Nat) : List Nat := (hA h t).toList
def kF (h : HA) (t : Nat) : List Nat := hL h t
def kB (h : HA) (b : Bool) (t : Nat) : List Nat := if b = true then hL h t ++ (hA h t).toList else (hA h t).toList ++ hL h t
def chn (h : HA) (t : Nat) : List Nat := pw (kU h) 12 t
def pf (h : HA) (t : Nat) : List Nat := pw (kF h) 12 t
def odr (h : HA) (b : Bool) (t : Nat) : List Nat := pw (kB h b) 12 t
theorem kU_suc {h : HA} : ∀ t, t < hN h → ∀ s, s ∈ kU h t → s ∈ suc h t := fun _ _ _ hs => List.mem_append_left _ hs
theorem kF_suc {h : HA} : ∀ t, t < hN h → ∀ s, s ∈ kF h t → s ∈ suc h t := fun _ _ _ hs => List.mem_append_right _ hs
theorem kB_suc {h : HA} {b : Bool} : ∀ t, t < hN h → ∀ s, s ∈ kB h b t → s ∈ suc h t := by
  intro t _ s hs
  unfold kB at hs
  unfold suc
  cases b with
  | true => rw [if_pos rfl] at hs; rcases List.mem_append.mp hs with h1 | h1 <;> simp [h1]
  | false => rw [if_neg (by decide)] at hs; exact hs
theorem chn_fix {h : HA} (hw : WF h) {t : Nat} (ht : t < hN h) : chn h t = t :: (match hA h t with | none => [] | some a => chn h a) := by
  unfold chn
  rw [pw_fix hw kU_suc ht]
  congr 1
  unfold kU
  cases hA h t <;> simp
theorem pf_fix {h : HA} (hw : WF h) {t : Nat} (ht : t < hN h) : pf h t = t :: (hL h t).flatMap (pf h) := pw_fix hw kF_suc ht
theorem odr_fix {h : HA} (hw : WF h) (b : Bool) {t : Nat} (ht : t < hN h) : odr h b t = t :: (kB h b t).flatMap (odr h b) := pw_fix hw kB_suc ht
/-- a FACE has nothing above it -/
theorem odr_face {h : HA} (hw : WF h) (b : Bool) : ∀ t, t < hN h → hF h t = true → odr h b t = pf h t := by
  refine bel_ind hw (fun t => hF h t = true → odr h b t = pf h t) (fun t ht ih hf => ?_)
  have ha : hA h t = none := by
    cases e : hA h t with
    | none => rfl
    | some a => have := (hw.2.1 t ht a e).2.2; rw [hf] at this; cases this
  rw [odr_fix hw b ht, pf_fix hw ht]
  congr 1
  have : kB h b t = hL h t := by unfold kB; rw [ha]; cases b <;> simp
  rw [this]
  refine flatMap_congr' (fun m hm => ih m (List.mem_append_right _ hm) ?_)
  exact ((hw.2.2.1 t ht).2.2 m hm).2
theorem odr_faces {h : HA} (hw : WF h) (b : Bool) {t : Nat} (ht : t < hN h) : (hL h t).flatMap (odr h b) = (hL h t).flatMap (pf h) := flatMap_congr' (fun m hm => odr_face hw b m ((hw.2.2.1 t ht).2.2 m hm).1 ((hw.2.2.1 t ht).2.2 m hm).2)
/-- the order for METHODS, as the reference has it: the CLASSES up, then their FACES from the top down -/
theorem odr_M {h : HA} (hw : WF h) : ∀ t, t < hN h → odr h false t = chn h t ++ (chn h t).reverse.flatMap (fun c => (hL h c).flatMap (pf h)) := by
  refine bel_ind hw (fun t => odr h false t = chn h t ++ (chn h t).reverse.flatMap (fun c => (hL h c).flatMap (pf h))) (fun t ht ih => ?_)
  rw [odr_fix hw false ht, chn_fix hw ht]
  unfold kB
  rw [if_neg (by decide), List.flatMap_append, odr_faces hw false ht]
  cases ha : hA h t with
  | none => simp
  | some a =>
    have iha := ih a (List.mem_append_left _ (by rw [ha]; simp))
    simp [iha, List.flatMap_append]
/-- the order for FIELDS: each CLASS up with its FACES -/
theorem odr_F {h : HA} (hw : WF h) : ∀ t, t < hN h → odr h true t = (chn h t).flatMap (fun c => c :: (hL h c).flatMap (pf h)) := by
  refine bel_ind hw (fun t => odr h true t = (chn h t).flatMap (fun c => c :: (hL h c).flatMap (pf h))) (fun t ht ih => ?_)
  rw [odr_fix hw true ht, chn_fix hw ht]
  unfold kB
  rw [if_pos rfl, List.flatMap_append, odr_faces hw true ht]
  cases ha : hA h t with
  | none => simp
  | some a =>
    have iha := ih a (List.mem_append_left _ (by rw [ha]; simp))
    simp [iha]
theorem odr_lt {h : HA} (hw : WF h) (b : Bool) : ∀ t, t < hN h → ∀ x, x ∈ odr h b t → x < hN h := by
  refine bel_ind hw (fun t => ∀ x, x ∈ odr h b t → x < hN h) (fun t ht ih x hx => ?_)
  rw [odr_fix hw b ht] at hx
  rcases List.mem_cons.mp hx with rfl | hx
  · exact ht
  · obtain ⟨m, hm, hx⟩ := List.mem_flatMap.mp hx
    exact ih m (kB_suc t ht m hm) x hx
/-! ===== the first that is found ===== -/
theorem fs_addQ {P : Nat → Option Nat} {acc : List Nat} {x : Nat} : (addQ acc x).findSome? P = (acc.findSome? P).or (P x) := by
  unfold addQ
  by_cases c : x ∈ acc
  · rw [if_pos c]
    cases e : acc.findSome? P with
    | none =>
      have := List.findSome?_eq_none_iff.mp e x c
      rw [this]; rfl
    | some v => rfl
  · rw [if_neg c, List.findSome?_append]
    simp
theorem fs_fold {P : Nat → Option Nat} : ∀ {xs acc : List Nat}, (xs.foldl addQ acc).findSome? P = (acc.findSome? P).or (xs.findSome? P)
  | [], acc => by simp
  | x :: xs, acc => by
    rw [List.foldl_cons, fs_fold, fs_addQ, List.findSome?_cons, Option.or_assoc]
    congr 1
    cases P x <;> simp
theorem fs_dedup {P : Nat → Option Nat} {xs : List Nat} : (xs.foldl addQ []).findSome? P = xs.findSome? P := by rw [fs_fold]; simp
