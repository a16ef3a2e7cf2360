def bt (x : Int32) (i : Nat) : Bool := x.toBitVec.getLsbD i
theorem b_ext {x y : Int32} (h : ∀ i, i < 32 → bt x i = bt y i) : x = y := Int32.toBitVec_inj.mp (BitVec.eq_of_getLsbD_eq (fun i hi => h i hi))
theorem b_or (x y : Int32) (i : Nat) : bt (x ||| y) i = (bt x i || bt y i) := by unfold bt; rw [Int32.toBitVec_or, BitVec.getLsbD_or]
theorem b_and (x y : Int32) (i : Nat) : bt (x &&& y) i = (bt x i && bt y i) := by unfold bt; rw [Int32.toBitVec_and, BitVec.getLsbD_and]
theorem b_xor (x y : Int32) (i : Nat) : bt (x ^^^ y) i = (bt x i ^^ bt y i) := by unfold bt; rw [Int32.toBitVec_xor, BitVec.getLsbD_xor]
theorem b_big {x : Int32} {i : Nat} (h : 32 ≤ i) : bt x i = false := BitVec.getLsbD_of_ge _ _ h
theorem b_255 (i : Nat) : bt 255 i = decide (i < 8) := by
  rcases Nat.lt_or_ge i 32 with h | h
  · exact (by decide +kernel : ∀ i, i < 32 → bt 255 i = decide (i < 8)) i h
  · rw [b_big h, decide_eq_false (by omega)]
theorem b_65535 (i : Nat) : bt 65535 i = decide (i < 16) := by
  rcases Nat.lt_or_ge i 32 with h | h
  · exact (by decide +kernel : ∀ i, i < 32 → bt 65535 i = decide (i < 16)) i h
  · rw [b_big h, decide_eq_false (by omega)]
theorem b_m1 : ∀ i, i < 32 → bt (-1) i = true := by decide +kernel
theorem b_0 (i : Nat) : bt 0 i = false := BitVec.getLsbD_zero
theorem s_l : ∀ n, n < 32 → ((nI n &&& 31).toBitVec.smod 32).toNat = n := by decide +kernel
theorem s_u : ∀ n, n < 32 → (((nI n).toUInt32 &&& Int32.toUInt32 31).toBitVec % 32).toNat = n := by decide +kernel
theorem b_shl (n : Nat) (hn : n < 32) (x : Int32) {i : Nat} (hi : i < 32) : bt (x <<< (nI n &&& 31)) i = (decide (n ≤ i) && bt x (i - n)) := by
  unfold bt
  rw [Int32.toBitVec_shiftLeft]
  show (x.toBitVec <<< ((nI n &&& 31).toBitVec.smod 32).toNat).getLsbD i = _
  rw [s_l n hn, BitVec.getLsbD_shiftLeft]
  rcases Nat.lt_or_ge i n with h | h
  · simp [h, Nat.not_le.mpr h]
  · simp [hi, h, Nat.not_lt.mpr h]
theorem b_ushr (n : Nat) (hn : n < 32) (x : Int32) (i : Nat) : bt ((x.toUInt32 >>> ((nI n).toUInt32 &&& Int32.toUInt32 31)).toInt32) i = bt x (n + i) := by
  show (x.toUInt32 >>> ((nI n).toUInt32 &&& Int32.toUInt32 31)).toBitVec.getLsbD i = x.toUInt32.toBitVec.getLsbD (n + i)
  rw [UInt32.toBitVec_shiftRight]
  show (x.toUInt32.toBitVec >>> (((nI n).toUInt32 &&& Int32.toUInt32 31).toBitVec % 32).toNat).getLsbD i = _
  rw [s_u n hn, BitVec.getLsbD_ushiftRight]
theorem b_sshr (n : Nat) (hn : n < 32) (x : Int32) {i : Nat} (hi : i < 32) : bt (x >>> (nI n &&& 31)) i = if n + i < 32 then bt x (n + i) else bt x 31 := by
  unfold bt
  rw [Int32.toBitVec_shiftRight]
  show (x.toBitVec.sshiftRight ((nI n &&& 31).toBitVec.smod 32).toNat).getLsbD i = _
  rw [s_l n hn, BitVec.getLsbD_sshiftRight, BitVec.msb_eq_getLsbD_last]
  simp [hi]
theorem b_1 (i : Nat) : bt 1 i = decide (i = 0) := by
  rcases Nat.lt_or_ge i 32 with h | h
  · exact (by decide +kernel : ∀ i, i < 32 → bt 1 i = decide (i = 0)) i h
  · rw [b_big h, decide_eq_false (by omega)]
theorem and1_0 (x : Int32) : x &&& 1 = 0 ↔ bt x 0 = false := by
  constructor
  · intro e
    have := congrArg (fun y => bt y 0) e
    simpa [b_and, b_1, b_0] using this
  · intro e
    refine b_ext (fun i hi => ?_)
    rw [b_and, b_1, b_0]
    by_cases c : i = 0
    · subst c; simp [e]
    · simp [c]
theorem and1_1 (x : Int32) : x &&& 1 = 1 ↔ bt x 0 = true := by
  constructor
  · intro e
    have := congrArg (fun y => bt y 0) e
    simpa [b_and, b_1] using this
  · intro e
    refine b_ext (fun i hi => ?_)
    rw [b_and, b_1]
    by_cases c : i = 0
    · subst c; simp [e]
    · simp [c]
theorem tst0 (x : Int32) {s : Nat} (hs : s < 31) : (x >>> (nI s &&& 31)) &&& 1 = 0 ↔ bt x s = false := by
  rw [and1_0, b_sshr s (by omega) x (by decide), if_pos (by omega)]; rfl
theorem tst1 (x : Int32) {s : Nat} (hs : s < 31) : (x >>> (nI s &&& 31)) &&& 1 = 1 ↔ bt x s = true := by
  rw [and1_1, b_sshr s (by omega) x (by decide), if_pos (by omega)]; rfl
theorem b_bit {s : Nat} (hs : s < 32) {i : Nat} (hi : i < 32) : bt ((1 : Int32) <<< (nI s &&& 31)) i = decide (i = s) := by
  rw [b_shl s hs 1 hi, b_1]
  by_cases c : i = s
  · subst c; simp
  · by_cases d : s ≤ i
    · have : ¬ i - s = 0 := by omega
      simp [c, d, this]
    · simp [c, d]
/-! counting -/
def cn (P : Nat → Bool) : Nat → Nat
  | 0 => 0
  | n + 1 => cn P n + (if P n = true then 1 else 0)
theorem cn_le {P Q : Nat → Bool} : ∀ {n : Nat}, (∀ y, y < n → P y = true → Q y = true) → cn P n ≤ cn Q n
  | 0, _ => Nat.le_refl _
  | n + 1, h => by
    have ih := cn_le (n := n) (fun y hy => h y (by omega))
    unfold cn
    by_cases c : P n = true
    · rw [if_pos c, if_pos (h n (by omega) c)]; omega
    · rw [if_neg c]; split <;> omega
theorem cn_lt {P Q : Nat → Bool} : ∀ {n x : Nat}, (∀ y, y < n → P y = true → Q y = true) → x < n → Q x = true → ¬ P x = true → cn P n < cn Q n
  | 0, _, _, hx, _, _ => by omega
  | n + 1, x, h, hx, hq, hp => by
    unfold cn
    by_cases e : x = n
    · subst e
      have := cn_le (n := x) (fun y hy => h y (by omega))
      rw [if_neg hp, if_pos hq]; omega
    · have ih := cn_lt (n := n) (x := x) (fun y hy => h y (by omega)) (by omega) hq hp
      by_cases c : P n = true
      · rw [if_pos c, if_pos (h n (by omega) c)]; omega
      · rw [if_neg c]; split <;> omega
theorem cn_all : ∀ n, cn (fun _ => true) n = n
  | 0 => rfl
  | n + 1 => by unfold cn; rw [cn_all n]; rfl
theorem cn_lt_n {P : Nat → Bool} {n x : Nat} (hx : x < n) (hp : ¬ P x = true) : cn P n < n := by
  have := cn_lt (P := P) (Q := fun _ => true) (n := n) (x := x) (fun _ _ _ => rfl) hx rfl hp
  rwa [cn_all] at this
theorem nodup_le : ∀ {n : Nat} {l : List Nat}, l.Nodup → (∀ x, x ∈ l → x < n) → l.length ≤ n
  | 0, l, _, h => by
    cases l with
    | nil => exact Nat.le_refl _
    | cons a l => exact absurd (h a List.mem_cons_self) (by omega)
  | n + 1, l, hd, h => by
    have h1 : (l.erase n).length ≤ n := nodup_le (hd.erase n) (fun x hx => by
      have h2 := (List.Nodup.mem_erase_iff hd).mp hx
      have := h x h2.2
      have := h2.1
      omega)
    by_cases c : n ∈ l
    · have := List.length_erase_of_mem c; omega
    · rw [List.erase_of_not_mem c] at h1; omega
/-! ===== BELOW ===== -/
theorem WF_rank {h : HA} (hw : WF h) : ∃ q : Nat → Nat, (∀ t, t < hN h → q t < hN h) ∧ (∀ t, t < hN h → ∀ s, s ∈ suc h t → q s < q t) ∧ (∀ a, a < hN h → ∀ b, b < hN h → q a = q b → a = b) := by
  obtain ⟨hn, h1, h2, ⟨p, hp⟩, -⟩ := hw
  have hs : ∀ t, t < hN h → ∀ s, s ∈ suc h t → s < hN h := by
    intro t ht s hs
    rcases List.mem_append.mp hs with h3 | h3
    · have : hA h t = some s := by
        cases e : hA h t with
        | none => rw [e] at h3; simp at h3
        | some a => rw [e] at h3; simp at h3; rw [h3]
      exact (h1 t ht s this).1
    · exact ((h2 t ht).2.2 s h3).1
  have mono : ∀ a, a < hN h → ∀ b, b < hN h → p a * 16 + a < p b * 16 + b → cn (fun y => decide (p y * 16 + y < p a * 16 + a)) (hN h) < cn (fun y => decide (p y * 16 + y < p b * 16 + b)) (hN h) := by
    intro a ha b hb hab
    refine cn_lt (x := a) (fun y hy => ?_) ha ?_ ?_
    · simp only [decide_eq_true_eq]; omega
    · simpa using hab
    · simp
  refine ⟨fun x => cn (fun y => decide (p y * 16 + y < p x * 16 + x)) (hN h), fun t ht => cn_lt_n ht (by simp), fun t ht s hm => ?_, fun a ha b hb e => ?_⟩
  · have := hs t ht s hm
    have := hp t ht s hm
    exact mono s (by omega) t ht (by omega)
  · dsimp only at e
    rcases Nat.lt_trichotomy (p a * 16 + a) (p b * 16 + b) with c | c | c
    · have := mono a ha b hb c; omega
    · omega
    · have := mono b hb a ha c; omega
theorem suc_lt {h : HA} (hw : WF h) {t s : Nat} (ht : t < hN h) (hs : s ∈ suc h t) : s < hN h := by
  rcases List.mem_append.mp hs with h3 | h3
  · have : hA h t = some s := by
      cases e : hA h t with
      | none => rw [e] at h3; simp at h3
      | some a => rw [e] at h3; simp at h3; rw [h3]
    exact (hw.2.1 t ht s this).1
  · exact ((hw.2.2.1 t ht).2.2 s h3).1
def belF (h : HA) : Nat → Nat → Nat → Bool
  | 0, t, s => t == s
  | k + 1, t, s => t == s || (suc h t).any (fun m => belF h k m s)
def bel (h : HA) (t s : Nat) : Bool := belF h 12 t s
theorem any_congr {α : Type} {l : List α} {f g : α → Bool} (h : ∀ x, x ∈ l → f x = g x) : l.any f = l.any g := by
  induction l with
  | nil => rfl
  | cons a l ih => simp only [List.any_cons, h a List.mem_cons_self, ih (fun x hx => h x (List.mem_cons_of_mem _ hx))]
theorem bel_fix {h : HA} (hw : WF h) {t : Nat} (ht : t < hN h) (s : Nat) : bel h t s = (t == s || (suc h t).any (fun m => bel h m s)) := by
  obtain ⟨q, q1, q2, -⟩ := WF_rank hw
  have st : ∀ (n t : Nat), t < hN h → q t = n → ∀ k, n < k → belF h k t s = belF h (k + 1) t s := by
    intro n
    induction n using Nat.strongRecOn with
    | ind n ih =>
      intro t ht hq k hk
      obtain ⟨k, rfl⟩ : ∃ j, k = j + 1 := ⟨k - 1, by omega⟩
      unfold belF
      congr 1
      refine any_congr (fun m hm => ?_)
      have h1 := q2 t ht m hm
      exact ih (q m) (by omega) m (suc_lt hw ht hm) rfl k (by omega)
  have h12 := hw.1
  have := st (q t) t ht rfl 12 (by have := q1 t ht; omega)
  unfold bel
  rw [this]
  rfl
theorem bel_ind {h : HA} (hw : WF h) (P : Nat → Prop) (hP : ∀ t, t < hN h → (∀ s, s ∈ suc h t → P s) → P t) : ∀ t, t < hN h → P t := by
  obtain ⟨q, q1, q2, -⟩ := WF_rank hw
  have : ∀ (n t : Nat), t < hN h → q t = n → P t := by
    intro n
    induction n using Nat.strongRecOn with
    | ind n ih =>
      intro t ht hq
      exact hP t ht (fun s hs => ih (q s) (by have := q2 t ht s hs; omega) s (suc_lt hw ht hs) rfl)
  exact fun t ht => this (q t) t ht rfl
theorem bel_refl {h : HA} (t : Nat) : bel h t t = true := by simp [bel, belF]
theorem bel_step {h : HA} (hw : WF h) {t m s : Nat} (ht : t < hN h) (hm : m ∈ suc h t) (hs : bel h m s = true) : bel h t s = true := by
  rw [bel_fix hw ht]
  simp only [Bool.or_eq_true, List.any_eq_true]
  exact Or.inr ⟨m, hm, hs⟩
theorem bel_cases {h : HA} (hw : WF h) {t s : Nat} (ht : t < hN h) (hs : bel h t s = true) : t = s ∨ ∃ m, m ∈ suc h t ∧ bel h m s = true := by
  rw [bel_fix hw ht] at hs
  simp only [Bool.or_eq_true, List.any_eq_true, beq_iff_eq] at hs
  exact hs
theorem bel_lt {h : HA} (hw : WF h) {t s : Nat} (ht : t < hN h) (hs : bel h t s = true) : s < hN h := by
  revert hs
  refine bel_ind hw (fun t => bel h t s = true → s < hN h) (fun t ht ih hs => ?_) t ht
  rcases bel_cases hw ht hs with rfl | ⟨m, hm, h2⟩
  · exact ht
  · exact ih m hm h2
theorem bel_trans {h : HA} (hw : WF h) {a b c : Nat} (ha : a < hN h) (h1 : bel h a b = true) (h2 : bel h b c = true) : bel h a c = true := by
  revert h1
  refine bel_ind hw (fun a => bel h a b = true → bel h a c = true) (fun a ha ih h1 => ?_) a ha
  rcases bel_cases hw ha h1 with rfl | ⟨m, hm, h3⟩
  · exact h2
  · exact bel_step hw ha hm (ih m hm h3)
/-- a set that holds t and all that stands over what it holds, holds all that t is BELOW -/
theorem bel_closed {h : HA} (hw : WF h) {S : Nat → Prop} (hS : ∀ x, x < hN h → S x → ∀ s, s ∈ suc h x → S s) {t s : Nat} (ht : t < hN h) (h0 : S t) (hb : bel h t s = true) : S s := by
  revert h0 hb
  refine bel_ind hw (fun t => S t → bel h t s = true → S s) (fun t ht ih h0 hb => ?_) t ht
  rcases bel_cases hw ht hb with rfl | ⟨m, hm, h3⟩
  · exact h0
  · exact ih m hm (hS t ht h0 m hm) h3
/-! ===== the reference's ups ===== -/
def addQ (l : List Nat) (x : Nat) : List Nat := if x ∈ l then l else l ++ [x]
def QR (z : ST) (B : Int32) (l : List Nat) (n : Nat) : Prop := (∀ j, j < l.length → aI z 15 j = nI (l.getD j 0)) ∧ (∀ i, i < 32 → bt B i = decide (i ∈ l)) ∧ l.Nodup ∧ ∀ x, x ∈ l → x < n
theorem addQ_mem {l : List Nat} {x y : Nat} : y ∈ addQ l x ↔ y ∈ l ∨ y = x := by
  unfold addQ
  by_cases c : x ∈ l
  · rw [if_pos c]
    exact ⟨Or.inl, fun h => h.elim id (fun e => e ▸ c)⟩
  · rw [if_neg c]; simp
theorem foldQ_mem {y : Nat} : ∀ {xs l : List Nat}, y ∈ xs.foldl addQ l ↔ y ∈ l ∨ y ∈ xs
  | [], l => by simp
  | x :: xs, l => by rw [List.foldl_cons, foldQ_mem, addQ_mem]; simp [or_assoc]
theorem upd_rd {f : Nat → Int32} {k : Nat} {x : Int32} (j : Nat) : upd f k x j = if j = k then x else f j := rfl
theorem aI_vI (z : ST) (k : Nat) (f : Nat → Int32) : aI (vI z k f) k = f := by simp [aI, vI, mkS, va_up]
theorem vI_vI (z : ST) (k : Nat) (f g : Nat → Int32) : vI (vI z k f) k g = vI z k g := by
  simp only [vI, mkS, sI, sL, aI, aL, aR, pA, pK, pI, pV, ag]
  congr 1
  congr 1
  congr 1
  funext j
  simp only [va_up]
  split <;> rfl
theorem QR_add {z : ST} {B : Int32} {l : List Nat} {n s : Nat} (hq : QR z B l n) (hs : s < n) (hn : n ≤ 12) (hm : s ∉ l) : QR (vI z 15 (upd (aI z 15) l.length (nI s))) (B ||| ((1 : Int32) <<< (nI s &&& 31))) (l ++ [s]) n := by
  obtain ⟨q1, q2, q3, q4⟩ := hq
  refine ⟨fun j hj => ?_, fun i hi => ?_, ?_, ?_⟩
  · rw [aI_vI, upd_rd]
    rw [List.length_append, List.length_singleton] at hj
    by_cases c : j = l.length
    · subst c; simp
    · rw [if_neg c, q1 j (by omega)]
      simp only [List.getD_eq_getElem?_getD]
      rw [List.getElem?_append_left (by omega)]
  · rw [b_or, q2 i hi, b_bit (by omega) hi]
    simp
  · rw [List.nodup_append]
    exact ⟨q3, by simp, fun a ha b hb => by simp at hb; subst hb; exact fun e => hm (e ▸ ha)⟩
  · intro x hx
    rcases List.mem_append.mp hx with h1 | h1
    · exact q4 x h1
    · simp at h1; omega
