/-! ===== all simulations; the start ===== -/
theorem start_Rl (a : Nat) (f : Nat → Int32) (hf : ∀ j, j < 60 → f j = -2) : Rl (iniC a f) iniM := by
  refine ⟨fun _ => (0, 0, 0, 0, 0, 0, 0), 0, fun _ => (0, 0, 0, 0, 0, K0, 0), 0, ⟨Nat.zero_le _, fun k hk => absurd hk (Nat.not_lt_zero k), Nat.zero_le _, fun k hk => absurd hk (Nat.not_lt_zero k)⟩, ⟨rfl, rfl, ?_, ?_, fun k hk => absurd hk (Nat.not_lt_zero k), fun k hk => absurd hk (Nat.not_lt_zero k)⟩, ⟨rfl, rfl, ⟨?_, ?_⟩, fun k hk => absurd hk (Nat.not_lt_zero k), fun k hk => absurd hk (Nat.not_lt_zero k)⟩, rfl⟩
  · unfold isC
    rw [Bool.and_eq_true, decide_eq_true_eq]
    exact ⟨List.mem_singleton.mpr rfl, rfl⟩
  · refine HC_hE rfl rfl rfl (fun j hj => ?_)
    show va_up (fun _ _ => (0 : Int32)) 15 f 15 j = -2
    rw [va_up_self]; exact hf j hj
  · exact ⟨rfl, fun t ht => absurd ht (Nat.not_lt_zero t)⟩
  · exact RMm_row.mpr (fun m hm => rfl)
theorem sims_of (hfp : FPx) : ∃ Rl : ST → ST → Prop, Sims Rl ∧ ∀ (a : Nat) (f : Nat → Int32), (∀ j, j < 60 → f j = -2) → Rl (iniC a f) iniM :=
  ⟨Rl, ⟨s_type hfp, s_above hfp, s_face hfp, s_unface hfp, s_marks hfp, s_field hfp, s_method hfp, s_drop hfp, s_mark hfp, s_set hfp, s_retype hfp, s_move hfp, s_undo hfp, s_get hfp, s_call hfp, s_make hfp, s_meet hfp, s_asked, s_anew hfp, s_culprit hfp, s_caller, s_told, s_below, s_member, s_selected, s_count, s_digest hfp⟩, start_Rl⟩
