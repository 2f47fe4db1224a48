/-! the two fresh objects -/
theorem r0_e (k : Nat) : m0_X7 1 k = if k = 8 then 3 else if k = 7 then 2 else if k = 6 then 1 else if k = 5 then 0 else if k = 1 then 1 else 0 := by
  show upd (upd (upd (upd (upd (fun _ => 0) 1 1) 5 0) 6 1) 7 2) 8 3 k = _
  unfold upd
  rfl
theorem r0_z {k : Nat} (h : k < 1 ∨ (1 < k ∧ k < 6) ∨ 8 < k) : m0_X7 1 k = 0 := by
  rw [r0_e]
  repeat' split
  all_goals first | rfl | (exfalso; omega)
theorem r0_f {f : Nat} (hf : f < 4) : m0_X7 1 (5 + f) = nI f := by
  have : f = 0 ∨ f = 1 ∨ f = 2 ∨ f = 3 := by omega
  rw [r0_e]
  rcases this with rfl | rfl | rfl | rfl <;> rfl
theorem r0_inw : inw (m0_X7 1) := by
  intro p hp q h
  unfold ed at h
  rw [r0_z (by omega)] at h
  exact absurd h (by simp)
theorem r0_inv : inv (m0_X7 1) := by
  refine ⟨?_, ?_, fun b hb => ?_, fun f hf => ?_, r0_inw, ?_, ?_, fun i hi => ?_, wf_zero (r0_z (by omega)), wf_zero (r0_z (by omega))⟩
  · rw [r0_z (by omega)]; exact ⟨0, by decide, rfl⟩
  · rw [r0_z (by omega)]; exact ⟨0, by decide, rfl⟩
  · rw [r0_z (by omega), r0_z (by omega), r0_z (by omega), r0_z (by omega), r0_z (by omega)]
    exact ⟨⟨0, by decide, rfl⟩, ⟨0, by decide, rfl⟩, ⟨0, by decide, rfl⟩, ⟨0, by decide, rfl⟩, ⟨0, by decide, rfl⟩⟩
  · rw [r0_f hf]; exact ⟨f, by omega, rfl⟩
  · rw [r0_z (by omega)]; exact ⟨0, by decide, rfl⟩
  · rw [r0_z (by omega)]; exact ⟨0, by decide, rfl⟩
  · rw [r0_z (by omega)]; exact ⟨0, by decide, rfl⟩
theorem r0_wld {ν1 ν2 ν3 : vM} (h1 : ν1 1 = m0_X3 1) (h2 : ∀ p, p < 10 → ∀ q, q < 10 → isD (m0_X7 1) p q (ν1 2 (10 * p + q))) : wld 1 (m0_X6 (m0_X5 ν1) ν2 ν3) (m0_X7 1) := by
  refine ⟨⟨?_, ?_, fun b hb => ?_, fun f hf => ?_⟩, ⟨fun p hp => ?_, fun p hp q hq => ?_⟩, lw_zero ?_ (r0_z (by omega)), lw_zero ?_ (r0_z (by omega)), ⟨?_, fun i hi => ?_⟩, ⟨?_, fun i hi => ?_⟩, ?_⟩
  · rw [r0_z (by omega)]; rfl
  · rw [r0_z (by omega)]; rfl
  · rw [r0_z (by omega), r0_z (by omega), r0_z (by omega), r0_z (by omega), r0_z (by omega)]
    exact ⟨rfl, rfl, rfl, rfl, rfl⟩
  · rw [r0_f hf]
    have : f = 0 ∨ f = 1 ∨ f = 2 ∨ f = 3 := by omega
    rcases this with rfl | rfl | rfl | rfl <;> rfl
  · show ν1 1 p = _
    rw [h1, r0_z (by omega)]; rfl
  · exact h2 p hp q hq
  · rfl
  · rfl
  · rw [r0_z (by omega)]; rfl
  · rw [r0_z (by omega)]; rfl
  · rw [r0_z (by omega)]; rfl
  · rw [r0_z (by omega)]; rfl
  · rw [r0_e]; rfl
theorem rl_first {ν1 ν2 ν3 : vM} (h1 : ν1 1 = m0_X3 1) (h2 : ∀ p, p < 10 → ∀ q, q < 10 → isD (m0_X7 1) p q (ν1 2 (10 * p + q))) : Rl (m0_X6 (m0_X5 ν1) ν2 ν3) m0_X7 := by
  refine ⟨r0_wld h1 h2, r0_inv, ⟨Or.inl rfl, fun h => absurd (show (0 : Int32) = 1 from h) (by decide)⟩, ⟨rfl, Or.inl rfl⟩, ⟨fun s hs => ⟨?_, ?_, Or.inl rfl, ⟨0, by decide, rfl⟩⟩, fun i hi => rfl⟩, ⟨rfl, ⟨0, by decide, rfl⟩, fun i hi => rfl⟩, fun k hk => rfl, ⟨rfl, rfl, rfl, rfl⟩⟩
  · rfl
  · rfl
theorem rl_start : wp_X3_measure 0 (fun ν1 => wp_X3_measure 0 (fun ν2 => wp_X3_measure 0 (fun ν3 => Rl (m0_X6 (m0_X5 ν1) (m0_X5 ν2) ν3) m0_X7) m0_X3) m0_X3) m0_X3 := by
  have hr : ∀ p, p < 10 → m0_X3 (0 + 1) p = m0_X7 1 (9 + p) := fun p hp => by rw [r0_z (by omega)]; rfl
  refine sp_measure r0_inw hr fun ν1 d1 d2 => ?_
  refine sp_measure r0_inw hr fun ν2 _ _ => ?_
  refine sp_measure r0_inw hr fun ν3 _ _ => ?_
  exact rl_first (d2 1 (by decide)) d1
theorem sm_all : sm Rl := ⟨sm_opens_ok, sm_field_ok, sm_far_ok, sm_bit_ok, sm_bitIs_ok, sm_become_ok, sm_as_ok, sm_hears_ok, sm_lay_ok, sm_feed_ok, sm_text_ok, sm_untell_ok, sm_law_ok, sm_days_ok, sm_loose_ok, sm_day_ok, sm_seed_ok, sm_then_ok, sm_soonest_ok, sm_gets_ok, sm_carry_ok, sm_way_ok, sm_odds_ok, sm_whose_ok, sm_voice_ok, sm_body_ok, sm_sheet_ok, sm_put_ok, sm_move_ok, sm_lays_ok, sm_judge_ok, sm_image_ok, sm_restore_ok, sm_tell_ok, sm_check_ok, sm_count_ok, sm_told_ok⟩
