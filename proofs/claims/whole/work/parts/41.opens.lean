/-! opens -/
theorem rl_rd {μ ν μ' ν' : vM} (h : Rl μ ν) (hc : ∀ i, i ≠ 3 → i ≠ 4 → μ' i = μ i) (hr : ∀ j, j ≠ 0 → j ≠ 1 → ν' j = ν j) (h0 : ν' 0 3 = ν 0 3 ∧ ν' 0 21 = ν 0 21) (hk : kno ν') (hρ : ∀ i, i < 9 ∨ 19 ≤ i → ν' 1 i = ν 1 i) (r : rd 2 μ' (ν' 1)) (w : inw (ν' 1)) : Rl μ' ν' := by
  have h' := h
  obtain ⟨⟨w1, w2, w3, w4, w5, w6, w7⟩, a2, a3, a4, a5, a6, a7, a8⟩ := h
  obtain ⟨b1, b2, b3, b4, b5, b6, b7, b8, b9, b10⟩ := a2
  refine rl_now h' (fun j hj => hc j (by omega) (by omega)) (fun j hj => hr j (by omega) (by omega)) h0 hk ⟨hv_cg w1 (fun i hi => hc _ (by omega) (by omega)) ⟨hρ 0 (by omega), hρ 2 (by omega), fun i _ _ => hρ i (by omega), fun i _ _ => hρ i (by omega)⟩, r, lw_cg w3 (by rw [hc _ (by omega) (by omega)]) (hc _ (by omega) (by omega)) (fun i _ _ => hρ i (by omega)), lw_cg w4 (by rw [hc _ (by omega) (by omega)]) (hc _ (by omega) (by omega)) (fun i _ _ => hρ i (by omega)), ⟨by rw [hc 1 (by omega) (by omega), hρ 3 (by omega)]; exact w5.1, fun i hi => by rw [hc _ (by omega) (by omega), hρ _ (by omega)]; exact w5.2 i hi⟩, ⟨by rw [hc 1 (by omega) (by omega), hρ 4 (by omega)]; exact w6.1, fun i hi => by rw [hc _ (by omega) (by omega), hρ _ (by omega)]; exact w6.2 i hi⟩, by rw [hc 1 (by omega) (by omega), hρ 1 (by omega)]; exact w7⟩ ⟨by rw [hρ 2 (by omega)]; exact b1, by rw [hρ 0 (by omega)]; exact b2, inb_of fun b hb i hi => by rw [hρ _ (by omega)]; exact inb_to b3 hb hi, fun f hf => by rw [hρ _ (by omega)]; exact b4 f hf, w, by rw [hρ 3 (by omega)]; exact b6, by rw [hρ 4 (by omega)]; exact b7, fun i hi => by rw [hρ _ (by omega)]; exact b8 i hi, wf_cg b9 (fun i _ _ => hρ i (by omega)), wf_cg b10 (fun i _ _ => hρ i (by omega))⟩ ?_
  unfold nms at a8 ⊢
  rw [hc 12 (by decide) (by decide), hc 15 (by decide) (by decide)]; exact a8
theorem onW_id {ρ : Nat → Int32} {a b : Nat} (ha : a < 10) (hb : b < 10) (h1 : ed ρ a b) (h2 : ed ρ b a) : onW ρ a b = ρ := by
  funext i
  unfold onW
  split
  · rename_i e; subst e
    refine b_ext fun k hk => ?_
    rw [bt_set (by omega) hk]
    by_cases e : k = b
    · subst e; rw [ed_bt] at h1; simp [h1]
    · simp [e]
  · split
    · rename_i e; subst e
      refine b_ext fun k hk => ?_
      rw [bt_set (by omega) hk]
      by_cases e : k = a
      · subst e; rw [ed_bt] at h2; simp [h2]
      · simp [e]
    · rfl
theorem ofW_id {ρ : Nat → Int32} {a b : Nat} (ha : a < 10) (hb : b < 10) (h1 : ¬ ed ρ a b) (h2 : ¬ ed ρ b a) : ofW ρ a b = ρ := by
  funext i
  unfold ofW
  split
  · rename_i e; subst e
    refine b_ext fun k hk => ?_
    rw [bt_clr (by omega) hk]
    by_cases e : k = b
    · subst e; rw [ed_bt] at h1; simp [h1]
    · simp [e]
  · split
    · rename_i e; subst e
      refine b_ext fun k hk => ?_
      rw [bt_clr (by omega) hk]
      by_cases e : k = a
      · subst e; rw [ed_bt] at h2; simp [h2]
      · simp [e]
    · rfl
theorem sp_of7 {a b : Nat} (ha : a < 10) (hb : b < 10) (hab : a ≠ b) {v : Int32} {V : vM → Prop} {ν : vM} (h : ∀ ν' : vM, (ν' 1 = if v = 1 then onW (ν 1) a b else ofW (ν 1) a b) → (ν' 0 9 = 0) → (∀ k, k ≠ 9 → ν' 0 k = ν 0 k) → (∀ j, j ≠ 0 → j ≠ 1 → ν' j = ν j) → V ν') : wp_X7_opensFrom (nI a) (nI b) v (fun μ54 => wp_X7_opensFrom (nI b) (nI a) v V μ54) ν := by
  have ia : (9 : Int32) + nI a = nI (9 + a) := nI_add 9 a
  have ib : (9 : Int32) + nI b = nI (9 + b) := nI_add 9 b
  have wa : vp_in (nI (9 + a)) 385 := vp_in_nI (by omega) (by decide)
  have wb : vp_in (nI (9 + b)) 385 := vp_in_nI (by omega) (by decide)
  unfold wp_X7_opensFrom
  simp only [ia, ib, wa, wb, true_and, exists_eq_left, bz0, nI_clamp (show 9 + a < 2 ^ 31 by omega), nI_clamp (show 9 + b < 2 ^ 31 by omega)]
  by_cases hv : v = 1
  · simp only [if_pos hv] at h ⊢
    refine h _ ?_ ?_ ?_ ?_
    · funext i
      simp (disch := omega) only [st_ne]
      rw [st_eq]
      simp (disch := omega) only [st_ne]
      rw [st_eq]
      unfold onW upd
      split
      · rename_i e; subst e; rw [if_neg (by omega), if_neg (by omega)]
      · rfl
    · rw [st_eq, upd_eq]
    · intro k hk
      rw [st_eq, upd_ne hk]
      simp (disch := omega) only [st_ne]
      rw [st_eq, upd_ne hk]
      simp (disch := omega) only [st_ne]
    · intro j h1 h2; simp (disch := omega) only [st_ne]
  · simp only [if_neg hv] at h ⊢
    refine h _ ?_ ?_ ?_ ?_
    · funext i
      simp (disch := omega) only [st_ne]
      rw [st_eq]
      simp (disch := omega) only [st_ne]
      rw [st_eq]
      unfold ofW upd
      split
      · rename_i e; subst e; rw [if_neg (by omega), if_neg (by omega)]
      · rfl
    · rw [st_eq, upd_eq]
    · intro k hk
      rw [st_eq, upd_ne hk]
      simp (disch := omega) only [st_ne]
      rw [st_eq, upd_ne hk]
      simp (disch := omega) only [st_ne]
    · intro j h1 h2; simp (disch := omega) only [st_ne]
theorem sm_opens_ok : sm_opens Rl := by
  intro x y v μ ν h
  have r1 := rl_err (k := 1) (by decide) h
  unfold wp_X6_opens wp_X7_opens
  simp only [sp_isPlace6, sp_isPlace7, e6_1, e7_1, in7_1, exists_eq_left]
  by_cases c1 : rg x 10
  · by_cases c2 : rg y 10
    · obtain ⟨a, ha, rfl⟩ := rg_of c1
      obtain ⟨b, hb, rfl⟩ := rg_of c2
      simp only [if_pos c1, if_pos c2, if_neg (by decide : ¬ (1 : Int32) = 0)]
      by_cases c3 : a = b
      · subst c3; simp only [if_true, true_and]; exact r1
      · have c3' : ¬ nI a = nI b := fun e => c3 ((nI_eq (by omega) (by omega)).mp e)
        simp only [if_neg c3', sp_hi (n := 1) (k := 1) (by decide) rfl]
        by_cases c4 : rg v 2
        · simp only [if_pos c4, if_neg (by decide : ¬ (1 : Int32) = 0)]
          have ia : (9 : Int32) + nI a = nI (9 + a) := nI_add 9 a
          have wa : vp_in (nI (9 + a)) 385 := vp_in_nI (by omega) (by decide)
          have hr : rd 2 μ (ν 1) := h.1.2.1
          have hw : inw (ν 1) := h.2.1.2.2.2.2.1
          simp only [ia, wa, true_and, nI_clamp (show 9 + a < 2 ^ 31 by omega), sp_open ha hb, hr.1 a ha, bt_tst (x := ν 1 (9 + a)) (show b < 31 by omega)]
          have sy : ed (ν 1) b a ↔ ed (ν 1) a b := ⟨fun e => (hw b hb a e).2.2, fun e => (hw a ha b e).2.2⟩
          have v01 : v = 0 ∨ v = 1 := by
            obtain ⟨i, hi, rfl⟩ := rg_of c4
            have : i = 0 ∨ i = 1 := by omega
            rcases this with rfl | rfl
            · exact Or.inl rfl
            · exact Or.inr rfl
          -- the end, from the class's memory behind
          have fin : ∀ (r : Int32) (μ' : vM), (∀ i, i ≠ 3 → i ≠ 4 → μ' i = μ i) → rd 2 μ' (if v = 1 then onW (ν 1) a b else ofW (ν 1) a b) → wp_X7_opensFrom (nI a) (nI b) v (fun μ54 => wp_X7_opensFrom (nI b) (nI a) v (fun μ61 => r = r ∧ Rl μ' μ61) μ54) ν := by
            intro r μ' d1 d2
            refine sp_of7 ha hb c3 fun ν' e1 e2 e3 e4 => ⟨rfl, ?_⟩
            refine rl_rd h d1 e4 ⟨e3 _ (by decide), e3 _ (by decide)⟩ ⟨by rw [e2]; exact bz0, fun e => absurd (e2.symm.trans e) (by decide)⟩ (fun i hi => ?_) (by rw [e1]; exact d2) ?_
            · rw [e1]; split
              · unfold onW; rw [if_neg (by omega), if_neg (by omega)]
              · unfold ofW; rw [if_neg (by omega), if_neg (by omega)]
            · rw [e1]; split
              · exact inw_on ha hb c3 hw
              · exact inw_of ha hb c3 hw
          by_cases c5 : ed (ν 1) a b
          · have c5' : bt (ν 1 (9 + a)) b = true := c5
            simp only [if_pos c5', if_neg (by decide : ¬ (1 : Int32) = 0)]
            unfold wp_X6_opens_54 wp_X6_opens_74
            rcases v01 with rfl | rfl
            · rw [if_pos (by decide), if_neg (by decide)]
              refine sp_shut ha hb c3 hw hr fun μ' d1 d2 => ?_
              exact fin 1 μ' (fun i h1 h2 => d2 i h1 h2) (by rw [if_neg (by decide)]; exact d1)
            · rw [if_pos (by decide), if_pos (by decide)]
              exact fin 1 μ (fun _ _ _ => rfl) (by rw [if_pos rfl, onW_id ha hb c5 (sy.mpr c5)]; exact hr)
          · have c5' : ¬ bt (ν 1 (9 + a)) b = true := c5
            simp only [if_neg c5', if_true]
            unfold wp_X6_opens_54 wp_X6_opens_74
            rcases v01 with rfl | rfl
            · rw [if_pos (by decide), if_pos (by decide)]
              exact fin 0 μ (fun _ _ _ => rfl) (by rw [if_neg (by decide), ofW_id ha hb c5 (fun e => c5 (sy.mp e))]; exact hr)
            · rw [if_neg (by decide)]
              refine sp_join ha hb c3 hr fun μ' d1 d2 => ?_
              rw [if_pos (by decide)]
              exact fin 0 μ' (fun i h1 h2 => d2 i h1 h2) (by rw [if_pos rfl]; exact d1)
        · simp only [if_neg c4, if_true, true_and]; exact r1
    · simp only [if_pos c1, if_neg c2, if_neg (by decide : ¬ (1 : Int32) = 0), if_true, true_and]; exact r1
  · simp only [if_neg c1, if_true, true_and]; exact r1
