/-! feed, move -/
def byC (a : Int64) (i : Nat) : Int32 := (((a.toUInt64 >>> (((nI (8 * i)).toInt64.toUInt64 &&& Int64.toUInt64 63))).toInt64).toInt32) &&& (255 : Int32)
def byR (a : Int64) (i : Nat) : Int32 := ((a >>> ((nI (8 * i)).toInt64 &&& 63)) &&& (255 : Int64)).toInt32
theorem bt_32 (x : Int64) {j : Nat} (hj : j < 32) : bt x.toInt32 j = x.toBitVec.getLsbD j := by
  unfold bt
  show (x.toBitVec.signExtend 32).getLsbD j = _
  rw [BitVec.getLsbD_signExtend]
  simp [hj, show j < 64 by omega]
theorem b64_255 : ∀ j, j < 32 → (255 : Int64).toBitVec.getLsbD j = decide (j < 8) := by decide +kernel
theorem by_eq (a : Int64) {i : Nat} (hi : i < 8) : byR a i = byC a i := by
  refine b_ext fun j hj => ?_
  unfold byR byC
  rw [b_and, b_255, bt_32 _ hj, bt_32 _ hj, Int64.toBitVec_and, BitVec.getLsbD_and, b64_255 j hj]
  by_cases c : j < 8
  · rw [decide_eq_true c, Bool.and_true, Bool.and_true]
    have h1 : (a >>> ((nI (8 * i)).toInt64 &&& 63)).toBitVec.getLsbD j = a.toBitVec.getLsbD (8 * i + j) := by
      rw [wb_c _ (by omega), Int64.toBitVec_shiftRight]
      show (a.toBitVec.sshiftRight ((BitVec.ofNat 64 (8 * i)).smod 64).toNat).getLsbD j = _
      rw [wb_sm _ (by omega)]
      have : (BitVec.ofNat 64 (8 * i)).toNat = 8 * i := by rw [BitVec.toNat_ofNat]; exact Nat.mod_eq_of_lt (by omega)
      rw [this, BitVec.getLsbD_sshiftRight]
      simp [show j < 64 by omega, show 8 * i + j < 64 by omega]
    have h2 : ((a.toUInt64 >>> (((nI (8 * i)).toInt64.toUInt64 &&& Int64.toUInt64 63))).toInt64).toBitVec.getLsbD j = a.toBitVec.getLsbD (8 * i + j) := by
      rw [wb_cu _ (by omega)]
      show (a.toUInt64 >>> UInt64.ofNat (8 * i)).toBitVec.getLsbD j = _
      rw [UInt64.toBitVec_shiftRight]
      show (a.toBitVec >>> (BitVec.ofNat 64 (8 * i) % 64).toNat).getLsbD j = _
      have : (BitVec.ofNat 64 (8 * i) % 64).toNat = 8 * i := by
        rw [BitVec.toNat_umod, BitVec.toNat_ofNat]
        show 8 * i % 2 ^ 64 % 64 = _
        omega
      rw [this, BitVec.getLsbD_ushiftRight]
    rw [h1, h2]
  · rw [decide_eq_false c, Bool.and_false, Bool.and_false]
theorem by_lt (a : Int64) (i : Nat) : lt (byC a i) 256 := by
  unfold byC
  obtain ⟨n, hn, e⟩ := wb_of32 (((a.toUInt64 >>> (((nI (8 * i)).toInt64.toUInt64 &&& Int64.toUInt64 63))).toInt64).toInt32)
  rw [e]
  refine ⟨n % 256, Nat.mod_lt _ (by decide), ?_⟩
  have : nI n &&& nI 255 = nI (n &&& 255) := nx_and n 255
  have e2 : n &&& 255 = n % 256 := Nat.and_two_pow_sub_one_eq_mod n 8
  rw [e2] at this
  exact this
theorem rl_tape {μ ν μ' ν' : vM} (h : Rl μ ν) (hc : ∀ j, j ≠ 1 → j ≠ 18 → μ' j = μ j) (hr : ∀ j, j ≠ 1 → ν' j = ν j) (h1 : ∀ k, k ≠ 5 → μ' 1 k = μ 1 k) (hρ : ∀ i, i < 3 ∨ (4 ≤ i ∧ i < 59) ∨ 119 ≤ i → ν' 1 i = ν 1 i) (w : μ' 1 5 = ν' 1 3 ∧ ∀ i, i < 60 → μ' 18 i = ν' 1 (59 + i)) (w3 : lt (ν' 1 3) 61) (wb : ∀ i, i < 60 → lt (ν' 1 (59 + i)) 256) : Rl μ' ν' := by
  have h' := h
  obtain ⟨⟨w1, w2, w3', w4, w5, w6, w7⟩, a2, a3, a4, a5, a6, a7, a8⟩ := h
  obtain ⟨b1, b2, b3, b4, b5, b6, b7, b8, b9, b10⟩ := a2
  refine rl_now h' (fun j hj => hc j (by omega) (by omega)) (fun j hj => hr j (by omega)) (by rw [hr 0 (by decide)]; exact ⟨rfl, rfl⟩) (kno_cg a3 (by rw [hr 0 (by decide)]) (hr 8 (by decide)) (fun i _ _ => hρ i (by omega))) ⟨hv_cg w1 (fun i hi => hc _ (by omega) (by omega)) ⟨hρ 0 (by omega), hρ 2 (by omega), fun i _ _ => hρ i (by omega), fun i _ _ => hρ i (by omega)⟩, rd_cg w2 (hc _ (by decide) (by decide)) (hc _ (by decide) (by decide)) (fun i _ _ => hρ i (by omega)), lw_cg w3' (by rw [hc _ (by decide) (by decide)]) (hc _ (by decide) (by decide)) (fun i _ _ => hρ i (by omega)), lw_cg w4 (by rw [hc _ (by decide) (by decide)]) (hc _ (by decide) (by decide)) (fun i _ _ => hρ i (by omega)), w, ⟨by rw [h1 7 (by decide), hρ 4 (by omega)]; exact w6.1, fun i hi => by rw [hc _ (by decide) (by decide), hρ _ (by omega)]; exact w6.2 i hi⟩, by rw [h1 8 (by decide), hρ 1 (by omega)]; exact w7⟩ ⟨by rw [hρ 2 (by omega)]; exact b1, by rw [hρ 0 (by omega)]; exact b2, inb_of fun b hb i hi => by rw [hρ _ (by omega)]; exact inb_to b3 hb hi, fun f hf => by rw [hρ _ (by omega)]; exact b4 f hf, inw_cg b5 (fun i _ _ => hρ i (by omega)), w3, by rw [hρ 4 (by omega)]; exact b7, wb, wf_cg b9 (fun i _ _ => hρ i (by omega)), wf_cg b10 (fun i _ _ => hρ i (by omega))⟩ ?_
  unfold nms at a8 ⊢
  rw [hc 12 (by decide) (by decide), hc 15 (by decide) (by decide)]; exact a8
theorem sm_feed_ok : sm_feed Rl := by
  intro a x μ ν h
  have r1 := rl_err (k := 1) (by decide) h
  have r4 := rl_err (k := 4) (by decide) h
  obtain ⟨t, ht, et2⟩ := h.2.1.2.2.2.2.2.1
  have et1 : μ 1 5 = nI t := by rw [h.1.2.2.2.2.1.1]; exact et2
  unfold wp_X6_feed wp_X7_feed
  simp only [sp_1to (n := 8) (h := 8) (by decide) rfl, in7_1to (n := 8) (h := 8) (by decide) rfl, e6_1, e7_1, e6_4, e7_4]
  by_cases c1 : rg x 9 ∧ x ≠ 0
  · obtain ⟨n, hn, rfl⟩ := rg_of c1.1
    simp only [if_pos c1, if_neg (by decide : ¬ (1 : Int32) = 0), t3_, v3_, true_and, et1, et2, nI_add]
    by_cases c2 : nI (t + n) ≤ 60
    · simp only [if_pos c2]
      have tn : t + n ≤ 60 := (nI_leI (b := 60) (by omega) (by decide)).mp c2
      -- the reference
      have R : ∀ μ', (∀ j, j ≠ 1 → j ≠ 18 → μ' j = μ j) → (∀ k, k ≠ 5 → μ' 1 k = μ 1 k) → μ' 1 5 = nI (t + n) → (∀ q, q < t ∨ t + n ≤ q → μ' 18 q = μ 18 q) → (∀ q, q < n → μ' 18 (t + q) = byC a q) → wp_X7_feed_40 a (nI n) (fun r2 μ2 => nI (t + n) = r2 ∧ Rl μ' μ2) (n + 1) 0 ν := by
        intro μ' h1 h2 h3 h4 h5
        have lp : ∀ g i m, i + g = n → (∀ j, j ≠ 1 → m j = ν j) → m 1 3 = nI (t + i) → (∀ q, q ≠ 3 → (q < 59 + t ∨ 59 + t + i ≤ q) → m 1 q = ν 1 q) → (∀ q, q < i → m 1 (59 + (t + q)) = byC a q) → wp_X7_feed_40 a (nI n) (fun r2 μ2 => nI (t + n) = r2 ∧ Rl μ' μ2) (g + 1) (nI i) m := by
          intro g
          induction g with
          | zero =>
            intro i m hi m1 m2 m3 m4
            have : i = n := by omega
            subst this
            unfold wp_X7_feed_40
            rw [if_pos (nI_le (Nat.le_refl _) (by omega)), t3_, m2]
            refine ⟨v3_, rfl, rl_tape h h1 m1 h2 (fun i hi => m3 i (by omega) (by omega)) ⟨by rw [h3, m2], fun q hq => ?_⟩ (by rw [m2]; exact ⟨t + i, by omega, rfl⟩) (fun q hq => ?_)⟩
            · by_cases cq : q < t ∨ t + i ≤ q
              · rw [h4 q cq, m3 (59 + q) (by omega) (by omega)]; exact h.1.2.2.2.2.1.2 q hq
              · have e : q = t + (q - t) := by omega
                rw [e, h5 (q - t) (by omega), m4 (q - t) (by omega)]
            · by_cases cq : q < t ∨ t + i ≤ q
              · rw [m3 (59 + q) (by omega) (by omega)]; exact h.2.1.2.2.2.2.2.2.2.1 q hq
              · have e : q = t + (q - t) := by omega
                rw [e, m4 (q - t) (by omega)]; exact by_lt a _
          | succ g ih =>
            intro i m hi m1 m2 m3 m4
            have i59 : (59 : Int32) + nI (t + i) = nI (59 + (t + i)) := nI_add 59 _
            have i8 : (8 : Int32) * nI i = nI (8 * i) := nI_mul 8 i
            unfold wp_X7_feed_40
            rw [if_neg (nI_ge (by omega) (by omega)), t3_, m2, i59, nI_clamp (by omega), i8, nI_1]
            refine ⟨v3_, vp_in_nI (by omega) (by decide), _, rfl, v3_, v3_, _, rfl, _, rfl, ?_⟩
            have hb := by_eq a (i := i) (by omega)
            unfold byR at hb
            rw [hb]
            refine ih (i + 1) _ (by omega) (fun j hj => by rw [st_ne hj, st_ne hj]; exact m1 j hj) ?_ (fun q hq hq' => ?_) (fun q hq => ?_)
            · rw [st_eq, upd_eq, st_eq, upd_ne (by omega), m2, nI_1]; rfl
            · rw [st_eq, upd_ne hq, st_eq, upd_ne (by omega)]; exact m3 q hq (by omega)
            · rw [st_eq, upd_ne (by omega), st_eq]
              by_cases eq : q = i
              · subst eq; rw [upd_eq]
              · rw [upd_ne (by omega)]; exact m4 q (by omega)
        exact lp n 0 ν (by omega) (fun _ _ => rfl) et2 (fun _ _ _ => rfl) (fun q hq => absurd hq (by omega))
      have lp : ∀ g i m, i + g = n → (∀ j, j ≠ 18 → m j = μ j) → (∀ q, q < t ∨ t + i ≤ q → m 18 q = μ 18 q) → (∀ q, q < i → m 18 (t + q) = byC a q) → wp_X6_feed_40 a (nI n) (fun r μ1 => ∃ n40, wp_X7_feed_40 a (nI n) (fun r2 μ2 => r = r2 ∧ Rl μ1 μ2) n40 0 ν) (g + 1) (nI i) m := by
        intro g
        induction g with
        | zero =>
          intro i m hi m1 m2 m3
          have : i = n := by omega
          subst this
          unfold wp_X6_feed_40
          rw [if_pos (nI_le (Nat.le_refl _) (by omega)), m1 1 (by decide), et1, nI_add]
          refine ⟨_, rfl, i + 1, ?_⟩
          have := R (st m 1 5 (nI (t + i))) (fun j h1 h2 => by rw [st_ne h1]; exact m1 j h2) (fun k hk => by rw [st_eq, upd_ne hk, m1 1 (by decide)]) (by rw [st_eq, upd_eq]) (fun q hq => by rw [st_ne (by decide)]; exact m2 q hq) (fun q hq => by rw [st_ne (by decide)]; exact m3 q hq)
          rw [st_eq, upd_eq]
          exact this
        | succ g ih =>
          intro i m hi m1 m2 m3
          have i8 : (8 : Int32) * nI i = nI (8 * i) := nI_mul 8 i
          unfold wp_X6_feed_40
          rw [if_neg (nI_ge (by omega) (by omega)), m1 1 (by decide), et1, nI_add, nI_clamp (by omega), i8, nI_1]
          refine ⟨vp_in_nI (by omega) (by decide), _, rfl, _, rfl, ih (i + 1) _ (by omega) (fun j hj => by rw [st_ne hj]; exact m1 j hj) (fun q hq => ?_) (fun q hq => ?_)⟩
          · rw [st_eq, upd_ne (by omega)]; exact m2 q (by omega)
          · rw [st_eq]
            by_cases eq : q = i
            · subst eq; rw [upd_eq]; rfl
            · rw [upd_ne (by omega)]; exact m3 q (by omega)
      exact ⟨n + 1, lp n 0 μ (by omega) (fun _ _ => rfl) (fun _ _ => rfl) (fun q hq => absurd hq (by omega))⟩
    · simp only [if_neg c2, true_and]; exact r4
  · simp only [if_neg c1, if_true, true_and]; exact r1
