/-! tell, check, bit, sheet -/
theorem rl_wait {μ ν μ' ν' : vM} (h : Rl μ ν) (hc : ∀ j, j ≠ 1 → j ≠ 19 → μ' j = μ j) (hr : ∀ j, j ≠ 1 → ν' j = ν j) (h1 : ∀ k, k ≠ 7 → μ' 1 k = μ 1 k) (hρ : ∀ i, i < 4 ∨ (5 ≤ i ∧ i < 119) ∨ 143 ≤ i → ν' 1 i = ν 1 i) (w : μ' 1 7 = ν' 1 4 ∧ ∀ i, i < 24 → μ' 19 i = ν' 1 (119 + i)) (w4 : lt (ν' 1 4) 25) : Rl μ' ν' := by
  have h' := h
  obtain ⟨⟨w1, w2, w3, w4', w5, w6, w7⟩, a2, a3, a4, a5, a6, a7, a8⟩ := h
  refine rl_now h' (fun j hj => hc j (by omega) (by omega)) (fun j hj => hr j (by omega)) (by rw [hr 0 (by decide)]; exact ⟨rfl, rfl⟩) (kno_cg a3 (by rw [hr 0 (by decide)]) (hr 8 (by decide)) (fun i _ _ => hρ i (by omega))) ⟨hv_cg w1 (fun i hi => hc _ (by omega) (by omega)) ⟨hρ 0 (by omega), hρ 2 (by omega), fun i _ _ => hρ i (by omega), fun i _ _ => hρ i (by omega)⟩, rd_cg w2 (hc _ (by decide) (by decide)) (hc _ (by decide) (by decide)) (fun i _ _ => hρ i (by omega)), lw_cg w3 (by rw [hc _ (by decide) (by decide)]) (hc _ (by decide) (by decide)) (fun i _ _ => hρ i (by omega)), lw_cg w4' (by rw [hc _ (by decide) (by decide)]) (hc _ (by decide) (by decide)) (fun i _ _ => hρ i (by omega)), ⟨by rw [h1 5 (by decide), hρ 3 (by omega)]; exact w5.1, fun i hi => by rw [hc 18 (by decide) (by decide), hρ (59 + i) (by omega)]; exact w5.2 i hi⟩, w, by rw [h1 8 (by decide), hρ 1 (by omega)]; exact w7⟩ ?_ (by unfold nms; rw [hc 12 (by decide) (by decide), hc 15 (by decide) (by decide)]; exact a8)
  obtain ⟨b1, b2, b3, b4, b5, b6, b7, b8, b9, b10⟩ := a2
  exact ⟨by rw [hρ 2 (by omega)]; exact b1, by rw [hρ 0 (by omega)]; exact b2, inb_of fun b hb i hi => by rw [hρ _ (by omega)]; exact inb_to b3 hb hi, fun f hf => by rw [hρ _ (by omega)]; exact b4 f hf, inw_cg b5 (fun i _ _ => hρ i (by omega)), by rw [hρ 3 (by omega)]; exact b6, w4, fun i hi => by rw [hρ _ (by omega)]; exact b8 i hi, wf_cg b9 (fun i _ _ => hρ i (by omega)), wf_cg b10 (fun i _ _ => hρ i (by omega))⟩
theorem t4_ : (4 : Int32).toNatClampNeg = 4 := by decide
theorem v4_ : vp_in (4 : Int32) 385 := by unfold vp_in; decide
theorem t2_ : (2 : Int32).toNatClampNeg = 2 := by decide
theorem v2_ : vp_in (2 : Int32) 385 := by unfold vp_in; decide
theorem t0_ : (0 : Int32).toNatClampNeg = 0 := by decide
theorem v0_ : vp_in (0 : Int32) 385 := by unfold vp_in; decide
theorem t1_ : (1 : Int32).toNatClampNeg = 1 := by decide
theorem v1_ : vp_in (1 : Int32) 385 := by unfold vp_in; decide
theorem t3_ : (3 : Int32).toNatClampNeg = 3 := by decide
theorem v3_ : vp_in (3 : Int32) 385 := by unfold vp_in; decide
theorem sm_tell_ok : sm_tell Rl := by
  intro v μ ν h
  obtain ⟨n, hn, e2⟩ := h.2.1.2.2.2.2.2.2.1
  have e1 : μ 1 7 = nI n := h.1.2.2.2.2.2.1.1.trans e2
  have hw := h.1.2.2.2.2.2.1.2
  unfold wp_X6_tell wp_X7_tell
  simp only [e6_4, e7_4, t4_, v4_, true_and, exists_eq_left, e1, e2]
  have e24 : nI n = 24 ↔ n = 24 := nI_eq (b := 24) (by omega) (by decide)
  by_cases c : n = 24
  · subst c
    rw [if_neg (by decide), if_pos (show nI 24 = 24 from rfl)]
    exact rl_err (by decide) h
  · have l24 : nI n < (24 : Int32) := nI_lt (b := 24) (by omega) (by decide)
    have ix : (119 : Int32) + nI n = nI (119 + n) := nI_add 119 n
    have w : vp_in (nI (119 + n)) 385 := vp_in_nI (by omega) (by decide)
    have w24 : vp_in (nI n) 24 := vp_in_nI (by omega) (by decide)
    rw [if_pos l24]
    simp only [e24, c, if_false, ix, w, w24, true_and, nI_clamp (show n < 2 ^ 31 by omega), nI_clamp (show 119 + n < 2 ^ 31 by omega)]
    have r1 : ∀ k, st μ 19 n v 1 k = μ 1 k := fun k => by rw [st_ne (by decide)]
    have r2 : st ν 1 (119 + n) v 1 4 = nI n := by rw [st_eq, upd_ne (by omega)]; exact e2
    rw [r1, r2, e1]
    rw [st_eq, st_eq, upd_eq, upd_eq, nI_1]
    refine ⟨rfl, rl_wait h ?_ ?_ ?_ ?_ ⟨?_, ?_⟩ ?_⟩
    · intro j h1 h2; rw [st_ne h1, st_ne h2]
    · intro j h1; rw [st_ne h1, st_ne h1]
    · intro k hk; rw [st_eq, upd_ne hk, st_ne (by decide)]
    · intro i hi; rw [st_eq, upd_ne (by omega), st_eq, upd_ne (by omega)]
    · rw [st_eq, upd_eq, st_eq, upd_eq]
    · intro i hi
      rw [st_ne (by decide), st_eq, st_eq, st_eq, upd_ne (show 119 + i ≠ 4 by omega)]
      by_cases e : i = n
      · subst e; rw [upd_eq, upd_eq]
      · rw [upd_ne e, upd_ne (by omega)]; exact hw i hi
    · rw [st_eq, upd_eq]; exact ⟨n + 1, by omega, rfl⟩
def ckF (ρ : Nat → Int32) (n : Nat) : Nat → Nat → Int32
  | 0, _ => 0
  | g + 1, i => if i < n ∧ ρ (22 + 5 * i) = ρ (119 + i) then ckF ρ n g (i + 1) else nI (1 + i)
theorem ck_C {μ : vM} {ρ : Nat → Int32} {n m : Nat} {Q : Int32 → vM → Prop} (hn : n < 9) (e1 : μ 5 0 = nI n) (hm : m < 25) (ha : ∀ b, b < 8 → μ 9 b = ρ (22 + 5 * b)) (hw : ∀ i, i < 24 → μ 19 i = ρ (119 + i)) : ∀ (g i : Nat), i + g = m → Q (ckF ρ n g i) μ → wp_X6_check_18 Q (g + 1) (nI m) (nI i) μ := by
  intro g
  induction g with
  | zero =>
    intro i hi hQ
    unfold wp_X6_check_18
    rw [if_pos (nI_le (by omega) (by omega))]; exact hQ
  | succ g ih =>
    intro i hi hQ
    have e1i : (1 : Int32) + nI i = nI (1 + i) := nI_add 1 i
    unfold wp_X6_check_18
    rw [if_neg (nI_ge (by omega) (by omega)), sp_isBit6 hn e1]
    unfold ckF at hQ
    by_cases c : rg (nI i) n
    · have hi8 : i < n := by
        have := c.2; rw [nI_toInt (by omega)] at this; omega
      rw [if_pos c, if_neg (by decide), nI_clamp (by omega), ha i (by omega), hw i (by omega)]
      refine ⟨vp_in_nI (by omega) (by decide), vp_in_nI (by omega) (by decide), ?_⟩
      by_cases d : ρ (22 + 5 * i) = ρ (119 + i)
      · rw [if_pos d]
        rw [if_pos ⟨hi8, d⟩] at hQ
        exact ⟨_, rfl, by rw [nI_1]; exact ih (i + 1) (by omega) hQ⟩
      · rw [if_neg d, e1i]
        rw [if_neg (fun z => d z.2)] at hQ
        exact hQ
    · rw [if_neg c, if_pos rfl, e1i]
      rw [if_neg (fun z => c (rg_nI z.1 (by omega)))] at hQ
      exact hQ
theorem ck_R {ν : vM} {n m : Nat} {Q : Int32 → vM → Prop} (hn : n < 9) (e1 : ν 1 2 = nI n) (hm : m < 25) : ∀ (g i : Nat), i + g = m → Q (ckF (ν 1) n g i) ν → wp_X7_check_16 Q (g + 1) (nI m) (nI i) ν := by
  intro g
  induction g with
  | zero =>
    intro i hi hQ
    unfold wp_X7_check_16
    rw [if_pos (nI_le (by omega) (by omega))]; exact hQ
  | succ g ih =>
    intro i hi hQ
    have e1i : (1 : Int32) + nI i = nI (1 + i) := nI_add 1 i
    have e119 : (119 : Int32) + nI i = nI (119 + i) := nI_add 119 i
    unfold wp_X7_check_16
    rw [if_neg (nI_ge (by omega) (by omega)), sp_isBit7 hn e1]
    unfold ckF at hQ
    by_cases c : rg (nI i) n
    · have hi8 : i < n := by
        have := c.2; rw [nI_toInt (by omega)] at this; omega
      rw [if_pos c, if_neg (by decide), e119]
      refine ⟨vp_in_nI (by omega) (by decide), ?_⟩
      rw [sp_of3 (by omega), nI_clamp (by omega)]
      by_cases d : ν 1 (22 + 5 * i) = ν 1 (119 + i)
      · rw [if_pos d.symm]
        rw [if_pos ⟨hi8, d⟩] at hQ
        exact ⟨_, rfl, by rw [nI_1]; exact ih (i + 1) (by omega) hQ⟩
      · rw [if_neg (fun z => d z.symm), e1i]
        rw [if_neg (fun z => d z.2)] at hQ
        exact hQ
    · rw [if_neg c, if_pos rfl, e1i]
      rw [if_neg (fun z => c (rg_nI z.1 (by omega)))] at hQ
      exact hQ
theorem ckF_cg {ρ ρ' : Nat → Int32} (h : ∀ i, 19 ≤ i → ρ' i = ρ i) {n : Nat} : ∀ g i, ckF ρ' n g i = ckF ρ n g i
  | 0, _ => rfl
  | g + 1, i => by unfold ckF; rw [h _ (by omega), h _ (by omega), ckF_cg h g (i + 1)]
theorem sm_check_ok : sm_check Rl := by
  intro μ ν h
  obtain ⟨n, hn, e1, e2⟩ := rl_size h
  obtain ⟨m, hm, em⟩ := h.2.1.2.2.2.2.2.2.1
  have em1 : μ 1 7 = nI m := h.1.2.2.2.2.2.1.1.trans em
  have hw := h.1.2.2.2.2.2.1.2
  unfold wp_X6_check wp_X7_check
  simp only [t4_, v4_, true_and, exists_eq_left, em1, em]
  have h0 : ∀ b, b < 8 → st μ 1 7 0 9 b = ν 1 (22 + 5 * b) := fun b hb => by rw [st_ne (by decide)]; exact (h.1.1.2.2.1 b hb).2.2.2.1
  have h1 : ∀ i, i < 24 → st μ 1 7 0 19 i = ν 1 (119 + i) := fun i hi => by rw [st_ne (by decide)]; exact hw i hi
  refine ⟨m + 1, ck_C (ρ := ν 1) hn (by rw [st_ne (by decide)]; exact e1) hm h0 h1 m 0 (by omega) ?_⟩
  refine ⟨m + 1, ck_R hn (by rw [st_eq, upd_ne (by decide)]; exact e2) hm m 0 (by omega) ?_⟩
  refine ⟨(ckF_cg (fun i hi => by rw [st_eq, upd_ne (by omega)]) m 0).symm, ?_⟩
  refine rl_wait h (fun j h1 h2 => st_ne h1) (fun j h1 => st_ne h1) (fun k hk => by rw [st_eq, upd_ne hk]) (fun i hi => by rw [st_eq, upd_ne (by omega)]) ⟨by rw [st_eq, upd_eq, st_eq, upd_eq], fun i hi => by rw [st_ne (by decide), st_eq, upd_ne (by omega)]; exact hw i hi⟩ (by rw [st_eq, upd_eq]; exact ⟨0, by decide, rfl⟩)
theorem st_comm {μ : vM} {j k k' : Nat} {v v' : Int32} (hk : k' ≠ k) : st (st μ j k v) j k' v' = st (st μ j k' v') j k v := by
  funext i
  by_cases h : i = j
  · subst h
    rw [st_eq, st_eq, st_eq, st_eq]
    funext q
    by_cases h1 : q = k
    · subst h1; rw [upd_ne hk.symm, upd_eq, upd_eq]
    · by_cases h2 : q = k'
      · subst h2; rw [upd_eq, upd_ne h1, upd_eq]
      · rw [upd_ne h2, upd_ne h1, upd_ne h1, upd_ne h2]
  · rw [st_ne h, st_ne h, st_ne h, st_ne h]
theorem rl_sz {μ ν : vM} {n : Nat} (hn : n < 9) (h : Rl μ ν) : Rl (st μ 5 0 (nI n)) (st ν 1 2 (nI n)) := by
  refine rl_hv h (fun j hj => st_ne (by omega)) (fun j hj => st_ne hj) ?_ ?_ ?_ ?_ ?_ ?_
  · rw [st_eq]
    refine hv_of ?_ ?_ ?_ ?_
    · rw [st_eq, upd_eq, upd_eq]
    · rw [st_eq, upd_ne (by decide), upd_ne (by decide)]; exact h.1.1.2.1
    · intro b hb i hi; rw [st_ne (by omega), upd_ne (by omega)]; exact hv_to h.1.1 hb hi
    · intro g hg; rw [st_ne (by omega), upd_ne (by omega)]; exact h.1.1.2.2.2 g hg
  · rw [st_eq, upd_eq]; exact ⟨n, hn, rfl⟩
  · rw [st_eq, upd_ne (by decide)]; exact h.2.1.2.1
  · rw [st_eq]; refine inb_of fun b hb i hi => ?_; rw [upd_ne (by omega)]; exact inb_to h.2.1.2.2.1 hb hi
  · rw [st_eq]; intro g hg; rw [upd_ne (by omega)]; exact h.2.1.2.2.2.1 g hg
  · intro i hi; rw [st_eq, upd_ne (by omega)]
theorem sm_bit_ok : sm_bit Rl := by
  intro x f p μ ν h
  obtain ⟨n, hn, e1, e2⟩ := rl_size h
  unfold wp_X6_bit wp_X7_bit
  simp only [e6_1, e7_1, e6_4, e7_4, sp_isPlace6, sp_isPlace7, sp_isField6, sp_isField7, sp_isKm6, sp_isKm7, t2_, v2_, true_and, exists_eq_left, e2]
  have r1 := rl_err (k := 1) (by decide) h
  by_cases c1 : rg x 70
  · by_cases c2 : rg f 4
    · by_cases c3 : rg p 10
      · simp only [if_pos c1, if_pos c2, if_pos c3, if_neg (by decide : ¬ (1 : Int32) = 0), e1]
        have e8 : nI n = 8 ↔ n = 8 := nI_eq (b := 8) (by omega) (by decide)
        have l8 : nI n < 8 ↔ n < 8 := nI_ltI (b := 8) (by omega) (by decide)
        by_cases c8 : n = 8
        · simp only [l8, e8, c8, Nat.lt_irrefl, if_false, if_true, true_and]
          exact rl_err (by decide) h
        · have n8 : n < 8 := by omega
          obtain ⟨i, hi, rfl⟩ := rg_of c1
          obtain ⟨g, hg, rfl⟩ := rg_of c2
          obtain ⟨q, hq, rfl⟩ := rg_of c3
          obtain ⟨q1, q2⟩ := nI_div10 i hi
          have w : vp_in (nI n) 8 := vp_in_nI n8 (by decide)
          simp only [l8, e8, c8, n8, if_true, if_false, wp_X0_grow, w, true_and, exists_eq_left, e1, q1, q2, nI_clamp (show n < 2 ^ 31 by omega), sp_lets0 n8, sp_lets1 n8, sp_lets2 n8, sp_lets3 n8, sp_lets4 n8, Nat.reduceAdd]
          have R := rl_slot (o := 4) (b := n) (v := 0) (by decide) n8 ⟨0, by decide, rfl⟩ (rl_slot (o := 3) (b := n) (v := nI q) (by decide) n8 ⟨q, hq, rfl⟩ (rl_slot (o := 2) (b := n) (v := nI g) (by decide) n8 ⟨g, hg, rfl⟩ (rl_slot (o := 1) (b := n) (v := nI (i % 10)) (by decide) n8 ⟨i % 10, by show i % 10 < 10; omega, rfl⟩ (rl_slot (o := 0) (b := n) (v := nI (i / 10)) (by decide) n8 ⟨i / 10, by show i / 10 < 7; omega, rfl⟩ h))))
          have R2 := rl_sz (n := n + 1) (by omega) R
          have m : ∀ (X : vM) (k : Nat) (v : Int32), k ≠ 2 → st (st X 1 2 (nI n + 1)) 1 k v = st (st X 1 k v) 1 2 (nI n + 1) := fun X k v hk => st_comm hk
          rw [m _ _ _ (by omega), m _ _ _ (by omega), m _ _ _ (by omega), m _ _ _ (by omega), m _ _ _ (by omega), st_ne (show 5 ≠ 10 by decide), st_ne (show 5 ≠ 9 by decide), st_ne (show 5 ≠ 8 by decide), st_ne (show 5 ≠ 7 by decide), st_ne (show 5 ≠ 6 by decide), e1, nI_1]
          exact R2
      · simp only [if_pos c1, if_pos c2, if_neg c3, if_neg (by decide : ¬ (1 : Int32) = 0), if_true, true_and]; exact r1
    · simp only [if_pos c1, if_neg c2, if_neg (by decide : ¬ (1 : Int32) = 0), if_true, true_and]; exact r1
  · simp only [if_neg c1, if_true, true_and]; exact r1
