/-! whose -/
/-- a bit warms as a sheet tells -/
def wsF (ρ : Nat → Int32) (b : Nat) (cv : Nat → Int32) (z : Nat) : Prop := ∀ k, k < z → cv k = vF (it k ρ) b
noncomputable def wsB (ρ : Nat → Int32) (b : Nat) (cv : Nat → Int32) (z : Nat) : Int32 := by
  classical
  exact if wsF ρ b cv z then 1 else 0
theorem wsB_1 {ρ : Nat → Int32} {b z : Nat} {cv : Nat → Int32} (h : wsF ρ b cv z) : wsB ρ b cv z = 1 := by unfold wsB; rw [if_pos h]
theorem wsB_0 {ρ : Nat → Int32} {b z : Nat} {cv : Nat → Int32} (h : ¬ wsF ρ b cv z) : wsB ρ b cv z = 0 := by unfold wsB; rw [if_neg h]
theorem sc_day {μ m m' : vM} (s : sc μ m) (d : ∀ i, i ≠ 39 → i ≠ 39 + 4 → i ≠ 49 → i ≠ 14 → m' i = m i) : sc μ m' := sc_tr s (fun j h1 h2 h3 => d j (by omega) (by omega) (by omega) h1)
theorem Tc_it {m m' : vM} {ρ : Nat → Int32} {i : Nat} {r : Nat} (hr : r = 2 ∨ r = 46) (tm : Tc 39 r m (it i ρ)) (d1 : hv 39 m' (goF (it i ρ))) (d2 : ∀ i, i ≠ 39 → i ≠ 39 + 4 → i ≠ 49 → i ≠ 14 → m' i = m i) : Tc 39 r m' (it (i + 1) ρ) := by
  rw [it_succ]
  exact Tc_sm tm (ok_go tm.1) d1 (sm0_go tm.1) ⟨d2 _ (by omega) (by omega) (by omega) (by omega), d2 _ (by omega) (by omega) (by omega) (by omega)⟩ ⟨d2 _ (by omega) (by omega) (by omega) (by omega), d2 _ (by omega) (by omega) (by omega) (by omega), d2 _ (by omega) (by omega) (by omega) (by omega), d2 _ (by omega) (by omega) (by omega) (by omega)⟩
theorem Tc_39 {μ m : vM} {ρ : Nat → Int32} (t : Tc 5 2 μ ρ) (a1 : ∀ ρ, hv 5 μ ρ → hv 39 m ρ) (a2 : ∀ i, i < 39 ∨ 39 + 7 ≤ i → m i = μ i) : Tc 39 2 m ρ :=
  ⟨t.1, a1 _ t.2.1, rd_cg t.2.2.1 (a2 _ (by omega)) (a2 _ (by omega)) (fun _ _ _ => rfl), lw_cg t.2.2.2.1 (by rw [a2 _ (by omega)]) (a2 _ (by omega)) (fun _ _ _ => rfl), lw_cg t.2.2.2.2.1 (by rw [a2 _ (by omega)]) (a2 _ (by omega)) (fun _ _ _ => rfl), by have := t.2.2.2.2.2; unfold nms at this ⊢; rw [a2 12 (by omega), a2 15 (by omega)]; exact this⟩
theorem ws_C {s z b n : Nat} {f : Int32} (hs : s < 4) (hz : z < 25) (hb : b < 8) (hn : n < 9) {μ : vM} {ρ : Nat → Int32} {cv : Nat → Int32} (o : ok ρ) (e : ρ 2 = nI n) (e2 : μ 55 s = nI z) (ec : ∀ i, i < 24 → μ 56 (24 * s + i) = cv i) {Q : Int32 → vM → Prop} (hQ : ∀ m, sc μ m → Q (wsB ρ b cv z) m) : ∀ g i m, i + g = z → (∀ k, k < i → cv k = vF (it k ρ) b) → Tc 39 2 m (it i ρ) → sc μ m → wp_X6_wouldWarmSo_27 (nI s) (nI b) f Q (g + 1) (nI i) m := by
  intro g
  induction g with
  | zero =>
    intro i m hi hk tm sm
    have : i = z := by omega
    subst this
    unfold wp_X6_wouldWarmSo_27
    rw [nI_clamp (by omega), sm 55 (by omega) (by omega) (by omega), e2, if_pos (nI_le (Nat.le_refl _) (by omega))]
    refine ⟨vp_in_nI hs (by decide), ?_⟩
    have := hQ m sm
    rw [wsB_1 hk] at this
    exact this
  | succ g ih =>
    intro i m hi hk tm sm
    unfold wp_X6_wouldWarmSo_27 wp_X4_number
    rw [nI_clamp (by omega), sm 55 (by omega) (by omega) (by omega), e2, if_neg (nI_ge (by omega) (by omega)), (ix_sh s i).2, nI_clamp (by omega), sm 56 (by omega) (by omega) (by omega), ec i (by omega)]
    refine ⟨vp_in_nI hs (by decide), vp_in_nI (by omega) (by decide), sp_warC tm hb ?_⟩
    by_cases c : cv i = vF (it i ρ) b
    · rw [if_pos c]
      refine sp_dayC ⟨Or.inr rfl, Or.inl rfl⟩ tm hn (by rw [it_sm i o 2 (by omega)]; exact e) fun y m' y1 y2 d1 d2 => ⟨_, rfl, ?_⟩
      rw [nI_1]
      refine ih (i + 1) m' (by omega) (fun k hk' => ?_) (Tc_it (Or.inl rfl) tm d1 d2) (sc_day sm d2)
      by_cases ek : k = i
      · subst ek; exact c
      · exact hk k (by omega)
    · rw [if_neg c]
      have := hQ m sm
      rw [wsB_0 (fun z' => c (z' i (by omega)))] at this
      exact this
theorem sp_wsC {s z b n f : Nat} (hs : s < 4) (hz : z < 25) (hb : b < 8) (hf : f < 4) {μ m : vM} {ρ : Nat → Int32} {cv : Nat → Int32} (hn : n < 9) (t : Tc 5 2 μ ρ) (sm : sc μ m) (tm : Tc 5 2 m ρ) (e : ρ 2 = nI n) (e2 : μ 55 s = nI z) (ec : ∀ i, i < 24 → μ 56 (24 * s + i) = cv i) {Q : Int32 → vM → Prop} (hQ : ∀ m, sc μ m → Tc 5 2 m ρ → Q (wsB (upd ρ (21 + 5 * b) (nI f)) b cv z) m) : wp_X6_wouldWarmSo (nI s) (nI b) (nI f) Q m := by
  unfold wp_X6_wouldWarmSo
  refine sp_copy0 (by omega) fun m1 a1 a2 => ⟨vp_in_nI hb (by decide), _, rfl, ?_⟩
  have t1 := Tc_39 tm a1 a2
  rw [nI_clamp (by omega)]
  have o' : ok (upd ρ (21 + 5 * b) (nI f)) := ok_cg t.1 (inb_slot (o := 2) (by decide) ⟨f, hf, rfl⟩ t.1.2.1) (fun i hi => upd_ne (by omega))
  have v' : hv 39 (st m1 42 b (nI f)) (upd ρ (21 + 5 * b) (nI f)) := hv_slot (h := 39) (o := 2) (by decide) hb t1.2.1
  have t2 : Tc 39 2 (st m1 42 b (nI f)) (upd ρ (21 + 5 * b) (nI f)) := Tc_2 t1 o' v' (fun i hi => upd_ne (by omega)) ⟨st_ne (by decide), st_ne (by decide)⟩ ⟨st_ne (by decide), st_ne (by decide), st_ne (by decide), st_ne (by decide)⟩
  have s2 : sc μ (st m1 42 b (nI f)) := fun i h1 h2 h3 => by rw [st_ne (by omega), a2 i (by omega)]; exact sm i h1 h2 h3
  refine ⟨z + 1, ws_C hs hz hb hn o' (by rw [upd_ne (by omega)]; exact e) e2 ec (fun m' s' => hQ m' s' ?_) z 0 _ (by omega) (fun k hk => absurd hk (by omega)) t2 s2⟩
  exact Tc_2 t t.1 (hv_cg t.2.1 (fun i hi => s' _ (by omega) (by omega) (by omega)) ⟨rfl, rfl, fun _ _ _ => rfl, fun _ _ _ => rfl⟩) (fun _ _ => rfl) ⟨s' _ (by omega) (by omega) (by omega), s' _ (by omega) (by omega) (by omega)⟩ ⟨s' _ (by omega) (by omega) (by omega), s' _ (by omega) (by omega) (by omega), s' _ (by omega) (by omega) (by omega), s' _ (by omega) (by omega) (by omega)⟩
theorem sp_wsR {s z b : Nat} (hs : s < 4) (hz : z < 25) (hb : b < 8) {ν : vM} {cv : Nat → Int32} (t : Tr ν) (e2 : ν 6 s = nI z) (ec : ∀ i, i < 24 → ν 7 (24 * s + i) = cv i) {Q : Int32 → vM → Prop} (hQ : ∀ k m, gs ν m → m 1 = it k (ν 1) → Q (wsB (ν 1) b cv z) m) : wp_X7_isSo (nI s) (nI b) Q ν := by
  have lp : ∀ g i m x, i + g = z → m 1 = it i (ν 1) → gs ν m → (x = 1 ∧ (∀ k, k < i → cv k = vF (it k (ν 1)) b) ∨ x = 0 ∧ ¬ wsF (ν 1) b cv z) → wp_X7_isSo_5 (nI s) (nI b) Q (g + 1) x (nI i) m := by
    intro g
    induction g with
    | zero =>
      intro i m x hi m1 hg hx
      have : i = z := by omega
      subst this
      unfold wp_X7_isSo_5
      rw [nI_clamp (by omega), hg.1 6 (by decide) (by decide) (by decide) (by decide) (by decide) (by decide), e2, if_pos (nI_le (Nat.le_refl _) (by omega))]
      refine ⟨vp_in_nI hs (by decide), ?_⟩
      have := hQ i m hg m1
      rcases hx with ⟨rfl, h⟩ | ⟨rfl, h⟩
      · rw [wsB_1 h] at this; exact ⟨bz1, this⟩
      · rw [wsB_0 h] at this; exact ⟨bz0, this⟩
    | succ g ih =>
      intro i m x hi m1 hg hx
      unfold wp_X7_isSo_5
      rw [nI_clamp (by omega), hg.1 6 (by decide) (by decide) (by decide) (by decide) (by decide) (by decide), e2, if_neg (nI_ge (by omega) (by omega))]
      refine ⟨vp_in_nI hs (by decide), ?_⟩
      rcases hx with ⟨rfl, h⟩ | ⟨rfl, h⟩
      · rw [if_neg (by decide), (ix_sh s i).1, nI_clamp (by omega), hg.1 7 (by decide) (by decide) (by decide) (by decide) (by decide) (by decide), ec i (by omega)]
        refine ⟨vp_in_nI (by omega) (by decide), ?_⟩
        have tm : Tr m := ⟨by rw [m1]; exact it_ok i t.1, hg.2.2⟩
        refine sp_warR tm hb fun m2 r2 => ?_
        unfold wp_X7_isSo_45
        refine sp_goes (Tr_rs tm r2) fun m3 b1 b2 => ⟨_, rfl, ?_⟩
        rw [nI_1]
        refine ih (i + 1) m3 _ (by omega) (by rw [b1, rs_1 r2, m1, it_succ]) (gs_tr hg (gs_tr (gs_rs r2) b2)) ?_
        rw [m1]
        by_cases c : cv i = vF (it i (ν 1)) b
        · rw [if_pos c]
          refine Or.inl ⟨rfl, fun k hk' => ?_⟩
          by_cases ek : k = i
          · subst ek; exact c
          · exact h k (by omega)
        · rw [if_neg c]
          exact Or.inr ⟨rfl, fun z' => c (z' i (by omega))⟩
      · rw [if_pos rfl]
        have := hQ i m hg m1
        rw [wsB_0 h] at this
        exact ⟨bz0, this⟩
  exact ⟨z + 1, lp z 0 ν 1 (by omega) rfl (gs_rf t.2) (Or.inl ⟨rfl, fun k hk => absurd hk (by omega)⟩)⟩
noncomputable def whS (ρ : Nat → Int32) (b : Nat) (cv : Nat → Int32) (z : Nat) : Nat → Int32
  | 0 => 0
  | f + 1 => if wsB (upd ρ (21 + 5 * b) (nI f)) b cv z = 0 then whS ρ b cv z f else whS ρ b cv z f ||| ((1 : Int32) <<< (nI f &&& 31))
theorem whS_n (ρ : Nat → Int32) (b : Nat) (cv : Nat → Int32) (z : Nat) : ∀ k, k ≤ 4 → ∃ s, s < 2 ^ k ∧ whS ρ b cv z k = nI s
  | 0, _ => ⟨0, by decide, rfl⟩
  | k + 1, h => by
    obtain ⟨s, hs, e⟩ := whS_n ρ b cv z k (by omega)
    have hp : 2 ^ (k + 1) = 2 * 2 ^ k := by rw [Nat.pow_succ, Nat.mul_comm]
    simp only [whS]
    split
    · rw [e]; exact ⟨s, by omega, rfl⟩
    · rw [e, one_sh k (by omega), nx_or]
      exact ⟨_, Nat.or_lt_two_pow (by omega) (by omega), rfl⟩
theorem sm_whose_ok : sm_whose Rl := by
  intro a x c μ ν h
  have r1 := rl_err (k := 1) (by decide) h
  have r2 := rl_err (k := 2) (by decide) h
  obtain ⟨n, hn, e1, e2⟩ := rl_size h
  have o := inv_ok h.2.1
  have TC := rl_Tc h
  unfold wp_X6_whose wp_X7_whose wp_X4_isMissing
  simp only [sp_isSheet6, sp_isSheet7, sp_isBit6 hn e1, sp_isBit7 hn e2, e6_1, e7_1, e6_2, e7_2, in7_1, sp_hi (n := 1) (k := 1) (by decide) rfl]
  by_cases c1 : rg a 4
  · simp only [if_pos c1, if_neg (by decide : ¬ (1 : Int32) = 0)]
    obtain ⟨s, hs, rfl⟩ := rg_of c1
    by_cases c2 : rg x n
    · obtain ⟨b, hb, rfl⟩ := rg_of c2
      have hb8 : b < 8 := by omega
      simp only [if_pos c2, if_neg (by decide : ¬ (1 : Int32) = 0)]
      by_cases c3 : rg c 2
      · have H := h.2.2.2.2.1.1 s hs
        have w : vp_in (nI s) 4 := vp_in_nI hs (by decide)
        simp only [if_pos c3, if_neg (by decide : ¬ (1 : Int32) = 0), w, true_and, nI_clamp (show s < 2 ^ 31 by omega), H.1]
        by_cases c4 : ν 5 s = 0
        · simp only [if_pos c4, if_neg (by decide : ¬ (1 : Int32) = 0), true_and]
          exact r2
        · simp only [if_neg c4, if_true]
          obtain ⟨z, hz, ez⟩ := H.2.2.2
          obtain ⟨sv, hsv, esv⟩ := whS_n (ν 1) b (fun i => ν 7 (24 * s + i)) z 4 (Nat.le_refl _)
          have sv256 : sv < 256 := Nat.lt_trans hsv (by decide)
          -- the reference
          have R : ∀ r μe, sc μ μe → r = (if c = 0 then nI sv else nI (pc sv)) → wp_X7_thinks (fun μ48 => ∃ n57, wp_X7_whose_57 (nI s) (nI b) c (fun r2 μ2 => r = r2 ∧ Rl μe μ2) n57 0 0 μ48) ν := by
            intro r μe se hr
            refine th_start h.2.2.1 fun m0 m1 m2 => ?_
            have lp : ∀ g f m, f + g = 4 → TH ν m → m 1 = ν 1 → wp_X7_whose_57 (nI s) (nI b) c (fun r2 μ2 => r = r2 ∧ Rl μe μ2) (g + 1) (whS (ν 1) b (fun i => ν 7 (24 * s + i)) z f) (nI f) m := by
              intro g
              induction g with
              | zero =>
                intro f m hf t1 t2
                have : f = 4 := by omega
                subst this
                have B := rl_bk h se t1 t2
                unfold wp_X7_whose_57
                rw [if_pos (by decide), esv]
                by_cases cc : c = 0
                · rw [if_pos cc] at hr ⊢; exact ⟨hr, B⟩
                · rw [if_neg cc] at hr ⊢; exact sp_bitR sv256 ⟨hr, B⟩
              | succ g ih =>
                intro f m hf t1 t2
                have ih' := fun m => ih (f + 1) m (by omega)
                simp only [whS] at ih'
                unfold wp_X7_whose_57
                rw [if_neg (show ¬ (4 : Int32) ≤ nI f from nI_ge (b := 4) (by omega) (by decide)), sp_lets2 hb8]
                have row : st m 1 (21 + 5 * b) (nI f) 1 = upd (ν 1) (21 + 5 * b) (nI f) := by rw [st_eq, t2]
                have o' : ok (upd (ν 1) (21 + 5 * b) (nI f)) := ok_cg o (inb_slot (o := 2) (by decide) ⟨f, (show f < 4 by omega), rfl⟩ o.2.1) (fun i hi => upd_ne (by omega))
                have g1 := gs_1 (k := 21 + 5 * b) (v := nI f) t1.2.2.1 (by omega)
                have T1 := th_gs t1 g1
                refine sp_wsR (cv := fun i => ν 7 (24 * s + i)) hs hz hb8 ⟨by rw [row]; exact o', g1.2.2⟩ (by rw [st_ne (by decide), t1.1 6 (by decide) (by decide) (by decide) (by decide) (by decide) (by decide) (by decide)]; exact ez) (fun i hi => by rw [st_ne (by decide), t1.1 7 (by decide) (by decide) (by decide) (by decide) (by decide) (by decide) (by decide)]) fun k m' hg m1' => ?_
                rw [row] at m1' ⊢
                unfold wp_X7_whose_90
                refine ⟨_, rfl, ?_⟩
                have sm' := it_sm k o'
                refine th_back (th_gs T1 hg) (fun i h1 h2 => by rw [m1', sm' i (by omega), upd_ne (by omega)]) (fun i hi => by rw [m1', sm' i (by omega), upd_ne (by omega)]) fun m3 d1 d2 => ⟨_, rfl, ?_⟩
                rw [nI_1]
                have := ih' m3 d1 d2
                by_cases cw : wsB (upd (ν 1) (21 + 5 * b) (nI f)) b (fun i => ν 7 (24 * s + i)) z = 0
                · rw [if_pos cw] at this ⊢; rw [or_0]; exact this
                · rw [if_neg cw] at this ⊢; exact this
            exact ⟨5, lp 4 0 m0 (by omega) m1 m2⟩
          have lp : ∀ g f m, f + g = 4 → sc μ m → Tc 5 2 m (ν 1) → wp_X6_whose_53 (nI s) (nI b) c (fun r μ1 => wp_X7_thinks (fun μ48 => ∃ n57, wp_X7_whose_57 (nI s) (nI b) c (fun r2 μ2 => r = r2 ∧ Rl μ1 μ2) n57 0 0 μ48) ν) (g + 1) (whS (ν 1) b (fun i => ν 7 (24 * s + i)) z f) (nI f) m := by
            intro g
            induction g with
            | zero =>
              intro f m hf sm tm
              have : f = 4 := by omega
              subst this
              unfold wp_X6_whose_53
              rw [if_pos (by decide), esv]
              by_cases cc : c = 0
              · rw [if_pos cc]; exact R _ m sm (by rw [if_pos cc])
              · rw [if_neg cc]; exact sp_bitC sv256 (R _ m sm (by rw [if_neg cc]))
            | succ g ih =>
              intro f m hf sm tm
              have ih' := fun m => ih (f + 1) m (by omega)
              simp only [whS] at ih'
              unfold wp_X6_whose_53 wp_X6_whose_79
              rw [if_neg (show ¬ (4 : Int32) ≤ nI f from nI_ge (b := 4) (by omega) (by decide))]
              simp only [exists_eq_left, nI_1]
              refine sp_wsC (cv := fun i => ν 7 (24 * s + i)) hs hz hb8 (by omega) hn TC sm tm e2 (by rw [H.2.1]; exact ez) (fun i hi => h.2.2.2.2.1.2 _ (by omega)) fun m' sm' tm' => ?_
              have := ih' m' sm' tm'
              by_cases cw : wsB (upd (ν 1) (21 + 5 * b) (nI f)) b (fun i => ν 7 (24 * s + i)) z = 0
              · rw [if_pos cw] at this ⊢; exact this
              · rw [if_neg cw] at this ⊢; exact this
          exact ⟨5, lp 4 0 μ (by omega) sc_rf TC⟩
      · simp only [if_neg c3, if_true, true_and]; exact r1
    · simp only [if_neg c2, if_true, true_and]; exact r1
  · simp only [if_neg c1, if_true, true_and]; exact r1
