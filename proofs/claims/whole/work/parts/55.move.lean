/-! move -/
theorem sp_stands {μ : vM} {s z : Nat} (hs : s < 4) (hz : z < 25) (e : μ 55 s = nI z) {i n : Int32} {Q : Int32 → vM → Prop} : wp_X4_stands 53 (nI s) i n Q μ = if (0 ≤ i.toInt ∧ 0 ≤ n.toInt ∧ i.toInt + n.toInt ≤ z) then Q 1 μ else Q 0 μ := by
  have z0 : (0 : Int32).toInt = 0 := by decide
  have w : vp_in (nI s) 4 := vp_in_nI hs (by decide)
  unfold wp_X4_stands wp_X4_stands_28
  simp only [w, true_and, nI_clamp (show s < 2 ^ 31 by omega), Nat.reduceAdd, e]
  have hl : (0 < lg_cmp (i.toInt64 + n.toInt64) (nI z).toInt64) ↔ (z : Int) < i.toInt + n.toInt := by
    rw [lg_cmp_gt, Int64.lt_iff_toInt_lt, Int64.toInt_add, Int32.toInt_toInt64, Int32.toInt_toInt64, Int32.toInt_toInt64, nI_toInt (by omega)]
    have h1 := i.toInt_lt
    have h2 := n.toInt_lt
    have h3 := i.le_toInt
    have h4 := n.le_toInt
    rw [Int.bmod_eq_of_le (by omega) (by omega)]
  simp only [hl]
  by_cases a : i < 0
  · rw [if_pos a, if_neg]
    rw [Int32.lt_iff_toInt_lt] at a
    omega
  · by_cases b : n < 0
    · rw [if_neg a, if_pos b, if_neg]
      rw [Int32.lt_iff_toInt_lt] at b
      omega
    · rw [if_neg a, if_neg b]
      rw [Int32.lt_iff_toInt_lt] at a b
      by_cases c : (z : Int) < i.toInt + n.toInt
      · rw [if_pos c, if_neg (by omega)]
      · rw [if_neg c, if_pos (by omega)]
theorem mvU_R {a1 a2 a3 a4 : Int32} {Q : Int32 → vM → Prop} {ν : vM} {S D n : Nat} (hS : S + n ≤ 96) (hD : D + n ≤ 96) (eS : (24 : Int32) * a1 + a2 = nI S) (eD : (24 : Int32) * a3 + a4 = nI D) (up : a4 ≤ a2) (ok : D ≤ S ∨ S + n ≤ D) : ∀ (g k : Nat), k + g = n → Q (nI n) (sa ν 7 (va_cpy (ν 7) (ν 7) S D n)) → wp_X7_move_28 a1 a2 a3 a4 (nI n) Q (g + 1) (nI k) (sa ν 7 (va_cpy (ν 7) (ν 7) S D k)) := by
  intro g
  induction g with
  | zero =>
    intro k hk hQ
    unfold wp_X7_move_28
    rw [if_pos (nI_le (by omega) (by omega)), show k = n by omega]
    exact hQ
  | succ g ih =>
    intro k hk hQ
    unfold wp_X7_move_28
    rw [if_neg (nI_ge (by omega) (by omega)), if_pos up]
    unfold wp_X7_move_53
    rw [eS, eD, nI_add, nI_add]
    refine ⟨vp_in_nI (by omega) (by decide), vp_in_nI (by omega) (by decide), _, rfl, _, rfl, ?_⟩
    rw [nI_1, nI_clamp (show D + k < 2 ^ 31 by omega), nI_clamp (show S + k < 2 ^ 31 by omega)]
    have e : st (sa ν 7 (va_cpy (ν 7) (ν 7) S D k)) 7 (D + k) (sa ν 7 (va_cpy (ν 7) (ν 7) S D k) 7 (S + k)) = sa ν 7 (va_cpy (ν 7) (ν 7) S D (k + 1)) := by
      funext i
      by_cases c : i = 7
      · subst c
        rw [st_eq, sa_eq, sa_eq]
        funext q
        unfold upd va_cpy
        by_cases c1 : q = D + k
        · subst c1
          rw [if_pos rfl, if_neg (by omega), if_pos (by omega), Nat.add_sub_cancel_left]
        · rw [if_neg c1]
          by_cases c2 : D ≤ q ∧ q < D + k
          · rw [if_pos c2, if_pos (by omega)]
          · rw [if_neg c2, if_neg (by omega)]
      · rw [st_ne c, sa_ne c, sa_ne c]
    rw [e]
    exact ih (k + 1) (by omega) hQ
def cpD (f : Nat → Int32) (S D n k : Nat) : Nat → Int32 := fun q => if D + n - k ≤ q ∧ q < D + n then f (S + (q - D)) else f q
theorem mvD_R {a1 a2 a3 a4 : Int32} {Q : Int32 → vM → Prop} {ν : vM} {S D n : Nat} (hS : S + n ≤ 96) (hD : D + n ≤ 96) (eS : (24 : Int32) * a1 + a2 = nI S) (eD : (24 : Int32) * a3 + a4 = nI D) (up : ¬ a4 ≤ a2) (ok : S ≤ D ∨ D + n ≤ S) : ∀ (g k : Nat), k + g = n → Q (nI n) (sa ν 7 (va_cpy (ν 7) (ν 7) S D n)) → wp_X7_move_28 a1 a2 a3 a4 (nI n) Q (g + 1) (nI k) (sa ν 7 (cpD (ν 7) S D n k)) := by
  intro g
  induction g with
  | zero =>
    intro k hk hQ
    unfold wp_X7_move_28
    rw [if_pos (nI_le (by omega) (by omega)), show k = n by omega]
    have e : cpD (ν 7) S D n n = va_cpy (ν 7) (ν 7) S D n := by
      funext q
      unfold cpD va_cpy
      rw [Nat.add_sub_cancel]
    rw [e]
    exact hQ
  | succ g ih =>
    intro k hk hQ
    unfold wp_X7_move_28
    rw [if_neg (nI_ge (by omega) (by omega)), if_neg up]
    unfold wp_X7_move_53
    rw [show (nI n - (1 : Int32)) - nI k = nI (n - 1 - k) by rw [show (1 : Int32) = nI 1 from rfl, sub_nI (by omega), sub_nI (by omega)]]
    rw [eS, eD, nI_add, nI_add]
    refine ⟨vp_in_nI (by omega) (by decide), vp_in_nI (by omega) (by decide), _, rfl, _, rfl, ?_⟩
    rw [nI_1, nI_clamp (show D + (n - 1 - k) < 2 ^ 31 by omega), nI_clamp (show S + (n - 1 - k) < 2 ^ 31 by omega)]
    have e : st (sa ν 7 (cpD (ν 7) S D n k)) 7 (D + (n - 1 - k)) (sa ν 7 (cpD (ν 7) S D n k) 7 (S + (n - 1 - k))) = sa ν 7 (cpD (ν 7) S D n (k + 1)) := by
      funext i
      by_cases c : i = 7
      · subst c
        rw [st_eq, sa_eq, sa_eq]
        funext q
        unfold upd cpD
        by_cases c1 : q = D + (n - 1 - k)
        · subst c1
          rw [if_pos rfl, if_neg (by omega), if_pos (by omega), Nat.add_sub_cancel_left]
        · rw [if_neg c1]
          by_cases c2 : D + n - k ≤ q ∧ q < D + n
          · rw [if_pos c2, if_pos (by omega)]
          · rw [if_neg c2, if_neg (by omega)]
      · rw [st_ne c, sa_ne c, sa_ne c]
    rw [e]
    exact ih (k + 1) (by omega) hQ
theorem sm_move_ok : sm_move Rl := by
  intro a i b j n μ ν h
  have r1 := rl_err (k := 1) (by decide) h
  have r2 := rl_err (k := 2) (by decide) h
  have r5 := rl_err (k := 5) (by decide) h
  have hs5 := h.2.2.2.2.1
  have z0 : (0 : Int32).toInt = 0 := by decide
  unfold wp_X6_move wp_X7_move wp_X7_notMoved
  simp only [sp_isSheet6, sp_isSheet7, e6_1, e6_2, e6_5]
  by_cases c : rg a 4
  · obtain ⟨s, hs, rfl⟩ := rg_of c
    have w : vp_in (nI s) 4 := vp_in_nI hs (by decide)
    obtain ⟨t1, t2, t3, ⟨z, hz, t4⟩⟩ := hs5.1 s hs
    by_cases c' : rg b 4
    · obtain ⟨o, ho, rfl⟩ := rg_of c'
      have w' : vp_in (nI o) 4 := vp_in_nI ho (by decide)
      obtain ⟨u1, u2, u3, ⟨y, hy, u4⟩⟩ := hs5.1 o ho
      have ez : μ 55 s = nI z := by rw [t2, t4]
      have ey : μ 55 o = nI y := by rw [u2, u4]
      simp only [if_pos c, if_pos c', if_neg (by decide : ¬ (1 : Int32) = 0), wp_X4_isMissing, w, w', true_and, nI_clamp (show s < 2 ^ 31 by omega), nI_clamp (show o < 2 ^ 31 by omega), Nat.reduceAdd, t1, u1, t4, u4, sp_stands hs hz ez, sp_stands ho hy ey]
      by_cases d : ν 5 s = 0
      · simp only [if_pos d, if_neg (by decide : ¬ (1 : Int32) = 0), if_neg (by decide : ¬ (-1000000002 : Int32) = 0), e7_2, true_and]
        exact r2
      · by_cases d' : ν 5 o = 0
        · simp only [if_neg d, if_pos d', if_true, if_neg (by decide : ¬ (1 : Int32) = 0), if_neg (by decide : ¬ (-1000000002 : Int32) = 0), e7_2, true_and]
          exact r2
        · simp only [if_neg d, if_neg d', if_true]
          by_cases f : ν 5 s = ν 5 o
          · simp only [if_pos f]
            have hf : wp_X7_notMoved_101 (nI s) i (nI o) j n (fun r8 μ8 => if r8 = 0 then ∃ n28, wp_X7_move_28 (nI s) i (nI o) j n (fun r2 μ2 => -1000000001 = r2 ∧ Rl (st μ 57 1 (μ 57 1 + 1)) μ2) n28 (0 : Int32) μ8 else wp_X7_error r8 (fun r21 μ21 => -1000000001 = r21 ∧ Rl (st μ 57 1 (μ 57 1 + 1)) μ21) μ8) ν := by
              unfold wp_X7_notMoved_101 wp_X7_notMoved_102
              simp only [if_true, if_neg (by decide : ¬ (-1000000001 : Int32) = 0), e7_1, true_and]
              exact r1
            have n1 := i.toInt_lt
            have n2 := j.toInt_lt
            have n3 := n.toInt_lt
            have n4 := n.le_toInt
            have tz := nI_toInt (show z < 2 ^ 31 by omega)
            have ty := nI_toInt (show y < 2 ^ 31 by omega)
            by_cases g : (0 ≤ i.toInt ∧ 0 ≤ n.toInt ∧ i.toInt + n.toInt ≤ z)
            · by_cases g' : (0 ≤ j.toInt ∧ 0 ≤ n.toInt ∧ j.toInt + n.toInt ≤ y)
              · obtain ⟨p, hp, rfl⟩ := rg_of (x := n) (n := 25) ⟨by omega, by omega⟩
                obtain ⟨k, hk, rfl⟩ := rg_of (x := i) (n := 25) ⟨by omega, by omega⟩
                obtain ⟨l, hl, rfl⟩ := rg_of (x := j) (n := 25) ⟨by omega, by omega⟩
                have g0 := g
                have g0' := g'
                rw [nI_toInt (by omega), nI_toInt (by omega)] at g g'
                rw [if_pos g0, if_pos g0']
                unfold wp_X4_shift
                rw [(ix_sh s k).2, (ix_sh o l).2, nI_clamp (show 24 * s + k < 2 ^ 31 by omega), nI_clamp (show 24 * o + l < 2 ^ 31 by omega), nI_clamp (show p < 2 ^ 31 by omega)]
                refine ⟨nI_pos (by omega), nI_pos (by omega), nI_pos (by omega), by omega, by omega, _, rfl, ?_⟩
                dsimp only
                rw [if_neg (nI_pos (show p < 2 ^ 31 by omega)), if_neg (nI_pos (show k < 2 ^ 31 by omega)), if_neg (nI_pos (show l < 2 ^ 31 by omega)), sub_nI (show k ≤ z by omega), sub_nI (show l ≤ y by omega)]
                rw [if_neg (show ¬ nI (z - k) < nI p by rw [Int32.lt_iff_toInt_lt, nI_toInt (by omega), nI_toInt (by omega)]; omega), if_neg (show ¬ nI (y - l) < nI p by rw [Int32.lt_iff_toInt_lt, nI_toInt (by omega), nI_toInt (by omega)]; omega)]
                unfold wp_X7_notMoved_102
                simp only [if_neg (by decide : ¬ (1 : Int32) = 0), if_true]
                refine ⟨p + 1, ?_⟩
                have fin : (nI p = nI p ∧ Rl (sa μ 56 (va_cpy (μ 56) (μ 56) (24 * s + k) (24 * o + l) p)) (sa ν 7 (va_cpy (ν 7) (ν 7) (24 * s + k) (24 * o + l) p))) := by
                  refine ⟨rfl, rl_rest h (fun q hq => sa_ne (by omega)) (fun q hq => sa_ne (by omega)) ⟨fun q hq => ?_, fun q hq => ?_⟩⟩
                  · rw [sa_ne (by decide), sa_ne (by decide), sa_ne (by decide), sa_ne (by decide)]
                    exact hs5.1 q hq
                  · rw [sa_eq, sa_eq]
                    unfold va_cpy
                    by_cases c1 : 24 * o + l ≤ q ∧ q < 24 * o + l + p
                    · rw [if_pos c1, if_pos c1]
                      exact hs5.2 _ (by omega)
                    · rw [if_neg c1, if_neg c1]
                      exact hs5.2 _ hq
                have tk := nI_toInt (show k < 2 ^ 31 by omega)
                have tl := nI_toInt (show l < 2 ^ 31 by omega)
                by_cases up : nI l ≤ nI k
                · have up' := up
                  rw [Int32.le_iff_toInt_le, tk, tl] at up'
                  have := mvU_R (a1 := nI s) (a2 := nI k) (a3 := nI o) (a4 := nI l) (Q := fun r2 μ2 => nI p = r2 ∧ Rl (sa μ 56 (va_cpy (μ 56) (μ 56) (24 * s + k) (24 * o + l) p)) μ2) (ν := ν) (S := 24 * s + k) (D := 24 * o + l) (n := p) (by omega) (by omega) (ix_sh s k).1 (ix_sh o l).1 up (by omega) p 0 (by omega) fin
                  rwa [show sa ν 7 (va_cpy (ν 7) (ν 7) (24 * s + k) (24 * o + l) 0) = ν by
                    funext q
                    by_cases c7 : q = 7
                    · subst c7
                      rw [sa_eq]
                      funext x
                      unfold va_cpy
                      rw [if_neg (by omega)]
                    · rw [sa_ne c7]] at this
                · have up' := up
                  rw [Int32.le_iff_toInt_le, tk, tl] at up'
                  have := mvD_R (a1 := nI s) (a2 := nI k) (a3 := nI o) (a4 := nI l) (Q := fun r2 μ2 => nI p = r2 ∧ Rl (sa μ 56 (va_cpy (μ 56) (μ 56) (24 * s + k) (24 * o + l) p)) μ2) (ν := ν) (S := 24 * s + k) (D := 24 * o + l) (n := p) (by omega) (by omega) (ix_sh s k).1 (ix_sh o l).1 up (by omega) p 0 (by omega) fin
                  rwa [show sa ν 7 (cpD (ν 7) (24 * s + k) (24 * o + l) p 0) = ν by
                    funext q
                    by_cases c7 : q = 7
                    · subst c7
                      rw [sa_eq]
                      funext x
                      unfold cpD
                      rw [if_neg (by omega)]
                    · rw [sa_ne c7]] at this
              · rw [if_pos g, if_neg g']
                by_cases x1 : n < 0
                · rw [if_pos x1]; exact hf
                · by_cases x2 : i < 0
                  · rw [if_neg x1, if_pos x2]; exact hf
                  · by_cases x3 : j < 0
                    · rw [if_neg x1, if_neg x2, if_pos x3]; exact hf
                    · rw [if_neg x1, if_neg x2, if_neg x3]
                      rw [Int32.lt_iff_toInt_lt] at x1 x2 x3
                      split
                      · exact hf
                      · rw [if_pos]
                        · exact hf
                        · rw [Int32.lt_iff_toInt_lt, i_sub _ _ (by omega) (by omega)]
                          omega
            · rw [if_neg g]
              by_cases x1 : n < 0
              · rw [if_pos x1]; exact hf
              · by_cases x2 : i < 0
                · rw [if_neg x1, if_pos x2]; exact hf
                · by_cases x3 : j < 0
                  · rw [if_neg x1, if_neg x2, if_pos x3]; exact hf
                  · rw [if_neg x1, if_neg x2, if_neg x3]
                    rw [Int32.lt_iff_toInt_lt] at x1 x2 x3
                    rw [if_pos]
                    · exact hf
                    · rw [Int32.lt_iff_toInt_lt, i_sub _ _ (by omega) (by omega)]
                      omega
          · simp only [if_neg f, if_neg (by decide : ¬ (-1000000005 : Int32) = 0), e7_5, true_and]
            exact r5
    · simp only [if_pos c, if_neg c', if_true, if_neg (by decide : ¬ (1 : Int32) = 0), if_neg (by decide : ¬ (-1000000001 : Int32) = 0), e7_1, true_and]
      exact r1
  · simp only [if_neg c, if_true, if_neg (by decide : ¬ (-1000000001 : Int32) = 0), e7_1, true_and]
    exact r1
