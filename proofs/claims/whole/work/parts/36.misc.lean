/-! untell, sheet, lays -/
theorem lw_zero {g at_ : Nat} {μ : vM} {ρ : Nat → Int32} (h0 : μ g 4 = 0) (h1 : ρ at_ = 0) : lw g μ ρ at_ := by
  refine ⟨by rw [h0, h1], fun k hk hl => ?_⟩
  rw [h1] at hl
  exact absurd hl (nI_pos (by omega))
theorem wf_zero {at_ : Nat} {ρ : Nat → Int32} (h1 : ρ at_ = 0) : wf ρ at_ := ⟨0, by decide, h1, fun k hk => absurd hk (by omega), fun h => absurd h (by omega)⟩
theorem rl_len {μ ν : vM} {u : Nat} (hu : u < 2) (h : Rl μ ν) : Rl (st μ (12 + 3 * u) 4 0) (st ν 1 (143 + 121 * u) 0) := by
  have h' := h
  obtain ⟨⟨w1, w2, w3, w4, w5, w6, w7⟩, a2, a3, a4, a5, a6, a7, a8⟩ := h
  have hρ : ∀ i, i ≠ 143 + 121 * u → st ν 1 (143 + 121 * u) 0 1 i = ν 1 i := fun i hi => by rw [st_eq, upd_ne hi]
  have hc : ∀ j, j ≠ 12 + 3 * u → st μ (12 + 3 * u) 4 0 j = μ j := fun j hj => st_ne hj
  have hu' : u = 0 ∨ u = 1 := by omega
  have L1 : lw 12 (st μ (12 + 3 * u) 4 0) (st ν 1 (143 + 121 * u) 0 1) 143 := by
    rcases hu' with rfl | rfl
    · exact lw_zero (by rw [st_eq, upd_eq]) (by rw [st_eq, upd_eq])
    · exact lw_cg w3 (by rw [hc _ (by decide)]) (hc _ (by decide)) (fun i _ _ => hρ i (by omega))
  have L2 : lw 15 (st μ (12 + 3 * u) 4 0) (st ν 1 (143 + 121 * u) 0 1) 264 := by
    rcases hu' with rfl | rfl
    · exact lw_cg w4 (by rw [hc _ (by decide)]) (hc _ (by decide)) (fun i _ _ => hρ i (by omega))
    · exact lw_zero (by rw [st_eq, upd_eq]) (by rw [st_eq, upd_eq])
  obtain ⟨b1, b2, b3, b4, b5, b6, b7, b8, b9, b10⟩ := a2
  have F1 : wf (st ν 1 (143 + 121 * u) 0 1) 143 := by
    rcases hu' with rfl | rfl
    · exact wf_zero (by rw [st_eq, upd_eq])
    · exact wf_cg b9 (fun i _ _ => hρ i (by omega))
  have F2 : wf (st ν 1 (143 + 121 * u) 0 1) 264 := by
    rcases hu' with rfl | rfl
    · exact wf_cg b10 (fun i _ _ => hρ i (by omega))
    · exact wf_zero (by rw [st_eq, upd_eq])
  refine rl_now h' (fun j hj => hc j (by omega)) (fun j hj => st_ne (by omega)) ⟨by rw [st_ne (by decide)], by rw [st_ne (by decide)]⟩ (kno_cg a3 (by rw [st_ne (by decide)]) (st_ne (by decide)) (fun i _ _ => hρ i (by omega))) ⟨hv_cg w1 (fun i hi => hc _ (by omega)) ⟨hρ 0 (by omega), hρ 2 (by omega), fun i _ _ => hρ i (by omega), fun i _ _ => hρ i (by omega)⟩, rd_cg w2 (hc _ (by omega)) (hc _ (by omega)) (fun i _ _ => hρ i (by omega)), L1, L2, ⟨by rw [hc 1 (by omega), hρ 3 (by omega)]; exact w5.1, fun i hi => by rw [hc _ (by omega), hρ _ (by omega)]; exact w5.2 i hi⟩, ⟨by rw [hc 1 (by omega), hρ 4 (by omega)]; exact w6.1, fun i hi => by rw [hc _ (by omega), hρ _ (by omega)]; exact w6.2 i hi⟩, by rw [hc 1 (by omega), hρ 1 (by omega)]; exact w7⟩ ⟨by rw [hρ 2 (by omega)]; exact b1, by rw [hρ 0 (by omega)]; exact b2, inb_of fun b hb i hi => by rw [hρ _ (by omega)]; exact inb_to b3 hb hi, fun f hf => by rw [hρ _ (by omega)]; exact b4 f hf, inw_cg b5 (fun i _ _ => hρ i (by omega)), by rw [hρ 3 (by omega)]; exact b6, by rw [hρ 4 (by omega)]; exact b7, fun i hi => by rw [hρ _ (by omega)]; exact b8 i hi, F1, F2⟩ ?_
  unfold nms at a8 ⊢
  rcases hu' with rfl | rfl
  · rw [st_eq, upd_ne (by decide), upd_ne (by decide), hc 15 (by decide)]; exact a8
  · rw [st_eq, upd_ne (by decide), upd_ne (by decide), hc 12 (by decide)]; exact a8
theorem sm_untell_ok : sm_untell Rl := by
  intro a μ ν h
  unfold wp_X6_untell wp_X7_untell wp_X6_lawOf
  simp only [sp_isUse6, in7_1, e6_1, e7_1, exists_eq_left]
  by_cases c : rg a 2
  · obtain ⟨u, hu, rfl⟩ := rg_of c
    simp only [if_pos c, if_neg (by decide : ¬ (1 : Int32) = 0)]
    have ix : (143 : Int32) + 121 * nI u = nI (143 + 121 * u) := by
      show nI 143 + nI 121 * nI u = _; rw [nI_mul, nI_add]
    rw [ix]
    simp only [sp_becomes (k := 143 + 121 * u) (by omega) rfl]
    have R := rl_len hu h
    have hu' : u = 0 ∨ u = 1 := by omega
    rcases hu' with rfl | rfl
    · rw [if_pos (show nI 0 = 0 from rfl)]
      have e : μ 12 4 = ν 1 143 := h.1.2.2.1.1
      rw [e]
      by_cases d : ν 1 143 ≤ 0
      · rw [if_pos d]; simp only [if_pos d]; exact ⟨trivial, R⟩
      · rw [if_neg d]; simp only [if_neg d]; exact ⟨trivial, R⟩
    · rw [if_neg (show ¬ nI 1 = 0 by decide)]
      have e : μ 15 4 = ν 1 264 := h.1.2.2.2.1.1
      rw [e]
      by_cases d : ν 1 264 ≤ 0
      · rw [if_pos d]; simp only [if_pos d]; exact ⟨trivial, R⟩
      · rw [if_neg d]; simp only [if_neg d]; exact ⟨trivial, R⟩
  · simp only [if_neg c, if_true, true_and]; exact rl_err (by decide) h
/-- a sheet's cells, zero from lo to hi -/
def zs (μ : vM) (c lo hi : Nat) : vM := sa μ c (fun k => if lo ≤ k ∧ k < hi then 0 else μ c k)
theorem zs_step {μ : vM} {c lo hi : Nat} (h : lo < hi) : zs (st μ c lo 0) c (lo + 1) hi = zs μ c lo hi := by
  funext j
  by_cases e : j = c
  · subst e
    simp only [zs, sa_eq]
    funext k
    rw [st_eq]
    by_cases q : k = lo
    · subst q; rw [if_neg (by omega), upd_eq, if_pos (by omega)]
    · by_cases r : lo + 1 ≤ k ∧ k < hi
      · rw [if_pos r, if_pos (by omega)]
      · rw [if_neg r, upd_ne q, if_neg (by omega)]
  · simp only [zs]; rw [sa_ne e, sa_ne e, st_ne e]
theorem zs_end {μ : vM} {c lo hi : Nat} (h : hi ≤ lo) : zs μ c lo hi = μ := by
  funext j
  by_cases e : j = c
  · subst e; simp only [zs, sa_eq]; funext k; rw [if_neg (by omega)]
  · simp only [zs]; rw [sa_ne e]
theorem sh_C {s : Nat} (hs : s < 4) {a b : Int32} {Q : vM → Prop} : ∀ (g i : Nat) (m : vM), i + g = 24 → Q (zs m 56 (24 * s + i) (24 * s + 24)) → wp_X4_make_17 53 (nI s) a b Q (g + 1) (nI i) m := by
  intro g
  induction g with
  | zero =>
    intro i m hi hQ
    unfold wp_X4_make_17
    rw [if_pos (show (24 : Int32) ≤ nI i from nI_le (a := 24) (by omega) (by omega))]
    rwa [zs_end (by omega)] at hQ
  | succ g ih =>
    intro i m hi hQ
    unfold wp_X4_make_17
    rw [if_neg (show ¬ (24 : Int32) ≤ nI i from nI_ge (b := 24) (by omega) (by omega)), (ix_sh s i).2]
    refine ⟨vp_in_nI (by omega) (by decide), _, rfl, _, rfl, ?_⟩
    rw [nI_1, nI_clamp (by omega)]
    refine ih (i + 1) _ (by omega) ?_
    have := zs_step (μ := m) (c := 56) (lo := 24 * s + i) (hi := 24 * s + 24) (by omega)
    rw [show 24 * s + (i + 1) = 24 * s + i + 1 by omega]
    rw [← this] at hQ
    exact hQ
theorem sh_R {s : Nat} (hs : s < 4) {a b : Int32} {Q : Int32 → vM → Prop} : ∀ (g i : Nat) (m : vM), i + g = 24 → Q 1 (zs m 7 (24 * s + i) (24 * s + 24)) → wp_X7_sheet_93 (nI s) a b Q (g + 1) (nI i) m := by
  intro g
  induction g with
  | zero =>
    intro i m hi hQ
    unfold wp_X7_sheet_93
    rw [if_pos (show (24 : Int32) ≤ nI i from nI_le (a := 24) (by omega) (by omega))]
    rwa [zs_end (by omega)] at hQ
  | succ g ih =>
    intro i m hi hQ
    unfold wp_X7_sheet_93
    rw [if_neg (show ¬ (24 : Int32) ≤ nI i from nI_ge (b := 24) (by omega) (by omega)), (ix_sh s i).1]
    refine ⟨vp_in_nI (by omega) (by decide), _, rfl, _, rfl, ?_⟩
    rw [nI_1, nI_clamp (by omega)]
    refine ih (i + 1) _ (by omega) ?_
    rw [show 24 * s + (i + 1) = 24 * s + i + 1 by omega, zs_step (by omega)]
    exact hQ
theorem rl_sheet {μ ν : vM} {s n : Nat} {a : Int32} (hs : s < 4) (ha : a = 0 ∨ a = 8 ∨ a = 16 ∨ a = 32) (hn : n < 25) (h : Rl μ ν) : Rl (zs (st (st μ 54 s a) 55 s (nI n)) 56 (24 * s) (24 * s + 24)) (zs (st (st ν 5 s a) 6 s (nI n)) 7 (24 * s) (24 * s + 24)) := by
  have hs5 := h.2.2.2.2.1
  refine rl_rest h (fun j hj => ?_) (fun j hj => ?_) ⟨fun t ht => ?_, fun i hi => ?_⟩
  · simp only [zs]; rw [sa_ne (by omega), st_ne (by omega), st_ne (by omega)]
  · simp only [zs]; rw [sa_ne (by omega), st_ne (by omega), st_ne (by omega)]
  · obtain ⟨t1, t2, t3, t4⟩ := hs5.1 t ht
    simp only [zs]
    simp (disch := decide) only [sa_ne, st_ne, st_eq]
    by_cases e : t = s
    · subst e; rw [upd_eq, upd_eq, upd_eq, upd_eq]; exact ⟨rfl, rfl, ha, ⟨n, hn, rfl⟩⟩
    · rw [upd_ne e, upd_ne e, upd_ne e, upd_ne e]; exact ⟨t1, t2, t3, t4⟩
  · simp only [zs]
    simp (disch := decide) only [sa_eq, st_ne]
    rw [hs5.2 i hi]
theorem sm_sheet_ok : sm_sheet Rl := by
  intro a b n μ ν h
  have r1 := rl_err (k := 1) (by decide) h
  have r3 := rl_err (k := 3) (by decide) h
  unfold wp_X6_sheet wp_X7_sheet
  simp only [wp_X6_sheet_22, wp_X6_sheet_27, sp_isSheet6, sp_isSheet7, e6_1, e7_1, e6_3, e7_3]
  by_cases c1 : rg a 4
  · obtain ⟨s, hs, rfl⟩ := rg_of c1
    have ws : vp_in (nI s) 4 := vp_in_nI hs (by decide)
    simp only [if_pos c1, if_neg (by decide : ¬ (1 : Int32) = 0), if_true]
    have big : ∀ (z : Nat), z < 25 → (b = 0 ∨ b = 8 ∨ b = 16 ∨ b = 32) → nI z = (if b = 0 then (0 : Int32) else n) → wp_X6_sheet_77 (nI s) b n (fun r μ1 => wp_X7_sheet_68 (nI s) b n (fun r2 μ2 => r = r2 ∧ Rl μ1 μ2) ν) μ := by
      intro z hz hb hze
      unfold wp_X6_sheet_77 wp_X6_sheet_92 wp_X7_sheet_68 wp_X7_sheet_89 wp_X4_make
      rw [← hze]
      simp only [exists_eq_left, ws, true_and, nI_clamp (show s < 2 ^ 31 by omega), Nat.reduceAdd]
      refine ⟨25, sh_C hs 24 0 _ (by omega) ?_⟩
      refine ⟨25, sh_R hs 24 0 _ (by omega) ⟨rfl, ?_⟩⟩
      rw [Nat.add_zero]
      exact rl_sheet hs hb hz h
    by_cases b0 : b = 0
    · subst b0
      simp only [if_true, wp_X6_sheet_61, wp_X7_sheet_36, wp_X7_sheet_51, if_pos (show (0 : Int32) ≤ 0 by decide)]
      exact big 0 (by decide) (Or.inl rfl) rfl
    · have rest : (b = 8 ∨ b = 16 ∨ b = 32) → (if 0 ≤ n then wp_X6_sheet_61 (nI s) b n (fun r μ1 => wp_X7_sheet_36 (nI s) b n (fun r2 μ2 => r = r2 ∧ Rl μ1 μ2) ν) μ else wp_X7_sheet_36 (nI s) b n (fun r2 μ2 => -1000000003 = r2 ∧ Rl (st μ 57 3 (μ 57 3 + 1)) μ2) ν) := by
        intro hb
        have bp : ¬ b ≤ 0 := by rcases hb with rfl | rfl | rfl <;> decide
        by_cases n0 : 0 ≤ n
        · rw [if_pos n0]
          unfold wp_X6_sheet_61 wp_X7_sheet_36 wp_X7_sheet_51
          simp only [if_neg b0, if_neg bp, if_pos n0, e6_1, e7_1]
          by_cases n24 : n ≤ 24
          · simp only [if_pos n24]
            have rn : rg n 25 := by
              rw [Int32.le_iff_toInt_le] at n0 n24
              have z0 : (0 : Int32).toInt = 0 := by decide
              have z24 : (24 : Int32).toInt = 24 := by decide
              constructor <;> omega
            obtain ⟨z, hz, rfl⟩ := rg_of rn
            exact big z hz (Or.inr hb) (by rw [if_neg b0])
          · simp only [if_neg n24, true_and]; exact r1
        · rw [if_neg n0]
          unfold wp_X7_sheet_36
          simp only [if_neg bp, if_neg n0, e7_3, true_and]; exact r3
      by_cases b8 : b = 8
      · have := rest (Or.inl b8)
        simp only [if_neg b0, if_pos b8]
        exact this
      · by_cases b16 : b = 16
        · have := rest (Or.inr (Or.inl b16))
          simp only [if_neg b0, if_neg b8, if_pos b16]
          exact this
        · by_cases b32 : b = 32
          · have := rest (Or.inr (Or.inr b32))
            simp only [if_neg b0, if_neg b8, if_neg b16, if_pos b32]
            exact this
          · simp only [if_neg b0, if_neg b8, if_neg b16, if_neg b32, true_and]; exact r1
  · simp only [if_neg c1, if_true, true_and]
    split <;> (try exact r1) <;> split <;> (try exact r1) <;> split <;> (try exact r1) <;> split <;> exact r1
/-- how many are laid -/
noncomputable def laG (cv : Nat → Int32) (n : Nat) : Nat → Nat → Nat
  | 0, i => i
  | g + 1, i => if i < n ∧ rg (cv i) 10 then laG cv n g (i + 1) else i
def wC (c o t : Nat) (cv : Nat → Int32) : Nat → vM → vM
  | 0, μ => μ
  | k + 1, μ => st (wC c o t cv k μ) c (o + t * k) (cv k)
theorem wC_ne {c o t : Nat} {cv : Nat → Int32} {μ : vM} {j : Nat} (h : j ≠ c) : ∀ k, wC c o t cv k μ j = μ j
  | 0 => rfl
  | k + 1 => by simp only [wC]; rw [st_ne h, wC_ne h k]
theorem wC_lo {c o t : Nat} {cv : Nat → Int32} {μ : vM} {q : Nat} (h : q < o) : ∀ k, wC c o t cv k μ c q = μ c q
  | 0 => rfl
  | k + 1 => by simp only [wC]; rw [st_eq, upd_ne (by omega), wC_lo h k]
theorem la_C {s z n : Nat} (hs : s < 4) (hz : z < 25) (hn : n < 9) {cv : Nat → Int32} {μ : vM} (e1 : μ 5 0 = nI n) (e2 : μ 55 s = nI z) (ec : ∀ i, i < 24 → μ 56 (24 * s + i) = cv i) {Q : Int32 → vM → Prop} : ∀ (g i : Nat), i + g = z → Q (nI (laG cv n g i)) (wC 9 0 1 cv (laG cv n g i) μ) → wp_X6_lays_32 (nI s) Q (g + 1) (nI i) (wC 9 0 1 cv i μ) := by
  have ws : vp_in (nI s) 4 := vp_in_nI hs (by decide)
  intro g
  induction g with
  | zero =>
    intro i hi hQ
    unfold wp_X6_lays_32
    rw [nI_clamp (by omega), wC_ne (by decide), e2, if_pos (nI_le (by omega) (by omega))]
    exact ⟨ws, hQ⟩
  | succ g ih =>
    intro i hi hQ
    unfold wp_X6_lays_32
    rw [nI_clamp (by omega), wC_ne (by decide), e2, if_neg (nI_ge (by omega) (by omega)), sp_isBit6 hn (by rw [wC_ne (by decide)]; exact e1)]
    refine ⟨ws, ?_⟩
    unfold laG at hQ
    have w96 : vp_in (nI (24 * s + i)) 96 := vp_in_nI (by omega) (by decide)
    by_cases c : rg (nI i) n
    · have hin : i < n := by
        have := c.2; rw [nI_toInt (by omega)] at this; omega
      simp only [if_pos c, if_neg (by decide : ¬ (1 : Int32) = 0), wp_X4_number, (ix_sh s i).2, w96, true_and, nI_clamp (show 24 * s + i < 2 ^ 31 by omega), Nat.reduceAdd, wC_ne (show 56 ≠ 9 by decide), ec i (by omega), sp_isPlace6]
      by_cases d : rg (cv i) 10
      · rw [if_pos ⟨hin, d⟩] at hQ
        simp only [if_pos d, if_neg (by decide : ¬ (1 : Int32) = 0)]
        refine ⟨vp_in_nI (by omega) (by decide), _, rfl, _, rfl, ?_⟩
        rw [nI_1, nI_clamp (by omega)]
        have := ih (i + 1) (by omega) hQ
        simp only [wC, Nat.zero_add, Nat.one_mul] at this
        exact this
      · rw [if_neg (fun q => d q.2)] at hQ
        simp only [if_neg d, if_true]
        exact hQ
    · rw [if_neg (fun q => c (rg_nI q.1 (by omega)))] at hQ
      simp only [if_neg c, if_true]
      exact hQ
theorem la_R {s z n : Nat} (hs : s < 4) (hz : z < 25) (hn : n < 9) {cv : Nat → Int32} {ν : vM} (e1 : ν 1 2 = nI n) (e2 : ν 6 s = nI z) (ec : ∀ i, i < 24 → ν 7 (24 * s + i) = cv i) {Q : Int32 → vM → Prop} : ∀ (g i : Nat), i + g = z → Q (nI (laG cv n g i)) (wC 1 22 5 cv (laG cv n g i) ν) → wp_X7_lays_18 (nI s) Q (g + 1) (nI i) (wC 1 22 5 cv i ν) := by
  have ws : vp_in (nI s) 4 := vp_in_nI hs (by decide)
  intro g
  induction g with
  | zero =>
    intro i hi hQ
    unfold wp_X7_lays_18
    rw [nI_clamp (by omega), wC_ne (by decide), e2, if_pos (nI_le (by omega) (by omega))]
    exact ⟨ws, hQ⟩
  | succ g ih =>
    intro i hi hQ
    unfold wp_X7_lays_18
    rw [nI_clamp (by omega), wC_ne (by decide), e2, if_neg (nI_ge (by omega) (by omega)), t2_, wC_lo (by omega), e1]
    refine ⟨ws, v2_, ?_⟩
    unfold laG at hQ
    have w96 : vp_in (nI (24 * s + i)) 96 := vp_in_nI (by omega) (by decide)
    by_cases hin : i < n
    · rw [if_neg (nI_ge hin (by omega))]
      simp only [(ix_sh s i).1, w96, true_and, nI_clamp (show 24 * s + i < 2 ^ 31 by omega), wC_ne (show 7 ≠ 1 by decide), ec i (by omega), sp_isPlace7]
      by_cases d : rg (cv i) 10
      · rw [if_pos ⟨hin, d⟩] at hQ
        simp only [if_pos d, if_neg (by decide : ¬ (1 : Int32) = 0), sp_lets3 (show i < 8 by omega)]
        refine ⟨_, rfl, ?_⟩
        rw [nI_1]
        have := ih (i + 1) (by omega) hQ
        simp only [wC] at this
        exact this
      · rw [if_neg (fun q => d q.2)] at hQ
        simp only [if_neg d, if_true]
        exact hQ
    · rw [if_neg (fun q => hin q.1)] at hQ
      rw [if_pos (nI_le (by omega) (by omega))]
      exact hQ
theorem laG_all (cv : Nat → Int32) (n : Nat) : ∀ g i, (∀ k, k < i → k < n ∧ rg (cv k) 10) → ∀ k, k < laG cv n g i → k < n ∧ rg (cv k) 10 := by
  intro g
  induction g with
  | zero => intro i h k hk; exact h k hk
  | succ g ih =>
    intro i h k hk
    unfold laG at hk
    by_cases c : i < n ∧ rg (cv i) 10
    · rw [if_pos c] at hk
      refine ih (i + 1) (fun k hk => ?_) k hk
      by_cases e : k = i
      · subst e; exact c
      · exact h k (by omega)
    · rw [if_neg c] at hk; exact h k hk
theorem rl_wC {cv : Nat → Int32} {μ ν : vM} (h : Rl μ ν) : ∀ k, (∀ i, i < k → i < 8 ∧ rg (cv i) 10) → Rl (wC 9 0 1 cv k μ) (wC 1 22 5 cv k ν)
  | 0, _ => h
  | k + 1, hk => by
    have r := rl_slot (o := 3) (b := k) (v := cv k) (by decide) (hk k (by omega)).1 (by obtain ⟨i, hi, e⟩ := rg_of (hk k (by omega)).2; exact ⟨i, hi, e⟩) (rl_wC h k (fun i hi => hk i (by omega)))
    simp only [wC, Nat.zero_add, Nat.one_mul]
    exact r
theorem sm_lays_ok : sm_lays Rl := by
  intro a μ ν h
  obtain ⟨n, hn, e1, e2⟩ := rl_size h
  unfold wp_X6_lays wp_X7_lays
  simp only [sp_isSheet6, sp_notThere, e6_1, e6_2]
  have hs5 := h.2.2.2.2.1
  by_cases c : rg a 4
  · obtain ⟨s, hs, rfl⟩ := rg_of c
    have w : vp_in (nI s) 4 := vp_in_nI hs (by decide)
    obtain ⟨t1, t2, t3, ⟨z, hz, t4⟩⟩ := hs5.1 s hs
    simp only [if_pos c, if_neg (by decide : ¬ (1 : Int32) = 0), wp_X4_isMissing, w, true_and, nI_clamp (show s < 2 ^ 31 by omega), Nat.reduceAdd, t1]
    by_cases d : ν 5 s = 0
    · simp only [if_pos d, if_neg (by decide : ¬ (1 : Int32) = 0), if_neg (by decide : ¬ (-1000000002 : Int32) = 0), e7_2, true_and]
      exact rl_err (by decide) h
    · simp only [if_neg d, if_true]
      refine ⟨z + 1, la_C (cv := fun i => ν 7 (24 * s + i)) hs hz hn e1 (t2.trans t4) (fun i hi => hs5.2 _ (by omega)) z 0 (by omega) ?_⟩
      refine ⟨z + 1, la_R (cv := fun i => ν 7 (24 * s + i)) hs hz hn e2 t4 (fun i hi => rfl) z 0 (by omega) ⟨rfl, ?_⟩⟩
      exact rl_wC h _ (fun i hi => by
        have := laG_all (fun i => ν 7 (24 * s + i)) n z 0 (fun k hk => absurd hk (by omega)) i hi
        exact ⟨by omega, this.2⟩)
  · simp only [if_neg c, if_true, if_neg (by decide : ¬ (-1000000001 : Int32) = 0), e7_1, true_and]
    exact rl_err (by decide) h
