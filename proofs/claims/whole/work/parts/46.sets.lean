/-! sets and how many are in them -/
def pcN : Nat → Nat → Nat
  | 0, _ => 0
  | g + 1, s => s % 2 + pcN g (s / 2)
def pc (s : Nat) : Nat := pcN 8 s
def bcF (x : Int32) : Int32 :=
  let x1 := x - (((x.toUInt32 >>> ((1 : Int32).toUInt32 &&& Int32.toUInt32 31)).toInt32) &&& (1431655765 : Int32))
  let x2 := (x1 &&& (858993459 : Int32)) + (((x1.toUInt32 >>> ((2 : Int32).toUInt32 &&& Int32.toUInt32 31)).toInt32) &&& (858993459 : Int32))
  let x3 := (x2 + ((x2.toUInt32 >>> ((4 : Int32).toUInt32 &&& Int32.toUInt32 31)).toInt32)) &&& (252645135 : Int32)
  let x4 := x3 + ((x3.toUInt32 >>> ((8 : Int32).toUInt32 &&& Int32.toUInt32 31)).toInt32)
  let x5 := x4 + ((x4.toUInt32 >>> ((16 : Int32).toUInt32 &&& Int32.toUInt32 31)).toInt32)
  x5 &&& (63 : Int32)
theorem bc_pc : ∀ s, s < 256 → bcF (nI s) = nI (pc s) := by decide +kernel
theorem pc_8 : ∀ s, s < 256 → pc s ≤ 8 := by decide +kernel
theorem pc_st : ∀ s, s < 256 → s ≠ 0 → (nI s &&& (nI s - 1)) = nI (s &&& (s - 1)) ∧ (s &&& (s - 1)) < 256 ∧ pc (s &&& (s - 1)) + 1 = pc s := by decide +kernel
theorem pc_0 : ∀ s, s < 256 → pc s = 0 → s = 0 := by decide +kernel
theorem sp_bitC {s : Nat} (hs : s < 256) {Q : Int32 → vM → Prop} {μ : vM} (h : Q (nI (pc s)) μ) : wp_J6_bitCount_0f7a4 (nI s) Q μ := by
  rw [← bc_pc s hs] at h
  unfold wp_J6_bitCount_0f7a4
  exact ⟨_, rfl, _, rfl, _, rfl, _, rfl, _, rfl, h⟩
theorem sp_bitR {s : Nat} (hs : s < 256) {Q : Int32 → vM → Prop} {μ : vM} (h : Q (nI (pc s)) μ) : wp_X7_bits (nI s) Q μ := by
  have lp : ∀ g s c a0, s < 256 → pc s = g → Q (nI (c + g)) μ → wp_X7_bits_4 a0 Q (g + 1) (nI c) (nI s) μ := by
    intro g
    induction g with
    | zero =>
      intro s c a0 hs e h
      have := pc_0 s hs e
      subst this
      unfold wp_X7_bits_4
      rw [if_pos (by decide)]; exact h
    | succ g ih =>
      intro s c a0 hs e h
      have s0 : s ≠ 0 := fun z => by subst z; exact absurd e (by rw [show pc 0 = 0 by decide]; omega)
      obtain ⟨p1, p2, p3⟩ := pc_st s hs s0
      unfold wp_X7_bits_4
      rw [if_neg (show ¬ nI s = (0 : Int32) from fun z => s0 ((nI_eq (b := 0) (by omega) (by decide)).mp z)), p1, nI_1]
      exact ⟨_, rfl, _, rfl, ih _ (c + 1) a0 p2 (by omega) (by rw [show c + 1 + g = c + (g + 1) by omega]; exact h)⟩
  exact ⟨pc s + 1, lp (pc s) s 0 _ hs rfl (by rw [Nat.zero_add]; exact h)⟩
theorem nx_or (a b : Nat) : nI a ||| nI b = nI (a ||| b) := by
  apply Int32.toBitVec_inj.1
  show BitVec.ofNat 32 a ||| BitVec.ofNat 32 b = BitVec.ofNat 32 (a ||| b)
  apply BitVec.eq_of_getLsbD_eq
  intro i hi
  simp [hi]
theorem one_sh : ∀ k, k < 8 → (1 : Int32) <<< (nI k &&& 31) = nI (2 ^ k) := by decide +kernel
theorem hmS_n (ρ : Nat → Int32) : ∀ k, k ≤ 8 → ∃ s, s < 2 ^ k ∧ hmS ρ k = nI s
  | 0, _ => ⟨0, by decide, rfl⟩
  | k + 1, h => by
    obtain ⟨s, hs, e⟩ := hmS_n ρ k (by omega)
    have hp : 2 ^ (k + 1) = 2 * 2 ^ k := by rw [Nat.pow_succ, Nat.mul_comm]
    simp only [hmS]
    by_cases c : atH ρ k
    · rw [if_pos c, e, one_sh k (by omega), nx_or]
      refine ⟨_, Nat.or_lt_two_pow (by omega) (by omega), rfl⟩
    · rw [if_neg c, e]; exact ⟨s, by omega, rfl⟩
theorem hmS_8 {ρ : Nat → Int32} {n : Nat} (hn : n < 9) : ∃ s, s < 256 ∧ hmS ρ n = nI s := by
  obtain ⟨s, hs, e⟩ := hmS_n ρ n (by omega)
  exact ⟨s, Nat.lt_of_lt_of_le hs (Nat.pow_le_pow_right (by decide) (by omega : n ≤ 8)), e⟩
-- odds
def gdF (a b : Int32) : Nat → Int32
  | 0 => 1
  | k + 1 => if nI (k + 1) ≤ 1 then 1 else if a % nI (k + 1) = 0 ∧ b % nI (k + 1) = 0 then nI (k + 1) else gdF a b k
def odF : Nat → Int32 → Int32 → Int32 × Int32
  | 0, a, b => (a, b)
  | k + 1, a, b => if nI (k + 1) ≤ 1 then (a, b) else if a % nI (k + 1) = 0 ∧ b % nI (k + 1) = 0 then odF k (a / nI (k + 1)) (b / nI (k + 1)) else odF k a b
theorem gd_od : ∀ a, a < 9 → ∀ b, b < 9 → b ≠ 0 → ¬ gdF (nI a) (nI b) (max a b) = 0 ∧ odF b (nI a) (nI b) = (nI a / gdF (nI a) (nI b) (max a b), nI b / gdF (nI a) (nI b) (max a b)) := by decide +kernel
theorem sp_gdC {a b : Int32} {Q : Int32 → vM → Prop} {μ : vM} : ∀ k, k < 100 → Q (gdF a b k) μ → wp_X6_greatestDivisor_6 a b Q (k + 1) (nI k) μ
  | 0, _, h => by
    unfold wp_X6_greatestDivisor_6
    rw [if_pos (by decide)]; exact h
  | k + 1, hk, h => by
    have ih := sp_gdC (a := a) (b := b) (Q := Q) (μ := μ) k (by omega)
    simp only [gdF] at h
    unfold wp_X6_greatestDivisor_6 wp_X6_greatestDivisor_25
    have e : nI (k + 1) + -1 = nI k := by
      have := nI_pred k
      rw [Int32.sub_eq_add_neg] at this; exact this
    have n0 : ¬ nI (k + 1) = 0 := nI_ne0 (by omega) (by omega)
    by_cases c : nI (k + 1) ≤ 1
    · rw [if_pos c] at h ⊢; exact h
    · rw [if_neg c] at h ⊢
      refine ⟨n0, ?_⟩
      by_cases c1 : a % nI (k + 1) = 0
      · rw [if_pos c1]
        refine ⟨n0, ?_⟩
        by_cases c2 : b % nI (k + 1) = 0
        · rw [if_pos ⟨c1, c2⟩] at h; rw [if_pos c2]; exact h
        · rw [if_neg (fun z => c2 z.2)] at h; rw [if_neg c2]; exact ⟨_, e.symm, ih h⟩
      · rw [if_neg (fun z => c1 z.1)] at h; rw [if_neg c1]; exact ⟨_, e.symm, ih h⟩
def pk (c : Int32) (p : Int32 × Int32) : Int32 := if c = 0 then p.1 else p.2
theorem sp_odR {a1 a2 : Int32} {Q : Int32 → vM → Prop} {μ : vM} : ∀ k a b, k < 100 → Q (pk a2 (odF k a b)) μ → wp_X7_odds_69 a1 a2 Q (k + 1) b a (nI k) μ
  | 0, a, b, _, h => by
    unfold wp_X7_odds_69
    rw [if_pos (by decide)]
    simp only [odF, pk] at h
    by_cases c : a2 = 0
    · rw [if_pos c] at h ⊢; exact h
    · rw [if_neg c] at h ⊢; exact h
  | k + 1, a, b, hk, h => by
    have ih := fun a b => sp_odR (a1 := a1) (a2 := a2) (Q := Q) (μ := μ) k a b (by omega)
    simp only [odF] at h
    unfold wp_X7_odds_69 wp_X7_odds_102
    have e : nI (k + 1) + -1 = nI k := by
      have := nI_pred k
      rw [Int32.sub_eq_add_neg] at this; exact this
    have n0 : ¬ nI (k + 1) = 0 := nI_ne0 (by omega) (by omega)
    by_cases c : nI (k + 1) ≤ 1
    · rw [if_pos c] at h ⊢
      simp only [pk] at h
      by_cases c' : a2 = 0
      · rw [if_pos c'] at h ⊢; exact h
      · rw [if_neg c'] at h ⊢; exact h
    · rw [if_neg c] at h ⊢
      refine ⟨n0, ?_⟩
      by_cases c1 : a % nI (k + 1) = 0
      · rw [if_pos c1]
        refine ⟨n0, ?_⟩
        by_cases c2 : b % nI (k + 1) = 0
        · rw [if_pos ⟨c1, c2⟩] at h; rw [if_pos c2]; exact ⟨n0, _, rfl, n0, _, rfl, _, e.symm, ih _ _ h⟩
        · rw [if_neg (fun z => c2 z.2)] at h; rw [if_neg c2]; exact ⟨_, e.symm, ih _ _ h⟩
      · rw [if_neg (fun z => c1 z.1)] at h; rw [if_neg c1]; exact ⟨_, e.symm, ih _ _ h⟩
theorem sp_hi2 {a b : Int32} {n m : Nat} (hn : n + 1 < 2 ^ 31) (hm : m + 1 < 2 ^ 31) {k l : Int32} (hk : k = nI n) (hl : l = nI m) {A B : Prop} : (if a < 0 then A else if k < a then A else if b < 0 then A else if b ≤ l then B else A) = if rg a (n + 1) then (if rg b (m + 1) then B else A) else A := by
  rw [sp_hi (a := b) hm hl]
  have : (if k < a then A else if rg b (m + 1) then B else A) = (if a ≤ k then (if rg b (m + 1) then B else A) else A) := by
    by_cases c : k < a
    · rw [if_pos c, if_neg (fun z => by have := Int32.lt_iff_toInt_lt.mp c; have := Int32.le_iff_toInt_le.mp z; omega)]
    · rw [if_neg c, if_pos (Int32.le_iff_toInt_le.mpr (by have : ¬ k.toInt < a.toInt := fun z => c (Int32.lt_iff_toInt_lt.mpr z); omega))]
  rw [this, sp_hi hn hk]
theorem sm_odds_ok : sm_odds Rl := by
  intro x a μ ν h
  have r1 := rl_err (k := 1) (by decide) h
  have r3 := rl_err (k := 3) (by decide) h
  obtain ⟨n, hn, e1, e2⟩ := rl_size h
  have o := inv_ok h.2.1
  unfold wp_X6_odds wp_X7_odds
  simp only [e6_1, e7_1, e6_3, e7_3, in7_60, in7_1, sp_hi2 (n := 60) (m := 1) (k := 60) (l := 1) (by decide) (by decide) rfl rfl, exists_eq_left]
  by_cases c1 : rg x 61
  · obtain ⟨k, hk, rfl⟩ := rg_of c1
    simp only [if_pos c1, if_neg (by decide : ¬ (1 : Int32) = 0)]
    by_cases c2 : rg a 2
    · simp only [if_pos c2, if_neg (by decide : ¬ (1 : Int32) = 0), t2_, v2_, true_and, e1, e2]
      by_cases c3 : nI n = 0
      · simp only [if_pos c3, true_and]; exact r3
      · simp only [if_neg c3]
        have n0 : n ≠ 0 := fun z => c3 (by rw [z]; rfl)
        have ei : it k (ν 1) 2 = nI n := by rw [it_sm k o 2 (by omega)]; exact e2
        obtain ⟨s, hs, es⟩ := hmS_8 (ρ := it k (ν 1)) hn
        have p8 := pc_8 s hs
        refine sp_thinkC h (by omega) fun μ' sc' t => ?_
        refine sp_homeC (it_ok k o) t.2.1 hn ei ?_
        rw [es]
        refine sp_bitC hs ?_
        obtain ⟨g0, gd⟩ := gd_od (pc s) (by omega) n hn n0
        unfold wp_X6_greatestDivisor
        have mx : (if nI (pc s) < nI n then nI n else nI (pc s)) = nI (max (pc s) n) := by
          by_cases c : pc s < n
          · rw [if_pos (nI_lt c (by omega)), Nat.max_eq_right (by omega)]
          · rw [if_neg (nI_nlt (by omega) (by omega)), Nat.max_eq_left (by omega)]
        rw [mx]
        refine ⟨_, rfl, max (pc s) n + 1, sp_gdC _ (by omega) ?_⟩
        have R : ∀ r, r = pk a (odF n (nI (pc s)) (nI n)) → wp_X7_thinks (fun μ45 => wp_X7_goesFor (nI k) (fun μ50 => wp_X7_homes (fun r54 μ54 => wp_X7_bits r54 (fun r57 μ57 => wp_X7_putsBack (fun μ63 => ∃ n69, wp_X7_odds_69 (nI k) a (fun r2 μ2 => r = r2 ∧ Rl μ' μ2) n69 (nI n) r57 (nI n) μ63) μ57) μ54) μ50) μ45) ν := by
          intro r hr
          refine th_start h.2.2.1 fun m m1 m2 => ?_
          refine sp_gofor ⟨by rw [m2]; exact o, m1.2.2.1⟩ (by omega) fun m' b1 b2 => ?_
          rw [m2] at b1
          refine sp_homeR (by rw [b1]; exact it_ok k o) hn (by rw [b1]; exact ei) ?_
          rw [b1, es]
          refine sp_bitR hs ?_
          refine th_back (th_gs m1 b2) (fun i h1 h2 => by rw [b1]; exact it_sm k o i (by omega)) (fun i hi => by rw [b1]; exact it_sm k o i (by omega)) fun m3 c1 c2 => ?_
          exact ⟨n + 1, sp_odR n _ _ (by omega) ⟨hr, rl_bk h sc' c1 c2⟩⟩
        by_cases c4 : a = 0
        · rw [if_pos c4]
          exact ⟨g0, R _ (by unfold pk; rw [if_pos c4, gd])⟩
        · rw [if_neg c4]
          exact ⟨g0, R _ (by unfold pk; rw [if_neg c4, gd])⟩
    · simp only [if_neg c2, if_true, true_and]; exact r1
  · simp only [if_neg c1, if_true, true_and]; exact r1
-- soonest
theorem sm_soonest_ok : sm_soonest Rl := by
  intro x μ ν h
  have r1 := rl_err (k := 1) (by decide) h
  obtain ⟨n, hn, e1, e2⟩ := rl_size h
  have o := inv_ok h.2.1
  unfold wp_X6_soonest wp_X7_soonest
  simp only [sp_isBit6 hn e1, sp_isBit7 hn e2, e6_1, e7_1]
  by_cases c1 : rg x n
  · obtain ⟨b, hb, rfl⟩ := rg_of c1
    have hb8 : b < 8 := by omega
    simp only [if_pos c1, if_neg (by decide : ¬ (1 : Int32) = 0)]
    obtain ⟨K, k1, k2⟩ := lst (fun k => k = 61 ∨ atH (it k (ν 1)) b) ⟨61, Or.inl rfl⟩
    have K61 : K ≤ 61 := Nat.le_of_not_lt fun z => k2 61 z (Or.inl rfl)
    have kn : ∀ i, i < K → ¬ atH (it i (ν 1)) b := fun i hi z => k2 i hi (Or.inr z)
    refine sp_copy0 (by omega) fun m a1 a2 => ?_
    have t := rl_Tc h
    have tm : Tc 39 2 m (ν 1) := ⟨t.1, a1 _ t.2.1, rd_cg t.2.2.1 (a2 _ (by omega)) (a2 _ (by omega)) (fun _ _ _ => rfl), lw_cg t.2.2.2.1 (by rw [a2 _ (by omega)]) (a2 _ (by omega)) (fun _ _ _ => rfl), lw_cg t.2.2.2.2.1 (by rw [a2 _ (by omega)]) (a2 _ (by omega)) (fun _ _ _ => rfl), by have := t.2.2.2.2.2; unfold nms at this ⊢; rw [a2 12 (by omega), a2 15 (by omega)]; exact this⟩
    have sm : sc μ m := fun i h1 h2 h3 => a2 i (by omega)
    -- the reference's end
    have R : ∀ μ', sc μ μ' → ∀ r (μe : vM), (r = if K = 61 then (-1000000002 : Int32) else nI K) → (μe = if K = 61 then st μ' 57 2 (μ' 57 2 + 1) else μ') → wp_X7_thinks (fun μ16 => ∃ n21, wp_X7_soonest_21 (nI b) (fun r2 μ2 => r = r2 ∧ Rl μe μ2) n21 (0 : Int32) μ16) ν := by
      intro μ' s r μe hr hμ
      refine th_start h.2.2.1 fun w m1 m2 => ⟨K + 1, ?_⟩
      have fin : ∀ w, TH ν w → w 1 = it K (ν 1) → wp_X7_soonest_45 (nI b) (fun r2 μ2 => r = r2 ∧ Rl μe μ2) (nI K) w := by
        intro w t1 t2
        unfold wp_X7_soonest_45
        refine th_back t1 (fun i h1 h2 => by rw [t2]; exact it_sm K o i (by omega)) (fun i hi => by rw [t2]; exact it_sm K o i (by omega)) fun m3 c1 c2 => ?_
        have B := rl_bk h s c1 c2
        by_cases c : K = 61
        · rw [if_neg (show ¬ nI K ≤ (60 : Int32) from nI_ge (a := 60) (by omega) (by omega)), e7_2]
          rw [if_pos c] at hr hμ
          rw [hr, hμ]
          exact ⟨rfl, rl_err (by decide) B⟩
        · rw [if_pos (show nI K ≤ (60 : Int32) from nI_le (b := 60) (by omega) (by decide))]
          rw [if_neg c] at hr hμ
          rw [hr, hμ]
          exact ⟨rfl, B⟩
      have lp : ∀ g i w, i + g = K → TH ν w → w 1 = it i (ν 1) → wp_X7_soonest_21 (nI b) (fun r2 μ2 => r = r2 ∧ Rl μe μ2) (g + 1) (nI i) w := by
        intro g
        induction g with
        | zero =>
          intro i w hi t1 t2
          have : i = K := by omega
          subst this
          unfold wp_X7_soonest_21
          by_cases c : i = 61
          · rw [if_pos (show (60 : Int32) < nI i from nI_lt (a := 60) (by omega) (by omega))]
            exact fin w t1 t2
          · rw [if_neg (show ¬ (60 : Int32) < nI i from nI_nlt (a := 60) (by omega) (by decide)), sp_isHR (by rw [t2]; exact it_ok i o) hb8, t2, if_pos (k1.resolve_left c), if_neg (by decide)]
            exact fin w t1 t2
        | succ g ih =>
          intro i w hi t1 t2
          unfold wp_X7_soonest_21
          rw [if_neg (show ¬ (60 : Int32) < nI i from nI_nlt (a := 60) (by omega) (by decide)), sp_isHR (by rw [t2]; exact it_ok i o) hb8, t2, if_neg (kn i (by omega)), if_pos rfl]
          refine sp_goes ⟨by rw [t2]; exact it_ok i o, t1.2.2.1⟩ fun w' d1 d2 => ⟨_, rfl, ?_⟩
          rw [nI_1]
          exact ih (i + 1) w' (by omega) (th_gs t1 d2) (by rw [d1, t2, it_succ])
      exact lp K 0 w (by omega) m1 m2
    have lp : ∀ g i m, i + g = K → Tc 39 2 m (it i (ν 1)) → sc μ m → wp_X6_soonest_30 (nI b) (fun r μ1 => wp_X7_thinks (fun μ16 => ∃ n21, wp_X7_soonest_21 (nI b) (fun r2 μ2 => r = r2 ∧ Rl μ1 μ2) n21 (0 : Int32) μ16) ν) (g + 1) (nI i) m := by
      intro g
      induction g with
      | zero =>
        intro i m hi tm sm
        have : i = K := by omega
        subst this
        unfold wp_X6_soonest_30
        by_cases c : i = 61
        · rw [if_pos (show (60 : Int32) < nI i from nI_lt (a := 60) (by omega) (by omega)), e6_2]
          exact R m sm _ _ (by rw [if_pos c]) (by rw [if_pos c])
        · rw [if_neg (show ¬ (60 : Int32) < nI i from nI_nlt (a := 60) (by omega) (by decide)), sp_isHC tm.1 tm.2.1 hb8, if_pos (k1.resolve_left c), if_neg (by decide)]
          exact R m sm _ _ (by rw [if_neg c]) (by rw [if_neg c])
      | succ g ih =>
        intro i m hi tm sm
        unfold wp_X6_soonest_30
        rw [if_neg (show ¬ (60 : Int32) < nI i from nI_nlt (a := 60) (by omega) (by decide)), sp_isHC tm.1 tm.2.1 hb8, if_neg (kn i (by omega)), if_pos rfl]
        refine sp_dayC ⟨Or.inr rfl, Or.inl rfl⟩ tm hn (by rw [it_sm i o 2 (by omega)]; exact e2) fun y m' y1 y2 d1 d2 => ⟨_, rfl, ?_⟩
        rw [nI_1]
        refine ih (i + 1) m' (by omega) (Tc_sm tm (by rw [it_succ]; exact ok_go tm.1) (by rw [it_succ]; exact d1) (by rw [it_succ]; exact sm0_go tm.1) ⟨d2 _ (by omega) (by omega) (by omega) (by omega), d2 _ (by omega) (by omega) (by omega) (by omega)⟩ ⟨d2 _ (by omega) (by omega) (by omega) (by omega), d2 _ (by omega) (by omega) (by omega) (by omega), d2 _ (by omega) (by omega) (by omega) (by omega), d2 _ (by omega) (by omega) (by omega) (by omega)⟩) (sc_tr sm (fun j h1 h2 h3 => d2 j (by omega) (by omega) (by omega) h1))
    exact ⟨K + 1, lp K 0 m (by omega) tm sm⟩
  · simp only [if_neg c1, if_true, true_and]; exact r1
