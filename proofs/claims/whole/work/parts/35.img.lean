/-! images, untell, lays, sheet -/
theorem cpy0 {f g : Nat → Int32} {n k : Nat} (h : k < n) : va_cpy f g (0 : Int32).toNatClampNeg (0 : Int32).toNatClampNeg n k = f k := by
  unfold va_cpy; rw [t0_, if_pos (by omega)]; congr 1; omega
theorem c8_ : (8 : Int32).toNatClampNeg = 8 := by decide
theorem c10_ : (10 : Int32).toNatClampNeg = 10 := by decide
theorem c24_ : (24 : Int32).toNatClampNeg = 24 := by decide
theorem c60_ : (60 : Int32).toNatClampNeg = 60 := by decide
theorem c100_ : (100 : Int32).toNatClampNeg = 100 := by decide
theorem c4_ : (4 : Int32).toNatClampNeg = 4 := by decide
theorem cpz {f g : Nat → Int32} {n k : Nat} (h : k < n) : va_cpy f g 0 0 n k = f k := by
  unfold va_cpy; rw [if_pos (by omega)]; congr 1; omega
/-- a harvest's copy -/
theorem sp_copy0 {j p : Nat} (hd : p + 7 ≤ j ∨ j + 7 ≤ p) {Q : vM → Prop} {μ : vM} (h : ∀ μ' : vM, (∀ ρ, hv p μ ρ → hv j μ' ρ) → (∀ i, i < j ∨ j + 7 ≤ i → μ' i = μ i) → Q μ') : wp_X0_copy j p Q μ := by
  unfold wp_X0_copy
  simp only [exists_eq_left, t0_, c8_, c4_, Nat.zero_add, Nat.le_refl, (by decide : ¬ (0 : Int32) < 0), (by decide : ¬ (8 : Int32) < 0), (by decide : ¬ (4 : Int32) < 0), not_false_eq_true, true_and]
  apply h
  · intro ρ a
    refine hv_of ?_ ?_ ?_ ?_
    · simp (disch := omega) only [sa_ne, st_ne, st_eq, upd_eq, upd_ne]; exact a.1
    · simp (disch := omega) only [sa_ne, st_ne, st_eq, upd_eq, upd_ne]; exact a.2.1
    · intro b hb i hi
      rw [← hv_to a hb hi]
      rcases (show i = 0 ∨ i = 1 ∨ i = 2 ∨ i = 3 ∨ i = 4 by omega) with rfl | rfl | rfl | rfl | rfl <;>
        simp (disch := omega) only [Nat.reduceAdd, sa_ne, sa_eq, st_ne, cpz]
    · intro f hf
      rw [← a.2.2.2 f hf]
      simp (disch := omega) only [sa_eq, sa_ne, st_ne, cpz]
  · intro i hi
    simp (disch := omega) only [sa_ne, st_ne]
theorem sp_copy3 {j p : Nat} (hd : p + 3 ≤ j ∨ j + 3 ≤ p) {Q : vM → Prop} {μ : vM} (h : ∀ μ' : vM, (∀ ρ, rd p μ ρ → rd j μ' ρ) → (∀ i, i ≠ j + 1 → i ≠ j + 2 → μ' i = μ i) → Q μ') : wp_X3_copy j p Q μ := by
  unfold wp_X3_copy
  simp only [exists_eq_left, t0_, c10_, c100_, Nat.zero_add, Nat.le_refl, (by decide : ¬ (0 : Int32) < 0), (by decide : ¬ (10 : Int32) < 0), (by decide : ¬ (100 : Int32) < 0), not_false_eq_true, true_and]
  apply h
  · intro ρ a
    refine ⟨fun q hq => ?_, fun q hq r hr => ?_⟩
    · simp (disch := omega) only [sa_eq, sa_ne, cpz]; exact a.1 q hq
    · simp (disch := omega) only [sa_eq, sa_ne, cpz]; exact a.2 q hq r hr
  · intro i h1 h2
    simp (disch := omega) only [sa_ne]
theorem sp_take {j c : Nat} (hc : c ≠ j ∧ c ≠ j + 1) {Q : vM → Prop} {μ : vM} {n : Nat} (hn : n ≤ 60) {a : Int32} (ha : a = nI n) (h : ∀ μ' : vM, μ' j 4 = nI n → (∀ k, k < n → μ' (j + 1) k = μ c k) → (∀ k, k ≠ 4 → μ' j k = μ j k) → (∀ i, i ≠ j → i ≠ j + 1 → μ' i = μ i) → Q μ') : wp_X1_take j c 60 a Q μ := by
  subst ha
  unfold wp_X1_take
  simp only [exists_eq_left, t0_, nI_clamp (show n < 2 ^ 31 by omega), Nat.zero_add, (by decide : ¬ (0 : Int32) < 0), nI_pos (show n < 2 ^ 31 by omega), not_false_eq_true, true_and, hn]
  apply h
  · rw [st_eq, upd_eq]
  · intro k hk; simp (disch := omega) only [st_ne, sa_eq, cpz]
  · intro k hk; simp (disch := omega) only [st_eq, upd_ne, sa_ne]
  · intro i h1 h2; simp (disch := omega) only [st_ne, sa_ne]
theorem lw_len {g at_ : Nat} {μ : vM} {ρ : Nat → Int32} (a : lw g μ ρ at_) (b : wf ρ at_) : ∃ n, n ≤ 60 ∧ μ g 4 = nI n ∧ ρ at_ = nI n := by
  obtain ⟨n, h1, h2, -⟩ := b
  exact ⟨n, h1, a.1.trans h2, h2⟩
theorem lw_cp {g g' at_ n : Nat} {μ μ' : vM} {ρ : Nat → Int32} (a : lw g μ ρ at_) (hn : n ≤ 60) (e : ρ at_ = nI n) (h4 : μ' g' 4 = nI n) (hk : ∀ k, k < n → μ' (g' + 1) k = μ (g + 1) k) : lw g' μ' ρ at_ := by
  refine ⟨h4.trans e.symm, fun k k60 hlt => ?_⟩
  have kn : k < n := by rw [e] at hlt; exact (nI_ltI (by omega) (by omega)).mp hlt
  rw [hk k kn]; exact a.2 k k60 hlt
/-- a world's copy -/
theorem sp_copy5 {j p : Nat} (hd : p + 19 ≤ j ∨ j + 19 ≤ p) {Q : vM → Prop} {μ : vM} {ρ : Nat → Int32} (a : wld p μ ρ) (b : wf ρ 143 ∧ wf ρ 264) (h : ∀ μ' : vM, wld j μ' ρ → (∀ i, i < j ∨ j + 19 ≤ i → μ' i = μ i) → (∀ k, k ≠ 4 → μ' (j + 11) k = μ (j + 11) k) → (∀ k, k ≠ 4 → μ' (j + 14) k = μ (j + 14) k) → Q μ') : wp_X5_copy j p Q μ := by
  obtain ⟨a1, a2, a3, a4, a5, a6, a7⟩ := a
  obtain ⟨n1, hn1, e1, f1⟩ := lw_len a3 b.1
  obtain ⟨n2, hn2, e2, f2⟩ := lw_len a4 b.2
  unfold wp_X5_copy
  refine sp_copy3 (by omega) fun m1 r1 s1 => ?_
  refine sp_copy0 (by omega) fun m2 r2 s2 => ?_
  have q1 : ∀ i, i = p ∨ (p ≤ i ∧ i < p + 19) → m2 i = μ i := fun i hi => by rw [s2 i (by omega), s1 i (by omega) (by omega)]
  refine sp_take (n := n1) (by omega) hn1 (by rw [q1 _ (by omega)]; exact e1) fun m3 t1 t2 t3 t4 => ?_
  have q2 : ∀ i, (p ≤ i ∧ i < p + 19) → m3 i = μ i := fun i hi => by rw [t4 i (by omega) (by omega), q1 i (by omega)]
  refine sp_take (n := n2) (by omega) hn2 (by rw [q2 _ (by omega)]; exact e2) fun m4 u1 u2 u3 u4 => ?_
  have q3 : ∀ i, (p ≤ i ∧ i < p + 19) → m4 i = μ i := fun i hi => by rw [u4 i (by omega) (by omega), q2 i (by omega)]
  simp only [exists_eq_left, t0_, c60_, c24_, Nat.zero_add, Nat.le_refl, (by decide : ¬ (0 : Int32) < 0), (by decide : ¬ (60 : Int32) < 0), (by decide : ¬ (24 : Int32) < 0), not_false_eq_true, true_and]
  apply h
  · refine ⟨?_, ?_, ?_, ?_, ⟨?_, fun i hi => ?_⟩, ⟨?_, fun i hi => ?_⟩, ?_⟩
    · refine hv_cg (r2 ρ (hv_cg a1 (fun i hi => s1 _ (by omega) (by omega)) ⟨rfl, rfl, fun _ _ _ => rfl, fun _ _ _ => rfl⟩)) (fun i hi => ?_) ⟨rfl, rfl, fun _ _ _ => rfl, fun _ _ _ => rfl⟩
      simp (disch := omega) only [sa_ne, st_ne]
      rw [u4 _ (by omega) (by omega), t4 _ (by omega) (by omega)]
    · refine rd_cg (r1 ρ a2) ?_ ?_ (fun _ _ _ => rfl)
      · simp (disch := omega) only [sa_ne, st_ne]
        rw [u4 _ (by omega) (by omega), t4 _ (by omega) (by omega), s2 _ (by omega)]
      · simp (disch := omega) only [sa_ne, st_ne]
        rw [u4 _ (by omega) (by omega), t4 _ (by omega) (by omega), s2 _ (by omega)]
    · refine lw_cp a3 hn1 f1 ?_ fun k hk => ?_
      · simp (disch := omega) only [sa_ne, st_ne]; rw [u4 _ (by omega) (by omega)]; exact t1
      · simp (disch := omega) only [sa_ne, st_ne]; rw [u4 _ (by omega) (by omega), t2 k hk, q1 _ (by omega)]
    · refine lw_cp a4 hn2 f2 ?_ fun k hk => ?_
      · simp (disch := omega) only [sa_ne, st_ne]; exact u1
      · simp (disch := omega) only [sa_ne, st_ne]; rw [u2 k hk, q2 _ (by omega)]
    · simp (disch := omega) only [sa_ne, st_ne, st_eq, upd_ne, upd_eq]; rw [q3 _ (by omega)]; exact a5.1
    · simp (disch := omega) only [sa_ne, st_ne, sa_eq, cpz]; rw [q3 _ (by omega)]; exact a5.2 i hi
    · simp (disch := omega) only [sa_ne, st_ne, st_eq, upd_ne, upd_eq]; rw [q3 _ (by omega)]; exact a6.1
    · simp (disch := omega) only [sa_ne, st_ne, sa_eq, cpz]; rw [q3 _ (by omega)]; exact a6.2 i hi
    · simp (disch := omega) only [sa_ne, st_ne, st_eq, upd_ne, upd_eq]; rw [q3 _ (by omega)]; exact a7
  · intro i hi
    simp (disch := omega) only [sa_ne, st_ne]
    rw [u4 i (by omega) (by omega), t4 i (by omega) (by omega), s2 i (by omega), s1 i (by omega) (by omega)]
  · intro k hk
    simp (disch := omega) only [sa_ne, st_ne]
    rw [u4 _ (by omega) (by omega), t3 k hk, s2 _ (by omega), s1 _ (by omega) (by omega)]
  · intro k hk
    simp (disch := omega) only [sa_ne, st_ne]
    rw [u3 k hk, t4 _ (by omega) (by omega), s2 _ (by omega), s1 _ (by omega) (by omega)]
theorem sp_copyAll {p q : Nat} (hpq : p ≠ q) {Q : vM → Prop} {μ : vM} (h : ∀ μ' : vM, (∀ k, k < 385 → μ' q k = μ p k) → (∀ i, i ≠ q → μ' i = μ i) → Q μ') : wp_X7_copyAll p 385 q 385 Q μ := by
  have key : ∀ (g i : Nat) (m : vM), i + g = 385 → (∀ k, k < i → m q k = μ p k) → (∀ i, i ≠ q → m i = μ i) → wp_X7_copyAll_2 p 385 q 385 Q (g + 1) (nI i) m := by
    intro g
    induction g with
    | zero =>
      intro i m hi h1 h2
      unfold wp_X7_copyAll_2
      rw [if_pos (show (385 : Int32) ≤ nI i from nI_le (a := 385) (by omega) (by omega))]
      exact h m (fun k hk => h1 k (by omega)) h2
    | succ g ih =>
      intro i m hi h1 h2
      unfold wp_X7_copyAll_2
      rw [if_neg (show ¬ (385 : Int32) ≤ nI i from nI_ge (b := 385) (by omega) (by omega))]
      refine ⟨vp_in_nI (by omega) (by decide), vp_in_nI (by omega) (by decide), _, rfl, _, rfl, ?_⟩
      rw [nI_1, nI_clamp (by omega)]
      refine ih (i + 1) _ (by omega) (fun k hk => ?_) (fun k hk => ?_)
      · rw [st_eq]
        by_cases e : k = i
        · subst e; rw [upd_eq, h2 p hpq]
        · rw [upd_ne e]; exact h1 k (by omega)
      · rw [st_ne hk]; exact h2 k hk
  exact ⟨386, key 385 0 μ (by omega) (fun k hk => by omega) (fun _ _ => rfl)⟩
theorem wld_row {w : Nat} {μ : vM} {ρ ρ' : Nat → Int32} (h : ∀ k, k < 385 → ρ' k = ρ k) (a : wld w μ ρ) : wld w μ ρ' := by
  obtain ⟨a1, a2, a3, a4, a5, a6, a7⟩ := a
  exact ⟨hv_cg a1 (fun _ _ => rfl) ⟨h 0 (by omega), h 2 (by omega), fun i _ _ => h i (by omega), fun i _ _ => h i (by omega)⟩, rd_cg a2 rfl rfl (fun i _ _ => h i (by omega)), lw_cg a3 rfl rfl (fun i _ _ => h i (by omega)), lw_cg a4 rfl rfl (fun i _ _ => h i (by omega)), ⟨by rw [h 3 (by omega)]; exact a5.1, fun i hi => by rw [h _ (by omega)]; exact a5.2 i hi⟩, ⟨by rw [h 4 (by omega)]; exact a6.1, fun i hi => by rw [h _ (by omega)]; exact a6.2 i hi⟩, by rw [h 1 (by omega)]; exact a7⟩
theorem inv_row {ρ ρ' : Nat → Int32} (h : ∀ k, k < 385 → ρ' k = ρ k) (a : inv ρ) : inv ρ' := by
  obtain ⟨b1, b2, b3, b4, b5, b6, b7, b8, b9, b10⟩ := a
  exact ⟨by rw [h 2 (by omega)]; exact b1, by rw [h 0 (by omega)]; exact b2, inb_of fun b hb i hi => by rw [h _ (by omega)]; exact inb_to b3 hb hi, fun f hf => by rw [h _ (by omega)]; exact b4 f hf, inw_cg b5 (fun i _ _ => h i (by omega)), by rw [h 3 (by omega)]; exact b6, by rw [h 4 (by omega)]; exact b7, fun i hi => by rw [h _ (by omega)]; exact b8 i hi, wf_cg b9 (fun i _ _ => h i (by omega)), wf_cg b10 (fun i _ _ => h i (by omega))⟩
theorem wld_cells {w : Nat} {μ μ' : vM} {ρ : Nat → Int32} (h : ∀ i, i < 19 → μ' (w + i) = μ (w + i)) (a : wld w μ ρ) : wld w μ' ρ := by
  obtain ⟨a1, a2, a3, a4, a5, a6, a7⟩ := a
  have c0 := h 0 (by omega)
  rw [Nat.add_zero] at c0
  exact ⟨hv_cg a1 (fun i hi => by rw [Nat.add_assoc]; exact h (4 + i) (by omega)) ⟨rfl, rfl, fun _ _ _ => rfl, fun _ _ _ => rfl⟩, rd_cg a2 (h 2 (by omega)) (h 3 (by omega)) (fun _ _ _ => rfl), lw_cg a3 (by rw [h 11 (by omega)]) (h 12 (by omega)) (fun _ _ _ => rfl), lw_cg a4 (by rw [h 14 (by omega)]) (h 15 (by omega)) (fun _ _ _ => rfl), ⟨by rw [c0]; exact a5.1, fun i hi => by rw [h 17 (by omega)]; exact a5.2 i hi⟩, ⟨by rw [c0]; exact a6.1, fun i hi => by rw [h 18 (by omega)]; exact a6.2 i hi⟩, by rw [c0]; exact a7⟩
theorem sm_image_ok : sm_image Rl := by
  intro μ ν h
  obtain ⟨a1, a2, a3, a4, a5, a6, a7, a8⟩ := h
  unfold wp_X6_image wp_X7_image
  refine sp_copy5 (by omega) a1 ⟨a2.2.2.2.2.2.2.2.2.1, a2.2.2.2.2.2.2.2.2.2⟩ fun μ' b1 b2 _ _ => ?_
  refine ⟨_, rfl, ?_⟩
  refine sp_copyAll (by decide) fun ν' c1 c2 => ?_
  refine ⟨_, rfl, ?_⟩
  have d0 : μ' 0 = μ 0 := b2 0 (by omega)
  have g0 : ν' 0 = ν 0 := c2 0 (by decide)
  refine ⟨by rw [st_eq, st_eq, upd_eq, upd_eq, d0, g0, a4.1], ?_, ?_, ?_, ⟨?_, Or.inr ⟨?_, ?_⟩⟩, ?_, ?_, ?_, ?_⟩
  · rw [st_ne (by decide), c2 1 (by decide)]
    exact wld_cells (fun i hi => by rw [st_ne (by omega), b2 _ (by omega)]) a1
  · rw [st_ne (by decide), c2 1 (by decide)]; exact a2
  · exact kno_cg a3 (by rw [st_eq, upd_ne (by decide), g0]) (by rw [st_ne (by decide), c2 8 (by decide)]) (fun i _ _ => by rw [st_ne (by decide), c2 1 (by decide)])
  · rw [st_eq, st_eq, upd_eq, upd_eq, d0, g0, a4.1]
  · rw [st_ne (by decide)]
    exact wld_row c1 (wld_cells (fun i hi => by rw [st_ne (by omega)]) b1)
  · rw [st_ne (by decide)]; exact inv_row c1 a2
  · unfold sht; simp (disch := decide) only [st_ne]; rw [b2 54 (by omega), b2 55 (by omega), b2 56 (by omega), c2 5 (by decide), c2 6 (by decide), c2 7 (by decide)]; exact a5
  · unfold trc; simp (disch := decide) only [st_ne, st_eq, upd_ne]; rw [d0, g0, b2 58 (by omega), c2 14 (by decide)]; exact a6
  · unfold err; simp (disch := decide) only [st_ne]; rw [b2 57 (by omega), c2 4 (by decide)]; exact a7
  · unfold nms; simp (disch := decide) only [st_ne]; rw [b2 12 (by omega), b2 15 (by omega)]; exact a8
theorem sm_restore_ok : sm_restore Rl := by
  intro μ ν h
  have h' := h
  obtain ⟨a1, a2, a3, a4, a5, a6, a7, a8⟩ := h
  unfold wp_X6_restore wp_X7_restore
  rw [a4.1]
  by_cases c : ν 0 3 = 0
  · simp only [if_pos c, e6_2, e7_2, true_and]; exact rl_err (by decide) h'
  · simp only [if_neg c, t0_, v0_, true_and, exists_eq_left, bz0]
    obtain ⟨k1, k2⟩ := a4.2.resolve_left c
    refine sp_copy5 (by omega) k1 ⟨k2.2.2.2.2.2.2.2.2.1, k2.2.2.2.2.2.2.2.2.2⟩ fun μ' b1 b2 b3 b4 => ?_
    refine sp_copyAll (by decide) fun ν' c1 c2 => ?_
    have d0 : μ' 0 = μ 0 := b2 0 (by omega)
    have g0 : ν' 0 = ν 0 := c2 0 (by decide)
    have W := wld_row c1 b1
    refine ⟨by rw [st_ne (by decide)]; exact W.1.2.1, ?_, ?_, ?_, ⟨?_, Or.inr ⟨?_, ?_⟩⟩, ?_, ?_, ?_, ?_⟩
    · rw [st_ne (by decide)]; exact W
    · rw [st_ne (by decide)]; exact inv_row c1 k2
    · refine ⟨by rw [st_eq, upd_eq]; exact bz0, fun q => ?_⟩
      rw [st_eq, upd_eq] at q; exact absurd q (by decide)
    · rw [st_eq, upd_ne (by decide), d0, g0, a4.1]
    · rw [st_ne (by decide), c2 2 (by decide)]; exact wld_cells (fun i hi => b2 _ (by omega)) k1
    · rw [st_ne (by decide), c2 2 (by decide)]; exact k2
    · unfold sht; simp (disch := decide) only [st_ne]; rw [b2 54 (by omega), b2 55 (by omega), b2 56 (by omega), c2 5 (by decide), c2 6 (by decide), c2 7 (by decide)]; exact a5
    · unfold trc; simp (disch := decide) only [st_ne, st_eq, upd_ne]; rw [d0, g0, b2 58 (by omega), c2 14 (by decide)]; exact a6
    · unfold err; simp (disch := decide) only [st_ne]; rw [b2 57 (by omega), c2 4 (by decide)]; exact a7
    · unfold nms
      have x0 := b3 0 (by decide)
      have x1 := b3 1 (by decide)
      have y0 := b4 0 (by decide)
      have y1 := b4 1 (by decide)
      exact ⟨x0.trans a8.1, x1.trans a8.2.1, y0.trans a8.2.2.1, y1.trans a8.2.2.2⟩
