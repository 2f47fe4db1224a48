/-! way -/
theorem pc_n : ∀ n, n < 9 → ∀ s, s < 2 ^ n → pc s ≤ n := by decide +kernel
noncomputable def mwI (ρ : Nat → Int32) (n k a b : Nat) : Int32 := nI (pc (hmS (it k (onW ρ a b)) n).toNatClampNeg)
noncomputable def wyS (ρ : Nat → Int32) (n k : Nat) : Nat → Int32 × Int32
  | 0 => (-1, -1)
  | j + 1 => if j % 10 ≤ j / 10 then wyS ρ n k j else if bt (ρ (9 + j / 10)) (j % 10) = true then wyS ρ n k j else if mwI ρ n k (j / 10) (j % 10) ≤ (wyS ρ n k j).2 then wyS ρ n k j else (nI j, mwI ρ n k (j / 10) (j % 10))
theorem onW_ne {ρ : Nat → Int32} {a b i : Nat} (ha : a < 10) (hb : b < 10) (hi : i < 9 ∨ 19 ≤ i) : onW ρ a b i = ρ i := by
  unfold onW; rw [if_neg (by omega), if_neg (by omega)]
theorem ok_on {ρ : Nat → Int32} {a b : Nat} (ha : a < 10) (hb : b < 10) (hab : a ≠ b) (o : ok ρ) : ok (onW ρ a b) :=
  ⟨by rw [onW_ne ha hb (by omega)]; exact o.1, inb_of fun c hc i hi => by rw [onW_ne ha hb (by omega)]; exact inb_to o.2.1 hc hi, fun f hf => by rw [onW_ne ha hb (by omega)]; exact o.2.2.1 f hf, inw_on ha hb hab o.2.2.2.1, wf_cg o.2.2.2.2.1 (fun i _ _ => onW_ne ha hb (by omega)), wf_cg o.2.2.2.2.2 (fun i _ _ => onW_ne ha hb (by omega))⟩
theorem mw_n {ρ : Nat → Int32} {n k a b : Nat} (hn : n < 9) : ∃ c, c ≤ n ∧ mwI ρ n k a b = nI c := by
  obtain ⟨s, hs, e⟩ := hmS_n (it k (onW ρ a b)) n (by omega)
  have : s < 256 := Nat.lt_of_lt_of_le hs (Nat.pow_le_pow_right (by decide) (by omega : n ≤ 8))
  unfold mwI
  rw [e, nI_clamp (by omega)]
  exact ⟨pc s, pc_n n hn s hs, rfl⟩
theorem sp_hww {n k a b : Nat} {μ m : vM} {ρ : Nat → Int32} (hn : n < 9) (e : ρ 2 = nI n) (ha : a < 10) (hb : b < 10) (hab : a ≠ b) (hk : k < 1000) (t : Tc 5 2 μ ρ) (sm : sc μ m) {Q : Int32 → vM → Prop} (hQ : ∀ m', sc μ m' → Q (mwI ρ n k a b) m') : wp_X6_homeWithWay (nI a) (nI b) (nI k) Q m := by
  unfold wp_X6_homeWithWay
  have s0 : ∀ i, (i < 14 ∨ i = 15 ∨ i = 16 ∨ (18 ≤ i ∧ i < 39) ∨ 53 ≤ i) → m i = μ i := fun i hi => sm i (by omega) (by omega) (by omega)
  refine sp_copy3 (by omega) fun m1 a1 a2 => ?_
  have r1 := a1 ρ (rd_cg t.2.2.1 (s0 _ (by omega)) (s0 _ (by omega)) (fun _ _ _ => rfl))
  refine sp_join ha hb hab r1 fun m2 b1 b2 => ?_
  have s2 : ∀ i, (i < 14 ∨ i = 15 ∨ i = 16 ∨ (18 ≤ i ∧ i < 39) ∨ 53 ≤ i) → m2 i = μ i := fun i hi => by rw [b2 i (by omega) (by omega), a2 i (by omega) (by omega)]; exact s0 i hi
  refine sp_copy0 (by omega) fun m3 c1 c2 => ?_
  have s3 : ∀ i, (i < 14 ∨ i = 15 ∨ i = 16 ∨ (18 ≤ i ∧ i < 39) ∨ 53 ≤ i) → m3 i = μ i := fun i hi => by rw [c2 i (by omega)]; exact s2 i hi
  have oo := ok_on ha hb hab t.1
  have v3 : hv 39 m3 (onW ρ a b) := c1 _ (hv_cg t.2.1 (fun i hi => s2 _ (by omega)) ⟨onW_ne ha hb (by omega), onW_ne ha hb (by omega), fun i _ _ => onW_ne ha hb (by omega), fun i _ _ => onW_ne ha hb (by omega)⟩)
  have t3 : Tc 39 46 m3 (onW ρ a b) := by
    refine ⟨oo, v3, rd_cg b1 (c2 _ (by omega)) (c2 _ (by omega)) (fun _ _ _ => rfl), lw_cg t.2.2.2.1 (by rw [s3 _ (by omega)]) (s3 _ (by omega)) (fun i _ _ => onW_ne ha hb (by omega)), lw_cg t.2.2.2.2.1 (by rw [s3 _ (by omega)]) (s3 _ (by omega)) (fun i _ _ => onW_ne ha hb (by omega)), ?_⟩
    have := t.2.2.2.2.2
    unfold nms at this ⊢
    rw [s3 12 (by omega), s3 15 (by omega)]; exact this
  refine sp_pdC ⟨Or.inr rfl, Or.inr rfl⟩ t3 hk fun m4 d1 d2 d3 => ?_
  have e' : onW ρ a b 2 = nI n := by rw [onW_ne ha hb (by omega)]; exact e
  refine sp_homeC (it_ok k oo) d1 hn (by rw [it_sm k oo 2 (by omega)]; exact e') ?_
  obtain ⟨s, hs, es⟩ := hmS_8 (ρ := it k (onW ρ a b)) hn
  have := hQ m4 (fun i h1 h2 h3 => by rw [d2 i (by omega) (by omega) (by omega) h1]; exact s3 i (by omega))
  unfold mwI at this
  rw [es, nI_clamp (by omega)] at this
  rw [es]
  exact sp_bitC hs this
theorem wy_skip {ρ : Nat → Int32} {n k : Nat} {a : Nat} (ha : a < 10) : ∀ c, c ≤ a + 1 → wyS ρ n k (10 * a + c) = wyS ρ n k (10 * a)
  | 0, _ => rfl
  | c + 1, h => by
    have := wy_skip (ρ := ρ) (n := n) (k := k) ha c (by omega)
    show wyS ρ n k (10 * a + c + 1) = _
    simp only [wyS]
    rw [if_pos (by omega)]; exact this
/-- what the reference keeps while it tries ways -/
def TK (ν m : vM) : Prop := (∀ i, i ≠ 0 → i ≠ 1 → i ≠ 3 → i ≠ 8 → i ≠ 11 → i ≠ 12 → i ≠ 13 → m i = ν i) ∧ (∀ k, k ≠ 9 → m 0 k = ν 0 k) ∧ bz (m 0 9) ∧ (∀ k, k < 385 → m 3 k = ν 1 k) ∧ m 1 = ν 1
theorem sm_way_ok : sm_way Rl := by
  intro x c μ ν h
  have r1 := rl_err (k := 1) (by decide) h
  obtain ⟨n, hn, e1, e2⟩ := rl_size h
  have o := inv_ok h.2.1
  have TC := rl_Tc h
  have hw : inw (ν 1) := h.2.1.2.2.2.2.1
  unfold wp_X6_way wp_X7_way
  simp only [e6_1, e7_1, in7_1, in7_30, sp_hi2 (n := 30) (m := 1) (k := 30) (l := 1) (by decide) (by decide) rfl rfl]
  by_cases c1 : rg x 31
  · obtain ⟨k, hk, rfl⟩ := rg_of c1
    simp only [if_pos c1, if_neg (by decide : ¬ (1 : Int32) = 0)]
    by_cases c2 : rg c 2
    · simp only [if_pos c2, if_neg (by decide : ¬ (1 : Int32) = 0)]
      -- the reference
      have R : ∀ r μ1 μe, sc μ μe → (r = if 0 ≤ (wyS (ν 1) n k 100).1 then (if c = 0 then (wyS (ν 1) n k 100).1 else (wyS (ν 1) n k 100).2) else -1000000002) → (μ1 = if 0 ≤ (wyS (ν 1) n k 100).1 then μe else st μe 57 2 (μe 57 2 + 1)) → wp_X7_thinks (fun μ27 => ∃ n38, wp_X7_way_38 (nI k) c (fun r2 μ2 => r = r2 ∧ Rl μ1 μ2) n38 (-1) (-1) 0 μ27) ν := by
        intro r μ1 μe se hr hμ
        refine th_start h.2.2.1 fun m0 m1 m2 => ?_
        have lp : ∀ g j m, j + g = 100 → TK ν m → wp_X7_way_38 (nI k) c (fun r2 μ2 => r = r2 ∧ Rl μ1 μ2) (g + 1) (wyS (ν 1) n k j).1 (wyS (ν 1) n k j).2 (nI j) m := by
          intro g
          induction g with
          | zero =>
            intro j m hj t
            have : j = 100 := by omega
            subst this
            unfold wp_X7_way_38
            rw [if_pos (by decide)]
            refine ⟨bz0, _, rfl, ?_⟩
            rw [e7_2]
            have T : TH ν (st m 0 9 0) := by
              refine ⟨fun i h0 h1 h3 h8 h11 h12 h13 => by rw [st_ne h0]; exact t.1 i h0 h1 h3 h8 h11 h12 h13, fun q hq => by rw [st_eq, upd_ne hq]; exact t.2.1 q hq, ⟨by rw [st_eq, upd_eq]; exact bz0, fun z => by rw [st_eq, upd_eq] at z; exact absurd z (by decide)⟩, fun q hq => by rw [st_ne (by decide)]; exact t.2.2.2.1 q hq⟩
            have B := rl_bk h se T (by rw [st_ne (by decide)]; exact t.2.2.2.2)
            by_cases cc : 0 ≤ (wyS (ν 1) n k 100).1
            · rw [if_pos cc] at hr hμ ⊢
              subst hμ
              by_cases cd : c = 0
              · rw [if_pos cd] at hr ⊢; exact ⟨hr, B⟩
              · rw [if_neg cd] at hr ⊢; exact ⟨hr, B⟩
            · rw [if_neg cc] at hr hμ ⊢
              subst hμ
              exact ⟨hr, rl_err (by decide) B⟩
          | succ g ih =>
            intro j m hj t
            have ih' := fun m => ih (j + 1) m (by omega)
            simp only [wyS] at ih'
            have ja : j / 10 < 10 := by omega
            have jb : j % 10 < 10 := by omega
            have i9 : (9 : Int32) + nI (j / 10) = nI (9 + j / 10) := nI_add 9 _
            have dv' : nI j / 10 = nI (j / 10) ∧ nI j % 10 = nI (j % 10) := by
              refine ⟨?_, nI_mod (b := 10) (by omega) (by decide)⟩
              apply Int32.toInt_inj.mp
              have h1 : (nI j / 10).toInt = (nI j).toInt.tdiv (10 : Int32).toInt := Int32.toInt_div_of_ne_right _ _ (by decide)
              rw [h1, nI_toInt (by omega), nI_toInt (by omega)]
              rfl
            unfold wp_X7_way_38 wp_X7_way_150 wp_X7_way_133 wp_X7_way_148 wp_X7_way_150
            rw [if_neg (show ¬ (100 : Int32) ≤ nI j from nI_ge (b := 100) (by omega) (by decide))]
            simp only [exists_eq_left, dv'.1, dv'.2, i9, nI_1, nI_clamp (show 9 + j / 10 < 2 ^ 31 by omega), t.2.2.2.2, bt_tst (x := ν 1 (9 + j / 10)) (show j % 10 < 31 by omega)]
            have w : vp_in (nI (9 + j / 10)) 385 := vp_in_nI (by omega) (by decide)
            by_cases d1 : j % 10 ≤ j / 10
            · rw [if_pos (nI_le d1 (by omega))]
              have := ih' m t
              rw [if_pos d1] at this
              exact this
            · rw [if_neg (nI_ge (by omega) (by omega))]
              refine ⟨w, ?_⟩
              have := fun m => ih' m
              simp only [if_neg d1] at this
              by_cases d2 : bt (ν 1 (9 + j / 10)) (j % 10) = true
              · simp only [if_pos d2, if_neg (by decide : ¬ (1 : Int32) = 0)] at this ⊢
                exact this m t
              · simp only [if_neg d2, if_true] at this ⊢
                have hab : j / 10 ≠ j % 10 := by omega
                refine sp_of7 ja jb hab fun m3 p1 p2 p3 p4 => ?_
                rw [if_pos rfl, t.2.2.2.2] at p1
                have oo := ok_on ja jb hab o
                have k3 : kno m3 := ⟨by rw [p2]; exact bz0, fun z => absurd (p2.symm.trans z) (by decide)⟩
                refine sp_gofor ⟨by rw [p1]; exact oo, k3⟩ (by omega) fun m4 q1 q2 => ?_
                rw [p1] at q1
                have e' : it k (onW (ν 1) (j / 10) (j % 10)) 2 = nI n := by rw [it_sm k oo 2 (by omega), onW_ne ja jb (by omega)]; exact e2
                refine sp_homeR (by rw [q1]; exact it_ok k oo) hn (by rw [q1]; exact e') ?_
                rw [q1]
                obtain ⟨s, hs, es⟩ := hmS_8 (ρ := it k (onW (ν 1) (j / 10) (j % 10))) hn
                rw [es]
                refine sp_bitR hs ?_
                unfold wp_X7_putsBack
                refine sp_copyE (by decide) fun m5 u1 u2 u3 => ?_
                have M : mwI (ν 1) n k (j / 10) (j % 10) = nI (pc s) := by unfold mwI; rw [es, nI_clamp (by omega)]
                rw [M] at this
                have T : TK ν m5 := by
                  refine ⟨fun i h0 h1 h3 h8 h11 h12 h13 => ?_, fun q hq => ?_, ?_, fun q hq => ?_, ?_⟩
                  · rw [u3 i h1, q2.1 i h0 h1 h8 h11 h12 h13, p4 i h0 h1]; exact t.1 i h0 h1 h3 h8 h11 h12 h13
                  · rw [u3 0 (by decide), q2.2.1 q hq, p3 q hq]; exact t.2.1 q hq
                  · rw [u3 0 (by decide)]; exact q2.2.2.1
                  · rw [u3 3 (by decide), q2.1 3 (by decide) (by decide) (by decide) (by decide) (by decide) (by decide), p4 3 (by decide) (by decide)]; exact t.2.2.2.1 q hq
                  · funext q
                    by_cases cq : q < 385
                    · rw [u1 q cq, q2.1 3 (by decide) (by decide) (by decide) (by decide) (by decide) (by decide), p4 3 (by decide) (by decide)]; exact t.2.2.2.1 q cq
                    · rw [u2 q (by omega), q1, it_sm k oo q (by omega), onW_ne ja jb (by omega)]
                have := this m5 T
                by_cases d3 : nI (pc s) ≤ (wyS (ν 1) n k j).2
                · rw [if_pos d3] at this ⊢; rw [if_pos d3]; exact this
                · rw [if_neg d3] at this ⊢; rw [if_neg d3]; exact this
        refine ⟨101, lp 100 0 m0 (by omega) ⟨m1.1, m1.2.1, m1.2.2.1.1, m1.2.2.2, m2⟩⟩
      -- the class
      have rd2 : ∀ m, sc μ m → rd 2 m (ν 1) := fun m s => rd_cg TC.2.2.1 (s _ (by omega) (by omega) (by omega)) (s _ (by omega) (by omega) (by omega)) (fun _ _ _ => rfl)
      have outer : ∀ G a m, a + G = 10 → sc μ m → wp_X6_way_33 (nI k) c (fun r μ1 => wp_X7_thinks (fun μ27 => ∃ n38, wp_X7_way_38 (nI k) c (fun r2 μ2 => r = r2 ∧ Rl μ1 μ2) n38 (-1) (-1) 0 μ27) ν) (G + 1) (wyS (ν 1) n k (10 * a)).1 (wyS (ν 1) n k (10 * a)).2 (nI a) m := by
        intro G
        induction G with
        | zero =>
          intro a m ha sm
          have : a = 10 := by omega
          subst this
          unfold wp_X6_way_33
          rw [if_pos (by decide), e6_2]
          by_cases cc : 0 ≤ (wyS (ν 1) n k (10 * 10)).1
          · rw [if_pos cc]
            by_cases cd : c = 0
            · rw [if_pos cd]; exact R _ m m sm (by rw [if_pos cc, if_pos cd]) (by rw [if_pos cc])
            · rw [if_neg cd]; exact R _ m m sm (by rw [if_pos cc, if_neg cd]) (by rw [if_pos cc])
          · rw [if_neg cc]; exact R _ _ m sm (by rw [if_neg cc]) (by rw [if_neg cc])
        | succ G ih =>
          intro a m ha sm
          have ha10 : a < 10 := by omega
          unfold wp_X6_way_33
          rw [if_neg (show ¬ (10 : Int32) ≤ nI a from nI_ge (b := 10) (by omega) (by decide)), nI_1]
          refine ⟨_, rfl, ?_⟩
          have inner : ∀ g b m, b + g = 10 → sc μ m → a + 1 ≤ b → wp_X6_way_46 (nI k) c (fun r μ1 => wp_X7_thinks (fun μ27 => ∃ n38, wp_X7_way_38 (nI k) c (fun r2 μ2 => r = r2 ∧ Rl μ1 μ2) n38 (-1) (-1) 0 μ27) ν) (fun x3 x4 x5 μ => wp_X6_way_33 (nI k) c (fun r μ1 => wp_X7_thinks (fun μ27 => ∃ n38, wp_X7_way_38 (nI k) c (fun r2 μ2 => r = r2 ∧ Rl μ1 μ2) n38 (-1) (-1) 0 μ27) ν) (G + 1) x3 x4 x5 μ) (g + 1) (wyS (ν 1) n k (10 * a + b)).1 (wyS (ν 1) n k (10 * a + b)).2 (nI a) (nI b) m := by
            intro g
            induction g with
            | zero =>
              intro b m hb sm hab
              have : b = 10 := by omega
              subst this
              unfold wp_X6_way_46
              rw [if_pos (by decide), nI_1]
              exact ⟨_, rfl, ih (a + 1) m (by omega) sm⟩
            | succ g ih2 =>
              intro b m hb sm hab
              have ih' := fun m s => ih2 (b + 1) m (by omega) s (by omega)
              have e1' : 10 * a + (b + 1) = (10 * a + b) + 1 := by omega
              have e2' : (10 * a + b) / 10 = a := by omega
              have e3' : (10 * a + b) % 10 = b := by omega
              rw [e1'] at ih'
              simp only [wyS, e2', e3', if_neg (show ¬ b ≤ a by omega)] at ih'
              unfold wp_X6_way_46 wp_X6_way_119
              rw [if_neg (show ¬ (10 : Int32) ≤ nI b from nI_ge (b := 10) (by omega) (by decide)), sm 5 (by omega) (by omega) (by omega), e1, sp_open ha10 (show b < 10 by omega), (rd2 m sm).1 a ha10]
              simp only [exists_eq_left, nI_1, ix_ro2]
              obtain ⟨cw, hcw, ecw⟩ := mw_n (ρ := ν 1) (n := n) (k := k) (a := a) (b := b) hn
              by_cases d1 : (wyS (ν 1) n k (10 * a + b)).2 = nI n
              · rw [if_pos d1]
                have le : mwI (ν 1) n k a b ≤ (wyS (ν 1) n k (10 * a + b)).2 := by rw [d1, ecw]; exact nI_le hcw (by omega)
                have := ih' m sm
                rw [if_pos le] at this
                by_cases d2 : bt (ν 1 (9 + a)) b = true
                · rw [if_pos d2] at this; exact this
                · rw [if_neg d2] at this; exact this
              · rw [if_neg d1]
                by_cases d2 : bt (ν 1 (9 + a)) b = true
                · rw [if_pos d2, if_neg (by decide)]
                  have := ih' m sm
                  rw [if_pos d2] at this
                  exact this
                · rw [if_neg d2]; simp only [if_true]
                  refine sp_hww hn e2 ha10 (by omega) (by omega) (by omega) TC sm fun m' s' => ?_
                  have := ih' m' s'
                  rw [if_neg d2] at this
                  by_cases d3 : mwI (ν 1) n k a b ≤ (wyS (ν 1) n k (10 * a + b)).2
                  · rw [if_pos d3] at this ⊢; exact this
                  · rw [if_neg d3] at this ⊢; exact this
          have := inner (9 - a) (a + 1) m (by omega) sm (Nat.le_refl _)
          rw [wy_skip ha10 (a + 1) (Nat.le_refl _)] at this
          exact ⟨_, this⟩
      exact ⟨11, outer 10 0 μ (by omega) sc_rf⟩
    · simp only [if_neg c2, if_true, true_and]; exact r1
  · simp only [if_neg c1, if_true, true_and]; exact r1
