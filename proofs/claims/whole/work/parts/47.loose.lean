/-! loose -/
theorem nI_mod {a b : Nat} (ha : a < 2 ^ 31) (hb : b < 2 ^ 31) : nI a % nI b = nI (a % b) := by
  apply Int32.toInt_inj.mp
  have hm : a % b ≤ a := Nat.mod_le a b
  rw [Int32.toInt_mod, nI_toInt ha, nI_toInt hb, nI_toInt (by omega)]
  rfl
def dz (x : Int32) : Int32 := x * 1103515245 + 12345
def dv (x : Int32) : Int32 := (x.toUInt32 >>> ((8 : Int32).toUInt32 &&& Int32.toUInt32 31)).toInt32
theorem dv_n (x : Int32) : ∃ k, k < 2 ^ 24 ∧ dv x = nI k := by
  refine ⟨x.toUInt32.toNat / 256, ?_, ?_⟩
  · have := x.toUInt32.toNat_lt
    omega
  · apply Int32.toBitVec_inj.1
    apply BitVec.eq_of_toNat_eq
    have e : (dv x).toBitVec.toNat = x.toUInt32.toNat / 256 := by
      show (x.toUInt32 >>> ((8 : Int32).toUInt32 &&& Int32.toUInt32 31)).toNat = _
      rw [UInt32.toNat_shiftRight]
      have : ((8 : Int32).toUInt32 &&& Int32.toUInt32 31).toNat % 32 = 8 := by decide
      rw [this, Nat.shiftRight_eq_div_pow]
    have := x.toUInt32.toNat_lt
    rw [e]
    show _ = (BitVec.ofNat 32 _).toNat
    rw [BitVec.toNat_ofNat, Nat.mod_eq_of_lt (by omega)]
theorem dv_mod (x : Int32) {n : Nat} (h0 : 0 < n) (hn : n < 2 ^ 31) : ∃ k, k < n ∧ dv x % nI n = nI k := by
  obtain ⟨k, hk, e⟩ := dv_n x
  rw [e, nI_mod (by omega) hn]
  exact ⟨k % n, Nat.mod_lt _ h0, rfl⟩
def stF (n : Nat) (ρ : Nat → Int32) : Nat → Int32 :=
  if n = 0 then ρ else
  if dv (dz (dz (dz (ρ 1)))) % 8 = 0 then upd (upd (upd ρ 1 (dz (dz (dz (dz (ρ 1)))))) (23 + 5 * (dv (dz (ρ 1)) % nI n).toNatClampNeg) (dv (dz (dz (ρ 1))) % 10)) (22 + 5 * (dv (dz (ρ 1)) % nI n).toNatClampNeg) (dv (dz (dz (dz (dz (ρ 1))))) % 10)
  else upd (upd ρ 1 (dz (dz (dz (ρ 1))))) (23 + 5 * (dv (dz (ρ 1)) % nI n).toNatClampNeg) (dv (dz (dz (ρ 1))) % 10)
theorem lt_10 (x : Int32) : lt (dv x % 10) 10 := by
  obtain ⟨k, hk, e⟩ := dv_mod x (n := 10) (by decide) (by decide)
  exact ⟨k, hk, e⟩
theorem inb_hd {ρ : Nat → Int32} {b : Nat} {v : Int32} (hv : lt v 10) (a : inb ρ) : inb (upd ρ (23 + 5 * b) v) := inb_slot (o := 4) (by decide) hv a
theorem stF_ne {n : Nat} {ρ : Nat → Int32} (hn : n < 9) {i : Nat} (hi : i = 0 ∨ (2 ≤ i ∧ i < 22) ∨ 62 ≤ i) : stF n ρ i = ρ i := by
  unfold stF
  by_cases c : n = 0
  · rw [if_pos c]
  · rw [if_neg c]
    obtain ⟨b, hb, e⟩ := dv_mod (dz (ρ 1)) (n := n) (by omega) (by omega)
    rw [e, nI_clamp (by omega)]
    split
    · rw [upd_ne (by omega), upd_ne (by omega), upd_ne (by omega)]
    · rw [upd_ne (by omega), upd_ne (by omega)]
theorem stF_inb {n : Nat} {ρ : Nat → Int32} (h : inb ρ) : inb (stF n ρ) := by
  unfold stF
  split
  · exact h
  · split
    · exact inb_at (lt_10 _) (inb_hd (lt_10 _) (inb_0 (by omega) h))
    · exact inb_hd (lt_10 _) (inb_0 (by omega) h)
theorem stF_same {n : Nat} {ρ : Nat → Int32} (hn : n < 9) {i : Nat} (hi : (2 ≤ i ∧ i < 19) ∨ 59 ≤ i) : stF n ρ i = ρ i := by
  unfold stF
  by_cases c : n = 0
  · rw [if_pos c]
  · rw [if_neg c]
    obtain ⟨b, hb, e⟩ := dv_mod (dz (ρ 1)) (n := n) (by omega) (by omega)
    rw [e, nI_clamp (by omega)]
    split
    · rw [upd_ne (by omega), upd_ne (by omega), upd_ne (by omega)]
    · rw [upd_ne (by omega), upd_ne (by omega)]
theorem ok_2 {ρ ρ' : Nat → Int32} (o : ok ρ) (hb : inb ρ') (h : ∀ i, (2 ≤ i ∧ i < 19) ∨ 59 ≤ i → ρ' i = ρ i) : ok ρ' :=
  ⟨by rw [h 2 (by omega)]; exact o.1, hb, fun f hf => by rw [h _ (by omega)]; exact o.2.2.1 f hf, inw_cg o.2.2.2.1 (fun i _ _ => h i (by omega)), wf_cg o.2.2.2.2.1 (fun i _ _ => h i (by omega)), wf_cg o.2.2.2.2.2 (fun i _ _ => h i (by omega))⟩
theorem ok_st {n : Nat} {ρ : Nat → Int32} (hn : n < 9) (o : ok ρ) : ok (stF n ρ) := ok_2 o (stF_inb o.2.1) (fun i hi => stF_same hn hi)
theorem Tc_2 {h r : Nat} {μ μ' : vM} {ρ ρ' : Nat → Int32} (t : Tc h r μ ρ) (o : ok ρ') (v : hv h μ' ρ') (s : ∀ i, (2 ≤ i ∧ i < 19) ∨ 59 ≤ i → ρ' i = ρ i) (hr : μ' (r + 1) = μ (r + 1) ∧ μ' (r + 2) = μ (r + 2)) (hl : μ' 12 = μ 12 ∧ μ' 13 = μ 13 ∧ μ' 15 = μ 15 ∧ μ' 16 = μ 16) : Tc h r μ' ρ' := by
  obtain ⟨t1, t2, t3, t4, t5, t6⟩ := t
  refine ⟨o, v, rd_cg t3 hr.1 hr.2 (fun i _ _ => s i (by omega)), lw_cg t4 (by rw [hl.1]) hl.2.1 (fun i _ _ => s i (by omega)), lw_cg t5 (by rw [hl.2.2.1]) hl.2.2.2 (fun i _ _ => s i (by omega)), ?_⟩
  unfold nms; rw [hl.1, hl.2.2.1]; exact t6
theorem hv_hd {h b : Nat} {v : Int32} {μ : vM} {ρ : Nat → Int32} (hb : b < 8) (a : hv h μ ρ) : hv h (st μ (h + 5) b v) (upd ρ (23 + 5 * b) v) := hv_slot (o := 4) (by decide) hb a
theorem hv_1 {h : Nat} {v : Int32} {μ : vM} {ρ : Nat → Int32} (a : hv h μ ρ) : hv h μ (upd ρ 1 v) := hv_cg a (fun _ _ => rfl) ⟨upd_ne (by decide), upd_ne (by decide), fun i _ _ => upd_ne (by omega), fun i _ _ => upd_ne (by omega)⟩
theorem sp_stir {n : Nat} {μ : vM} {ρ : Nat → Int32} (v : hv 5 μ ρ) (hn : n < 9) (e : ρ 2 = nI n) (z : μ 1 8 = ρ 1) {Q : vM → Prop} (hQ : ∀ μ', hv 5 μ' (stF n ρ) → μ' 1 8 = stF n ρ 1 → (∀ k, k ≠ 8 → μ' 1 k = μ 1 k) → (∀ i, i ≠ 1 → i ≠ 9 → i ≠ 10 → μ' i = μ i) → Q μ') : wp_X5_stir 1 Q μ := by
  unfold wp_X5_stir wp_X5_draw
  have e5 : μ 5 0 = nI n := by rw [← e]; exact v.1
  simp only [exists_eq_left, Nat.reduceAdd]
  by_cases c : n = 0
  · rw [if_pos (by rw [e5, c]; rfl)]
    refine hQ μ ?_ ?_ (fun _ _ => rfl) (fun _ _ _ _ => rfl)
    · unfold stF; rw [if_pos c]; exact v
    · unfold stF; rw [if_pos c]; exact z
  · have n0 : ¬ nI n = 0 := nI_ne0 (by omega) (by omega)
    rw [if_neg (by rw [e5]; exact n0)]
    obtain ⟨b, hb, eb⟩ := dv_mod (dz (ρ 1)) (n := n) (by omega) (by omega)
    have w : vp_in (nI b) 8 := vp_in_nI (by omega) (by decide)
    have z1 : st μ 1 8 (μ 1 8 * 1103515245 + 12345) 1 8 = dz (ρ 1) := by rw [st_eq, upd_eq, z]; rfl
    have s5 : ∀ v, st μ 1 8 v 5 0 = nI n := fun v => by rw [st_ne (by decide), e5]
    rw [z1, s5]
    have eb' : ((dz (ρ 1)).toUInt32 >>> ((8 : Int32).toUInt32 &&& Int32.toUInt32 31)).toInt32 % nI n = nI b := eb
    rw [eb', nI_clamp (by omega)]
    refine ⟨n0, w, ?_⟩
    have F : stF n ρ = if dv (dz (dz (dz (ρ 1)))) % 8 = 0 then upd (upd (upd ρ 1 (dz (dz (dz (dz (ρ 1)))))) (23 + 5 * b) (dv (dz (dz (ρ 1))) % 10)) (22 + 5 * b) (dv (dz (dz (dz (dz (ρ 1))))) % 10) else upd (upd ρ 1 (dz (dz (dz (ρ 1))))) (23 + 5 * b) (dv (dz (dz (ρ 1))) % 10) := by
      unfold stF; rw [if_neg c, eb, nI_clamp (by omega)]
    -- what each draw leaves
    have a1 : (st μ 1 8 (μ 1 8 * 1103515245 + 12345)) 1 8 = dz (ρ 1) := z1
    generalize hA : st μ 1 8 (μ 1 8 * 1103515245 + 12345) = A at *
    have A1 : ∀ k, k ≠ 8 → A 1 k = μ 1 k := fun k hk => by rw [← hA, st_eq, upd_ne hk]
    have A2 : ∀ i, i ≠ 1 → A i = μ i := fun i hi => by rw [← hA, st_ne hi]
    have b1 : st A 1 8 (dz (ρ 1) * 1103515245 + 12345) 1 8 = dz (dz (ρ 1)) := by rw [st_eq, upd_eq]; rfl
    generalize hB : st A 1 8 (dz (ρ 1) * 1103515245 + 12345) = B at *
    have B1 : ∀ k, k ≠ 8 → B 1 k = μ 1 k := fun k hk => by rw [← hB, st_eq, upd_ne hk, A1 k hk]
    have B2 : ∀ i, i ≠ 1 → B i = μ i := fun i hi => by rw [← hB, st_ne hi, A2 i hi]
    rw [b1]
    have c0 : (st B 10 b ((((dz (dz (ρ 1))).toUInt32 >>> ((8 : Int32).toUInt32 &&& Int32.toUInt32 31)).toInt32) % 10)) 1 = B 1 := st_ne (by decide)
    have cv : st B 10 b ((((dz (dz (ρ 1))).toUInt32 >>> ((8 : Int32).toUInt32 &&& Int32.toUInt32 31)).toInt32) % 10) = st B (5 + 5) b (dv (dz (dz (ρ 1))) % 10) := rfl
    have vB : hv 5 B ρ := hv_cg v (fun i hi => B2 _ (by omega)) ⟨rfl, rfl, fun _ _ _ => rfl, fun _ _ _ => rfl⟩
    rw [cv]
    have vC := hv_hd (v := dv (dz (dz (ρ 1))) % 10) (show b < 8 by omega) vB
    generalize hC : st B (5 + 5) b (dv (dz (dz (ρ 1))) % 10) = C at *
    have C1 : C 1 = B 1 := by rw [← hC, st_ne (by decide)]
    have C2 : ∀ i, i ≠ 1 → i ≠ 10 → C i = μ i := fun i hi h2 => by rw [← hC, st_ne (by omega), B2 i hi]
    have d1 : st C 1 8 (C 1 8 * 1103515245 + 12345) 1 8 = dz (dz (dz (ρ 1))) := by rw [st_eq, upd_eq, C1, b1]; rfl
    have vD : hv 5 (st C 1 8 (C 1 8 * 1103515245 + 12345)) (upd ρ (23 + 5 * b) (dv (dz (dz (ρ 1))) % 10)) := hv_cg vC (fun i hi => st_ne (by omega)) ⟨rfl, rfl, fun _ _ _ => rfl, fun _ _ _ => rfl⟩
    generalize hD : st C 1 8 (C 1 8 * 1103515245 + 12345) = D at *
    have D1 : ∀ k, k ≠ 8 → D 1 k = μ 1 k := fun k hk => by rw [← hD, st_eq, upd_ne hk, C1, B1 k hk]
    have D2 : ∀ i, i ≠ 1 → i ≠ 10 → D i = μ i := fun i hi h2 => by rw [← hD, st_ne hi, C2 i hi h2]
    rw [d1]
    by_cases c8 : dv (dz (dz (dz (ρ 1)))) % 8 = 0
    · rw [if_pos (show (((dz (dz (dz (ρ 1)))).toUInt32 >>> ((8 : Int32).toUInt32 &&& Int32.toUInt32 31)).toInt32) % 8 = 0 from c8)]
      rw [if_pos c8] at F
      have e1 : st D 1 8 (dz (dz (dz (ρ 1))) * 1103515245 + 12345) 1 8 = dz (dz (dz (dz (ρ 1)))) := by rw [st_eq, upd_eq]; rfl
      have vE : hv 5 (st D 1 8 (dz (dz (dz (ρ 1))) * 1103515245 + 12345)) (upd ρ (23 + 5 * b) (dv (dz (dz (ρ 1))) % 10)) := hv_cg vD (fun i hi => st_ne (by omega)) ⟨rfl, rfl, fun _ _ _ => rfl, fun _ _ _ => rfl⟩
      generalize hE : st D 1 8 (dz (dz (dz (ρ 1))) * 1103515245 + 12345) = E at *
      rw [e1]
      refine ⟨w, ?_⟩
      have vF := hv_at (v := dv (dz (dz (dz (dz (ρ 1))))) % 10) (show b < 8 by omega) vE
      refine hQ (st E (5 + 4) b (dv (dz (dz (dz (dz (ρ 1))))) % 10)) ?_ ?_ (fun k hk => ?_) (fun i h1 h2 h3 => ?_)
      · rw [F]
        refine hv_cg vF (fun _ _ => rfl) ⟨?_, ?_, fun i h1 h2 => ?_, fun i h1 h2 => ?_⟩
        · rw [upd_ne (by omega), upd_ne (by omega), upd_ne (by omega), upd_ne (by omega), upd_ne (by omega)]
        · rw [upd_ne (by omega), upd_ne (by omega), upd_ne (by omega), upd_ne (by omega), upd_ne (by omega)]
        · rw [upd_ne (by omega), upd_ne (by omega), upd_ne (by omega), upd_ne (by omega), upd_ne (by omega)]
        · unfold upd; split
          · rfl
          · split
            · rfl
            · rw [if_neg (by omega)]
      · rw [F, upd_ne (by omega), upd_ne (by omega), upd_eq, st_ne (by decide)]; exact e1
      · rw [st_ne (by decide), ← hE, st_eq, upd_ne hk]; exact D1 k hk
      · rw [st_ne (by omega), ← hE, st_ne h1]; exact D2 i h1 h3
    · rw [if_neg (show ¬ (((dz (dz (dz (ρ 1)))).toUInt32 >>> ((8 : Int32).toUInt32 &&& Int32.toUInt32 31)).toInt32) % 8 = 0 from c8)]
      rw [if_neg c8] at F
      refine hQ D ?_ ?_ D1 (fun i h1 h2 h3 => D2 i h1 h3)
      · rw [F]
        refine hv_cg vD (fun _ _ => rfl) ⟨?_, ?_, fun i h1 h2 => ?_, fun i h1 h2 => ?_⟩
        · rw [upd_ne (by omega), upd_ne (by omega), upd_ne (by omega)]
        · rw [upd_ne (by omega), upd_ne (by omega), upd_ne (by omega)]
        · rw [upd_ne (by omega), upd_ne (by omega), upd_ne (by omega)]
        · unfold upd; split
          · rfl
          · rw [if_neg (by omega)]
      · rw [F, upd_ne (by omega), upd_eq]; exact d1
theorem sp_drawR {Q : Int32 → vM → Prop} {ν : vM} : wp_X7_draw Q ν = Q (dv (dz (ν 1 1))) (st ν 1 1 (dz (ν 1 1))) := by
  unfold wp_X7_draw
  simp only [exists_eq_left, t1_, v1_, true_and, st_eq, upd_eq]
  rfl
theorem sp_drawn {n : Nat} {ν : vM} (t : Tr ν) (hn : n < 9) (e : ν 1 2 = nI n) {Q : vM → Prop} (hQ : ∀ ν', ν' 1 = goF (stF n (ν 1)) → gs ν ν' → Q ν') : wp_X7_drawn Q ν := by
  have fin : ∀ m, m 1 = stF n (ν 1) → gs ν m → wp_X7_drawn_57 Q m := by
    intro m h1 hg
    unfold wp_X7_drawn_57
    refine sp_goes ⟨by rw [h1]; exact ok_st hn t.1, hg.2.2⟩ fun m' b1 b2 => hQ m' (by rw [b1, h1]) (gs_tr hg b2)
  unfold wp_X7_drawn
  rw [t2_, e]
  refine ⟨v2_, ?_⟩
  by_cases c : n = 0
  · rw [if_pos (by rw [c]; decide)]
    exact fin ν (by unfold stF; rw [if_pos c]) (gs_rf t.2)
  · have n0 : ¬ nI n = 0 := nI_ne0 (by omega) (by omega)
    rw [if_neg (nI_nle (by omega) (by omega))]
    obtain ⟨b, hb, eb⟩ := dv_mod (dz (ν 1 1)) (n := n) (by omega) (by omega)
    have F : stF n (ν 1) = if dv (dz (dz (dz (ν 1 1)))) % 8 = 0 then upd (upd (upd (ν 1) 1 (dz (dz (dz (dz (ν 1 1)))))) (23 + 5 * b) (dv (dz (dz (ν 1 1))) % 10)) (22 + 5 * b) (dv (dz (dz (dz (dz (ν 1 1))))) % 10) else upd (upd (ν 1) 1 (dz (dz (dz (ν 1 1))))) (23 + 5 * b) (dv (dz (dz (ν 1 1))) % 10) := by
      unfold stF; rw [if_neg c, eb, nI_clamp (by omega)]
    have hb8 : b < 8 := by omega
    have e2 : ∀ v, st ν 1 1 v 1 2 = nI n := fun v => by rw [st_eq, upd_ne (by decide), e]
    simp only [sp_drawR, e2, v2_, true_and, eb, exists_eq_left, sp_lets4 hb8, sp_lets3 hb8]
    have x1 : st ν 1 1 (dz (ν 1 1)) 1 1 = dz (ν 1 1) := by rw [st_eq, upd_eq]
    have x2 : (st (st (st ν 1 1 (dz (ν 1 1))) 1 1 (dz (dz (ν 1 1)))) 1 (23 + 5 * b) (dv (dz (dz (ν 1 1))) % 10)) 1 1 = dz (dz (ν 1 1)) := by rw [st_eq, upd_ne (by omega), st_eq, upd_eq]
    rw [x1, x2]
    refine ⟨n0, ?_⟩
    have g1 := gs_1 (k := 1) (v := dz (ν 1 1)) t.2 (by omega)
    have g2 := gs_1 (k := 1) (v := dz (dz (ν 1 1))) g1.2.2 (by omega)
    have g3 := gs_1 (k := 23 + 5 * b) (v := dv (dz (dz (ν 1 1))) % 10) g2.2.2 (by omega)
    have g4 := gs_1 (k := 1) (v := dz (dz (dz (ν 1 1)))) g3.2.2 (by omega)
    have G := gs_tr g1 (gs_tr g2 (gs_tr g3 g4))
    by_cases c8 : dv (dz (dz (dz (ν 1 1)))) % 8 = 0
    · rw [if_pos c8] at F ⊢
      have x3 : st (st (st (st ν 1 1 (dz (ν 1 1))) 1 1 (dz (dz (ν 1 1)))) 1 (23 + 5 * b) (dv (dz (dz (ν 1 1))) % 10)) 1 1 (dz (dz (dz (ν 1 1)))) 1 1 = dz (dz (dz (ν 1 1))) := by rw [st_eq, upd_eq]
      rw [x3]
      have g5 := gs_1 (k := 1) (v := dz (dz (dz (dz (ν 1 1))))) G.2.2 (by omega)
      have g6 := gs_1 (k := 22 + 5 * b) (v := dv (dz (dz (dz (dz (ν 1 1))))) % 10) g5.2.2 (by omega)
      refine fin _ ?_ (gs_tr G (gs_tr g5 g6))
      rw [F, st_eq, st_eq, st_eq, st_eq, st_eq, st_eq]
      funext i
      unfold upd
      repeat' split
      all_goals first | (exfalso; omega) | rfl
    · rw [if_neg c8] at F ⊢
      refine fin _ ?_ G
      rw [F, st_eq, st_eq, st_eq, st_eq]
      funext i
      unfold upd
      repeat' split
      all_goals first | (exfalso; omega) | rfl
noncomputable def lot (n : Nat) : Nat → (Nat → Int32) → Nat → Int32
  | 0, ρ => ρ
  | k + 1, ρ => goF (stF n (lot n k ρ))
theorem lot_ok {n : Nat} (hn : n < 9) {ρ : Nat → Int32} (o : ok ρ) : ∀ k, ok (lot n k ρ)
  | 0 => o
  | k + 1 => by simp only [lot]; exact ok_go (ok_st hn (lot_ok hn o k))
theorem lot_sm {n : Nat} (hn : n < 9) {ρ : Nat → Int32} (o : ok ρ) : ∀ k i, (2 ≤ i ∧ i < 19) ∨ 59 ≤ i → lot n k ρ i = ρ i
  | 0, _, _ => rfl
  | k + 1, i, hi => by
    simp only [lot]
    have o' := ok_st hn (lot_ok hn o k)
    by_cases c : i < 59 ∨ 62 ≤ i
    · rw [sm0_go o' i (by omega), stF_same hn hi]; exact lot_sm hn o k i hi
    · obtain ⟨m, hm, e⟩ := ok_n o'
      unfold goF
      rw [e, nI_clamp (by omega), upd_ne (by omega), mid_ne m (fun a ha => by omega), stF_same hn hi]
      exact lot_sm hn o k i hi
theorem lot_day {n : Nat} (hn : n < 9) {ρ : Nat → Int32} : ∀ k, lot n k ρ 0 = ρ 0 + nI k
  | 0 => by show ρ 0 = ρ 0 + 0; rw [Int32.add_zero]
  | k + 1 => by
    simp only [lot]
    unfold goF
    rw [upd_eq, stF_ne hn (by omega), lot_day hn k, nI_succ, Int32.add_assoc]
theorem goF_1 {ρ : Nat → Int32} (o : ok ρ) : goF ρ 1 = ρ 1 := sm0_go o 1 (by omega)
theorem sm_loose_ok : sm_loose Rl := by
  intro a μ ν h
  have r1 := rl_err (k := 1) (by decide) h
  have r3 := rl_err (k := 3) (by decide) h
  obtain ⟨n, hn, e1, e2⟩ := rl_size h
  obtain ⟨d, hd, ed1, ed2⟩ := rl_lt h
  have o := inv_ok h.2.1
  have TC := rl_Tc h
  unfold wp_X6_loose wp_X7_loose
  simp only [sp_1to (n := 30) (h := 30) (by decide) rfl, in7_1to (n := 30) (h := 30) (by decide) rfl, e6_1, e7_1, e6_3, e7_3]
  by_cases c1 : rg a 31 ∧ a ≠ 0
  · obtain ⟨k, hk, rfl⟩ := rg_of c1.1
    simp only [if_pos c1, if_neg (by decide : ¬ (1 : Int32) = 0), t0_, v0_, true_and, ed1, ed2, nI_add]
    by_cases c2 : nI (d + k) ≤ 9999
    · simp only [if_pos c2]
      have dk : d + k < 10000 := by
        have := (nI_leI (b := 9999) (by omega) (by decide)).mp c2
        omega
      have len : ∀ i, lot n i (ν 1) 2 = nI n := fun i => by rw [lot_sm hn o i 2 (by omega)]; exact e2
      have R : ∀ μ', hv 5 μ' (lot n k (ν 1)) → μ' 1 8 = lot n k (ν 1) 1 → (∀ j, j ≠ 8 → μ' 1 j = μ 1 j) → (∀ j, j = 0 ∨ (2 ≤ j ∧ j < 5) ∨ (12 ≤ j ∧ j < 39 ∧ j ≠ 14 ∧ j ≠ 17) ∨ 53 ≤ j → μ' j = μ j) → wp_X0_homeSet 5 (fun r μ1 => ∃ n40, wp_X7_loose_40 (nI k) (fun r2 μ2 => r = r2 ∧ Rl μ1 μ2) n40 0 ν) μ' := by
        intro μ' v z h1 hc
        refine sp_homeC (lot_ok hn o k) v hn (len k) ?_
        have lp : ∀ g i m, i + g = k → m 1 = lot n i (ν 1) → gs ν m → wp_X7_loose_40 (nI k) (fun r2 μ2 => hmS (lot n k (ν 1)) n = r2 ∧ Rl μ' μ2) (g + 1) (nI i) m := by
          intro g
          induction g with
          | zero =>
            intro i m hi m1 hg
            have : i = k := by omega
            subst this
            unfold wp_X7_loose_40
            rw [if_pos (nI_le (Nat.le_refl _) (by omega))]
            refine sp_homeR (by rw [m1]; exact lot_ok hn o i) hn (by rw [m1]; exact len i) ?_
            rw [m1]
            exact ⟨rfl, rl_go h hc h1 (by rw [m1]; exact z) (by rw [m1]; exact v) (by rw [m1]; exact lot_ok hn o i) (by rw [m1]; exact ⟨d + i, dk, by rw [lot_day hn, ed2, nI_add]⟩) (fun j hj => by rw [m1]; exact lot_sm hn o i j hj) hg⟩
          | succ g ih =>
            intro i m hi m1 hg
            unfold wp_X7_loose_40
            rw [if_neg (nI_ge (by omega) (by omega))]
            refine sp_drawn ⟨by rw [m1]; exact lot_ok hn o i, hg.2.2⟩ hn (by rw [m1]; exact len i) fun m' b1 b2 => ⟨_, rfl, ?_⟩
            rw [nI_1]
            exact ih (i + 1) m' (by omega) (by rw [b1, m1]; rfl) (gs_tr hg b2)
        exact ⟨k + 1, lp k 0 ν (by omega) rfl (gs_rf h.2.2.1)⟩
      have lp : ∀ g i m, i + g = k → hv 5 m (lot n i (ν 1)) → m 1 8 = lot n i (ν 1) 1 → (∀ j, j ≠ 8 → m 1 j = μ 1 j) → (∀ j, j = 0 ∨ (2 ≤ j ∧ j < 5) ∨ (12 ≤ j ∧ j < 39 ∧ j ≠ 14 ∧ j ≠ 17) ∨ 53 ≤ j → m j = μ j) → wp_X6_loose_43 (nI k) (fun r μ1 => ∃ n40, wp_X7_loose_40 (nI k) (fun r2 μ2 => r = r2 ∧ Rl μ1 μ2) n40 0 ν) (g + 1) (nI i) m := by
        intro g
        induction g with
        | zero =>
          intro i m hi v z h1 hc
          have : i = k := by omega
          subst this
          unfold wp_X6_loose_43
          rw [if_pos (nI_le (Nat.le_refl _) (by omega))]
          exact R m v z h1 hc
        | succ g ih =>
          intro i m hi v z h1 hc
          unfold wp_X6_loose_43
          rw [if_neg (nI_ge (by omega) (by omega))]
          refine sp_stir v hn (len i) z fun m1 v1 z1 h11 hc1 => ?_
          have o1 := ok_st (n := n) hn (lot_ok hn o i)
          have t1 : Tc 5 2 m1 (stF n (lot n i (ν 1))) := Tc_2 TC o1 v1 (fun j hj => by rw [stF_same hn hj]; exact lot_sm hn o i j hj) ⟨by rw [hc1 _ (by omega) (by omega) (by omega)]; exact hc _ (by omega), by rw [hc1 _ (by omega) (by omega) (by omega)]; exact hc _ (by omega)⟩ ⟨by rw [hc1 _ (by omega) (by omega) (by omega)]; exact hc _ (by omega), by rw [hc1 _ (by omega) (by omega) (by omega)]; exact hc _ (by omega), by rw [hc1 _ (by omega) (by omega) (by omega)]; exact hc _ (by omega), by rw [hc1 _ (by omega) (by omega) (by omega)]; exact hc _ (by omega)⟩
          refine sp_dayC ⟨Or.inl rfl, Or.inl rfl⟩ t1 hn (by rw [stF_same hn (by omega)]; exact len i) fun y m2 _ _ v2 d2 => ⟨_, rfl, ?_⟩
          rw [nI_1]
          refine ih (i + 1) m2 (by omega) v2 ?_ (fun j hj => ?_) (fun j hj => ?_)
          · rw [d2 1 (by omega) (by omega) (by omega) (by omega), z1]
            exact (goF_1 o1).symm
          · rw [d2 1 (by omega) (by omega) (by omega) (by omega), h11 j hj]; exact h1 j hj
          · rw [d2 j (by omega) (by omega) (by omega) (by omega), hc1 j (by omega) (by omega) (by omega)]; exact hc j hj
      exact ⟨k + 1, lp k 0 μ (by omega) h.1.1 h.1.2.2.2.2.2.2 (fun _ _ => rfl) (fun _ _ => rfl)⟩
    · simp only [if_neg c2, true_and]; exact r3
  · simp only [if_neg c1, if_true, true_and]; exact r1
