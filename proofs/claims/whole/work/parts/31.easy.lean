/-! what the small methods do; the easy ones of the 37 -/
section SP
variable {Q : Int32 → vM → Prop} {V : vM → Prop} {μ ν : vM}
theorem rg_iff {a : Int32} {n : Nat} (hn : n < 2 ^ 31) : rg a n ↔ ¬ a < 0 ∧ ¬ nI n ≤ a := by
  rw [Int32.lt_iff_toInt_lt, Int32.le_iff_toInt_le, nI_toInt hn]
  have : (0 : Int32).toInt = 0 := by decide
  constructor
  · rintro ⟨h1, h2⟩; omega
  · rintro ⟨h1, h2⟩; constructor <;> omega
theorem sp_in7 {a : Int32} {n : Nat} (hn : n < 2 ^ 31) {h : Int32} (hh : h = nI n - 1) : wp_X7_in a 0 h Q μ = if rg a n then Q 1 μ else Q 0 μ := by
  unfold wp_X7_in
  have h0 : (0 : Int32).toInt = 0 := by decide
  have h1 : h.toInt = (n : Int) - 1 := by
    rw [hh, i_sub _ _ (by rw [nI_toInt hn]; have : (1 : Int32).toInt = 1 := by decide
                          omega) (by rw [nI_toInt hn]; have : (1 : Int32).toInt = 1 := by decide
                                     omega), nI_toInt hn]; rfl
  by_cases hr : rg a n
  · rw [if_pos hr, if_neg, if_neg]
    · rw [Int32.lt_iff_toInt_lt, h1]; have := hr.2; omega
    · rw [Int32.lt_iff_toInt_lt, h0]; have := hr.1; omega
  · rw [if_neg hr]
    by_cases ha : a < 0
    · rw [if_pos ha]; rfl
    · rw [if_neg ha, if_pos]
      · rfl
      · rw [Int32.lt_iff_toInt_lt, h0] at ha
        rw [Int32.lt_iff_toInt_lt, h1]
        have : ¬ (0 ≤ a.toInt ∧ a.toInt < n) := hr
        omega
theorem sp_in7b {a l h : Int32} : wp_X7_in a l h Q μ = if l.toInt ≤ a.toInt ∧ a.toInt ≤ h.toInt then Q 1 μ else Q 0 μ := by
  unfold wp_X7_in wp_X7_in_14
  by_cases c1 : a < l
  · have d1 := Int32.lt_iff_toInt_lt.mp c1
    rw [if_pos c1, if_neg (by omega)]
  · have d1 : ¬ a.toInt < l.toInt := fun z => c1 (Int32.lt_iff_toInt_lt.mpr z)
    rw [if_neg c1]
    by_cases c2 : h < a
    · have d2 := Int32.lt_iff_toInt_lt.mp c2
      rw [if_pos c2, if_neg (by omega)]
    · have d2 : ¬ h.toInt < a.toInt := fun z => c2 (Int32.lt_iff_toInt_lt.mpr z)
      rw [if_neg c2, if_pos (by omega)]
theorem in7_1 {a : Int32} : wp_X7_in a 0 1 Q μ = if rg a 2 then Q 1 μ else Q 0 μ := sp_in7 (n := 2) (by decide) (by decide)
theorem in7_2 {a : Int32} : wp_X7_in a 0 2 Q μ = if rg a 3 then Q 1 μ else Q 0 μ := sp_in7 (n := 3) (by decide) (by decide)
theorem in7_3 {a : Int32} : wp_X7_in a 0 3 Q μ = if rg a 4 then Q 1 μ else Q 0 μ := sp_in7 (n := 4) (by decide) (by decide)
theorem in7_6 {a : Int32} : wp_X7_in a 0 6 Q μ = if rg a 7 then Q 1 μ else Q 0 μ := sp_in7 (n := 7) (by decide) (by decide)
theorem in7_7 {a : Int32} : wp_X7_in a 0 7 Q μ = if rg a 8 then Q 1 μ else Q 0 μ := sp_in7 (n := 8) (by decide) (by decide)
theorem in7_9 {a : Int32} : wp_X7_in a 0 9 Q μ = if rg a 10 then Q 1 μ else Q 0 μ := sp_in7 (n := 10) (by decide) (by decide)
theorem in7_30 {a : Int32} : wp_X7_in a 0 30 Q μ = if rg a 31 then Q 1 μ else Q 0 μ := sp_in7 (n := 31) (by decide) (by decide)
theorem in7_60 {a : Int32} : wp_X7_in a 0 60 Q μ = if rg a 61 then Q 1 μ else Q 0 μ := sp_in7 (n := 61) (by decide) (by decide)
theorem in7_69 {a : Int32} : wp_X7_in a 0 69 Q μ = if rg a 70 then Q 1 μ else Q 0 μ := sp_in7 (n := 70) (by decide) (by decide)
theorem in7_999 {a : Int32} : wp_X7_in a 0 999 Q μ = if rg a 1000 then Q 1 μ else Q 0 μ := sp_in7 (n := 1000) (by decide) (by decide)
theorem in7_9999 {a : Int32} : wp_X7_in a 0 9999 Q μ = if rg a 10000 then Q 1 μ else Q 0 μ := sp_in7 (n := 10000) (by decide) (by decide)
theorem sp_lo {a : Int32} {n : Nat} (hn : n < 2 ^ 31) {k : Int32} (hk : k = nI n) {A B : Prop} : (if a < 0 then A else if k ≤ a then A else B) = if rg a n then B else A := by
  subst hk
  by_cases hr : rg a n
  · have := (rg_iff hn).mp hr
    rw [if_neg this.1, if_neg this.2, if_pos hr]
  · rw [if_neg hr]
    by_cases h1 : a < 0
    · rw [if_pos h1]
    · rw [if_neg h1, if_pos]
      by_cases h2 : nI n ≤ a
      · exact h2
      · exact absurd ((rg_iff hn).mpr ⟨h1, h2⟩) hr
theorem sp_hi {a : Int32} {n : Nat} (hn : n + 1 < 2 ^ 31) {k : Int32} (hk : k = nI n) {A B : Prop} : (if a < 0 then A else if a ≤ k then B else A) = if rg a (n + 1) then B else A := by
  subst hk
  have h0 : (0 : Int32).toInt = 0 := by decide
  by_cases hr : rg a (n + 1)
  · rw [if_pos hr, if_neg, if_pos]
    · rw [Int32.le_iff_toInt_le, nI_toInt (by omega)]; have := hr.2; omega
    · rw [Int32.lt_iff_toInt_lt, h0]; have := hr.1; omega
  · rw [if_neg hr]
    by_cases h1 : a < 0
    · rw [if_pos h1]
    · rw [if_neg h1, if_neg]
      rw [Int32.lt_iff_toInt_lt, h0] at h1
      rw [Int32.le_iff_toInt_le, nI_toInt (by omega)]
      have : ¬ (0 ≤ a.toInt ∧ a.toInt < (n + 1 : Nat)) := hr
      omega
theorem sp_isPlace6 {a : Int32} : wp_X6_isPlace a Q μ = if rg a 10 then Q 1 μ else Q 0 μ := by
  unfold wp_X6_isPlace wp_X6_isPlace_14; exact sp_lo (n := 10) (by decide) rfl
theorem sp_isField6 {a : Int32} : wp_X6_isField a Q μ = if rg a 4 then Q 1 μ else Q 0 μ := by
  unfold wp_X6_isField wp_X6_isField_13; exact sp_lo (n := 4) (by decide) rfl
theorem sp_isKm6 {a : Int32} : wp_X6_isKindAndM a Q μ = if rg a 70 then Q 1 μ else Q 0 μ := by
  unfold wp_X6_isKindAndM wp_X6_isKindAndM_14; exact sp_lo (n := 70) (by decide) rfl
theorem sp_isUse6 {a : Int32} : wp_X6_isUse a Q μ = if rg a 2 then Q 1 μ else Q 0 μ := by
  unfold wp_X6_isUse wp_X6_isUse_13; exact sp_lo (n := 2) (by decide) rfl
theorem sp_isSheet6 {a : Int32} : wp_X6_isSheet a Q μ = if rg a 4 then Q 1 μ else Q 0 μ := by
  unfold wp_X6_isSheet wp_X6_isSheet_13; exact sp_lo (n := 4) (by decide) rfl
theorem bz0 : bz 0 := Or.inl rfl
theorem bz1 : bz 1 := Or.inr rfl
theorem sp_isPlace7 {a : Int32} : wp_X7_isPlace a Q μ = if rg a 10 then Q 1 μ else Q 0 μ := by
  unfold wp_X7_isPlace; rw [sp_in7 (n := 10) (by decide) (by decide)]; simp only [bz0, bz1, true_and]
theorem sp_isField7 {a : Int32} : wp_X7_isField a Q μ = if rg a 4 then Q 1 μ else Q 0 μ := by
  unfold wp_X7_isField; rw [sp_in7 (n := 4) (by decide) (by decide)]; simp only [bz0, bz1, true_and]
theorem sp_isKm7 {a : Int32} : wp_X7_isKm a Q μ = if rg a 70 then Q 1 μ else Q 0 μ := by
  unfold wp_X7_isKm; rw [sp_in7 (n := 70) (by decide) (by decide)]; simp only [bz0, bz1, true_and]
theorem sp_isSheet7 {a : Int32} : wp_X7_isSheet a Q μ = if rg a 4 then Q 1 μ else Q 0 μ := by
  unfold wp_X7_isSheet; rw [sp_in7 (n := 4) (by decide) (by decide)]; simp only [bz0, bz1, true_and]
theorem sp_isBit6 {a : Int32} {n : Nat} (hn : n < 9) (h : μ 5 0 = nI n) : wp_X6_isBit a Q μ = if rg a n then Q 1 μ else Q 0 μ := by
  unfold wp_X6_isBit wp_X6_isBit_22; exact sp_lo (by omega) h
theorem sp_isBit7 {a : Int32} {n : Nat} (hn : n < 9) (h : μ 1 2 = nI n) : wp_X7_isBit a Q μ = if rg a n then Q 1 μ else Q 0 μ := by
  have e : (2 : Int32).toNatClampNeg = 2 := by decide
  have v : vp_in (2 : Int32) 385 := by unfold vp_in; decide
  unfold wp_X7_isBit; rw [e, h, sp_in7 (n := n) (by omega) rfl]; simp only [bz0, bz1, true_and, v]
-- errors
theorem sp_err6 {k : Nat} (hk : k < 7) {e a : Int32} (ha : a = nI k) (he : (-1000000000 : Int32) - nI k = e) : wp_X6_error a Q μ = Q e (st μ 57 k (μ 57 k + 1)) := by
  subst ha; subst he
  unfold wp_X6_error
  have v : vp_in (nI k) 7 := vp_in_nI hk (by decide)
  rw [nI_clamp (by omega)]; simp only [v, true_and, exists_eq_left]
theorem sp_err7 {k : Nat} (hk : k < 7) {e : Int32} (he : (-1000000000 : Int32) - e = nI k) : wp_X7_error e Q μ = Q e (st μ 4 k (μ 4 k + 1)) := by
  unfold wp_X7_error
  have v : vp_in (nI k) 7 := vp_in_nI hk (by decide)
  rw [he, nI_clamp (by omega)]; simp only [v, true_and, exists_eq_left]
theorem e6_1 : wp_X6_error 1 Q μ = Q (-1000000001) (st μ 57 1 (μ 57 1 + 1)) := sp_err6 (k := 1) (by decide) rfl (by decide)
theorem e6_2 : wp_X6_error 2 Q μ = Q (-1000000002) (st μ 57 2 (μ 57 2 + 1)) := sp_err6 (k := 2) (by decide) rfl (by decide)
theorem e6_3 : wp_X6_error 3 Q μ = Q (-1000000003) (st μ 57 3 (μ 57 3 + 1)) := sp_err6 (k := 3) (by decide) rfl (by decide)
theorem e6_4 : wp_X6_error 4 Q μ = Q (-1000000004) (st μ 57 4 (μ 57 4 + 1)) := sp_err6 (k := 4) (by decide) rfl (by decide)
theorem e6_5 : wp_X6_error 5 Q μ = Q (-1000000005) (st μ 57 5 (μ 57 5 + 1)) := sp_err6 (k := 5) (by decide) rfl (by decide)
theorem e6_6 : wp_X6_error 6 Q μ = Q (-1000000006) (st μ 57 6 (μ 57 6 + 1)) := sp_err6 (k := 6) (by decide) rfl (by decide)
theorem e7_1 : wp_X7_error (-1000000001) Q μ = Q (-1000000001) (st μ 4 1 (μ 4 1 + 1)) := sp_err7 (k := 1) (by decide) (by decide)
theorem e7_2 : wp_X7_error (-1000000002) Q μ = Q (-1000000002) (st μ 4 2 (μ 4 2 + 1)) := sp_err7 (k := 2) (by decide) (by decide)
theorem e7_3 : wp_X7_error (-1000000003) Q μ = Q (-1000000003) (st μ 4 3 (μ 4 3 + 1)) := sp_err7 (k := 3) (by decide) (by decide)
theorem e7_4 : wp_X7_error (-1000000004) Q μ = Q (-1000000004) (st μ 4 4 (μ 4 4 + 1)) := sp_err7 (k := 4) (by decide) (by decide)
theorem e7_5 : wp_X7_error (-1000000005) Q μ = Q (-1000000005) (st μ 4 5 (μ 4 5 + 1)) := sp_err7 (k := 5) (by decide) (by decide)
theorem e7_6 : wp_X7_error (-1000000006) Q μ = Q (-1000000006) (st μ 4 6 (μ 4 6 + 1)) := sp_err7 (k := 6) (by decide) (by decide)
-- the row
theorem sp_becomes {k : Nat} (hk : k < 385) {a v : Int32} (ha : a = nI k) : wp_X7_becomes a v Q μ = Q (μ 1 k) (st μ 1 k v) := by
  subst ha
  have w : vp_in (nI k) 385 := vp_in_nI hk (by decide)
  unfold wp_X7_becomes; rw [nI_clamp (by omega)]; simp only [w, true_and, exists_eq_left]
theorem ix_row (b k : Nat) : ((19 : Int32) + ((5 : Int32) * nI b)) + nI k = nI (19 + 5 * b + k) := by
  show (nI 19 + nI 5 * nI b) + nI k = _
  rw [nI_mul, nI_add, nI_add]
theorem sp_of {b k : Nat} (hb : b < 8) (hk : k < 5) {c : Int32} (hc : c = nI k) : wp_X7_of (nI b) c Q μ = Q (μ 1 (19 + 5 * b + k)) μ := by
  subst hc
  unfold wp_X7_of
  rw [ix_row, nI_clamp (by omega)]
  have w : vp_in (nI (19 + 5 * b + k)) 385 := vp_in_nI (by omega) (by decide)
  simp only [w, true_and]
theorem sp_lets {b k : Nat} (hb : b < 8) (hk : k < 5) {c v : Int32} (hc : c = nI k) : wp_X7_lets (nI b) c v V μ = V (st μ 1 (19 + 5 * b + k) v) := by
  subst hc
  unfold wp_X7_lets
  rw [ix_row, nI_clamp (by omega)]
  have w : vp_in (nI (19 + 5 * b + k)) 385 := vp_in_nI (by omega) (by decide)
  simp only [w, true_and, exists_eq_left]
theorem sp_of0 {b : Nat} (hb : b < 8) : wp_X7_of (nI b) 0 Q μ = Q (μ 1 (19 + 5 * b)) μ := sp_of (k := 0) hb (by decide) rfl
theorem sp_of1 {b : Nat} (hb : b < 8) : wp_X7_of (nI b) 1 Q μ = Q (μ 1 (20 + 5 * b)) μ := by rw [sp_of (k := 1) (c := 1) hb (by decide) rfl, show 19 + 5 * b + 1 = 20 + 5 * b by omega]
theorem sp_of2 {b : Nat} (hb : b < 8) : wp_X7_of (nI b) 2 Q μ = Q (μ 1 (21 + 5 * b)) μ := by rw [sp_of (k := 2) (c := 2) hb (by decide) rfl, show 19 + 5 * b + 2 = 21 + 5 * b by omega]
theorem sp_of3 {b : Nat} (hb : b < 8) : wp_X7_of (nI b) 3 Q μ = Q (μ 1 (22 + 5 * b)) μ := by rw [sp_of (k := 3) (c := 3) hb (by decide) rfl, show 19 + 5 * b + 3 = 22 + 5 * b by omega]
theorem sp_of4 {b : Nat} (hb : b < 8) : wp_X7_of (nI b) 4 Q μ = Q (μ 1 (23 + 5 * b)) μ := by rw [sp_of (k := 4) (c := 4) hb (by decide) rfl, show 19 + 5 * b + 4 = 23 + 5 * b by omega]
theorem sp_lets0 {b : Nat} (hb : b < 8) {v : Int32} : wp_X7_lets (nI b) 0 v V μ = V (st μ 1 (19 + 5 * b) v) := sp_lets (k := 0) hb (by decide) rfl
theorem sp_lets1 {b : Nat} (hb : b < 8) {v : Int32} : wp_X7_lets (nI b) 1 v V μ = V (st μ 1 (20 + 5 * b) v) := by rw [sp_lets (k := 1) (c := 1) hb (by decide) rfl, show 19 + 5 * b + 1 = 20 + 5 * b by omega]
theorem sp_lets2 {b : Nat} (hb : b < 8) {v : Int32} : wp_X7_lets (nI b) 2 v V μ = V (st μ 1 (21 + 5 * b) v) := by rw [sp_lets (k := 2) (c := 2) hb (by decide) rfl, show 19 + 5 * b + 2 = 21 + 5 * b by omega]
theorem sp_lets3 {b : Nat} (hb : b < 8) {v : Int32} : wp_X7_lets (nI b) 3 v V μ = V (st μ 1 (22 + 5 * b) v) := by rw [sp_lets (k := 3) (c := 3) hb (by decide) rfl, show 19 + 5 * b + 3 = 22 + 5 * b by omega]
theorem sp_lets4 {b : Nat} (hb : b < 8) {v : Int32} : wp_X7_lets (nI b) 4 v V μ = V (st μ 1 (23 + 5 * b) v) := by rw [sp_lets (k := 4) (c := 4) hb (by decide) rfl, show 19 + 5 * b + 4 = 23 + 5 * b by omega]
end SP
-- the relation behind a change of the world that stands now
theorem kno_cg {ν ν' : vM} (h : kno ν) (h0 : ν' 0 9 = ν 0 9) (h8 : ν' 8 = ν 8) (hw : ∀ i, 9 ≤ i → i < 19 → ν' 1 i = ν 1 i) : kno ν' := by
  refine ⟨by rw [h0]; exact h.1, fun hk p hp q hq => ?_⟩
  rw [h8]; exact isD_cg hw hp (h.2 (by rw [← h0]; exact hk) p hp q hq)
theorem rl_now {μ ν μ' ν' : vM} (h : Rl μ ν) (hc : ∀ j, j = 0 ∨ (20 ≤ j ∧ j < 39) ∨ 53 ≤ j → μ' j = μ j) (hr : ∀ j, j = 2 ∨ (4 ≤ j ∧ j < 8) ∨ j = 14 → ν' j = ν j) (hr0 : ν' 0 3 = ν 0 3 ∧ ν' 0 21 = ν 0 21) (hk : kno ν') (hw : wld 1 μ' (ν' 1)) (hi : inv (ν' 1)) (hn : nms μ') : Rl μ' ν' := by
  obtain ⟨h1, h2, h3, h4, h5, h6, h7, h8⟩ := h
  have c0 := hc 0 (by omega)
  have cK : ∀ i, i < 19 → μ' (20 + i) = μ (20 + i) := fun i hi => hc _ (by omega)
  have c53 : ∀ j, 53 ≤ j → μ' j = μ j := fun j hj => hc _ (by omega)
  refine ⟨hw, hi, hk, ⟨by rw [c0, hr0.1]; exact h4.1, ?_⟩, ?_, ?_, ?_, hn⟩
  · rw [hr0.1, hr 2 (by omega)]
    refine h4.2.imp id ?_
    rintro ⟨⟨a1, a2, a3, a4, a5, a6, a7⟩, b⟩
    refine ⟨⟨hv_cg a1 (fun i hi => by rw [Nat.add_assoc]; exact cK (4 + i) (by omega)) ⟨rfl, rfl, fun _ _ _ => rfl, fun _ _ _ => rfl⟩, rd_cg a2 (cK 2 (by omega)) (cK 3 (by omega)) (fun _ _ _ => rfl), lw_cg a3 (by rw [cK 11 (by omega)]) (cK 12 (by omega)) (fun _ _ _ => rfl), lw_cg a4 (by rw [cK 14 (by omega)]) (cK 15 (by omega)) (fun _ _ _ => rfl), ?_, ?_, ?_⟩, b⟩
    · have := cK 0 (by omega); rw [Nat.add_zero] at this; rw [this, cK 17 (by omega)]; exact a5
    · have := cK 0 (by omega); rw [Nat.add_zero] at this; rw [this, cK 18 (by omega)]; exact a6
    · have := cK 0 (by omega); rw [Nat.add_zero] at this; rw [this]; exact a7
  · unfold sht; rw [c53 54 (by omega), c53 55 (by omega), c53 56 (by omega), hr 5 (by omega), hr 6 (by omega), hr 7 (by omega)]; exact h5
  · unfold trc; rw [c0, c53 58 (by omega), hr0.2, hr 14 (by omega)]; exact h6
  · unfold err; rw [c53 57 (by omega), hr 4 (by omega)]; exact h7
theorem wld_hv {w : Nat} {μ μ' : vM} {ρ ρ' : Nat → Int32} (a : wld w μ ρ) (b : hv (w + 4) μ' ρ') (hc : ∀ i, i < 4 ∨ i = 11 ∨ i = 12 ∨ i = 14 ∨ i = 15 ∨ i = 17 ∨ i = 18 → μ' (w + i) = μ (w + i)) (hρ : ∀ i, i = 1 ∨ i = 3 ∨ i = 4 ∨ (9 ≤ i ∧ i < 19) ∨ 59 ≤ i → ρ' i = ρ i) : wld w μ' ρ' := by
  obtain ⟨a1, a2, a3, a4, a5, a6, a7⟩ := a
  have c0 : μ' w = μ w := hc 0 (by omega)
  refine ⟨b, rd_cg a2 (hc 2 (by omega)) (hc 3 (by omega)) (fun i h1 h2 => hρ i (by omega)), lw_cg a3 (by rw [hc 11 (by omega)]) (hc 12 (by omega)) (fun i h1 h2 => hρ i (by omega)), lw_cg a4 (by rw [hc 14 (by omega)]) (hc 15 (by omega)) (fun i h1 h2 => hρ i (by omega)), ⟨by rw [c0, hρ 3 (by omega)]; exact a5.1, fun i hi => by rw [hc 17 (by omega), hρ (59 + i) (by omega)]; exact a5.2 i hi⟩, ⟨by rw [c0, hρ 4 (by omega)]; exact a6.1, fun i hi => by rw [hc 18 (by omega), hρ (119 + i) (by omega)]; exact a6.2 i hi⟩, by rw [c0, hρ 1 (by omega)]; exact a7⟩
theorem inv_hv {ρ ρ' : Nat → Int32} (a : inv ρ) (h2 : lt (ρ' 2) 9) (h0 : lt (ρ' 0) 10000) (hb : inb ρ') (hf : ∀ f, f < 4 → lt (ρ' (5 + f)) 10) (hρ : ∀ i, i = 1 ∨ i = 3 ∨ i = 4 ∨ (9 ≤ i ∧ i < 19) ∨ 59 ≤ i → ρ' i = ρ i) : inv ρ' := by
  obtain ⟨a1, a2, a3, a4, a5, a6, a7, a8, a9, a10⟩ := a
  exact ⟨h2, h0, hb, hf, inw_cg a5 (fun i h1 h2 => hρ i (by omega)), by rw [hρ 3 (by omega)]; exact a6, by rw [hρ 4 (by omega)]; exact a7, fun i hi => by rw [hρ (59 + i) (by omega)]; exact a8 i hi, wf_cg a9 (fun i h1 h2 => hρ i (by omega)), wf_cg a10 (fun i h1 h2 => hρ i (by omega))⟩
/-- a slot of the harvest's: the class's cell c, slot i; the reference's row at k -/
theorem rl_hv {μ ν μ' ν' : vM} (h : Rl μ ν) (hc : ∀ j, j < 5 ∨ (12 ≤ j ∧ j < 39) ∨ 53 ≤ j → μ' j = μ j) (hr : ∀ j, j ≠ 1 → ν' j = ν j) (b : hv 5 μ' (ν' 1)) (h2 : lt (ν' 1 2) 9) (h0 : lt (ν' 1 0) 10000) (hb : inb (ν' 1)) (hf : ∀ f, f < 4 → lt (ν' 1 (5 + f)) 10) (hρ : ∀ i, i = 1 ∨ i = 3 ∨ i = 4 ∨ (9 ≤ i ∧ i < 19) ∨ 59 ≤ i → ν' 1 i = ν 1 i) : Rl μ' ν' := by
  have h' := h
  obtain ⟨a1, a2, a3, a4, a5, a6, a7, a8⟩ := h
  refine rl_now h' (fun j hj => hc j (by omega)) (fun j hj => hr j (by omega)) (by rw [hr 0 (by decide)]; exact ⟨rfl, rfl⟩) (kno_cg a3 (by rw [hr 0 (by decide)]) (hr 8 (by decide)) (fun i h1 h2 => hρ i (by omega))) (wld_hv a1 b (fun i hi => hc (1 + i) (by omega)) hρ) (inv_hv a2 h2 h0 hb hf hρ) ?_
  unfold nms; rw [hc 12 (by omega), hc 15 (by omega)]; exact a8
theorem sm_seed_ok : sm_seed Rl := by
  intro v μ ν h
  unfold wp_X6_seed wp_X7_seed
  simp only [exists_eq_left]
  rw [sp_becomes (k := 1) (a := 1) (by decide) rfl]
  have h' := h
  obtain ⟨⟨w1, w2, w3, w4, w5, w6, w7⟩, a2, a3, a4, a5, a6, a7, a8⟩ := h
  refine ⟨w7, ?_⟩
  have m1 : ∀ i, st μ 1 8 v i = if i = 1 then upd (μ 1) 8 v else μ i := fun i => rfl
  refine rl_now h' (fun j hj => st_ne (by omega)) (fun j hj => st_ne (by omega)) ⟨by rw [st_ne (by decide)], by rw [st_ne (by decide)]⟩ (kno_cg a3 (by rw [st_ne (by decide)]) (st_ne (by decide)) (fun i h1 h2 => by rw [st_eq, upd_ne (by omega)])) ?_ ?_ ?_
  · rw [st_eq]
    refine ⟨hv_cg w1 (fun i hi => st_ne (by omega)) ⟨upd_ne (by omega), upd_ne (by omega), fun i _ _ => upd_ne (by omega), fun i _ _ => upd_ne (by omega)⟩, rd_cg w2 (st_ne (by decide)) (st_ne (by decide)) (fun i _ _ => upd_ne (by omega)), lw_cg w3 (by rw [st_ne (by decide)]) (st_ne (by decide)) (fun i _ _ => upd_ne (by omega)), lw_cg w4 (by rw [st_ne (by decide)]) (st_ne (by decide)) (fun i _ _ => upd_ne (by omega)), ⟨by rw [st_eq, upd_ne (by decide), upd_ne (by decide)]; exact w5.1, fun i hi => by rw [st_ne (by decide), upd_ne (by omega)]; exact w5.2 i hi⟩, ⟨by rw [st_eq, upd_ne (by decide), upd_ne (by decide)]; exact w6.1, fun i hi => by rw [st_ne (by decide), upd_ne (by omega)]; exact w6.2 i hi⟩, by rw [st_eq, upd_eq, upd_eq]⟩
  · rw [st_eq]
    obtain ⟨b1, b2, b3, b4, b5, b6, b7, b8, b9, b10⟩ := a2
    refine ⟨by rw [upd_ne (by decide)]; exact b1, by rw [upd_ne (by decide)]; exact b2, fun b hb => ?_, fun f hf => by rw [upd_ne (by omega)]; exact b4 f hf, inw_cg b5 (fun i _ _ => upd_ne (by omega)), by rw [upd_ne (by decide)]; exact b6, by rw [upd_ne (by decide)]; exact b7, fun i hi => by rw [upd_ne (by omega)]; exact b8 i hi, wf_cg b9 (fun i _ _ => upd_ne (by omega)), wf_cg b10 (fun i _ _ => upd_ne (by omega))⟩
    rw [upd_ne (by omega), upd_ne (by omega), upd_ne (by omega), upd_ne (by omega), upd_ne (by omega)]; exact b3 b hb
  · unfold nms; rw [st_ne (by decide), st_ne (by decide)]; exact a8
theorem sm_told_ok : sm_told Rl := by
  intro k μ ν h
  unfold wp_X6_told wp_X7_told wp_X7_in wp_X7_in_14
  simp only [e6_1, e7_1]
  have h1 : (1 : Int32).toInt = 1 := by decide
  have h6 : (6 : Int32).toInt = 6 := by decide
  by_cases c1 : k < 1
  · simp only [if_pos c1, if_true, true_and]; exact rl_err (by decide) h
  · by_cases c2 : k ≤ 6
    · have c3 : ¬ 6 < k := by rw [Int32.lt_iff_toInt_lt]; rw [Int32.le_iff_toInt_le] at c2; omega
      have c4 : rg k 7 := by
        rw [Int32.lt_iff_toInt_lt] at c1; rw [Int32.le_iff_toInt_le] at c2; constructor <;> omega
      obtain ⟨i, hi, rfl⟩ := rg_of c4
      have v : vp_in (nI i) 7 := vp_in_nI hi (by decide)
      simp only [if_neg c1, if_pos c2, if_neg c3, v, true_and]
      rw [if_neg (by decide)]
      refine ⟨?_, h⟩
      rw [nI_clamp (by omega)]; exact h.2.2.2.2.2.2.1 i hi
    · have c3 : 6 < k := by rw [Int32.lt_iff_toInt_lt]; rw [Int32.le_iff_toInt_le] at c2; omega
      simp only [if_neg c1, if_neg c2, if_pos c3, if_true, true_and]; exact rl_err (by decide) h
theorem sm_day_ok : sm_day Rl := by
  intro v μ ν h
  unfold wp_X6_day wp_X7_day
  rw [sp_hi (n := 9999) (k := 9999) (by decide) rfl]
  simp only [e6_1, e7_1, exists_eq_left, in7_9999]
  by_cases c : rg v 10000
  · rw [if_pos c, if_pos c, if_neg (by decide), sp_becomes (k := 0) (a := 0) (by decide) rfl]
    obtain ⟨i, hi, rfl⟩ := rg_of c
    have h' := h
    obtain ⟨⟨w1, w2, w3, w4, w5, w6, w7⟩, a2, a3, a4, a5, a6, a7, a8⟩ := h
    refine ⟨w1.2.1, rl_hv h' (fun j hj => st_ne (by omega)) (fun j hj => st_ne hj) ?_ ?_ ?_ ?_ ?_ ?_⟩
    · rw [st_eq]
      obtain ⟨x1, x2, x3, x4⟩ := w1
      refine ⟨by rw [st_eq, upd_ne (by decide), upd_ne (by decide)]; exact x1, by rw [st_eq, upd_eq, upd_eq], fun b hb => ?_, fun f hf => by rw [st_ne (by decide), upd_ne (by omega)]; exact x4 f hf⟩
      rw [st_ne (by decide), st_ne (by decide), st_ne (by decide), st_ne (by decide), st_ne (by decide), upd_ne (by omega), upd_ne (by omega), upd_ne (by omega), upd_ne (by omega), upd_ne (by omega)]; exact x3 b hb
    · rw [st_eq, upd_ne (by decide)]; exact a2.1
    · rw [st_eq, upd_eq]; exact ⟨i, hi, rfl⟩
    · rw [st_eq]; intro b hb; rw [upd_ne (by omega), upd_ne (by omega), upd_ne (by omega), upd_ne (by omega), upd_ne (by omega)]; exact a2.2.2.1 b hb
    · rw [st_eq]; intro f hf; rw [upd_ne (by omega)]; exact a2.2.2.2.1 f hf
    · intro i hi; rw [st_eq, upd_ne (by omega)]
  · rw [if_neg c]
    simp only [if_neg c, if_true, true_and]; exact rl_err (by decide) h
