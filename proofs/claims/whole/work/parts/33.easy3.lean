/-! as, bit, tell, the sheets -/
theorem isu_ok {k o : Nat} (hk : k < 7) (ho : o < 7) {Q : Int32 → vM → Prop} {μ : vM} (h : Q (if o = 0 ∨ o = k ∨ (o = 1 ∧ k = 4) ∨ (o = 2 ∧ k = 5) then 1 else 0) μ) : wp_X6_isOrIsUnder (nI k) (nI o) Q μ := by
  refine ⟨8, ?_⟩
  have e0 : nI 0 = 0 := rfl
  have e1 : nI 1 = 1 := rfl
  have e2 : nI 2 = 2 := rfl
  have e3 : nI 3 = 3 := rfl
  have e4 : nI 4 = 4 := rfl
  have e5 : nI 5 = 5 := rfl
  have e6 : nI 6 = 6 := rfl
  have v : ∀ i : Nat, i < 7 → vp_in (nI i) 7 := fun i hi => vp_in_nI hi (by decide)
  have v0 := v 0 (by decide)
  have v1 := v 1 (by decide)
  have v2 := v 2 (by decide)
  have v3 := v 3 (by decide)
  have v4 := v 4 (by decide)
  have v5 := v 5 (by decide)
  have v6 := v 6 (by decide)
  rw [e0] at v0; rw [e1] at v1; rw [e2] at v2; rw [e3] at v3; rw [e4] at v4; rw [e5] at v5; rw [e6] at v6
  have a0 : c_ABOVE (0 : Int32).toNatClampNeg = -1 := by decide
  have a1 : c_ABOVE (1 : Int32).toNatClampNeg = 0 := by decide
  have a2 : c_ABOVE (2 : Int32).toNatClampNeg = 0 := by decide
  have a3 : c_ABOVE (3 : Int32).toNatClampNeg = 0 := by decide
  have a4 : c_ABOVE (4 : Int32).toNatClampNeg = 1 := by decide
  have a5 : c_ABOVE (5 : Int32).toNatClampNeg = 2 := by decide
  have a6 : c_ABOVE (6 : Int32).toNatClampNeg = 0 := by decide
  have b0 : c_ABOVE 0 = -1 := by decide
  have b1 : c_ABOVE 1 = 0 := by decide
  have b2 : c_ABOVE 2 = 0 := by decide
  have b3 : c_ABOVE 3 = 0 := by decide
  have b4 : c_ABOVE 4 = 1 := by decide
  have b5 : c_ABOVE 5 = 2 := by decide
  have b6 : c_ABOVE 6 = 0 := by decide
  have hk' : k = 0 ∨ k = 1 ∨ k = 2 ∨ k = 3 ∨ k = 4 ∨ k = 5 ∨ k = 6 := by omega
  have ho' : o = 0 ∨ o = 1 ∨ o = 2 ∨ o = 3 ∨ o = 4 ∨ o = 5 ∨ o = 6 := by omega
  rcases hk' with rfl | rfl | rfl | rfl | rfl | rfl | rfl <;> rcases ho' with rfl | rfl | rfl | rfl | rfl | rfl | rfl <;>
    simp [wp_X6_isOrIsUnder_4, e0, e1, e2, e3, e4, e5, e6, v0, v1, v2, v3, v4, v5, v6, a0, a1, a2, a3, a4, a5, a6, b0, b1, b2, b3, b4, b5, b6] at h ⊢ <;> exact h
theorem sm_as_ok : sm_as Rl := by
  intro x o μ ν h
  obtain ⟨n, hn, e1, e2⟩ := rl_size h
  unfold wp_X6_as wp_X7_as
  simp only [sp_isBit6 hn e1, sp_isBit7 hn e2, e6_1, e7_1, in7_6]
  by_cases c1 : rg x n
  · obtain ⟨b, hb, rfl⟩ := rg_of c1
    have hb8 : b < 8 := by omega
    have w : vp_in (nI b) 8 := vp_in_nI hb8 (by decide)
    simp only [if_pos c1, if_neg (by decide : ¬ (1 : Int32) = 0), sp_of0 hb8]
    by_cases c2 : rg o 7
    · obtain ⟨i, hi, rfl⟩ := rg_of c2
      have l7 : nI i < (7 : Int32) := nI_lt (b := 7) hi (by decide)
      rw [if_neg (nI_pos (by omega)), if_pos l7]
      refine ⟨w, ?_⟩
      rw [nI_clamp (by omega), show μ 6 b = ν 1 (19 + 5 * b) from rl_at h hb8 (o := 0) (by decide)]
      obtain ⟨k, hk, ek⟩ := inb_to h.2.1.2.2.1 hb8 (i := 0) (by decide)
      have hk7 : k < 7 := hk
      have ek : ν 1 (19 + 5 * b) = nI k := ek
      rw [ek]
      refine isu_ok hk7 hi ?_
      have q0 : nI i = 0 ↔ i = 0 := nI_eq (b := 0) (by omega) (by decide)
      have q1 : nI i = 1 ↔ i = 1 := nI_eq (b := 1) (by omega) (by decide)
      have q2 : nI i = 2 ↔ i = 2 := nI_eq (b := 2) (by omega) (by decide)
      have qk : nI i = nI k ↔ i = k := nI_eq (by omega) (by omega)
      have k4 : nI k = 4 ↔ k = 4 := nI_eq (b := 4) (by omega) (by decide)
      have k5 : nI k = 5 ↔ k = 5 := nI_eq (b := 5) (by omega) (by decide)
      have m7 : μ 7 b = ν 1 (20 + 5 * b) := rl_at h hb8 (o := 1) (by decide)
      simp only [if_pos c2, if_neg (by decide : ¬ (1 : Int32) = 0), ek, q0, q1, q2, qk, k4, k5, wp_X7_as_61, wp_X7_as_51, wp_X7_as_65, wp_X7_as_66, if_true, e6_5, e7_5, sp_of1 hb8, m7, w, true_and]
      by_cases d : i = 0 ∨ i = k ∨ (i = 1 ∧ k = 4) ∨ (i = 2 ∧ k = 5)
      · rw [if_pos d, if_neg (by decide)]
        have d' := d
        simp only [h, and_true, true_and]
        split
        · trivial
        · split
          · trivial
          · split
            · split
              · trivial
              · split
                · split
                  · trivial
                  · omega
                · omega
            · split
              · split
                · trivial
                · omega
              · omega
      · rw [if_neg d, if_pos rfl]
        rw [if_neg (by omega), if_neg (by omega)]
        have r := rl_err (k := 5) (by decide) h
        split
        · rw [if_neg (by omega)]
          split
          · omega
          · exact r
        · split
          · rw [if_neg (by omega)]; exact r
          · exact r
    · have c3 : ¬ (¬ o < 0 ∧ o < 7) := by
        rintro ⟨h1, h2⟩
        exact c2 ((rg_iff (n := 7) (by decide)).mpr ⟨h1, fun h3 => by
          rw [Int32.lt_iff_toInt_lt] at h2; rw [Int32.le_iff_toInt_le] at h3
          have : (nI 7).toInt = (7 : Int32).toInt := rfl
          omega⟩)
      simp only [if_neg c2, if_true, true_and]
      have r := rl_err (k := 1) (by decide) h
      by_cases d1 : o < 0
      · rw [if_pos d1]; exact r
      · rw [if_neg d1, if_neg (fun d2 => c3 ⟨d1, d2⟩)]; exact r
  · simp only [if_neg c1, if_true, true_and]
    exact rl_err (by decide) h
theorem rl_rest {μ ν μ' ν' : vM} (h : Rl μ ν) (hc : ∀ j, j < 54 ∨ j = 57 ∨ j = 58 → μ' j = μ j) (hr : ∀ j, j < 5 ∨ 8 ≤ j → ν' j = ν j) (hs : sht μ' ν') : Rl μ' ν' := by
  have h' := h
  obtain ⟨a1, a2, a3, a4, a5, a6, a7, a8⟩ := h
  refine ⟨?_, by rw [hr 1 (by omega)]; exact a2, ?_, ?_, hs, ?_, ?_, ?_⟩
  · rw [hr 1 (by omega)]
    simp only [wld, hv, rd, lw] at a1 ⊢
    simp only [hc _ (Or.inl (by decide : (1 + 4) < 54)), hc _ (Or.inl (by decide : (1 + 4 + 1) < 54)), hc _ (Or.inl (by decide : (1 + 4 + 2) < 54)), hc _ (Or.inl (by decide : (1 + 4 + 3) < 54)), hc _ (Or.inl (by decide : (1 + 4 + 4) < 54)), hc _ (Or.inl (by decide : (1 + 4 + 5) < 54)), hc _ (Or.inl (by decide : (1 + 4 + 6) < 54)), hc _ (Or.inl (by decide : (1 + 1 + 1) < 54)), hc _ (Or.inl (by decide : (1 + 1 + 2) < 54)), hc _ (Or.inl (by decide : (1 + 11) < 54)), hc _ (Or.inl (by decide : (1 + 11 + 1) < 54)), hc _ (Or.inl (by decide : (1 + 14) < 54)), hc _ (Or.inl (by decide : (1 + 14 + 1) < 54)), hc _ (Or.inl (by decide : 1 < 54)), hc _ (Or.inl (by decide : (1 + 17) < 54)), hc _ (Or.inl (by decide : (1 + 18) < 54))]
    exact a1
  · exact kno_cg a3 (by rw [hr 0 (by omega)]) (hr 8 (by omega)) (fun i _ _ => by rw [hr 1 (by omega)])
  · unfold kpt at a4 ⊢
    rw [hc 0 (by omega), hr 0 (by omega), hr 2 (by omega)]
    refine ⟨a4.1, a4.2.imp id ?_⟩
    rintro ⟨b1, b2⟩
    refine ⟨?_, b2⟩
    simp only [wld, hv, rd, lw] at b1 ⊢
    simp only [hc _ (Or.inl (by decide : (20 + 4) < 54)), hc _ (Or.inl (by decide : (20 + 4 + 1) < 54)), hc _ (Or.inl (by decide : (20 + 4 + 2) < 54)), hc _ (Or.inl (by decide : (20 + 4 + 3) < 54)), hc _ (Or.inl (by decide : (20 + 4 + 4) < 54)), hc _ (Or.inl (by decide : (20 + 4 + 5) < 54)), hc _ (Or.inl (by decide : (20 + 4 + 6) < 54)), hc _ (Or.inl (by decide : (20 + 1 + 1) < 54)), hc _ (Or.inl (by decide : (20 + 1 + 2) < 54)), hc _ (Or.inl (by decide : (20 + 11) < 54)), hc _ (Or.inl (by decide : (20 + 11 + 1) < 54)), hc _ (Or.inl (by decide : (20 + 14) < 54)), hc _ (Or.inl (by decide : (20 + 14 + 1) < 54)), hc _ (Or.inl (by decide : 20 < 54)), hc _ (Or.inl (by decide : (20 + 17) < 54)), hc _ (Or.inl (by decide : (20 + 18) < 54))]
    exact b1
  · unfold trc; rw [hc 0 (by omega), hc 58 (by omega), hr 0 (by omega), hr 14 (by omega)]; exact a6
  · unfold err; rw [hc 57 (by omega), hr 4 (by omega)]; exact a7
  · unfold nms; rw [hc 12 (by omega), hc 15 (by omega)]; exact a8
theorem ix_sh (s i : Nat) : (24 : Int32) * nI s + nI i = nI (24 * s + i) ∧ nI s * (24 : Int32) + nI i = nI (24 * s + i) := by
  refine ⟨?_, ?_⟩
  · show nI 24 * nI s + nI i = _; rw [nI_mul, nI_add]
  · show nI s * nI 24 + nI i = _; rw [nI_mul, nI_add, Nat.mul_comm]
theorem sht_num {μ ν : vM} {k : Nat} {v : Int32} (h : sht μ ν) : sht (st μ 56 k v) (st ν 7 k v) := by
  refine ⟨fun s hs => ?_, fun i hi => ?_⟩
  · rw [st_ne (by decide), st_ne (by decide), st_ne (by decide), st_ne (by decide)]; exact h.1 s hs
  · rw [st_eq, st_eq]
    by_cases e : i = k
    · subst e; rw [upd_eq, upd_eq]
    · rw [upd_ne e, upd_ne e]; exact h.2 i hi
theorem rl_num {μ ν : vM} {k : Nat} {v : Int32} (h : Rl μ ν) : Rl (st μ 56 k v) (st ν 7 k v) :=
  rl_rest h (fun j hj => st_ne (by omega)) (fun j hj => st_ne (by omega)) (sht_num h.2.2.2.2.1)
/-- the two tests ahead of put, lays, judge, move -/
theorem sp_notThere {a : Int32} {Q : Int32 → vM → Prop} {ν : vM} : wp_X7_notThere a Q ν = if rg a 4 then (if ν 5 a.toNatClampNeg = 0 then Q (-1000000002) ν else Q 0 ν) else Q (-1000000001) ν := by
  unfold wp_X7_notThere
  rw [sp_isSheet7]
  by_cases c : rg a 4
  · obtain ⟨s, hs, rfl⟩ := rg_of c
    have w : vp_in (nI s) 4 := vp_in_nI hs (by decide)
    simp only [if_pos c, if_neg (by decide : ¬ (1 : Int32) = 0), w, true_and]
  · simp only [if_neg c, if_true]
theorem sm_put_ok : sm_put Rl := by
  intro a i v μ ν h
  unfold wp_X6_put wp_X7_put
  simp only [sp_isSheet6, sp_notThere, e6_1, e6_2]
  have hs5 := h.2.2.2.2.1
  by_cases c : rg a 4
  · obtain ⟨s, hs, rfl⟩ := rg_of c
    have w : vp_in (nI s) 4 := vp_in_nI hs (by decide)
    obtain ⟨t1, t2, t3, ⟨z, hz, t4⟩⟩ := hs5.1 s hs
    simp only [if_pos c, if_neg (by decide : ¬ (1 : Int32) = 0), wp_X4_isMissing, w, true_and, nI_clamp (show s < 2 ^ 31 by omega), Nat.reduceAdd, t1, t2, t4]
    by_cases d : ν 5 s = 0
    · simp only [if_pos d, if_neg (by decide : ¬ (1 : Int32) = 0), if_neg (by decide : ¬ (-1000000002 : Int32) = 0), wp_X7_put_33, wp_X7_put_35, e7_2, true_and]
      exact rl_err (by decide) h
    · simp only [if_neg d, if_pos, sp_in7 (n := z) (by omega) rfl]
      by_cases ci : rg i z
      · obtain ⟨j, hj, rfl⟩ := rg_of ci
        have w2 : vp_in (nI (24 * s + j)) 96 := vp_in_nI (by omega) (by decide)
        rw [if_neg (nI_pos (by omega)), if_pos (nI_lt hj (by omega))]
        simp only [if_pos ci, if_neg (by decide : ¬ (1 : Int32) = 0), wp_X4_write, wp_X4_write_33, wp_X7_put_33, wp_X7_put_35, if_true, w, true_and, nI_clamp (show s < 2 ^ 31 by omega), Nat.reduceAdd, t1, (ix_sh s j).1, (ix_sh s j).2, w2, nI_clamp (show 24 * s + j < 2 ^ 31 by omega), exists_eq_left]
        split
        · exact rl_num h
        · split
          · exact rl_num h
          · exact rl_num h
      · simp only [if_neg ci, if_true, if_neg (by decide : ¬ (-1000000001 : Int32) = 0), wp_X7_put_35, e7_1, true_and]
        have c2 := fun hh => ci ((rg_iff (n := z) (by omega)).mpr hh)
        have r := rl_err (k := 1) (by decide) h
        by_cases d1 : i < 0
        · rw [if_pos d1]; exact r
        · rw [if_neg d1, if_neg]
          · exact r
          · intro d2
            exact c2 ⟨d1, fun d3 => by rw [Int32.lt_iff_toInt_lt] at d2; rw [Int32.le_iff_toInt_le] at d3; omega⟩
  · simp only [if_neg c, if_true, if_neg (by decide : ¬ (-1000000001 : Int32) = 0), wp_X7_put_33, wp_X7_put_35, e7_1, true_and]
    exact rl_err (by decide) h
