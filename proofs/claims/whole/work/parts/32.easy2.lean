/-! more of the easy ones -/
def bd (i : Nat) : Nat := [7, 10, 4, 10, 10].getD i 0
theorem hv_to {h : Nat} {μ : vM} {ρ : Nat → Int32} (a : hv h μ ρ) {b i : Nat} (hb : b < 8) (hi : i < 5) : μ (h + (1 + i)) b = ρ (19 + i + 5 * b) := by
  obtain ⟨a1, a2, a3, a4, a5⟩ := a.2.2.1 b hb
  rcases (show i = 0 ∨ i = 1 ∨ i = 2 ∨ i = 3 ∨ i = 4 by omega) with rfl | rfl | rfl | rfl | rfl
  · exact a1
  · exact a2
  · exact a3
  · exact a4
  · exact a5
theorem hv_of {h : Nat} {μ : vM} {ρ : Nat → Int32} (h1 : μ h 0 = ρ 2) (h2 : μ h 1 = ρ 0) (h3 : ∀ b, b < 8 → ∀ i, i < 5 → μ (h + (1 + i)) b = ρ (19 + i + 5 * b)) (h4 : ∀ f, f < 4 → μ (h + 6) f = ρ (5 + f)) : hv h μ ρ :=
  ⟨h1, h2, fun b hb => ⟨h3 b hb 0 (by decide), h3 b hb 1 (by decide), h3 b hb 2 (by decide), h3 b hb 3 (by decide), h3 b hb 4 (by decide)⟩, h4⟩
theorem inb_to {ρ : Nat → Int32} (a : inb ρ) {b i : Nat} (hb : b < 8) (hi : i < 5) : lt (ρ (19 + i + 5 * b)) (bd i) := by
  obtain ⟨a1, a2, a3, a4, a5⟩ := a b hb
  rcases (show i = 0 ∨ i = 1 ∨ i = 2 ∨ i = 3 ∨ i = 4 by omega) with rfl | rfl | rfl | rfl | rfl
  · exact a1
  · exact a2
  · exact a3
  · exact a4
  · exact a5
theorem inb_of {ρ : Nat → Int32} (h : ∀ b, b < 8 → ∀ i, i < 5 → lt (ρ (19 + i + 5 * b)) (bd i)) : inb ρ :=
  fun b hb => ⟨h b hb 0 (by decide), h b hb 1 (by decide), h b hb 2 (by decide), h b hb 3 (by decide), h b hb 4 (by decide)⟩
theorem hv_slot {h : Nat} {μ : vM} {ρ : Nat → Int32} {o b : Nat} {v : Int32} (ho : o < 5) (hb : b < 8) (a : hv h μ ρ) : hv h (st μ (h + (1 + o)) b v) (upd ρ (19 + o + 5 * b) v) := by
  refine hv_of ?_ ?_ ?_ ?_
  · rw [st_ne (by omega), upd_ne (by omega)]; exact a.1
  · rw [st_ne (by omega), upd_ne (by omega)]; exact a.2.1
  · intro b' hb' i hi
    by_cases hio : i = o
    · subst hio
      rw [st_eq]
      by_cases hbb : b' = b
      · subst hbb; rw [upd_eq, upd_eq]
      · rw [upd_ne hbb, upd_ne (by omega)]; exact hv_to a hb' hi
    · rw [st_ne (by omega), upd_ne (by omega)]; exact hv_to a hb' hi
  · intro f hf; rw [st_ne (by omega), upd_ne (by omega)]; exact a.2.2.2 f hf
theorem inb_slot {ρ : Nat → Int32} {o b : Nat} {v : Int32} (ho : o < 5) (hv : lt v (bd o)) (a : inb ρ) : inb (upd ρ (19 + o + 5 * b) v) := by
  refine inb_of fun b' hb' i hi => ?_
  by_cases hk : 19 + i + 5 * b' = 19 + o + 5 * b
  · have : i = o := by omega
    subst this
    rw [hk, upd_eq]; exact hv
  · rw [upd_ne hk]; exact inb_to a hb' hi
theorem rl_slot {μ ν : vM} {o b : Nat} {v : Int32} (ho : o < 5) (hb : b < 8) (hv : lt v (bd o)) (h : Rl μ ν) : Rl (st μ (5 + (1 + o)) b v) (st ν 1 (19 + o + 5 * b) v) := by
  refine rl_hv h (fun j hj => st_ne (by omega)) (fun j hj => st_ne hj) ?_ ?_ ?_ ?_ ?_ ?_
  · rw [st_eq]; exact hv_slot ho hb h.1.1
  · rw [st_eq, upd_ne (by omega)]; exact h.2.1.1
  · rw [st_eq, upd_ne (by omega)]; exact h.2.1.2.1
  · rw [st_eq]; exact inb_slot ho hv h.2.1.2.2.1
  · rw [st_eq]; intro f hf; rw [upd_ne (by omega)]; exact h.2.1.2.2.2.1 f hf
  · intro i hi; rw [st_eq, upd_ne (by omega)]
theorem rl_size {μ ν : vM} (h : Rl μ ν) : ∃ n, n < 9 ∧ μ 5 0 = nI n ∧ ν 1 2 = nI n := by
  obtain ⟨n, hn, e⟩ := h.2.1.1
  exact ⟨n, hn, by rw [← e]; exact h.1.1.1, e⟩
theorem rl_at {μ ν : vM} (h : Rl μ ν) {o b : Nat} (hb : b < 8) (ho : o < 5) : μ (5 + (1 + o)) b = ν 1 (19 + o + 5 * b) := hv_to h.1.1 hb ho
theorem sm_hears_ok : sm_hears Rl := by
  intro x v μ ν h
  obtain ⟨n, hn, e1, e2⟩ := rl_size h
  unfold wp_X6_hears wp_X7_hears wp_X7_hears_34
  simp only [sp_isBit6 hn e1, sp_isBit7 hn e2, e6_1, e7_1, in7_9, exists_eq_left]
  by_cases c1 : rg x n
  · obtain ⟨b, hb, rfl⟩ := rg_of c1
    have hb8 : b < 8 := by omega
    have w : vp_in (nI b) 8 := vp_in_nI hb8 (by decide)
    simp only [if_pos c1]
    rw [if_neg (by decide), sp_hi (n := 9) (k := 9) (by decide) rfl]
    by_cases c2 : rg v 10
    · simp only [if_pos c2, w, true_and, exists_eq_left]
      rw [if_neg (by decide), if_neg (by decide), sp_becomes (k := 19 + 4 + 5 * b) (by omega) (by rw [show (4 : Int32) = nI 4 from rfl, ix_row]; congr 1; omega), nI_clamp (by omega)]
      obtain ⟨i, hi, rfl⟩ := rg_of c2
      exact ⟨rl_at h hb8 (o := 4) (by decide), rl_slot (o := 4) (by decide) hb8 ⟨i, hi, rfl⟩ h⟩
    · simp only [if_neg c2, if_true, if_neg (by decide : ¬ (1 : Int32) = 0), true_and]
      exact rl_err (by decide) h
  · simp only [if_neg c1, if_true, true_and]
    exact rl_err (by decide) h
theorem sm_lay_ok : sm_lay Rl := by
  intro x v μ ν h
  obtain ⟨n, hn, e1, e2⟩ := rl_size h
  unfold wp_X6_lay wp_X7_lay wp_X7_lay_31
  simp only [sp_isBit6 hn e1, sp_isBit7 hn e2, e6_1, e7_1, sp_isPlace6, sp_isPlace7, exists_eq_left]
  by_cases c1 : rg x n
  · obtain ⟨b, hb, rfl⟩ := rg_of c1
    have hb8 : b < 8 := by omega
    have w : vp_in (nI b) 8 := vp_in_nI hb8 (by decide)
    simp only [if_pos c1]
    rw [if_neg (by decide)]
    by_cases c2 : rg v 10
    · simp only [if_pos c2, w, true_and, exists_eq_left]
      rw [if_neg (by decide), if_neg (by decide), if_neg (by decide), sp_becomes (k := 19 + 3 + 5 * b) (by omega) (by rw [show (3 : Int32) = nI 3 from rfl, ix_row]; congr 1; omega), nI_clamp (by omega)]
      obtain ⟨i, hi, rfl⟩ := rg_of c2
      exact ⟨rl_at h hb8 (o := 3) (by decide), rl_slot (o := 3) (by decide) hb8 ⟨i, hi, rfl⟩ h⟩
    · simp only [if_neg c2, if_true, if_neg (by decide : ¬ (1 : Int32) = 0), true_and]
      exact rl_err (by decide) h
  · simp only [if_neg c1, if_true, true_and]
    exact rl_err (by decide) h
theorem nI_div10 (k : Nat) (hk : k < 70) : nI k / 10 = nI (k / 10) ∧ nI k % 10 = nI (k % 10) := by
  have : ∀ k, k < 70 → nI k / 10 = nI (k / 10) ∧ nI k % 10 = nI (k % 10) := by decide +kernel
  exact this k hk
theorem sm_become_ok : sm_become Rl := by
  intro x v μ ν h
  obtain ⟨n, hn, e1, e2⟩ := rl_size h
  unfold wp_X6_become wp_X7_become
  simp only [sp_isBit6 hn e1, sp_isBit7 hn e2, e6_1, e7_1, sp_isKm6, sp_isKm7, exists_eq_left]
  by_cases c1 : rg x n
  · obtain ⟨b, hb, rfl⟩ := rg_of c1
    have hb8 : b < 8 := by omega
    have w : vp_in (nI b) 8 := vp_in_nI hb8 (by decide)
    simp only [if_pos c1]
    rw [if_neg (by decide)]
    by_cases c2 : rg v 70
    · simp only [if_pos c2, w, true_and, exists_eq_left]
      rw [if_neg (by decide), if_neg (by decide), if_neg (by decide), sp_lets1 hb8, sp_becomes (k := 19 + 5 * b) (by omega) (by rw [show (19 : Int32) + 5 * nI b = nI 19 + nI 5 * nI b from rfl, nI_mul, nI_add]), nI_clamp (by omega)]
      obtain ⟨i, hi, rfl⟩ := rg_of c2
      obtain ⟨q1, q2⟩ := nI_div10 i hi
      rw [q1, q2]
      refine ⟨?_, ?_⟩
      · rw [st_eq, upd_ne (by omega)]; exact rl_at h hb8 (o := 0) (by decide)
      · have r1 := rl_slot (o := 0) (b := b) (v := nI (i / 10)) (by decide) hb8 ⟨i / 10, by show i / 10 < 7; omega, rfl⟩ (rl_slot (o := 1) (b := b) (v := nI (i % 10)) (by decide) hb8 ⟨i % 10, by show i % 10 < 10; omega, rfl⟩ h)
        have m1 : st (st μ 6 b (nI (i / 10))) 7 b (nI (i % 10)) = st (st μ 7 b (nI (i % 10))) 6 b (nI (i / 10)) := by
          funext j; simp only [st, sa]; by_cases q6 : j = 6 <;> by_cases q7 : j = 7 <;> simp_all
        rw [m1]
        exact r1
    · simp only [if_neg c2, if_true, if_neg (by decide : ¬ (1 : Int32) = 0), true_and]
      exact rl_err (by decide) h
  · simp only [if_neg c1, if_true, true_and]
    exact rl_err (by decide) h
theorem rl_fat {μ ν : vM} {f : Nat} {v : Int32} (hf : f < 4) (hv : lt v 10) (h : Rl μ ν) : Rl (st μ 11 f v) (st ν 1 (5 + f) v) := by
  refine rl_hv h (fun j hj => st_ne (by omega)) (fun j hj => st_ne hj) ?_ ?_ ?_ ?_ ?_ ?_
  · rw [st_eq]
    refine hv_of ?_ ?_ ?_ ?_
    · rw [st_ne (by omega), upd_ne (by omega)]; exact h.1.1.1
    · rw [st_ne (by omega), upd_ne (by omega)]; exact h.1.1.2.1
    · intro b hb i hi; rw [st_ne (by omega), upd_ne (by omega)]; exact hv_to h.1.1 hb hi
    · intro g hg
      show st μ 11 f v 11 g = _
      rw [st_eq]
      by_cases e : g = f
      · subst e; rw [upd_eq, upd_eq]
      · rw [upd_ne e, upd_ne (by omega)]; exact h.1.1.2.2.2 g hg
  · rw [st_eq, upd_ne (by omega)]; exact h.2.1.1
  · rw [st_eq, upd_ne (by omega)]; exact h.2.1.2.1
  · rw [st_eq]; refine inb_of fun b hb i hi => ?_; rw [upd_ne (by omega)]; exact inb_to h.2.1.2.2.1 hb hi
  · rw [st_eq]; intro g hg
    by_cases e : g = f
    · subst e; rw [upd_eq]; exact hv
    · rw [upd_ne (by omega)]; exact h.2.1.2.2.2.1 g hg
  · intro i hi; rw [st_eq, upd_ne (by omega)]
theorem sm_field_ok : sm_field Rl := by
  intro x v μ ν h
  unfold wp_X6_field wp_X7_field wp_X7_field_25
  simp only [e6_1, e7_1, sp_isPlace6, sp_isPlace7, sp_isField6, sp_isField7, exists_eq_left]
  by_cases c1 : rg x 4
  · obtain ⟨f, hf, rfl⟩ := rg_of c1
    have w : vp_in (nI f) 4 := vp_in_nI hf (by decide)
    simp only [if_pos c1]
    rw [if_neg (by decide)]
    by_cases c2 : rg v 10
    · simp only [if_pos c2, w, true_and, exists_eq_left]
      rw [if_neg (by decide), if_neg (by decide), if_neg (by decide), sp_becomes (k := 5 + f) (by omega) (by rw [show (5 : Int32) + nI f = nI 5 + nI f from rfl, nI_add]), nI_clamp (by omega)]
      obtain ⟨i, hi, rfl⟩ := rg_of c2
      exact ⟨h.1.1.2.2.2 f hf, rl_fat hf ⟨i, hi, rfl⟩ h⟩
    · simp only [if_neg c2, if_true, if_neg (by decide : ¬ (1 : Int32) = 0), true_and]
      exact rl_err (by decide) h
  · simp only [if_neg c1, if_true, true_and]
    exact rl_err (by decide) h
theorem sm_body_ok : sm_body Rl := by
  intro x μ ν h
  obtain ⟨t1, ⟨t, ht, t2⟩, t3⟩ := h.2.2.2.2.2.1
  have t4 : μ 0 10 = nI t := t1.trans t2
  unfold wp_X6_body wp_X7_body
  rw [t4]
  simp only [t2, e6_2, e7_2, sp_in7 (n := t) (by omega) rfl]
  by_cases c1 : rg x t
  · obtain ⟨i, hi, rfl⟩ := rg_of c1
    have w : vp_in (nI i) 30 := vp_in_nI (by omega) (by decide)
    rw [if_neg (nI_pos (by omega)), if_pos (nI_lt hi (by omega))]
    simp only [if_pos c1, w, true_and]
    rw [if_neg (by decide), nI_clamp (by omega)]
    exact ⟨t3 i (by omega), h⟩
  · simp only [if_neg c1, if_true, true_and]
    have c2 := fun hh => c1 ((rg_iff (n := t) (by omega)).mpr hh)
    by_cases d1 : x < 0
    · rw [if_pos d1]; exact rl_err (by decide) h
    · rw [if_neg d1, if_neg]
      · exact rl_err (by decide) h
      · intro d2
        exact c2 ⟨d1, fun d3 => by rw [Int32.lt_iff_toInt_lt] at d2; rw [Int32.le_iff_toInt_le] at d3; omega⟩
