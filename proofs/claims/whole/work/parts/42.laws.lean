/-! what a use gives -/
def jv (c a b : Int32) : Int32 := if c = 37 then (if b = 0 then 0 else a % b) else if c = 38 then (if a = 0 then 0 else if b = 0 then 0 else 1) else if c = 42 then a * b else if c = 43 then a + b else if c = 45 then a - b else if c = 47 then (if b = 0 then 0 else a / b) else if c = 60 then (if b ≤ a then 0 else 1) else if c = 61 then (if a = b then 1 else 0) else if c = 62 then (if a ≤ b then 0 else 1) else if a = 0 then (if b = 0 then 0 else 1) else 1
theorem sp_two {c a b : Int32} {Q : Int32 → vM → Prop} {ν : vM} (h : Q (jv c a b) ν) : wp_X7_twoOf c a b Q ν := by
  unfold wp_X7_twoOf wp_X7_twoOf_201 wp_X7_twoOf_211
  unfold jv at h
  repeat' (split at h)
  all_goals (repeat (first | rw [if_pos (by assumption)] | rw [if_neg (by assumption)]))
  all_goals (first | exact h | exact ⟨by assumption, h⟩)
theorem sp_joi {c : Nat} (hc : sgn c) {a b : Int32} {Q : Int32 → vM → Prop} {ν : vM} (h : Q (jv (nI c) a b) ν) : wp_X1_joined (nI c) a b Q ν := by
  unfold wp_X1_joined wp_X1_joined_118 wp_X1_joined_100
  unfold jv at h
  have e : nI c = 124 ∨ ¬ nI c = 124 := Classical.em _
  have k : nI c = 37 ∨ nI c = 38 ∨ nI c = 42 ∨ nI c = 43 ∨ nI c = 45 ∨ nI c = 47 ∨ nI c = 60 ∨ nI c = 61 ∨ nI c = 62 ∨ nI c = 124 := by
    rcases hc with rfl | rfl | rfl | rfl | rfl | rfl | rfl | rfl | rfl | rfl <;> decide
  rcases k with k | k | k | k | k | k | k | k | k | k
  all_goals (rw [k] at h ⊢; revert h; simp only [if_true, (by decide : ¬ (38 : Int32) = 37), (by decide : ¬ (42 : Int32) = 37), (by decide : ¬ (42 : Int32) = 38), (by decide : ¬ (43 : Int32) = 37), (by decide : ¬ (43 : Int32) = 38), (by decide : ¬ (43 : Int32) = 42), (by decide : ¬ (45 : Int32) = 37), (by decide : ¬ (45 : Int32) = 38), (by decide : ¬ (45 : Int32) = 42), (by decide : ¬ (45 : Int32) = 43), (by decide : ¬ (47 : Int32) = 37), (by decide : ¬ (47 : Int32) = 38), (by decide : ¬ (47 : Int32) = 42), (by decide : ¬ (47 : Int32) = 43), (by decide : ¬ (47 : Int32) = 45), (by decide : ¬ (60 : Int32) = 37), (by decide : ¬ (60 : Int32) = 38), (by decide : ¬ (60 : Int32) = 42), (by decide : ¬ (60 : Int32) = 43), (by decide : ¬ (60 : Int32) = 45), (by decide : ¬ (60 : Int32) = 47), (by decide : ¬ (61 : Int32) = 37), (by decide : ¬ (61 : Int32) = 38), (by decide : ¬ (61 : Int32) = 42), (by decide : ¬ (61 : Int32) = 43), (by decide : ¬ (61 : Int32) = 45), (by decide : ¬ (61 : Int32) = 47), (by decide : ¬ (61 : Int32) = 60), (by decide : ¬ (62 : Int32) = 37), (by decide : ¬ (62 : Int32) = 38), (by decide : ¬ (62 : Int32) = 42), (by decide : ¬ (62 : Int32) = 43), (by decide : ¬ (62 : Int32) = 45), (by decide : ¬ (62 : Int32) = 47), (by decide : ¬ (62 : Int32) = 60), (by decide : ¬ (62 : Int32) = 61), (by decide : ¬ (124 : Int32) = 37), (by decide : ¬ (124 : Int32) = 38), (by decide : ¬ (124 : Int32) = 42), (by decide : ¬ (124 : Int32) = 43), (by decide : ¬ (124 : Int32) = 45), (by decide : ¬ (124 : Int32) = 47), (by decide : ¬ (124 : Int32) = 60), (by decide : ¬ (124 : Int32) = 61), (by decide : ¬ (124 : Int32) = 62), if_false])
  all_goals (intro h; first | exact h | ((repeat' (split at h)) <;> (repeat (first | rw [if_pos (by assumption)] | rw [if_neg (by assumption)])) <;> (first | exact h | exact ⟨by assumption, h⟩)))
/-- a name's number -/
def nmv (i a b c : Int32) : Int32 := if i = 0 then a else if i = 1 then b else c
/-- the pile ahead of word k -/
def pl (ρ : Nat → Int32) (at_ : Nat) (a b c : Int32) : Nat → Nat → Int32
  | 0 => fun _ => 0
  | k + 1 => if ρ (at_ + 1 + k) = 1 then upd (pl ρ at_ a b c k) (hg ρ at_ k) (ρ (at_ + 61 + k)) else if ρ (at_ + 1 + k) = 2 then upd (pl ρ at_ a b c k) (hg ρ at_ k) (nmv (ρ (at_ + 61 + k)) a b c) else if ρ (at_ + 1 + k) = 3 then upd (pl ρ at_ a b c k) (hg ρ at_ k - 1) (if pl ρ at_ a b c k (hg ρ at_ k - 1) = 0 then 1 else 0) else upd (pl ρ at_ a b c k) (hg ρ at_ k - 2) (jv (ρ (at_ + 1 + k)) (pl ρ at_ a b c k (hg ρ at_ k - 2)) (pl ρ at_ a b c k (hg ρ at_ k - 1)))
theorem hg_le (ρ : Nat → Int32) (at_ : Nat) : ∀ k, hg ρ at_ k ≤ k
  | 0 => Nat.le_refl 0
  | k + 1 => by
    have := hg_le ρ at_ k
    simp only [hg]
    by_cases h1 : ρ (at_ + 1 + k) = 1 ∨ ρ (at_ + 1 + k) = 2
    · rw [if_pos h1]; omega
    · rw [if_neg h1]
      by_cases h2 : ρ (at_ + 1 + k) = 3
      · rw [if_pos h2]; omega
      · rw [if_neg h2]; omega
theorem sgn_r {c : Nat} (h : sgn c) : 37 ≤ c ∧ c < 125 := by rcases h with rfl | rfl | rfl | rfl | rfl | rfl | rfl | rfl | rfl | rfl <;> omega
theorem sgn_n {c : Nat} (h : sgn c) : ¬ nI c = 1 ∧ ¬ nI c = 2 ∧ ¬ nI c = 3 := by
  have := sgn_r h
  refine ⟨fun e => ?_, fun e => ?_, fun e => ?_⟩
  · have := (nI_eq (b := 1) (by omega) (by decide)).mp e; omega
  · have := (nI_eq (b := 2) (by omega) (by decide)).mp e; omega
  · have := (nI_eq (b := 3) (by omega) (by decide)).mp e; omega
theorem en_1 {w b : Int32} (h : en w 1 b) : ∃ v, v < 10000 ∧ w = nI v ∧ b = nI v := by
  rcases h with ⟨v, h1, h2, _, h3⟩ | ⟨i, _, _, h, _⟩ | ⟨_, h⟩ | ⟨c, hc, _, h⟩
  · exact ⟨v, h1, h2, h3⟩
  · exact absurd h (by decide)
  · exact absurd h (by decide)
  · exact absurd h.symm (sgn_n hc).1
theorem en_2 {w b : Int32} (h : en w 2 b) : ∃ i, i < 3 ∧ w = nI (10000 + i) ∧ b = nI i := by
  rcases h with ⟨v, _, _, h, _⟩ | ⟨i, h1, h2, _, h3⟩ | ⟨_, h⟩ | ⟨c, hc, _, h⟩
  · exact absurd h (by decide)
  · exact ⟨i, h1, h2, h3⟩
  · exact absurd h (by decide)
  · exact absurd h.symm (sgn_n hc).2.1
theorem en_3 {w b : Int32} (h : en w 3 b) : w = nI 20033 := by
  rcases h with ⟨v, _, _, h, _⟩ | ⟨i, _, _, h, _⟩ | ⟨h, _⟩ | ⟨c, hc, _, h⟩
  · exact absurd h (by decide)
  · exact absurd h (by decide)
  · exact h
  · exact absurd h.symm (sgn_n hc).2.2
theorem en_4 {w b : Int32} {c : Nat} (hc : sgn c) (h : en w (nI c) b) : w = nI (20000 + c) := by
  rcases h with ⟨v, _, _, h, _⟩ | ⟨i, _, _, h, _⟩ | ⟨_, h⟩ | ⟨d, hd, h1, h⟩
  · exact absurd h (sgn_n hc).1
  · exact absurd h (sgn_n hc).2.1
  · exact absurd h (sgn_n hc).2.2
  · have := sgn_r hc; have := sgn_r hd
    rw [(nI_eq (by omega) (by omega)).mp h]; exact h1
/-- word k of a text, with what stands on the pile -/
theorem wf_k {ρ : Nat → Int32} {at_ n k : Nat} (h : wf ρ at_) (e : ρ at_ = nI n) (hn : n ≤ 60) (hk : k < n) : (ρ (at_ + 1 + k) = 1 ∧ hg ρ at_ (k + 1) = hg ρ at_ k + 1) ∨ (∃ i, i < 3 ∧ ρ (at_ + 1 + k) = 2 ∧ ρ (at_ + 61 + k) = nI i ∧ hg ρ at_ (k + 1) = hg ρ at_ k + 1) ∨ (ρ (at_ + 1 + k) = 3 ∧ 1 ≤ hg ρ at_ k ∧ hg ρ at_ (k + 1) = hg ρ at_ k) ∨ (∃ c, sgn c ∧ ρ (at_ + 1 + k) = nI c ∧ 2 ≤ hg ρ at_ k ∧ hg ρ at_ (k + 1) = hg ρ at_ k - 1) := by
  obtain ⟨m, h1, h2, h3, _⟩ := h
  have : m = n := (nI_eq (by omega) (by omega)).mp (h2.symm.trans e)
  subst this
  rcases h3 k hk with a | ⟨a, i, hi, b⟩ | ⟨a, b⟩ | ⟨⟨c, hc, a⟩, b⟩
  · exact Or.inl ⟨a, by simp only [hg]; rw [if_pos (Or.inl a)]⟩
  · exact Or.inr (Or.inl ⟨i, hi, a, b, by simp only [hg]; rw [if_pos (Or.inr a)]⟩)
  · exact Or.inr (Or.inr (Or.inl ⟨a, b, by simp only [hg]; rw [a, if_neg (by decide), if_pos rfl]⟩))
  · exact Or.inr (Or.inr (Or.inr ⟨c, hc, a, b, by
      have := sgn_n hc
      simp only [hg]; rw [a, if_neg (fun z => z.elim this.1 this.2.1), if_neg this.2.2]⟩))
theorem tp_in {h : Nat} (h1 : 1 ≤ h) : nI h - 1 = nI (h - 1) := by
  obtain ⟨m, rfl⟩ : ∃ m, h = m + 1 := ⟨h - 1, by omega⟩
  exact nI_pred m
theorem wo_C {ρ : Nat → Int32} {j at_ n : Nat} {a b c : Int32} {μ : vM} (hn : n ≤ 60) (hn0 : 0 < n) (e : ρ at_ = nI n) (hw : wf ρ at_) (hl : lw j μ ρ at_) {Q : Int32 → vM → Prop} (hQ : ∀ μ' : vM, (∀ i, i ≠ j + 2 → μ' i = μ i) → Q (pl ρ at_ a b c n 0) μ') : ∀ (g k : Nat) (m : vM), k + g = n → (∀ i, i < hg ρ at_ k → m (j + 2) i = pl ρ at_ a b c k i) → (∀ i, i ≠ j + 2 → m i = μ i) → wp_X1_workedOut_6 j a b c Q (g + 1) (nI (hg ρ at_ k) - 1) (nI k) m
  | 0, k, m, hk, hp, hm => by
    have : k = n := by omega
    subst this
    have h1 : hg ρ at_ k = 1 := by
      obtain ⟨m, h1, h2, _, h4⟩ := hw
      have : m = k := (nI_eq (by omega) (by omega)).mp (h2.symm.trans e)
      subst this
      exact h4 hn0
    unfold wp_X1_workedOut_6
    rw [hm j (by omega), hl.1, e, if_pos (nI_le (Nat.le_refl _) (by omega)), h1, if_pos (by decide)]
    refine ⟨by unfold vp_in; decide, ?_⟩
    have : (nI 1 - 1).toNatClampNeg = 0 := by decide
    rw [this, hp 0 (by omega)]
    exact hQ m hm
  | g + 1, k, m, hk, hp, hm => by
    have hh := hg_le ρ at_ k
    have ih := wo_C hn hn0 e hw hl hQ g (k + 1)
    unfold wp_X1_workedOut_6
    rw [hm j (by omega), hl.1, e, if_neg (nI_ge (by omega) (by omega))]
    refine ⟨vp_in_nI (by omega) (by decide), _, rfl, ?_⟩
    rw [nI_clamp (by omega), hm (j + 1) (by omega)]
    have E := hl.2 k (by omega) (by rw [e]; exact nI_lt (by omega) (by omega))
    unfold wp_X1_workedOut_58 wp_X1_workedOut_175 wp_X1_workedOut_176
    simp only [exists_eq_left, nI_1]
    have put : ∀ (t : Nat) (v : Int32), hg ρ at_ (k + 1) = t + 1 → t < 60 → pl ρ at_ a b c (k + 1) = upd (pl ρ at_ a b c k) t v → t ≤ hg ρ at_ k → wp_X1_workedOut_6 j a b c Q (g + 1) (nI t) (nI (k + 1)) (st m (j + 2) t v) := by
      intro t v h1 h2 h3 h4
      have := ih (st m (j + 2) t v) (by omega) (fun i hi => ?_) (fun i hi => by rw [st_ne hi]; exact hm i hi)
      · rw [h1, tp_in (by omega)] at this; exact this
      · rw [st_eq, h3]
        by_cases ei : i = t
        · subst ei; rw [upd_eq, upd_eq]
        · rw [upd_ne ei, upd_ne ei]; exact hp i (by omega)
    rcases wf_k hw e hn (show k < n by omega) with ⟨A, H⟩ | ⟨i, hi, A, B, H⟩ | ⟨A, hge, H⟩ | ⟨s, hs, A, hge, H⟩
    · rw [A] at E
      obtain ⟨v, v1, v2, v3⟩ := en_1 E
      rw [v2]
      have n1 : ¬ nI v = (20033 : Int32) := fun z => by have := (nI_eq (b := 20033) (by omega) (by decide)).mp z; omega
      have n2 : nI v < (20000 : Int32) := nI_lt (b := 20000) (by omega) (by decide)
      have n3 : ¬ (10000 : Int32) ≤ nI v := nI_ge (b := 10000) (by omega) (by decide)
      have q : nI (hg ρ at_ k) - 1 + 1 = nI (hg ρ at_ k) := by rw [Int32.sub_add_cancel]
      rw [if_neg n1, if_pos n2, q, if_neg (show ¬ (60 : Int32) ≤ nI (hg ρ at_ k) from nI_ge (b := 60) (by omega) (by decide)), if_neg n3]
      refine ⟨vp_in_nI (by omega) (by decide), ?_⟩
      rw [nI_clamp (by omega)]
      exact put (hg ρ at_ k) (nI v) H (by omega) (by simp only [pl]; rw [if_pos A, v3]) (Nat.le_refl _)
    · rw [A] at E
      obtain ⟨i', hi', v2, v3⟩ := en_2 E
      rw [v2]
      have n1 : ¬ nI (10000 + i') = (20033 : Int32) := fun z => by have := (nI_eq (b := 20033) (by omega) (by decide)).mp z; omega
      have n2 : nI (10000 + i') < (20000 : Int32) := nI_lt (b := 20000) (by omega) (by decide)
      have n3 : (10000 : Int32) ≤ nI (10000 + i') := nI_le (a := 10000) (by omega) (by omega)
      have q : nI (hg ρ at_ k) - 1 + 1 = nI (hg ρ at_ k) := by rw [Int32.sub_add_cancel]
      rw [if_neg n1, if_pos n2, q, if_neg (show ¬ (60 : Int32) ≤ nI (hg ρ at_ k) from nI_ge (b := 60) (by omega) (by decide)), if_pos n3]
      refine ⟨vp_in_nI (by omega) (by decide), ?_⟩
      rw [nI_clamp (by omega)]
      refine put (hg ρ at_ k) _ H (by omega) ?_ (Nat.le_refl _)
      simp only [pl]; rw [A, if_neg (by decide), if_pos rfl, v3]
      congr 1
      unfold nmv
      have : i' = 0 ∨ i' = 1 ∨ i' = 2 := by omega
      rcases this with rfl | rfl | rfl
      · rw [if_pos (by decide), if_pos (by decide)]
      · rw [if_neg (by decide), if_pos (by decide), if_neg (by decide), if_pos (by decide)]
      · rw [if_neg (by decide), if_neg (by decide), if_neg (by decide), if_neg (by decide)]
    · rw [A] at E
      rw [en_3 E, if_pos (by decide), tp_in hge, if_neg (nI_pos (by omega))]
      have w := vp_in_nI (n := hg ρ at_ k - 1) (N := 60) (by omega) (by decide)
      refine ⟨w, w, ?_⟩
      rw [nI_clamp (by omega)]
      refine put (hg ρ at_ k - 1) _ (by omega) (by omega) ?_ (by omega)
      simp only [pl]; rw [A, if_neg (by decide), if_neg (by decide), if_pos rfl, hp (hg ρ at_ k - 1) (by omega)]
    · rw [A] at E
      have hsr := sgn_r hs
      have E' := en_4 hs E
      rw [E']
      have n1 : ¬ nI (20000 + s) = (20033 : Int32) := fun z => by have := (nI_eq (b := 20033) (by omega) (by decide)).mp z; omega
      have n2 : ¬ nI (20000 + s) < (20000 : Int32) := nI_nlt (b := 20000) (by omega) (by omega)
      have q1 : nI (20000 + s) - 20000 = nI s := by
        have : nI (20000 + s) = 20000 + nI s := (nI_add 20000 s).symm
        rw [this, Int32.add_comm, Int32.add_sub_cancel]
      rw [if_neg n1, if_neg n2, tp_in (by omega), if_pos (show (1 : Int32) ≤ nI (hg ρ at_ k - 1) from nI_le (a := 1) (by omega) (by omega)), q1]
      have q2 : nI (hg ρ at_ k - 1) + -1 = nI (hg ρ at_ k - 2) := by
        have := tp_in (h := hg ρ at_ k - 1) (by omega)
        rw [Int32.sub_eq_add_neg] at this; exact this
      have q3 : nI (hg ρ at_ k - 2 + 1) = nI (hg ρ at_ k - 1) := by congr 1; omega
      have w := vp_in_nI (n := hg ρ at_ k - 2) (N := 60) (by omega) (by decide)
      have w' := vp_in_nI (n := hg ρ at_ k - 1) (N := 60) (by omega) (by decide)
      simp only [q2, nI_1, q3, nI_clamp (show hg ρ at_ k - 2 < 2 ^ 31 by omega), nI_clamp (show hg ρ at_ k - 1 < 2 ^ 31 by omega)]
      refine ⟨w, w', sp_joi hs ⟨w, ?_⟩⟩
      refine put (hg ρ at_ k - 2) _ (by omega) (by omega) ?_ (by omega)
      have := sgn_n hs
      simp only [pl]; rw [A, if_neg this.1, if_neg this.2.1, if_neg this.2.2, hp (hg ρ at_ k - 2) (by omega), hp (hg ρ at_ k - 1) (by omega)]
theorem wo_R {at_ n : Nat} {a b c : Int32} {ν : vM} (hat : at_ + 121 ≤ 385) (hn : n ≤ 60) (hn0 : 0 < n) (e : ν 1 at_ = nI n) (hw : wf (ν 1) at_) (hf : ν 11 0 = a ∧ ν 11 1 = b ∧ ν 11 2 = c) {Q : Int32 → vM → Prop} (hQ : ∀ ν' : vM, (∀ i, i ≠ 12 → ν' i = ν i) → Q (pl (ν 1) at_ a b c n 0) ν') : ∀ (g k : Nat) (m : vM), k + g = n → (∀ i, i < hg (ν 1) at_ k → m 12 i = pl (ν 1) at_ a b c k i) → (∀ i, i ≠ 12 → m i = ν i) → wp_X7_works_4 (nI at_) Q (g + 1) (nI (hg (ν 1) at_ k)) (nI k) m
  | 0, k, m, hk, hp, hm => by
    have : k = n := by omega
    subst this
    have h1 : hg (ν 1) at_ k = 1 := by
      obtain ⟨m, h1, h2, _, h4⟩ := hw
      have : m = k := (nI_eq (by omega) (by omega)).mp (h2.symm.trans e)
      subst this
      exact h4 hn0
    unfold wp_X7_works_4
    rw [hm 1 (by omega), nI_clamp (by omega), e, if_pos (nI_le (Nat.le_refl _) (by omega))]
    refine ⟨vp_in_nI (by omega) (by decide), by unfold vp_in; decide, ?_⟩
    rw [t0_, hp 0 (by omega)]
    exact hQ m hm
  | g + 1, k, m, hk, hp, hm => by
    have hh := hg_le (ν 1) at_ k
    have ih := wo_R hat hn hn0 e hw hf hQ g (k + 1)
    have i1 : (nI at_ + 1) + nI k = nI (at_ + 1 + k) := by rw [nI_1, nI_add]
    have i2 : (nI at_ + 61) + nI k = nI (at_ + 61 + k) := by
      show (nI at_ + nI 61) + nI k = _; rw [nI_add, nI_add]
    unfold wp_X7_works_4
    rw [hm 1 (by omega), nI_clamp (show at_ < 2 ^ 31 by omega), e, if_neg (nI_ge (by omega) (by omega)), i1, nI_clamp (by omega)]
    refine ⟨vp_in_nI (by omega) (by decide), vp_in_nI (by omega) (by decide), _, rfl, ?_⟩
    unfold wp_X7_works_38 wp_X7_works_79 wp_X7_works_115 wp_X7_works_149
    have w2 : vp_in (nI (at_ + 61 + k)) 385 := vp_in_nI (by omega) (by decide)
    simp only [exists_eq_left, nI_1, i2, w2, true_and, nI_clamp (show at_ + 61 + k < 2 ^ 31 by omega), hm 1 (by omega)]
    have put : ∀ (t : Nat) (v : Int32), hg (ν 1) at_ (k + 1) = t + 1 → t < 60 → pl (ν 1) at_ a b c (k + 1) = upd (pl (ν 1) at_ a b c k) t v → t ≤ hg (ν 1) at_ k → wp_X7_works_4 (nI at_) Q (g + 1) (nI (t + 1)) (nI (k + 1)) (st m 12 t v) := by
      intro t v h1 h2 h3 h4
      have := ih (st m 12 t v) (by omega) (fun i hi => ?_) (fun i hi => by rw [st_ne hi]; exact hm i hi)
      · rw [h1] at this; exact this
      · rw [st_eq, h3]
        by_cases ei : i = t
        · subst ei; rw [upd_eq, upd_eq]
        · rw [upd_ne ei, upd_ne ei]; exact hp i (by omega)
    rcases wf_k hw e hn (show k < n by omega) with ⟨A, H⟩ | ⟨i, hi, A, B, H⟩ | ⟨A, hge, H⟩ | ⟨s, hs, A, hge, H⟩
    · rw [if_pos A, if_pos A]
      refine ⟨vp_in_nI (by omega) (by decide), ?_⟩
      rw [nI_clamp (by omega)]
      exact put (hg (ν 1) at_ k) _ H (by omega) (by simp only [pl]; rw [if_pos A]) (Nat.le_refl _)
    · rw [A, if_neg (by decide), if_pos rfl, if_neg (by decide), B]
      refine ⟨vp_in_nI hi (by decide), vp_in_nI (by omega) (by decide), ?_⟩
      rw [nI_clamp (by omega), nI_clamp (by omega), hm 11 (by omega)]
      refine put (hg (ν 1) at_ k) _ H (by omega) ?_ (Nat.le_refl _)
      simp only [pl]; rw [A, if_neg (by decide), if_pos rfl, B]
      congr 1
      unfold nmv
      have : i = 0 ∨ i = 1 ∨ i = 2 := by omega
      rcases this with rfl | rfl | rfl
      · rw [if_pos (by decide)]; exact hf.1.symm
      · rw [if_neg (by decide), if_pos (by decide)]; exact hf.2.1.symm
      · rw [if_neg (by decide), if_neg (by decide)]; exact hf.2.2.symm
    · rw [A, if_neg (by decide), if_neg (by decide), if_pos rfl, tp_in hge]
      have w := vp_in_nI (n := hg (ν 1) at_ k - 1) (N := 60) (by omega) (by decide)
      refine ⟨w, w, ?_⟩
      rw [nI_clamp (by omega)]
      have := put (hg (ν 1) at_ k - 1) (if pl (ν 1) at_ a b c k (hg (ν 1) at_ k - 1) = 0 then 1 else 0) (by omega) (by omega) (by simp only [pl]; rw [A, if_neg (by decide), if_neg (by decide), if_pos rfl]) (by omega)
      rw [show hg (ν 1) at_ k - 1 + 1 = hg (ν 1) at_ k by omega, ← hp (hg (ν 1) at_ k - 1) (by omega)] at this
      exact this
    · have n := sgn_n hs
      rw [A, if_neg n.1, if_neg n.2.1, if_neg n.2.2]
      have q2 : nI (hg (ν 1) at_ k) + -1 = nI (hg (ν 1) at_ k - 1) := by
        have := tp_in (h := hg (ν 1) at_ k) (by omega)
        rw [Int32.sub_eq_add_neg] at this; exact this
      have q3 : nI (hg (ν 1) at_ k - 1) - 1 = nI (hg (ν 1) at_ k - 2) := tp_in (by omega)
      have w := vp_in_nI (n := hg (ν 1) at_ k - 2) (N := 60) (by omega) (by decide)
      have w' := vp_in_nI (n := hg (ν 1) at_ k - 1) (N := 60) (by omega) (by decide)
      simp only [q2, q3, nI_clamp (show hg (ν 1) at_ k - 2 < 2 ^ 31 by omega), nI_clamp (show hg (ν 1) at_ k - 1 < 2 ^ 31 by omega)]
      refine ⟨w, w', sp_two ⟨w, ?_⟩⟩
      have := put (hg (ν 1) at_ k - 2) (jv (nI s) (m 12 (hg (ν 1) at_ k - 2)) (m 12 (hg (ν 1) at_ k - 1))) (by omega) (by omega) (by simp only [pl]; rw [A, if_neg n.1, if_neg n.2.1, if_neg n.2.2, hp (hg (ν 1) at_ k - 2) (by omega), hp (hg (ν 1) at_ k - 1) (by omega)]) (by omega)
      rw [show hg (ν 1) at_ k - 2 + 1 = hg (ν 1) at_ k - 1 by omega] at this
      exact this
/-- what a use gives -/
def hl (v m : Int32) : Int32 := if 0 ≤ v then (if v ≤ m then v else m) else 0
def gv (ρ : Nat → Int32) (at_ : Nat) (m a b c : Int32) : Int32 := hl (if ρ at_ = 0 then a else pl ρ at_ a b c (ρ at_).toNatClampNeg 0) m
theorem hl_C {v m : Int32} (hm : m = 3 ∨ m = 99) : (if (0 : Int32) < (if v < m then v else m) then (if v < m then v else m) else (0 : Int32)) = hl v m := by
  have h0 : (0 : Int32).toInt = 0 := rfl
  have hm' : m.toInt = 3 ∨ m.toInt = 99 := hm.imp (fun e => by rw [e]; rfl) (fun e => by rw [e]; rfl)
  unfold hl
  by_cases h1 : v < m
  · rw [if_pos h1]
    have h1' := Int32.lt_iff_toInt_lt.mp h1
    by_cases h2 : 0 < v
    · have h2' := Int32.lt_iff_toInt_lt.mp h2
      rw [if_pos h2, if_pos (Int32.le_iff_toInt_le.mpr (by omega)), if_pos (Int32.le_iff_toInt_le.mpr (by omega))]
    · rw [if_neg h2]
      by_cases h3 : 0 ≤ v
      · rw [if_pos h3, if_pos (Int32.le_iff_toInt_le.mpr (by omega))]
        apply Int32.toInt_inj.mp
        have h3' := Int32.le_iff_toInt_le.mp h3
        have h2' : ¬ (0 : Int32).toInt < v.toInt := fun z => h2 (Int32.lt_iff_toInt_lt.mpr z)
        omega
      · rw [if_neg h3]
  · rw [if_neg h1]
    have h1' : ¬ v.toInt < m.toInt := fun z => h1 (Int32.lt_iff_toInt_lt.mpr z)
    rw [if_pos (Int32.lt_iff_toInt_lt.mpr (by omega)), if_pos (Int32.le_iff_toInt_le.mpr (by omega))]
    by_cases h4 : v ≤ m
    · rw [if_pos h4]
      apply Int32.toInt_inj.mp
      have := Int32.le_iff_toInt_le.mp h4
      omega
    · rw [if_neg h4]
theorem sp_gvC {j at_ : Nat} {μ : vM} {ρ : Nat → Int32} {a b c m : Int32} (hl : lw j μ ρ at_) (hw : wf ρ at_) (h1 : μ j 1 = m) (hm : m = 3 ∨ m = 99) {Q : Int32 → vM → Prop} (hQ : ∀ μ' : vM, (∀ i, i ≠ j + 2 → μ' i = μ i) → Q (gv ρ at_ m a b c) μ') : wp_X1_gives j a b c Q μ := by
  obtain ⟨n, hn, e4, e⟩ := lw_len hl hw
  unfold wp_X1_gives wp_X1_gives_18
  rw [e4]
  by_cases h0 : nI n = 0
  · rw [if_pos h0, h1, hl_C hm]
    have := hQ μ (fun _ _ => rfl)
    unfold gv at this
    rw [e, if_pos h0] at this
    exact this
  · rw [if_neg h0]
    have hn0 : 0 < n := by
      rcases Nat.eq_zero_or_pos n with z | z
      · subst z; exact absurd rfl h0
      · exact z
    refine ⟨n + 1, wo_C (a := a) (b := b) (c := c) hn hn0 e hw hl ?_ n 0 μ (by omega) (fun i hi => absurd hi (by simp only [hg]; omega)) (fun _ _ => rfl)⟩
    intro μ' d
    rw [d j (by omega), h1, hl_C hm]
    have := hQ μ' d
    unfold gv at this
    rw [e, if_neg h0, nI_clamp (by omega)] at this
    exact this
theorem sp_gvR {u : Nat} (hu : u < 2) {ν : vM} {a b c : Int32} (hw : wf (ν 1) (143 + 121 * u)) {Q : Int32 → vM → Prop} (hQ : ∀ ν' : vM, (∀ i, i ≠ 11 → i ≠ 12 → ν' i = ν i) → Q (gv (ν 1) (143 + 121 * u) (if u = 0 then 3 else 99) a b c) ν') : wp_X7_gives (nI u) a b c Q ν := by
  obtain ⟨n, hn, e, _⟩ := id hw
  have ix : (143 : Int32) + 121 * nI u = nI (143 + 121 * u) := by
    show nI 143 + nI 121 * nI u = _; rw [nI_mul, nI_add]
  have end_ : ∀ (v : Int32) (ν' : vM), v = (if ν 1 (143 + 121 * u) = 0 then a else pl (ν 1) (143 + 121 * u) a b c (ν 1 (143 + 121 * u)).toNatClampNeg 0) → (∀ i, i ≠ 11 → i ≠ 12 → ν' i = ν i) → wp_X7_gives_52 (nI u) a b c Q v ν' := by
    intro v ν' hv d
    have := hQ ν' d
    unfold gv at this
    rw [← hv] at this
    unfold wp_X7_gives_52 wp_X7_held
    unfold hl at this
    have hu' : u = 0 ∨ u = 1 := by omega
    rcases hu' with rfl | rfl
    · rw [if_pos (by decide)]; rw [if_pos rfl] at this
      repeat' (split at this)
      all_goals (repeat (first | rw [if_pos (by assumption)] | rw [if_neg (by assumption)]))
      all_goals exact this
    · rw [if_neg (by decide)]; simp only [if_neg (show ¬ (1 : Nat) = 0 by decide)] at this
      repeat' (split at this)
      all_goals (repeat (first | rw [if_pos (by assumption)] | rw [if_neg (by assumption)]))
      all_goals exact this
  unfold wp_X7_gives
  refine ⟨_, rfl, by unfold vp_in; decide, _, rfl, by unfold vp_in; decide, _, rfl, by unfold vp_in; decide, _, rfl, by rw [ix]; exact vp_in_nI (by omega) (by decide), ?_⟩
  rw [ix, nI_clamp (by omega), t0_, t1_, t2_]
  have r1 : st (st (st ν 11 0 a) 11 1 b) 11 2 c 1 = ν 1 := by simp (disch := omega) only [st_ne]
  rw [r1, e]
  by_cases h0 : nI n = 0
  · have l : nI n ≤ 0 := by rw [h0]; exact Int32.le_refl _
    rw [if_pos l]
    refine end_ _ _ (by rw [e, if_pos h0]) (fun i h1 h2 => by simp (disch := omega) only [st_ne])
  · have hn0 : 0 < n := by
      rcases Nat.eq_zero_or_pos n with z | z
      · subst z; exact absurd rfl h0
      · exact z
    rw [if_neg (nI_nle hn0 (by omega))]
    refine ⟨n + 1, ?_⟩
    have := wo_R (at_ := 143 + 121 * u) (a := a) (b := b) (c := c) (ν := st (st (st ν 11 0 a) 11 1 b) 11 2 c) (by omega) hn hn0 (by rw [r1]; exact e) (by rw [r1]; exact hw) ⟨by rw [st_eq, upd_ne (by decide), st_eq, upd_ne (by decide), st_eq, upd_eq], by rw [st_eq, upd_ne (by decide), st_eq, upd_eq], by rw [st_eq, upd_eq]⟩ (Q := fun r45 μ45 => wp_X7_gives_52 (nI u) a b c Q r45 μ45) ?_ n 0 _ (by omega) (fun i hi => absurd hi (by simp only [hg]; omega)) (fun _ _ => rfl)
    · exact this
    · intro ν' d
      rw [r1]
      refine end_ _ _ (by rw [e, if_neg h0, nI_clamp (by omega)]) (fun i h1 h2 => ?_)
      rw [d i h2]; simp (disch := omega) only [st_ne]
/-- what of the class's memory only thinking uses -/
def sc (μ μ' : vM) : Prop := ∀ i, i ≠ 14 → i ≠ 17 → (i < 39 ∨ 53 ≤ i) → μ' i = μ i
theorem sc_rf {μ : vM} : sc μ μ := fun _ _ _ _ => rfl
theorem sc_tr {a b c : vM} (h : sc a b) (h' : sc b c) : sc a c := fun i h1 h2 h3 => (h' i h1 h2 h3).trans (h i h1 h2 h3)
theorem rl_sc {μ ν μ' : vM} (h : Rl μ ν) (s : sc μ μ') : Rl μ' ν := by
  have h' := h
  obtain ⟨⟨w1, w2, w3, w4, w5, w6, w7⟩, a2, a3, a4, a5, a6, a7, a8⟩ := h
  have s0 : ∀ i, (i < 14 ∨ i = 15 ∨ i = 16 ∨ (18 ≤ i ∧ i < 39) ∨ 53 ≤ i) → μ' i = μ i := fun i hi => s i (by omega) (by omega) (by omega)
  refine rl_now h' (fun j hj => s0 j (by omega)) (fun j hj => rfl) ⟨rfl, rfl⟩ a3 ⟨hv_cg w1 (fun i hi => s0 _ (by omega)) ⟨rfl, rfl, fun _ _ _ => rfl, fun _ _ _ => rfl⟩, rd_cg w2 (s0 _ (by omega)) (s0 _ (by omega)) (fun _ _ _ => rfl), lw_cg w3 (by rw [s0 _ (by omega)]) (s0 _ (by omega)) (fun _ _ _ => rfl), lw_cg w4 (by rw [s0 _ (by omega)]) (s0 _ (by omega)) (fun _ _ _ => rfl), ⟨by rw [s0 1 (by omega)]; exact w5.1, fun i hi => by rw [s0 _ (by omega)]; exact w5.2 i hi⟩, ⟨by rw [s0 1 (by omega)]; exact w6.1, fun i hi => by rw [s0 _ (by omega)]; exact w6.2 i hi⟩, by rw [s0 1 (by omega)]; exact w7⟩ a2 ?_
  unfold nms at a8 ⊢
  rw [s0 12 (by decide), s0 15 (by decide)]; exact a8
/-- the steps' use and the worth's, on either side -/
theorem sp_gC0 {μ ν : vM} {a b c : Int32} (h : Rl μ ν) {Q : Int32 → vM → Prop} (hQ : ∀ μ' : vM, (∀ i, i ≠ 14 → μ' i = μ i) → Q (gv (ν 1) 143 3 a b c) μ') : wp_X1_gives 12 a b c Q μ :=
  sp_gvC h.1.2.2.1 h.2.1.2.2.2.2.2.2.2.2.1 h.2.2.2.2.2.2.2.2.1 (Or.inl rfl) hQ
theorem sp_gC1 {μ ν : vM} {a b c : Int32} (h : Rl μ ν) {Q : Int32 → vM → Prop} (hQ : ∀ μ' : vM, (∀ i, i ≠ 17 → μ' i = μ i) → Q (gv (ν 1) 264 99 a b c) μ') : wp_X1_gives 15 a b c Q μ :=
  sp_gvC h.1.2.2.2.1 h.2.1.2.2.2.2.2.2.2.2.2 h.2.2.2.2.2.2.2.2.2.2 (Or.inr rfl) hQ
theorem sm_law_ok : sm_law Rl := by
  intro u a b c μ ν h
  have r1 := rl_err (k := 1) (by decide) h
  unfold wp_X6_law wp_X7_law wp_X6_lawOf
  simp only [sp_isUse6, in7_1, e6_1, e7_1]
  by_cases c1 : rg u 2
  · obtain ⟨i, hi, rfl⟩ := rg_of c1
    simp only [if_pos c1, if_neg (by decide : ¬ (1 : Int32) = 0)]
    have hi' : i = 0 ∨ i = 1 := by omega
    rcases hi' with rfl | rfl
    · rw [if_pos (by decide)]
      refine sp_gC0 h fun μ' d => ?_
      refine sp_gvR (u := 0) (by decide) h.2.1.2.2.2.2.2.2.2.2.1 fun ν' d' => ?_
      exact ⟨rfl, rl_rs (rl_sc h (fun i h1 _ _ => d i h1)) ⟨fun i _ _ h1 h2 => d' i h1 h2, fun k _ => by rw [d' 0 (by decide) (by decide)], kno_cg h.2.2.1 (by rw [d' 0 (by decide) (by decide)]) (d' 8 (by decide) (by decide)) (fun i _ _ => by rw [d' 1 (by decide) (by decide)])⟩⟩
    · rw [if_neg (by decide)]
      refine sp_gC1 h fun μ' d => ?_
      refine sp_gvR (u := 1) (by decide) h.2.1.2.2.2.2.2.2.2.2.2 fun ν' d' => ?_
      exact ⟨rfl, rl_rs (rl_sc h (fun i _ h1 _ => d i h1)) ⟨fun i _ _ h1 h2 => d' i h1 h2, fun k _ => by rw [d' 0 (by decide) (by decide)], kno_cg h.2.2.1 (by rw [d' 0 (by decide) (by decide)]) (d' 8 (by decide) (by decide)) (fun i _ _ => by rw [d' 1 (by decide) (by decide)])⟩⟩
  · simp only [if_neg c1, if_true, true_and]; exact r1
