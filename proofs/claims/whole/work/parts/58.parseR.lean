/-! the parser of the reference -/
def PR (B : Nat → Nat) (m u : Nat) (ν0 : vM) (o : Nat) (a : pS) (ν : vM) : Prop := ν 0 15 = nI a.1 ∧ ν 0 17 = (if a.2.1 = true then 1 else 0) ∧ (∃ k, k ≤ 60 ∧ ν 0 14 = nI k ∧ (a.2.1 = false → k = a.2.2.length ∧ ∀ i, i < k → en (nI (a.2.2.getD i 0)) (ν 9 i) (ν 10 i))) ∧ ν 0 16 = nI o ∧ ν 0 18 = nI u ∧ (ν 1 3 = nI m ∧ ∀ i, i < m → ν 1 (59 + i) = nI (B i)) ∧ (∀ j, j ≠ 0 → j ≠ 9 → j ≠ 10 → ν j = ν0 j) ∧ ∀ k, k < 14 ∨ 18 < k → ν 0 k = ν0 0 k
section PRV
variable {B : Nat → Nat} {m u o : Nat} {ν0 : vM} {a : pS} {ν : vM}
theorem pr_qm (h : PR B m u ν0 o a ν) {v : Int32} (hv : v = nI (a.1 + 1)) : PR B m u ν0 o (qm a) (st ν 0 15 v) := by
  obtain ⟨h1, h2, ⟨k, h3, h4, h5⟩, h6, h7, h8, h9, h10⟩ := h
  refine ⟨?_, ?_, ⟨k, h3, ?_, fun hb => ⟨(h5 hb).1, fun i hi => ?_⟩⟩, ?_, ?_, ⟨?_, fun i hi => ?_⟩, fun j hj hj1 hj2 => ?_, fun k hk => ?_⟩
  · rw [st_eq, upd_eq, hv]; rfl
  · rw [st_eq, upd_ne (by decide)]; exact h2
  · rw [st_eq, upd_ne (by decide)]; exact h4
  · rw [st_ne (by decide), st_ne (by decide)]; exact (h5 hb).2 i hi
  · rw [st_eq, upd_ne (by decide)]; exact h6
  · rw [st_eq, upd_ne (by decide)]; exact h7
  · rw [st_ne (by decide)]; exact h8.1
  · rw [st_ne (by decide)]; exact h8.2 i hi
  · rw [st_ne hj]; exact h9 j hj hj1 hj2
  · rw [st_eq, upd_ne (by omega)]; exact h10 k hk
theorem pr_qb (h : PR B m u ν0 o a ν) : PR B m u ν0 o (qb a) (st ν 0 17 1) := by
  obtain ⟨h1, h2, ⟨k, h3, h4, h5⟩, h6, h7, h8, h9, h10⟩ := h
  refine ⟨?_, ?_, ⟨k, h3, ?_, fun hb => absurd hb (by show ¬ true = false; decide)⟩, ?_, ?_, ⟨?_, fun i hi => ?_⟩, fun j hj hj1 hj2 => ?_, fun k hk => ?_⟩
  · rw [st_eq, upd_ne (by decide)]; exact h1
  · rw [st_eq, upd_eq]; rfl
  · rw [st_eq, upd_ne (by decide)]; exact h4
  · rw [st_eq, upd_ne (by decide)]; exact h6
  · rw [st_eq, upd_ne (by decide)]; exact h7
  · rw [st_ne (by decide)]; exact h8.1
  · rw [st_ne (by decide)]; exact h8.2 i hi
  · rw [st_ne hj]; exact h9 j hj hj1 hj2
  · rw [st_eq, upd_ne (by omega)]; exact h10 k hk
theorem pr_q0 (h : PR B m u ν0 o a ν) (hb : a.2.1 = false) : PR B m u ν0 o a (st ν 0 17 0) := by
  obtain ⟨h1, h2, ⟨k, h3, h4, h5⟩, h6, h7, h8, h9, h10⟩ := h
  refine ⟨?_, ?_, ⟨k, h3, ?_, fun hb => ⟨(h5 hb).1, fun i hi => ?_⟩⟩, ?_, ?_, ⟨?_, fun i hi => ?_⟩, fun j hj hj1 hj2 => ?_, fun k hk => ?_⟩
  · rw [st_eq, upd_ne (by decide)]; exact h1
  · rw [st_eq, upd_eq, hb]; rfl
  · rw [st_eq, upd_ne (by decide)]; exact h4
  · rw [st_ne (by decide), st_ne (by decide)]; exact (h5 hb).2 i hi
  · rw [st_eq, upd_ne (by decide)]; exact h6
  · rw [st_eq, upd_ne (by decide)]; exact h7
  · rw [st_ne (by decide)]; exact h8.1
  · rw [st_ne (by decide)]; exact h8.2 i hi
  · rw [st_ne hj]; exact h9 j hj hj1 hj2
  · rw [st_eq, upd_ne (by omega)]; exact h10 k hk
theorem pr_op (h : PR B m u ν0 o a ν) {o' : Nat} {v : Int32} (hv : v = nI o') : PR B m u ν0 o' a (st ν 0 16 v) := by
  obtain ⟨h1, h2, ⟨k, h3, h4, h5⟩, h6, h7, h8, h9, h10⟩ := h
  refine ⟨?_, ?_, ⟨k, h3, ?_, fun hb => ⟨(h5 hb).1, fun i hi => ?_⟩⟩, ?_, ?_, ⟨?_, fun i hi => ?_⟩, fun j hj hj1 hj2 => ?_, fun k hk => ?_⟩
  · rw [st_eq, upd_ne (by decide)]; exact h1
  · rw [st_eq, upd_ne (by decide)]; exact h2
  · rw [st_eq, upd_ne (by decide)]; exact h4
  · rw [st_ne (by decide), st_ne (by decide)]; exact (h5 hb).2 i hi
  · rw [st_eq, upd_eq]; exact hv
  · rw [st_eq, upd_ne (by decide)]; exact h7
  · rw [st_ne (by decide)]; exact h8.1
  · rw [st_ne (by decide)]; exact h8.2 i hi
  · rw [st_ne hj]; exact h9 j hj hj1 hj2
  · rw [st_eq, upd_ne (by omega)]; exact h10 k hk
theorem sp_wrR {v : Nat} {x y : Int32} (he : en (nI v) x y) (h : PR B m u ν0 o a ν) (hl : a.2.1 = false → a.2.2.length < 60) {Q : vM → Prop} (hQ : ∀ ν', PR B m u ν0 o (qw a v) ν' → Q ν') : wp_X7_laysBy x y Q ν := by
  obtain ⟨h1, h2, ⟨k, h3, h4, h5⟩, h6, h7, h8, h9, h10⟩ := h
  unfold wp_X7_laysBy
  by_cases c : k < 60
  · rw [h4, if_neg (show ¬ (60 : Int32) ≤ nI k from nI_ge (b := 60) c (by decide))]
    refine ⟨vp_in_nI c (by decide), _, rfl, ?_, _, rfl, _, rfl, hQ _ ?_⟩
    · rw [st_ne (by decide), h4]; exact vp_in_nI c (by decide)
    rw [st_ne (show (0 : Nat) ≠ 10 by decide), st_ne (show (0 : Nat) ≠ 9 by decide), h4, nI_clamp (by omega), nI_1]
    refine ⟨?_, ?_, ⟨k + 1, c, ?_, fun hb => ?_⟩, ?_, ?_, ⟨?_, fun i hi => ?_⟩, fun j hj hj1 hj2 => ?_, fun k hk => ?_⟩
    · rw [st_eq, upd_ne (by decide), st_ne (by decide), st_ne (by decide)]; exact h1
    · rw [st_eq, upd_ne (by decide), st_ne (by decide), st_ne (by decide)]; exact h2
    · rw [st_eq, upd_eq]
    · obtain ⟨e1, e2⟩ := h5 hb
      refine ⟨?_, fun i hi => ?_⟩
      · show k + 1 = (a.2.2 ++ [v]).length
        rw [List.length_append, List.length_singleton, e1]
      · show en (nI ((a.2.2 ++ [v]).getD i 0)) _ _
        rw [st_ne (show (9 : Nat) ≠ 0 by decide), st_ne (show (9 : Nat) ≠ 10 by decide), st_eq, st_ne (show (10 : Nat) ≠ 0 by decide), st_eq, st_ne (show (10 : Nat) ≠ 9 by decide)]
        by_cases d : i = k
        · subst d; rw [upd_eq, upd_eq, e1, gD_hi]; exact he
        · rw [upd_ne d, upd_ne d, gD_lo (by omega)]; exact e2 i (by omega)
    · rw [st_eq, upd_ne (by decide), st_ne (by decide), st_ne (by decide)]; exact h6
    · rw [st_eq, upd_ne (by decide), st_ne (by decide), st_ne (by decide)]; exact h7
    · rw [st_ne (by decide), st_ne (by decide), st_ne (by decide)]; exact h8.1
    · rw [st_ne (by decide), st_ne (by decide), st_ne (by decide)]; exact h8.2 i hi
    · rw [st_ne hj, st_ne hj2, st_ne hj1]; exact h9 j hj hj1 hj2
    · rw [st_eq, upd_ne (by omega), st_ne (by decide), st_ne (by decide)]; exact h10 k hk
  · rw [h4, if_pos (show (60 : Int32) ≤ nI k from nI_le (a := 60) (by omega) (by omega))]
    refine hQ _ ⟨h1, h2, ⟨k, h3, h4, fun hb => ?_⟩, h6, h7, h8, h9, h10⟩
    have := (h5 hb).1
    have := hl hb
    omega
/-- what the reference looks at -/
def qv (c : Nat) : Int32 := if c < 256 then nI c else -1
theorem qv_iff {c k : Nat} (hk : k < 256) : qv c = nI k ↔ c = k := by
  unfold qv
  constructor
  · intro h
    by_cases d : c < 256
    · rw [if_pos d] at h
      have := congrArg Int32.toInt h
      rw [nI_toInt (by omega), nI_toInt (by omega)] at this
      omega
    · rw [if_neg d] at h
      have := congrArg Int32.toInt h
      rw [nI_toInt (by omega), show (-1 : Int32).toInt = -1 by decide] at this
      omega
  · rintro rfl
    rw [if_pos hk]
theorem sp_look (hm : m ≤ 60) (hB : ∀ i, i < m → B i < 256) (ha : a.1 ≤ m) (h : PR B m u ν0 o a ν) {Q : Int32 → vM → Prop} (hQ : Q (qv (qk B m a.1)) ν) : wp_X7_look Q ν := by
  obtain ⟨h1, h2, h3, h6, h7, h8, h9, h10⟩ := h
  unfold wp_X7_look
  refine ⟨v3_, ?_⟩
  rw [t3_, h1, h8.1]
  rcases qk_cs (h := a.1) hB with ⟨c1, c2, c3⟩ | ⟨c1, c2⟩
  · rw [c2] at hQ c3
    rw [if_neg (nI_ge c1 (by omega)), show (59 : Int32) = nI 59 from rfl, nI_add, nI_clamp (by omega), h8.2 _ c1]
    refine ⟨vp_in_nI (by omega) (by decide), ?_⟩
    unfold qv at hQ
    rw [if_pos c3] at hQ
    exact hQ
  · rw [c2] at hQ
    rw [if_pos (nI_le (by omega) (by omega))]
    exact hQ
theorem sp_nmR (hu : u < 2) {c : Nat} (h18 : ν 0 18 = nI u) {Q : Int32 → vM → Prop} (hQ : Q (if qn u c < 3 then nI (qn u c) else -1) ν) : wp_X7_nameOf (qv c) Q ν := by
  unfold wp_X7_nameOf
  rw [h18]
  have L : ∀ k, k < 256 → (qv c = nI k ↔ c = k) := fun k hk => qv_iff hk
  have L1 : (qv c = (100 : Int32)) ↔ c = 100 := L 100 (by decide)
  have L2 : (qv c = (102 : Int32)) ↔ c = 102 := L 102 (by decide)
  have L3 : (qv c = (104 : Int32)) ↔ c = 104 := L 104 (by decide)
  have L4 : (qv c = (115 : Int32)) ↔ c = 115 := L 115 (by decide)
  have L5 : (qv c = (119 : Int32)) ↔ c = 119 := L 119 (by decide)
  have L6 : (qv c = (121 : Int32)) ↔ c = 121 := L 121 (by decide)
  have U : u = 0 ∨ u = 1 := by omega
  simp only [L1, L2, L3, L4, L5, L6]
  unfold qn at hQ
  rcases U with rfl | rfl
  · simp only [if_pos, if_true, (by decide : nI 0 = 0), if_neg (by decide : ¬ (0 : Int32) = 1)] at hQ ⊢
    by_cases c1 : c = 115
    · subst c1; exact hQ
    · by_cases c2 : c = 100
      · subst c2; exact hQ
      · by_cases c3 : c = 102
        · subst c3; exact hQ
        · rw [if_neg c1, if_neg c2, if_neg c3] at hQ
          rw [if_neg c2, if_neg c3]
          simp only [if_neg c1]
          split
          · exact hQ
          · split
            · exact hQ
            · split <;> exact hQ
  · simp only [if_neg (by decide : ¬ (1 : Nat) = 0), (by decide : nI 1 = 1), if_neg (by decide : ¬ (1 : Int32) = 0), if_true] at hQ ⊢
    by_cases c1 : c = 119
    · subst c1; exact hQ
    · by_cases c2 : c = 104
      · subst c2; exact hQ
      · by_cases c3 : c = 121
        · subst c3; exact hQ
        · rw [if_neg c1, if_neg c2, if_neg c3] at hQ
          simp only [if_neg c1, if_neg c2, if_neg c3]
          split
          · exact hQ
          · split
            · exact hQ
            · split <;> exact hQ
theorem sp_dgR {c : Nat} {Q : Int32 → vM → Prop} (hQ : Q (if qd c = true then 1 else 0) ν) : wp_X7_in (qv c) 48 57 Q ν := by
  rw [sp_in7b]
  have e48 : (48 : Int32).toInt = 48 := by decide
  have e57 : (57 : Int32).toInt = 57 := by decide
  rw [e48, e57]
  unfold qv
  by_cases d : qd c = true
  · have dq := qd_b.mp d
    rw [if_pos d] at hQ
    rw [if_pos (show c < 256 by omega), nI_toInt (by omega), if_pos (by omega)]
    exact hQ
  · rw [if_neg d] at hQ
    have dq : ¬ (48 ≤ c ∧ c ≤ 57) := fun hh => d (qd_b.mpr hh)
    by_cases e : c < 256
    · rw [if_pos e, nI_toInt (by omega), if_neg (by omega)]; exact hQ
    · rw [if_neg e, show (-1 : Int32).toInt = -1 by decide, if_neg (by omega)]; exact hQ
theorem qv_lt {c : Nat} (h : c < 256) : qv c = nI c := by unfold qv; rw [if_pos h]
theorem sp_numR (hm : m ≤ 60) (hB : ∀ i, i < m → B i < 256) {Q : vM → Prop} : ∀ (g i v : Nat) (b : pS) (ν : vM), i + g = 4 → b.2.1 = false → b.1 ≤ m → b.2.2.length < 60 → v < 10 ^ i → PR B m u ν0 o b ν → (∀ ν', PR B m u ν0 o (if i = 0 ∧ ¬ qd (qk B m b.1) = true then qb b else ((qg B m g v b.1).2, b.2.1, b.2.2 ++ [(qg B m g v b.1).1])) ν' → Q ν') → wp_X7_number_4 Q (g + 1) (nI v) (nI i) ν := by
  have fin : ∀ (i v : Nat) (b : pS) (ν : vM), i ≤ 4 → 0 < i → b.2.1 = false → b.2.2.length < 60 → v < 10 ^ i → PR B m u ν0 o b ν → (∀ ν', PR B m u ν0 o (b.1, b.2.1, b.2.2 ++ [v]) ν' → Q ν') → wp_X7_number_52 Q (nI v) (nI i) ν := by
    intro i v b ν hi hp h0 hl hv hP hQ
    unfold wp_X7_number_52 wp_X7_number_62
    have : ¬ nI i = 0 := fun hh => by
      have := congrArg Int32.toInt hh
      rw [nI_toInt (by omega), show (0 : Int32).toInt = 0 by decide] at this
      omega
    rw [if_neg this]
    refine ⟨Or.inl rfl, _, rfl, sp_wrR (v := v) (Or.inl ⟨v, ?_, rfl, rfl, rfl⟩) (pr_q0 hP h0) (fun _ => hl) hQ⟩
    exact Nat.lt_of_lt_of_le hv (Nat.pow_le_pow_right (n := 10) (by decide) hi)
  intro g
  induction g with
  | zero =>
    intro i v b ν hi h0 hb hl hv hP hQ
    unfold wp_X7_number_4
    rw [if_pos (show (4 : Int32) ≤ nI i from nI_le (a := 4) (by omega) (by omega))]
    rw [if_neg (by omega)] at hQ
    exact fin i v b ν (by omega) (by omega) h0 hl hv hP hQ
  | succ g ih =>
    intro i v b ν hi h0 hb hl hv hP hQ
    unfold wp_X7_number_4
    rw [if_neg (show ¬ (4 : Int32) ≤ nI i from nI_ge (b := 4) (by omega) (by omega))]
    refine sp_look hm hB hb hP (sp_dgR ?_)
    unfold qg at hQ
    by_cases d : qd (qk B m b.1) = true
    · rw [if_pos d, if_neg (fun hh => hh.2 d)] at hQ
      rw [if_pos d, if_neg (by decide : ¬ (1 : Int32) = 0)]
      have dq := qd_b.mp d
      have hlt : b.1 < m := qk_lt (B := B) (by omega)
      have hv3 : v < 1000 := Nat.lt_of_lt_of_le hv (by
        have : i ≤ 3 := by omega
        exact Nat.pow_le_pow_right (by decide) this)
      refine sp_look hm hB hb hP ⟨_, rfl, _, rfl, _, rfl, ?_⟩
      rw [qv_lt (by omega), nI_1, show (10 : Int32) = nI 10 from rfl, nI_mul, nI_add, show (48 : Int32) = nI 48 from rfl, sub_nI (by omega)]
      refine ih (i + 1) _ (qm b) _ (by omega) h0 (show b.1 + 1 ≤ m by omega) hl ?_ (pr_qm hP (by rw [hP.1, nI_1])) ?_
      · rw [Nat.pow_succ]; omega
      · rw [if_neg (by omega)]; exact hQ
    · rw [if_neg d] at hQ
      rw [if_neg d, if_pos rfl]
      by_cases z : i = 0
      · subst z
        rw [if_pos ⟨rfl, d⟩] at hQ
        unfold wp_X7_number_52 wp_X7_number_62
        rw [if_pos (show nI 0 = 0 from rfl)]
        refine ⟨Or.inr rfl, _, rfl, ?_⟩
        have hP1 := pr_qb hP
        refine sp_wrR (v := v) (Or.inl ⟨v, ?_, rfl, rfl, rfl⟩) hP1 (fun hh => absurd hh (by show ¬ true = false; decide)) fun ν1 hP2 => hQ _ ?_
        · have : (10 : Nat) ^ 0 = 1 := rfl
          omega
        · obtain ⟨h1, h2, ⟨k, h3, h4, h5⟩, h6⟩ := hP2
          exact ⟨h1, h2, ⟨k, h3, h4, fun hh => absurd hh (by show ¬ true = false; decide)⟩, h6⟩
      · rw [if_neg (fun hh => z hh.1)] at hQ
        exact fin i v b ν (by omega) (by omega) h0 hl hv hP hQ
/-- what a call of the reference's parser does -/
def RR (B : Nat → Nat) (m u : Nat) (ν0 : vM) (o n w : Nat) (x : Int32) (F : pS → pS) : Prop := ∀ (a : pS) (ν : vM) (Q : vM → Prop), a.2.1 = false → ES m a → PR B m u ν0 o a ν → (∀ ν', PR B m u ν0 o (F a) ν' → Q ν') → wg_tx n w x Q ν
theorem es_in {f : pS → pS} (hf : GP m f) {b : pS} {v : Nat} (hb : b.2.1 = false) (hE : ES m b) (hlt : b.1 < m) : ES m (qm b) ∧ ES m (qw (f (qm b)) v) ∧ ((f (qm b)).2.1 = false → (f (qm b)).2.2.length < (f (qm b)).1) ∧ (f (qm b)).1 ≤ m ∧ b.1 + 1 ≤ (f (qm b)).1 := by
  have hE' : ES m (qm b) := ⟨show b.1 + 1 ≤ m by omega, fun hb => Nat.le_succ_of_le (hE.2 hb)⟩
  obtain ⟨f1, f2, f3⟩ := hf (qm b) hb hE'.1
  have hl : (f (qm b)).2.1 = false → (f (qm b)).2.2.length < (f (qm b)).1 := fun hb' => by
    obtain ⟨s, e1, e2, -⟩ := f3 hb'
    have e3 := hE.2 hb
    have e2' : s.length + (b.1 + 1) ≤ (f (qm b)).1 := e2
    rw [e1, List.length_append]
    show b.2.2.length + s.length < _
    omega
  refine ⟨hE', ⟨f2, fun hb' => ?_⟩, hl, f2, f1⟩
  show ((f (qm b)).2.2 ++ [v]).length ≤ (f (qm b)).1
  rw [List.length_append, List.length_singleton]
  exact hl hb'
theorem en_s {c : Nat} (h : sgn c) : en (nI (20000 + c)) (nI c) 0 := Or.inr (Or.inr (Or.inr ⟨c, h, rfl, rfl⟩))
theorem qh_iff {q c : Nat} : qh q c = true ↔ c ∈ qL.getD q [] := by unfold qh; rw [List.contains_iff_mem]
theorem lp_times {n : Nat} {f : pS → pS} (hm : m ≤ 60) (hB : ∀ i, i < m → B i < 256) (hf : GP m f) (hc : RR B m u ν0 o n 5 0 f) {Q : vM → Prop} : ∀ (g : Nat) (b : pS) (ν : vM), m ≤ b.1 + g → ES m b → PR B m u ν0 o b ν → (∀ ν', PR B m u ν0 o (ql B m 7 f g b) ν' → Q ν') → wp_X7_times_4 (wg_tx n) Q (g + 1) ν := by
  intro g
  induction g with
  | zero =>
    intro b ν hg hE hP hQ
    unfold wp_X7_times_4
    rw [hP.2.1]
    by_cases c : b.2.1 = true
    · rw [if_pos c, if_neg (by decide : ¬ (1 : Int32) = 0)]
      exact hQ _ hP
    · rw [if_neg c, if_pos rfl]
      have e : qk B m b.1 = 999 := by
        unfold qk; rw [if_neg (by omega)]
      refine sp_look hm hB hE.1 hP ?_
      rw [if_neg (show ¬ qv (qk B m b.1) = (42 : Int32) from fun hh => by rw [e] at hh; exact absurd ((qv_iff (k := 42) (by decide)).mp hh) (by decide))]
      refine sp_look hm hB hE.1 hP ?_
      rw [if_neg (show ¬ qv (qk B m b.1) = (47 : Int32) from fun hh => by rw [e] at hh; exact absurd ((qv_iff (k := 47) (by decide)).mp hh) (by decide))]
      refine sp_look hm hB hE.1 hP ?_
      rw [if_neg (show ¬ qv (qk B m b.1) = (37 : Int32) from fun hh => by rw [e] at hh; exact absurd ((qv_iff (k := 37) (by decide)).mp hh) (by decide))]
      exact hQ _ hP
  | succ g ih =>
    intro b ν hg hE hP hQ
    unfold wp_X7_times_4
    rw [hP.2.1]
    unfold ql at hQ
    by_cases c : b.2.1 = true
    · rw [if_neg (fun hh => by rw [c] at hh; exact absurd hh.1 (by decide))] at hQ
      rw [if_pos c, if_neg (by decide : ¬ (1 : Int32) = 0)]
      exact hQ _ hP
    · rw [if_neg c, if_pos rfl]
      have c' := ts_nt c
      have step : ∀ {x : Nat}, qk B m b.1 = x → sgn x → qh 7 x = true → ∀ {V : vM → Prop}, (∀ ν', wp_X7_times_4 (wg_tx n) Q (g + 1) ν' → V ν') → wg_tx n 5 0 (fun μ31 => wp_X7_laysBy (nI x) (0 : Int32) V μ31) (st ν 0 15 (ν 0 15 + 1)) := by
        intro x hx hs hq V hV
        rw [if_pos ⟨c', by rw [hx]; exact hq⟩] at hQ
        have hlt : b.1 < m := qk_lt (B := B) (by rw [hx]; exact qh_b hq)
        obtain ⟨E1, E2, E3, E4, E5⟩ := es_in (v := 20000 + qk B m b.1) hf c' hE hlt
        refine hc (qm b) _ _ c' E1 (pr_qm hP (by rw [hP.1, nI_1])) fun ν1 hP1 => ?_
        refine sp_wrR (v := 20000 + x) (en_s hs) hP1 (fun hb => by have := E3 hb; omega) fun ν2 hP2 => hV _ ?_
        rw [← hx] at hP2
        exact ih (qw (f (qm b)) (20000 + qk B m b.1)) _ (show m ≤ (f (qm b)).1 + g by omega) E2 hP2 hQ
      refine sp_look hm hB hE.1 hP ?_
      by_cases d42 : qk B m b.1 = 42
      · rw [if_pos (show qv (qk B m b.1) = (42 : Int32) from (qv_iff (k := 42) (by decide)).mpr d42)]
        unfold wp_X7_times_38
        refine sp_look hm hB hE.1 hP ⟨_, rfl, ?_⟩
        rw [show qv (qk B m b.1) = nI 42 from (qv_iff (k := 42) (by decide)).mpr d42]
        exact step d42 (by unfold sgn; decide) (by decide) fun ν3 h3 => h3
      rw [if_neg (show ¬ qv (qk B m b.1) = (42 : Int32) from fun hh => d42 ((qv_iff (k := 42) (by decide)).mp hh))]
      refine sp_look hm hB hE.1 hP ?_
      by_cases d47 : qk B m b.1 = 47
      · rw [if_pos (show qv (qk B m b.1) = (47 : Int32) from (qv_iff (k := 47) (by decide)).mpr d47)]
        unfold wp_X7_times_38
        refine sp_look hm hB hE.1 hP ⟨_, rfl, ?_⟩
        rw [show qv (qk B m b.1) = nI 47 from (qv_iff (k := 47) (by decide)).mpr d47]
        exact step d47 (by unfold sgn; decide) (by decide) fun ν3 h3 => h3
      rw [if_neg (show ¬ qv (qk B m b.1) = (47 : Int32) from fun hh => d47 ((qv_iff (k := 47) (by decide)).mp hh))]
      refine sp_look hm hB hE.1 hP ?_
      by_cases d37 : qk B m b.1 = 37
      · rw [if_pos (show qv (qk B m b.1) = (37 : Int32) from (qv_iff (k := 37) (by decide)).mpr d37)]
        unfold wp_X7_times_38
        refine sp_look hm hB hE.1 hP ⟨_, rfl, ?_⟩
        rw [show qv (qk B m b.1) = nI 37 from (qv_iff (k := 37) (by decide)).mpr d37]
        exact step d37 (by unfold sgn; decide) (by decide) fun ν3 h3 => h3
      rw [if_neg (show ¬ qv (qk B m b.1) = (37 : Int32) from fun hh => d37 ((qv_iff (k := 37) (by decide)).mp hh))]
      rw [if_neg (fun hh => ?_)] at hQ
      · exact hQ _ hP
      · have h2 := qh_iff.mp hh.2
        simp [qL] at h2
        omega
theorem lev_times {n : Nat} {f : pS → pS} (hm : m ≤ 60) (hB : ∀ i, i < m → B i < 256) (hf : GP m f) (hc : RR B m u ν0 o n 5 0 f) : RR B m u ν0 o (n + 1) 4 0 (fun a => ql B m 7 f 60 (f a)) := by
  intro a ν Q h0 hE hP hQ
  show wp_X7_times (wg_tx n) Q ν
  unfold wp_X7_times
  refine hc a ν _ h0 hE hP fun ν1 hP1 => ⟨61, ?_⟩
  exact lp_times hm hB hf hc 60 (f a) ν1 (by omega) (gp_es hf h0 hE) hP1 hQ
theorem lp_sum {n : Nat} {f : pS → pS} (hm : m ≤ 60) (hB : ∀ i, i < m → B i < 256) (hf : GP m f) (hc : RR B m u ν0 o n 4 0 f) {Q : vM → Prop} : ∀ (g : Nat) (b : pS) (ν : vM), m ≤ b.1 + g → ES m b → PR B m u ν0 o b ν → (∀ ν', PR B m u ν0 o (ql B m 6 f g b) ν' → Q ν') → wp_X7_sum_4 (wg_tx n) Q (g + 1) ν := by
  intro g
  induction g with
  | zero =>
    intro b ν hg hE hP hQ
    unfold wp_X7_sum_4
    rw [hP.2.1]
    by_cases c : b.2.1 = true
    · rw [if_pos c, if_neg (by decide : ¬ (1 : Int32) = 0)]
      exact hQ _ hP
    · rw [if_neg c, if_pos rfl]
      have e : qk B m b.1 = 999 := by
        unfold qk; rw [if_neg (by omega)]
      refine sp_look hm hB hE.1 hP ?_
      rw [if_neg (show ¬ qv (qk B m b.1) = (43 : Int32) from fun hh => by rw [e] at hh; exact absurd ((qv_iff (k := 43) (by decide)).mp hh) (by decide))]
      refine sp_look hm hB hE.1 hP ?_
      rw [if_neg (show ¬ qv (qk B m b.1) = (45 : Int32) from fun hh => by rw [e] at hh; exact absurd ((qv_iff (k := 45) (by decide)).mp hh) (by decide))]
      exact hQ _ hP
  | succ g ih =>
    intro b ν hg hE hP hQ
    unfold wp_X7_sum_4
    rw [hP.2.1]
    unfold ql at hQ
    by_cases c : b.2.1 = true
    · rw [if_neg (fun hh => by rw [c] at hh; exact absurd hh.1 (by decide))] at hQ
      rw [if_pos c, if_neg (by decide : ¬ (1 : Int32) = 0)]
      exact hQ _ hP
    · rw [if_neg c, if_pos rfl]
      have c' := ts_nt c
      have step : ∀ {x : Nat}, qk B m b.1 = x → sgn x → qh 6 x = true → ∀ {V : vM → Prop}, (∀ ν', wp_X7_sum_4 (wg_tx n) Q (g + 1) ν' → V ν') → wg_tx n 4 0 (fun μ31 => wp_X7_laysBy (nI x) (0 : Int32) V μ31) (st ν 0 15 (ν 0 15 + 1)) := by
        intro x hx hs hq V hV
        rw [if_pos ⟨c', by rw [hx]; exact hq⟩] at hQ
        have hlt : b.1 < m := qk_lt (B := B) (by rw [hx]; exact qh_b hq)
        obtain ⟨E1, E2, E3, E4, E5⟩ := es_in (v := 20000 + qk B m b.1) hf c' hE hlt
        refine hc (qm b) _ _ c' E1 (pr_qm hP (by rw [hP.1, nI_1])) fun ν1 hP1 => ?_
        refine sp_wrR (v := 20000 + x) (en_s hs) hP1 (fun hb => by have := E3 hb; omega) fun ν2 hP2 => hV _ ?_
        rw [← hx] at hP2
        exact ih (qw (f (qm b)) (20000 + qk B m b.1)) _ (show m ≤ (f (qm b)).1 + g by omega) E2 hP2 hQ
      refine sp_look hm hB hE.1 hP ?_
      by_cases d43 : qk B m b.1 = 43
      · rw [if_pos (show qv (qk B m b.1) = (43 : Int32) from (qv_iff (k := 43) (by decide)).mpr d43)]
        unfold wp_X7_sum_29
        refine sp_look hm hB hE.1 hP ⟨_, rfl, ?_⟩
        rw [show qv (qk B m b.1) = nI 43 from (qv_iff (k := 43) (by decide)).mpr d43]
        exact step d43 (by unfold sgn; decide) (by decide) fun ν3 h3 => h3
      rw [if_neg (show ¬ qv (qk B m b.1) = (43 : Int32) from fun hh => d43 ((qv_iff (k := 43) (by decide)).mp hh))]
      refine sp_look hm hB hE.1 hP ?_
      by_cases d45 : qk B m b.1 = 45
      · rw [if_pos (show qv (qk B m b.1) = (45 : Int32) from (qv_iff (k := 45) (by decide)).mpr d45)]
        unfold wp_X7_sum_29
        refine sp_look hm hB hE.1 hP ⟨_, rfl, ?_⟩
        rw [show qv (qk B m b.1) = nI 45 from (qv_iff (k := 45) (by decide)).mpr d45]
        exact step d45 (by unfold sgn; decide) (by decide) fun ν3 h3 => h3
      rw [if_neg (show ¬ qv (qk B m b.1) = (45 : Int32) from fun hh => d45 ((qv_iff (k := 45) (by decide)).mp hh))]
      rw [if_neg (fun hh => ?_)] at hQ
      · exact hQ _ hP
      · have h2 := qh_iff.mp hh.2
        simp [qL] at h2
        omega
theorem lev_sum {n : Nat} {f : pS → pS} (hm : m ≤ 60) (hB : ∀ i, i < m → B i < 256) (hf : GP m f) (hc : RR B m u ν0 o n 4 0 f) : RR B m u ν0 o (n + 1) 3 0 (fun a => ql B m 6 f 60 (f a)) := by
  intro a ν Q h0 hE hP hQ
  show wp_X7_sum (wg_tx n) Q ν
  unfold wp_X7_sum
  refine hc a ν _ h0 hE hP fun ν1 hP1 => ⟨61, ?_⟩
  exact lp_sum hm hB hf hc 60 (f a) ν1 (by omega) (gp_es hf h0 hE) hP1 hQ
theorem lp_all {n : Nat} {f : pS → pS} (hm : m ≤ 60) (hB : ∀ i, i < m → B i < 256) (hf : GP m f) (hc : RR B m u ν0 o n 2 0 f) {Q : vM → Prop} : ∀ (g : Nat) (b : pS) (ν : vM), m ≤ b.1 + g → ES m b → PR B m u ν0 o b ν → (∀ ν', PR B m u ν0 o (ql B m 4 f g b) ν' → Q ν') → wp_X7_all_4 (wg_tx n) Q (g + 1) ν := by
  intro g
  induction g with
  | zero =>
    intro b ν hg hE hP hQ
    unfold wp_X7_all_4
    rw [hP.2.1]
    by_cases c : b.2.1 = true
    · rw [if_pos c, if_neg (by decide : ¬ (1 : Int32) = 0)]
      exact hQ _ hP
    · rw [if_neg c, if_pos rfl]
      have e : qk B m b.1 = 999 := by
        unfold qk; rw [if_neg (by omega)]
      refine sp_look hm hB hE.1 hP ?_
      rw [if_neg (show ¬ qv (qk B m b.1) = (38 : Int32) from fun hh => by rw [e] at hh; exact absurd ((qv_iff (k := 38) (by decide)).mp hh) (by decide))]
      exact hQ _ hP
  | succ g ih =>
    intro b ν hg hE hP hQ
    unfold wp_X7_all_4
    rw [hP.2.1]
    unfold ql at hQ
    by_cases c : b.2.1 = true
    · rw [if_neg (fun hh => by rw [c] at hh; exact absurd hh.1 (by decide))] at hQ
      rw [if_pos c, if_neg (by decide : ¬ (1 : Int32) = 0)]
      exact hQ _ hP
    · rw [if_neg c, if_pos rfl]
      have c' := ts_nt c
      have step : ∀ {x : Nat}, qk B m b.1 = x → sgn x → qh 4 x = true → ∀ {V : vM → Prop}, (∀ ν', wp_X7_all_4 (wg_tx n) Q (g + 1) ν' → V ν') → wg_tx n 2 0 (fun μ31 => wp_X7_laysBy (nI x) (0 : Int32) V μ31) (st ν 0 15 (ν 0 15 + 1)) := by
        intro x hx hs hq V hV
        rw [if_pos ⟨c', by rw [hx]; exact hq⟩] at hQ
        have hlt : b.1 < m := qk_lt (B := B) (by rw [hx]; exact qh_b hq)
        obtain ⟨E1, E2, E3, E4, E5⟩ := es_in (v := 20000 + qk B m b.1) hf c' hE hlt
        refine hc (qm b) _ _ c' E1 (pr_qm hP (by rw [hP.1, nI_1])) fun ν1 hP1 => ?_
        refine sp_wrR (v := 20000 + x) (en_s hs) hP1 (fun hb => by have := E3 hb; omega) fun ν2 hP2 => hV _ ?_
        rw [← hx] at hP2
        exact ih (qw (f (qm b)) (20000 + qk B m b.1)) _ (show m ≤ (f (qm b)).1 + g by omega) E2 hP2 hQ
      refine sp_look hm hB hE.1 hP ?_
      by_cases d38 : qk B m b.1 = 38
      · rw [if_pos (show qv (qk B m b.1) = (38 : Int32) from (qv_iff (k := 38) (by decide)).mpr d38)]
        exact ⟨_, rfl, step d38 (by unfold sgn; decide) (by decide) fun ν3 h3 => h3⟩
      rw [if_neg (show ¬ qv (qk B m b.1) = (38 : Int32) from fun hh => d38 ((qv_iff (k := 38) (by decide)).mp hh))]
      rw [if_neg (fun hh => ?_)] at hQ
      · exact hQ _ hP
      · have h2 := qh_iff.mp hh.2
        simp [qL] at h2
        omega
theorem lev_all {n : Nat} {f : pS → pS} (hm : m ≤ 60) (hB : ∀ i, i < m → B i < 256) (hf : GP m f) (hc : RR B m u ν0 o n 2 0 f) : RR B m u ν0 o (n + 1) 1 0 (fun a => ql B m 4 f 60 (f a)) := by
  intro a ν Q h0 hE hP hQ
  show wp_X7_all (wg_tx n) Q ν
  unfold wp_X7_all
  refine hc a ν _ h0 hE hP fun ν1 hP1 => ⟨61, ?_⟩
  exact lp_all hm hB hf hc 60 (f a) ν1 (by omega) (gp_es hf h0 hE) hP1 hQ
theorem lp_any {n : Nat} {f : pS → pS} (hm : m ≤ 60) (hB : ∀ i, i < m → B i < 256) (hf : GP m f) (hc : RR B m u ν0 o n 1 0 f) {Q : vM → Prop} : ∀ (g : Nat) (b : pS) (ν : vM), m ≤ b.1 + g → ES m b → PR B m u ν0 o b ν → (∀ ν', PR B m u ν0 o (ql B m 3 f g b) ν' → Q ν') → wp_X7_any_4 (wg_tx n) Q (g + 1) ν := by
  intro g
  induction g with
  | zero =>
    intro b ν hg hE hP hQ
    unfold wp_X7_any_4
    rw [hP.2.1]
    by_cases c : b.2.1 = true
    · rw [if_pos c, if_neg (by decide : ¬ (1 : Int32) = 0)]
      exact hQ _ hP
    · rw [if_neg c, if_pos rfl]
      have e : qk B m b.1 = 999 := by
        unfold qk; rw [if_neg (by omega)]
      refine sp_look hm hB hE.1 hP ?_
      rw [if_neg (show ¬ qv (qk B m b.1) = (124 : Int32) from fun hh => by rw [e] at hh; exact absurd ((qv_iff (k := 124) (by decide)).mp hh) (by decide))]
      exact hQ _ hP
  | succ g ih =>
    intro b ν hg hE hP hQ
    unfold wp_X7_any_4
    rw [hP.2.1]
    unfold ql at hQ
    by_cases c : b.2.1 = true
    · rw [if_neg (fun hh => by rw [c] at hh; exact absurd hh.1 (by decide))] at hQ
      rw [if_pos c, if_neg (by decide : ¬ (1 : Int32) = 0)]
      exact hQ _ hP
    · rw [if_neg c, if_pos rfl]
      have c' := ts_nt c
      have step : ∀ {x : Nat}, qk B m b.1 = x → sgn x → qh 3 x = true → ∀ {V : vM → Prop}, (∀ ν', wp_X7_any_4 (wg_tx n) Q (g + 1) ν' → V ν') → wg_tx n 1 0 (fun μ31 => wp_X7_laysBy (nI x) (0 : Int32) V μ31) (st ν 0 15 (ν 0 15 + 1)) := by
        intro x hx hs hq V hV
        rw [if_pos ⟨c', by rw [hx]; exact hq⟩] at hQ
        have hlt : b.1 < m := qk_lt (B := B) (by rw [hx]; exact qh_b hq)
        obtain ⟨E1, E2, E3, E4, E5⟩ := es_in (v := 20000 + qk B m b.1) hf c' hE hlt
        refine hc (qm b) _ _ c' E1 (pr_qm hP (by rw [hP.1, nI_1])) fun ν1 hP1 => ?_
        refine sp_wrR (v := 20000 + x) (en_s hs) hP1 (fun hb => by have := E3 hb; omega) fun ν2 hP2 => hV _ ?_
        rw [← hx] at hP2
        exact ih (qw (f (qm b)) (20000 + qk B m b.1)) _ (show m ≤ (f (qm b)).1 + g by omega) E2 hP2 hQ
      refine sp_look hm hB hE.1 hP ?_
      by_cases d124 : qk B m b.1 = 124
      · rw [if_pos (show qv (qk B m b.1) = (124 : Int32) from (qv_iff (k := 124) (by decide)).mpr d124)]
        exact ⟨_, rfl, step d124 (by unfold sgn; decide) (by decide) fun ν3 h3 => h3⟩
      rw [if_neg (show ¬ qv (qk B m b.1) = (124 : Int32) from fun hh => d124 ((qv_iff (k := 124) (by decide)).mp hh))]
      rw [if_neg (fun hh => ?_)] at hQ
      · exact hQ _ hP
      · have h2 := qh_iff.mp hh.2
        simp [qL] at h2
        omega
theorem lev_any {n : Nat} {f : pS → pS} (hm : m ≤ 60) (hB : ∀ i, i < m → B i < 256) (hf : GP m f) (hc : RR B m u ν0 o n 1 0 f) : RR B m u ν0 o (n + 1) 0 0 (fun a => ql B m 3 f 60 (f a)) := by
  intro a ν Q h0 hE hP hQ
  show wp_X7_any (wg_tx n) Q ν
  unfold wp_X7_any
  refine hc a ν _ h0 hE hP fun ν1 hP1 => ⟨61, ?_⟩
  exact lp_any hm hB hf hc 60 (f a) ν1 (by omega) (gp_es hf h0 hE) hP1 hQ
theorem leafR (hm : m ≤ 60) (hu : u < 2) (hB : ∀ i, i < m → B i < 256) {Q : vM → Prop} {X Y : Prop} (h0 : a.2.1 = false) (hE : ES m a) (hP : PR B m u ν0 o a ν) (hQ : ∀ ν', PR B m u ν0 o (qf B m u a) ν' → Q ν') (h8 : ¬ qh 8 (qk B m a.1) = true) : if (if qn u (qk B m a.1) < 3 then nI (qn u (qk B m a.1)) else -1) < 0 then if qv (qk B m a.1) = (33 : Int32) then X else if qv (qk B m a.1) = (40 : Int32) then Y else wp_X7_number (fun μ55 => Q μ55) ν else ∃ μ22 : vM, μ22 = st ν 0 15 ((ν 0 15) + (1 : Int32)) ∧ wp_X7_laysBy (2 : Int32) (if qn u (qk B m a.1) < 3 then nI (qn u (qk B m a.1)) else -1) (fun μ28 => Q μ28) μ22 := by
  have hl := hE.2 h0
  have hE1 := hE.1
  unfold qf at hQ
  by_cases c : qn u (qk B m a.1) < 3
  · rw [if_pos c] at hQ
    rw [if_pos c, if_neg (nI_pos (by omega))]
    have hlt := qk_lt (qn_b c)
    refine ⟨_, rfl, ?_⟩
    refine sp_wrR (v := 10000 + qn u (qk B m a.1)) (Or.inr (Or.inl ⟨_, c, rfl, rfl, rfl⟩)) (pr_qm hP (by rw [hP.1, nI_1])) (fun _ => ?_) hQ
    show a.2.2.length < 60
    omega
  · rw [if_neg c] at hQ
    rw [if_neg c, if_pos (by decide)]
    rw [if_neg (show ¬ qv (qk B m a.1) = (33 : Int32) from fun hh => h8 (by rw [(qv_iff (k := 33) (by decide)).mp hh]; decide)), if_neg (show ¬ qv (qk B m a.1) = (40 : Int32) from fun hh => h8 (by rw [(qv_iff (k := 40) (by decide)).mp hh]; decide))]
    unfold wp_X7_number
    by_cases l60 : a.2.2.length < 60
    · refine ⟨5, sp_numR hm hB 4 0 0 a ν (by omega) h0 hE.1 l60 (by decide) hP ?_⟩
      by_cases d : qd (qk B m a.1) = true
      · rw [if_pos d] at hQ
        rw [if_neg (fun hh => hh.2 d)]
        exact hQ
      · rw [if_neg d] at hQ
        rw [if_pos ⟨rfl, d⟩]
        exact hQ
    · have e : qk B m a.1 = 999 := by
        unfold qk; rw [if_neg (by omega)]
      refine ⟨5, ?_⟩
      unfold wp_X7_number_4
      rw [if_neg (by decide)]
      refine sp_look hm hB hE.1 hP (sp_dgR ?_)
      rw [e] at hQ ⊢
      rw [if_neg (by decide : ¬ qd 999 = true)] at hQ ⊢
      rw [if_pos rfl]
      unfold wp_X7_number_52 wp_X7_number_62
      rw [if_pos rfl]
      refine ⟨Or.inr rfl, _, rfl, ?_⟩
      refine sp_wrR (v := 0) (Or.inl ⟨0, by decide, rfl, rfl, rfl⟩) (pr_qb hP) (fun hh => absurd hh (by show ¬ true = false; decide)) fun ν1 hP2 => hQ _ ?_
      obtain ⟨h1, h2, ⟨k, h3, h4, h5⟩, h6⟩ := hP2
      exact ⟨h1, h2, ⟨k, h3, h4, fun hh => absurd hh (by show ¬ true = false; decide)⟩, h6⟩
theorem lev_compares {n : Nat} {f : pS → pS} (hm : m ≤ 60) (hB : ∀ i, i < m → B i < 256) (hf : GP m f) (hc : RR B m u ν0 o n 3 0 f) : RR B m u ν0 o (n + 1) 2 0 (fun a => ql B m 5 f 1 (f a)) := by
  intro a ν Q h0 hE hP hQ
  show wp_X7_compares (wg_tx n) Q ν
  unfold wp_X7_compares
  refine hc a ν _ h0 hE hP fun ν1 hP1 => ?_
  have hEb := gp_es hf h0 hE
  have hQ' : ∀ ν', PR B m u ν0 o (ql B m 5 f 1 (f a)) ν' → Q ν' := hQ
  generalize f a = b at hP1 hEb hQ'
  refine sp_look hm hB hEb.1 hP1 ?_
  rw [hP1.2.1]
  unfold ql ql at hQ'
  by_cases c : b.2.1 = true
  · rw [if_neg (fun hh => by rw [c] at hh; exact absurd hh.1 (by decide))] at hQ'
    rw [if_pos c, if_neg (by decide : ¬ (1 : Int32) = 0)]
    exact hQ' _ hP1
  · rw [if_neg c, if_pos rfl]
    have c' := ts_nt c
    have step : ∀ {x : Nat}, qk B m b.1 = x → sgn x → qh 5 x = true → wp_X7_compares_34 (wg_tx n) Q (qv (qk B m b.1)) ν1 := by
      intro x hx hs hq
      unfold wp_X7_compares_34
      rw [if_pos ⟨c', by rw [hx]; exact hq⟩] at hQ'
      have hb := qh_b hq
      have hlt : b.1 < m := qk_lt (B := B) (by rw [hx]; exact hb)
      obtain ⟨E1, E2, E3, E4, E5⟩ := es_in (v := 20000 + qk B m b.1) hf c' hEb hlt
      refine ⟨_, rfl, hc (qm b) _ _ c' E1 (pr_qm hP1 (by rw [hP1.1, nI_1])) fun ν2 hP2 => ?_⟩
      rw [hx, qv_lt hb]
      refine sp_wrR (v := 20000 + x) (en_s hs) hP2 (fun hb => by have := E3 hb; omega) fun ν3 hP3 => hQ' _ ?_
      rw [hx]
      exact hP3
    by_cases d60 : qk B m b.1 = 60
    · rw [if_pos (show qv (qk B m b.1) = (60 : Int32) from (qv_iff (k := 60) (by decide)).mpr d60)]
      exact step d60 (by unfold sgn; decide) (by decide)
    rw [if_neg (show ¬ qv (qk B m b.1) = (60 : Int32) from fun hh => d60 ((qv_iff (k := 60) (by decide)).mp hh))]
    by_cases d61 : qk B m b.1 = 61
    · rw [if_pos (show qv (qk B m b.1) = (61 : Int32) from (qv_iff (k := 61) (by decide)).mpr d61)]
      exact step d61 (by unfold sgn; decide) (by decide)
    rw [if_neg (show ¬ qv (qk B m b.1) = (61 : Int32) from fun hh => d61 ((qv_iff (k := 61) (by decide)).mp hh))]
    by_cases d62 : qk B m b.1 = 62
    · rw [if_pos (show qv (qk B m b.1) = (62 : Int32) from (qv_iff (k := 62) (by decide)).mpr d62)]
      exact step d62 (by unfold sgn; decide) (by decide)
    rw [if_neg (show ¬ qv (qk B m b.1) = (62 : Int32) from fun hh => d62 ((qv_iff (k := 62) (by decide)).mp hh))]
    rw [if_neg (fun hh => ?_)] at hQ'
    · exact hQ' _ hP1
    · have h2 := qh_iff.mp hh.2
      simp [qL] at h2
      omega
theorem any_R {n : Nat} {f : pS → pS} (hm : m ≤ 60) (hB : ∀ i, i < m → B i < 256) (hf : GP m f) (hc : RR B m u ν0 o n 5 0 f) : RR B m u ν0 o (n + 5) 0 0 (qr B m f 5) :=
  lev_any hm hB (gp_qr (B := B) hf 4 (by decide)) (lev_all hm hB (gp_qr (B := B) hf 3 (by decide)) (lev_compares hm hB (gp_qr (B := B) hf 2 (by decide)) (lev_sum hm hB (gp_qr (B := B) hf 1 (by decide)) (lev_times hm hB hf hc))))
theorem tx_5 {N : Nat} {Q : vM → Prop} (hw : wp_X7_one (wg_tx N) Q ν) : wg_tx (N + 1) 5 0 Q ν := hw
theorem tx_6 {N : Nat} {x : Int32} {Q : vM → Prop} (hw : wp_X7_opensBy (wg_tx N) x Q ν) : wg_tx (N + 1) 6 x Q ν := hw
theorem qn8 {u c : Nat} (h : qh 8 c = true) : ¬ qn u c < 3 := by
  have h2 := qh_iff.mp h
  simp [qL] at h2
  unfold qn
  repeat' split
  all_goals omega
theorem n5R {d : Nat} : ¬ nI (5 - (d + 1)) = (5 : Int32) := fun hh => by
  have := congrArg Int32.toInt hh
  rw [nI_toInt (by omega), show (5 : Int32).toInt = 5 by decide] at this
  omega
theorem pr_bk {d : Nat} (hd : d + 1 ≤ 5) (h : PR B m u ν0 (5 - d) a ν) : PR B m u ν0 (5 - (d + 1)) a (st ν 0 16 (ν 0 16 - 1)) := pr_op h (by
  rw [h.2.2.2.1, show (1 : Int32) = nI 1 from rfl, sub_nI (by omega), show 5 - d - 1 = 5 - (d + 1) by omega])
theorem pr_fw {d : Nat} (hd : d + 1 ≤ 5) (hP : PR B m u ν0 (5 - (d + 1)) a ν) : PR B m u ν0 (5 - d) (qm a) (st (st ν 0 16 (ν 0 16 + 1)) 0 15 ((st ν 0 16 (ν 0 16 + 1)) 0 15 + 1)) := by
  have p1 : PR B m u ν0 (5 - d) a (st ν 0 16 (ν 0 16 + 1)) := pr_op hP (by rw [hP.2.2.2.1, er_ (by omega)])
  exact pr_qm p1 (by rw [p1.1, nI_1])
theorem pr_hr (p1 : PR B m u ν0 o a ν) {v : Int32} (hv : v = nI a.1) : PR B m u ν0 o a (st ν 0 15 v) := by
  obtain ⟨h1, h2, ⟨k, h3, h4, h5⟩, h6, h7, h8, h9, h10⟩ := p1
  refine ⟨?_, ?_, ⟨k, h3, ?_, fun hb => ⟨(h5 hb).1, fun i hi => ?_⟩⟩, ?_, ?_, ⟨?_, fun i hi => ?_⟩, fun j hj hj1 hj2 => ?_, fun k hk => ?_⟩
  · rw [st_eq, upd_eq, hv]
  · rw [st_eq, upd_ne (by decide)]; exact h2
  · rw [st_eq, upd_ne (by decide)]; exact h4
  · rw [st_ne (by decide), st_ne (by decide)]; exact (h5 hb).2 i hi
  · rw [st_eq, upd_ne (by decide)]; exact h6
  · rw [st_eq, upd_ne (by decide)]; exact h7
  · rw [st_ne (by decide)]; exact h8.1
  · rw [st_ne (by decide)]; exact h8.2 i hi
  · rw [st_ne hj]; exact h9 j hj hj1 hj2
  · rw [st_eq, upd_ne (by omega)]; exact h10 k hk
theorem opn_bad {rec : Nat → Int32 → (vM → Prop) → vM → Prop} {x : Int32} {b : pS} {d : Nat} (hd : d + 1 ≤ 5) {Q : vM → Prop} (hP2 : PR B m u ν0 (5 - d) b ν) (hQ : ∀ ν', PR B m u ν0 (5 - (d + 1)) (qb b) ν' → Q ν') : wp_X7_opensBy_74 rec x Q ν := by
  unfold wp_X7_opensBy_74 wp_X7_opensBy_79 wp_X7_opensBy_99
  refine ⟨Or.inr rfl, _, rfl, _, rfl, _, rfl, hQ _ (pr_bk hd ?_)⟩
  have p1 := pr_qb hP2
  have e17 : (st ν 0 17 1) 0 17 = 1 := by rw [st_eq, upd_eq]
  refine pr_hr p1 ?_
  rw [p1.1, e17, if_neg (by decide : ¬ (1 : Int32) = 0)]
  exact Int32.add_zero _
theorem opn_ok {rec : Nat → Int32 → (vM → Prop) → vM → Prop} {x : Int32} {b : pS} {d : Nat} (hd : d + 1 ≤ 5) {Q : vM → Prop} (hb : b.2.1 = false) (hP2 : PR B m u ν0 (5 - d) b ν) (hQ : ∀ ν', PR B m u ν0 (5 - (d + 1)) (qm b) ν' → Q ν') : wp_X7_opensBy_79 rec x Q 0 ν := by
  unfold wp_X7_opensBy_79 wp_X7_opensBy_99
  have p1 := pr_q0 hP2 hb
  have e17 : (st ν 0 17 0) 0 17 = 0 := by rw [st_eq, upd_eq]
  refine ⟨Or.inl rfl, _, rfl, _, rfl, _, rfl, hQ _ (pr_bk hd (pr_qm p1 ?_))⟩
  rw [p1.1, e17, if_pos rfl, nI_1]
theorem opn_b {d N : Nat} (hd : d + 1 ≤ 5) (hm : m ≤ 60) (ih : RR B m u ν0 (5 - d) N 5 0 (qo B m u d)) {Q : vM → Prop} (h0 : a.2.1 = false) (hE : ES m a) (hlt : a.1 < m) (hP : PR B m u ν0 (5 - (d + 1)) a ν) (hQ : ∀ ν', PR B m u ν0 (5 - (d + 1)) (qw (qo B m u d (qm a)) 20033) ν' → Q ν') : wp_X7_opensBy (wg_tx N) 33 Q ν := by
  have hE' : ES m (qm a) := ⟨show a.1 + 1 ≤ m by omega, fun hb => Nat.le_succ_of_le (hE.2 hb)⟩
  have hl := hE.2 h0
  have hP1 := pr_fw hd hP
  unfold wp_X7_opensBy
  have n5 : ¬ ν 0 16 = (5 : Int32) := by rw [hP.2.2.2.1]; exact n5R
  rw [if_neg n5]
  refine ⟨_, rfl, _, rfl, ?_⟩
  rw [if_pos rfl]
  refine ih (qm a) _ _ h0 hE' hP1 fun ν1 hP2 => ?_
  have gp := gp_qo (B := B) (m := m) (u := u) d (qm a) h0 hE'.1
  refine sp_wrR (v := 20033) (Or.inr (Or.inr (Or.inl ⟨rfl, rfl⟩))) hP2 (fun hb => ?_) fun ν2 hP3 => ⟨_, rfl, hQ _ (pr_bk hd hP3)⟩
  obtain ⟨s, e1, e2, -⟩ := gp.2.2 hb
  have e2' : s.length + (a.1 + 1) ≤ (qo B m u d (qm a)).1 := e2
  have e3 := gp.2.1
  rw [e1, List.length_append]
  show a.2.2.length + s.length < 60
  omega
theorem opn_p {d N : Nat} (hd : d + 1 ≤ 5) (hm : m ≤ 60) (hB : ∀ i, i < m → B i < 256) {F : pS → pS} (gF : GP m F) (ih : RR B m u ν0 (5 - d) N 0 0 F) {Q : vM → Prop} (h0 : a.2.1 = false) (hE : ES m a) (hlt : a.1 < m) (hP : PR B m u ν0 (5 - (d + 1)) a ν) (hQ : ∀ ν', PR B m u ν0 (5 - (d + 1)) (if (F (qm a)).2.1 = false ∧ qh 9 (qk B m (F (qm a)).1) = true then qm (F (qm a)) else qb (F (qm a))) ν' → Q ν') : wp_X7_opensBy (wg_tx N) 40 Q ν := by
  have hE' : ES m (qm a) := ⟨show a.1 + 1 ≤ m by omega, fun hb => Nat.le_succ_of_le (hE.2 hb)⟩
  have hP1 := pr_fw hd hP
  unfold wp_X7_opensBy
  have n5 : ¬ ν 0 16 = (5 : Int32) := by rw [hP.2.2.2.1]; exact n5R
  rw [if_neg n5]
  refine ⟨_, rfl, _, rfl, ?_⟩
  rw [if_neg (by decide : ¬ (40 : Int32) = 33)]
  refine ih (qm a) _ _ h0 hE' hP1 fun ν1 hP2 => ?_
  have gp := gF (qm a) h0 hE'.1
  generalize F (qm a) = b at hQ hP2 gp
  rw [hP2.2.1]
  by_cases g : b.2.1 = true
  · rw [if_pos g, if_neg (by decide : ¬ (1 : Int32) = 0)]
    rw [if_neg (fun hh => by rw [g] at hh; exact absurd hh.1 (by decide))] at hQ
    exact opn_bad hd hP2 hQ
  · rw [if_neg g, if_pos rfl]
    refine sp_look hm hB gp.2.1 hP2 ?_
    by_cases k : qk B m b.1 = 41
    · rw [if_pos (show qv (qk B m b.1) = (41 : Int32) from (qv_iff (k := 41) (by decide)).mpr k)]
      rw [if_pos ⟨ts_nt g, by rw [k]; decide⟩] at hQ
      exact opn_ok hd (ts_nt g) hP2 hQ
    · rw [if_neg (show ¬ qv (qk B m b.1) = (41 : Int32) from fun hh => k ((qv_iff (k := 41) (by decide)).mp hh))]
      rw [if_neg (fun hh => k (by
        have h3 := qh_iff.mp hh.2
        simp [qL] at h3
        exact h3))] at hQ
      exact opn_bad hd hP2 hQ
theorem opn_0 {N : Nat} {x : Int32} {Q : vM → Prop} (hP : PR B m u ν0 5 a ν) (hQ : ∀ ν', PR B m u ν0 5 (qb a) ν' → Q ν') : wp_X7_opensBy (wg_tx N) x Q ν := by
  unfold wp_X7_opensBy
  rw [hP.2.2.2.1, if_pos (show nI 5 = (5 : Int32) by decide)]
  exact ⟨Or.inr rfl, _, rfl, hQ _ (pr_qb hP)⟩
theorem one_o {N : Nat} (hm : m ≤ 60) (hu : u < 2) (hB : ∀ i, i < m → B i < 256) {Q : vM → Prop} (hE : ES m a) (hP : PR B m u ν0 o a ν) (c : qh 8 (qk B m a.1) = true) (h33 : qk B m a.1 = 33 → wp_X7_opensBy (wg_tx N) 33 Q ν) (h40 : ¬ qk B m a.1 = 33 → wp_X7_opensBy (wg_tx N) 40 Q ν) : wg_tx (N + 1 + 1) 5 0 Q ν := by
  apply tx_5
  unfold wp_X7_one
  refine sp_look hm hB hE.1 hP (sp_nmR hu hP.2.2.2.2.1 ?_)
  rw [if_neg (qn8 c), if_pos (by decide)]
  unfold wp_X7_one_46
  have h2 := qh_iff.mp c
  simp [qL] at h2
  by_cases f : qk B m a.1 = 33
  · rw [if_pos (show qv (qk B m a.1) = (33 : Int32) from (qv_iff (k := 33) (by decide)).mpr f)]
    apply tx_6
    rw [show qv (qk B m a.1) = (33 : Int32) from (qv_iff (k := 33) (by decide)).mpr f]
    exact h33 f
  · have e40 : qv (qk B m a.1) = (40 : Int32) := (qv_iff (k := 40) (by decide)).mpr (by omega)
    rw [e40, if_neg (by decide), if_pos rfl]
    apply tx_6
    exact h40 f
theorem one_l {N : Nat} (hm : m ≤ 60) (hu : u < 2) (hB : ∀ i, i < m → B i < 256) {Q : vM → Prop} (h0 : a.2.1 = false) (hE : ES m a) (hP : PR B m u ν0 o a ν) (c : ¬ qh 8 (qk B m a.1) = true) (hQ : ∀ ν', PR B m u ν0 o (qf B m u a) ν' → Q ν') : wg_tx (N + 1) 5 0 Q ν := by
  apply tx_5
  unfold wp_X7_one
  refine sp_look hm hB hE.1 hP (sp_nmR hu hP.2.2.2.2.1 ?_)
  exact leafR hm hu hB h0 hE hP hQ c
theorem oneR (hm : m ≤ 60) (hu : u < 2) (hB : ∀ i, i < m → B i < 256) : ∀ d, d ≤ 5 → ∀ e, RR B m u ν0 (5 - d) (7 * d + 2 + e) 5 0 (qo B m u d) := by
  intro d
  induction d with
  | zero =>
    intro _ e a ν Q h0 hE hP hQ
    have en : 7 * 0 + 2 + e = e + 1 + 1 := by omega
    rw [en]
    rw [Nat.sub_zero] at hP hQ
    unfold qo at hQ
    by_cases c : qh 8 (qk B m a.1) = true
    · rw [if_pos c] at hQ
      exact one_o hm hu hB hE hP c (fun _ => opn_0 hP hQ) (fun _ => opn_0 hP hQ)
    · rw [if_neg c] at hQ
      exact one_l hm hu hB h0 hE hP c hQ
  | succ d ih0 =>
    intro hd e a ν Q h0 hE hP hQ
    have ih := ih0 (by omega)
    have en : 7 * (d + 1) + 2 + e = 7 * d + 2 + (e + 5) + 1 + 1 := by omega
    rw [en]
    unfold qo at hQ
    by_cases c : qh 8 (qk B m a.1) = true
    · rw [if_pos c] at hQ
      have hlt := qk_lt (qh_b c)
      refine one_o hm hu hB hE hP c (fun f => ?_) (fun f => ?_)
      · rw [if_pos f] at hQ
        exact opn_b hd hm (ih (e + 5)) h0 hE hlt hP hQ
      · rw [if_neg f] at hQ
        have ih2 := any_R hm hB (gp_qo d) (ih e)
        rw [show 7 * d + 2 + e + 5 = 7 * d + 2 + (e + 5) by omega] at ih2
        exact opn_p hd hm hB (gp_qr (B := B) (gp_qo (B := B) (m := m) (u := u) d) 5 (by omega)) ih2 h0 hE hlt hP hQ
    · rw [if_neg c] at hQ
      exact one_l hm hu hB h0 hE hP c hQ
end PRV
