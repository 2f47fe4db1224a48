/-! measure, join, shut -/
def ky (p q : Nat) : Nat := 10 * min p q + max p q
/-- the table is right for the ways of ρ whose key lies below t -/
def msG (ρ : Nat → Int32) (j t : Nat) (m : vM) : Prop := ∃ ρt : Nat → Int32, (∀ p q, p < 10 → (ed ρt p q ↔ ed ρ p q ∧ ky p q < t)) ∧ ∀ p, p < 10 → ∀ q, q < 10 → isD ρt p q (m (j + 2) (10 * p + q))
theorem msG_up {ρ : Nat → Int32} {j t t' : Nat} {m : vM} (ht : ∀ p q, p < 10 → ed ρ p q → (ky p q < t' ↔ ky p q < t)) (h : msG ρ j t m) : msG ρ j t' m := by
  obtain ⟨ρt, h1, h2⟩ := h
  refine ⟨ρt, fun p q hp => ?_, h2⟩
  rw [h1 p q hp]
  constructor
  · rintro ⟨a, b⟩; exact ⟨a, (ht p q hp a).mpr b⟩
  · rintro ⟨a, b⟩; exact ⟨a, (ht p q hp a).mp b⟩
theorem sp_measure {ρ : Nat → Int32} {j : Nat} (hw : inw ρ) {μ : vM} (hr : ∀ p, p < 10 → μ (j + 1) p = ρ (9 + p)) {Q : vM → Prop}
    (h : ∀ μ' : vM, (∀ p, p < 10 → ∀ q, q < 10 → isD ρ p q (μ' (j + 2) (10 * p + q))) → (∀ i, i ≠ j + 2 → μ' i = μ i) → Q μ') : wp_X3_measure j Q μ := by
  have inner : ∀ (k : Int32 → vM → Prop) (p : Nat), p < 10 → (∀ m', msG ρ j (10 * p + 10) m' → (∀ i, i ≠ j + 2 → m' i = μ i) → k (nI (p + 1)) m') → ∀ (g q : Nat) (m : vM), q + g = 10 → p < q → msG ρ j (10 * p + q) m → (∀ i, i ≠ j + 2 → m i = μ i) → wp_X3_measure_52 j Q k (g + 1) (nI p) (nI q) m := by
    intro k p hp hk g
    induction g with
    | zero =>
      intro q m hq hpq hI hF
      have : q = 10 := by omega
      subst this
      unfold wp_X3_measure_52
      rw [if_pos (show (10 : Int32) ≤ nI 10 by decide)]
      exact ⟨_, rfl, by rw [nI_1]; exact hk m hI hF⟩
    | succ g ih =>
      intro q m hq hpq hI hF
      have hq10 : q < 10 := by omega
      unfold wp_X3_measure_52
      rw [if_neg (show ¬ (10 : Int32) ≤ nI q from nI_ge (b := 10) (by omega) (by decide)), sp_open hp hq10, hF (j + 1) (by omega), hr p hp]
      by_cases c : bt (ρ (9 + p)) q = true
      · rw [if_pos c, if_neg (by decide)]
        obtain ⟨ρt, h1, h2⟩ := hI
        have c2 : ed ρ p q := c
        have c3 := (hw p hp q c2).2.2
        obtain ⟨ρn, hn⟩ := row_ex (fun x y => bt (ρ (9 + x)) y && (decide (y < 10) && decide (ky x y < 10 * p + q + 1)))
        have hn2 : ∀ x y, x < 10 → (ed ρn x y ↔ ed ρ x y ∧ ky x y < 10 * p + q + 1) := by
          intro x y hx
          by_cases y32 : y < 32
          · rw [hn x y y32]
            simp only [Bool.and_eq_true, decide_eq_true_eq]
            constructor
            · rintro ⟨a, b, d⟩; exact ⟨a, d⟩
            · rintro ⟨a, d⟩; exact ⟨a, (hw x hx y a).1, d⟩
          · constructor
            · intro a
              have a' : bt (ρn (9 + x)) y = true := a
              rw [b_big (by omega)] at a'; cases a'
            · rintro ⟨a, _⟩; have := (hw x hx y a).1; omega
        have kq : ∀ x y, x < 10 → y < 10 → x ≠ y → (ky x y = 10 * p + q ↔ (x = p ∧ y = q) ∨ (x = q ∧ y = p)) := by
          intro x y hx hy hxy
          unfold ky
          omega
        have he : ∀ x y, x < 10 → (ed ρn x y ↔ ed ρt x y ∨ (x = p ∧ y = q) ∨ (x = q ∧ y = p)) := by
          intro x y hx
          rw [hn2 x y hx, h1 x y hx]
          constructor
          · rintro ⟨a, b⟩
            obtain ⟨w1, w2, w3⟩ := hw x hx y a
            rcases Nat.lt_or_ge (ky x y) (10 * p + q) with z | z
            · exact Or.inl ⟨a, z⟩
            · exact Or.inr ((kq x y hx w1 (Ne.symm w2)).mp (by omega))
          · rintro (⟨a, b⟩ | ⟨rfl, rfl⟩ | ⟨rfl, rfl⟩)
            · exact ⟨a, by omega⟩
            · refine ⟨c2, ?_⟩; unfold ky; omega
            · refine ⟨c3, ?_⟩; unfold ky; omega
        refine sp_short hp hq10 he h2 fun m' d1 d2 => ?_
        refine ⟨_, rfl, ?_⟩
        rw [nI_1]
        exact ih (q + 1) m' (by omega) (by omega) ⟨ρn, fun x y hx => by rw [hn2 x y hx]; rfl, d1⟩ (fun i hi => by rw [d2 i hi, hF i hi])
      · rw [if_neg c, if_pos rfl]
        refine ⟨_, rfl, ?_⟩
        rw [nI_1]
        refine ih (q + 1) m (by omega) (by omega) (msG_up (fun x y hx hxy => ?_) hI) hF
        have h1 := (hw x hx y hxy)
        constructor
        · intro hl
          rcases Nat.lt_or_ge (ky x y) (10 * p + q) with z | z
          · exact z
          · exfalso
            have hk2 : ky x y = 10 * p + q := by omega
            unfold ky at hk2
            have : (x = p ∧ y = q) ∨ (x = q ∧ y = p) := by omega
            rcases this with ⟨rfl, rfl⟩ | ⟨rfl, rfl⟩
            · exact c hxy
            · exact c h1.2.2
        · intro hl; omega
  have outer : ∀ (g p : Nat) (m : vM), p + g = 10 → msG ρ j (10 * p) m → (∀ i, i ≠ j + 2 → m i = μ i) → wp_X3_measure_42 j Q (g + 1) (nI p) m := by
    intro g
    induction g with
    | zero =>
      intro p m hp hI hF
      have : p = 10 := by omega
      subst this
      unfold wp_X3_measure_42
      rw [if_pos (show (10 : Int32) ≤ nI 10 by decide)]
      obtain ⟨ρt, h1, h2⟩ := hI
      refine h m (fun x hx y hy => isD_ce (fun x y hx => ?_) hx (h2 x hx y hy)) hF
      rw [h1 x y hx]
      constructor
      · intro a
        have := (hw x hx y a).1
        refine ⟨a, ?_⟩; unfold ky; omega
      · rintro ⟨a, _⟩; exact a
    | succ g ih =>
      intro p m hp hI hF
      unfold wp_X3_measure_42
      rw [if_neg (show ¬ (10 : Int32) ≤ nI p from nI_ge (b := 10) (by omega) (by decide))]
      refine ⟨_, rfl, 10 - p, ?_⟩
      rw [nI_1]
      have := inner (fun x1 μ => wp_X3_measure_42 j Q (g + 1) x1 μ) p (by omega) (fun m' h1 h2 => ih (p + 1) m' (by omega) (by rw [show 10 * (p + 1) = 10 * p + 10 by omega]; exact h1) h2) (9 - p) (p + 1) m (by omega) (by omega) (msG_up (fun x y hx hxy => ?_) hI) hF
      · rw [show 9 - p + 1 = 10 - p by omega] at this; exact this
      · obtain ⟨w1, w2, -⟩ := hw x hx y hxy
        unfold ky
        omega
  have init : ∀ (g i : Nat) (m : vM), i + g = 100 → (∀ k, k < i → m (j + 2) k = if k / 10 = k % 10 then 0 else 99) → (∀ i, i ≠ j + 2 → m i = μ i) → wp_X3_measure_2 j Q (g + 1) (nI i) m := by
    intro g
    induction g with
    | zero =>
      intro i m hi hI hF
      have : i = 100 := by omega
      subst this
      unfold wp_X3_measure_2
      rw [if_pos (show (100 : Int32) ≤ nI 100 by decide)]
      refine ⟨11, outer 10 0 m (by omega) ⟨fun _ => 0, fun p q hp => ?_, fun p hp q hq => ?_⟩ hF⟩
      · constructor
        · intro a
          have a' : bt 0 q = true := a
          rw [b_0] at a'; cases a'
        · rintro ⟨_, b⟩; omega
      · have no : ∀ p q : Nat, ¬ ed (fun _ => (0 : Int32)) p q := fun p q a => by
          have a' : bt 0 q = true := a
          rw [b_0] at a'; cases a'
        rw [hI _ (by omega)]
        have e1 : (10 * p + q) / 10 = p := by omega
        have e2 : (10 * p + q) % 10 = q := by omega
        rw [e1, e2]
        by_cases e : p = q
        · rw [if_pos e]
          exact Or.inl ⟨0, by decide, rfl, e, fun m hm => absurd hm (by omega)⟩
        · rw [if_neg e]
          refine Or.inr ⟨rfl, fun n hn => ?_⟩
          cases n with
          | zero => exact e hn
          | succ n => obtain ⟨r, h1, h2, h3⟩ := hn; exact no p r h2
    | succ g ih =>
      intro i m hi hI hF
      have dv : nI i / 10 = nI (i / 10) ∧ nI i % 10 = nI (i % 10) := by
        have : ∀ k, k < 100 → nI k / 10 = nI (k / 10) ∧ nI k % 10 = nI (k % 10) := by decide +kernel
        exact this i (by omega)
      have eqv : (nI (i / 10) = nI (i % 10)) ↔ i / 10 = i % 10 := nI_eq (by omega) (by omega)
      unfold wp_X3_measure_2
      rw [if_neg (show ¬ (100 : Int32) ≤ nI i from nI_ge (b := 100) (by omega) (by decide))]
      unfold wp_X3_measure_33
      rw [dv.1, dv.2, nI_clamp (by omega)]
      refine ⟨vp_in_nI (by omega) (by decide), _, rfl, _, rfl, ?_⟩
      rw [nI_1]
      refine ih (i + 1) _ (by omega) (fun k hk => ?_) (fun k hk => by rw [st_ne hk]; exact hF k hk)
      rw [st_eq]
      by_cases e : k = i
      · subst e; rw [upd_eq]; simp only [eqv]
      · rw [upd_ne e]; exact hI k (by omega)
  exact ⟨101, init 100 0 μ (by omega) (fun k hk => absurd hk (by omega)) (fun _ _ => rfl)⟩
/-- the row with one way more, and with one fewer -/
def onW (ρ : Nat → Int32) (a b : Nat) : Nat → Int32 := fun i => if i = 9 + a then ρ (9 + a) ||| ((1 : Int32) <<< (nI b &&& 31)) else if i = 9 + b then ρ (9 + b) ||| ((1 : Int32) <<< (nI a &&& 31)) else ρ i
def ofW (ρ : Nat → Int32) (a b : Nat) : Nat → Int32 := fun i => if i = 9 + a then ρ (9 + a) &&& (((1 : Int32) <<< (nI b &&& 31)) ^^^ (-1 : Int32)) else if i = 9 + b then ρ (9 + b) &&& (((1 : Int32) <<< (nI a &&& 31)) ^^^ (-1 : Int32)) else ρ i
theorem ed_big {ρ : Nat → Int32} {p q : Nat} (h : ed ρ p q) : q < 32 := by
  rcases Nat.lt_or_ge q 32 with c | c
  · exact c
  · have a : bt (ρ (9 + p)) q = true := h
    rw [b_big c] at a; cases a
theorem ed_on {ρ : Nat → Int32} {a b : Nat} (ha : a < 10) (hb : b < 10) (hab : a ≠ b) {p q : Nat} : ed (onW ρ a b) p q ↔ ed ρ p q ∨ (p = a ∧ q = b) ∨ (p = b ∧ q = a) := by
  by_cases hq : q < 32
  · show bt (onW ρ a b (9 + p)) q = true ↔ bt (ρ (9 + p)) q = true ∨ _
    unfold onW
    by_cases e1 : p = a
    · subst e1
      rw [if_pos rfl, bt_set (by omega) hq]
      simp only [Bool.or_eq_true, decide_eq_true_eq, true_and]
      constructor
      · rintro (h | h)
        · exact Or.inl h
        · exact Or.inr (Or.inl h)
      · rintro (h | h | ⟨h, _⟩)
        · exact Or.inl h
        · exact Or.inr h
        · exact absurd h hab
    · rw [if_neg (by omega)]
      by_cases e2 : p = b
      · subst e2
        rw [if_pos rfl, bt_set (by omega) hq]
        simp only [Bool.or_eq_true, decide_eq_true_eq, true_and]
        constructor
        · rintro (h | h)
          · exact Or.inl h
          · exact Or.inr (Or.inr h)
        · rintro (h | ⟨h, _⟩ | h)
          · exact Or.inl h
          · exact absurd h e1
          · exact Or.inr h
      · rw [if_neg (by omega)]
        simp [e1, e2]
  · constructor
    · intro h; exact absurd (ed_big h) hq
    · rintro (h | ⟨_, h⟩ | ⟨_, h⟩)
      · exact absurd (ed_big h) hq
      · omega
      · omega
theorem ed_of {ρ : Nat → Int32} {a b : Nat} (ha : a < 10) (hb : b < 10) (hab : a ≠ b) {p q : Nat} : ed (ofW ρ a b) p q ↔ ed ρ p q ∧ ¬ (p = a ∧ q = b) ∧ ¬ (p = b ∧ q = a) := by
  by_cases hq : q < 32
  · show bt (ofW ρ a b (9 + p)) q = true ↔ bt (ρ (9 + p)) q = true ∧ _
    unfold ofW
    by_cases e1 : p = a
    · subst e1
      rw [if_pos rfl, bt_clr (by omega) hq]
      simp only [Bool.and_eq_true, Bool.not_eq_true', decide_eq_false_iff_not, true_and]
      constructor
      · rintro ⟨h1, h2⟩; exact ⟨h1, h2, fun h => hab h.1⟩
      · rintro ⟨h1, h2, _⟩; exact ⟨h1, h2⟩
    · rw [if_neg (by omega)]
      by_cases e2 : p = b
      · subst e2
        rw [if_pos rfl, bt_clr (by omega) hq]
        simp only [Bool.and_eq_true, Bool.not_eq_true', decide_eq_false_iff_not, true_and]
        constructor
        · rintro ⟨h1, h2⟩; exact ⟨h1, fun h => e1 h.1, h2⟩
        · rintro ⟨h1, _, h2⟩; exact ⟨h1, h2⟩
      · rw [if_neg (by omega)]
        simp [e1, e2]
  · constructor
    · intro h; exact absurd (ed_big h) hq
    · rintro ⟨h, _⟩; exact absurd (ed_big h) hq
theorem inw_on {ρ : Nat → Int32} {a b : Nat} (ha : a < 10) (hb : b < 10) (hab : a ≠ b) (h : inw ρ) : inw (onW ρ a b) := by
  intro p hp q hq
  rcases (ed_on ha hb hab).mp hq with e | ⟨rfl, rfl⟩ | ⟨rfl, rfl⟩
  · obtain ⟨h1, h2, h3⟩ := h p hp q e
    exact ⟨h1, h2, (ed_on ha hb hab).mpr (Or.inl h3)⟩
  · exact ⟨hb, Ne.symm hab, (ed_on ha hb hab).mpr (Or.inr (Or.inr ⟨rfl, rfl⟩))⟩
  · exact ⟨ha, hab, (ed_on ha hb hab).mpr (Or.inr (Or.inl ⟨rfl, rfl⟩))⟩
theorem inw_of {ρ : Nat → Int32} {a b : Nat} (ha : a < 10) (hb : b < 10) (hab : a ≠ b) (h : inw ρ) : inw (ofW ρ a b) := by
  intro p hp q hq
  obtain ⟨e, n1, n2⟩ := (ed_of ha hb hab).mp hq
  obtain ⟨h1, h2, h3⟩ := h p hp q e
  exact ⟨h1, h2, (ed_of ha hb hab).mpr ⟨h3, fun z => n2 ⟨z.2, z.1⟩, fun z => n1 ⟨z.2, z.1⟩⟩⟩
theorem sp_join {ρ : Nat → Int32} {j a b : Nat} (ha : a < 10) (hb : b < 10) (hab : a ≠ b) {μ : vM} (h : rd j μ ρ) {Q : vM → Prop} (hQ : ∀ μ' : vM, rd j μ' (onW ρ a b) → (∀ i, i ≠ j + 1 → i ≠ j + 2 → μ' i = μ i) → Q μ') : wp_X3_join j (nI a) (nI b) Q μ := by
  unfold wp_X3_join
  have wa : vp_in (nI a) 10 := vp_in_nI ha (by decide)
  have wb : vp_in (nI b) 10 := vp_in_nI hb (by decide)
  simp only [wa, wb, true_and, exists_eq_left, nI_clamp (show a < 2 ^ 31 by omega), nI_clamp (show b < 2 ^ 31 by omega)]
  refine sp_short ha hb (fun p q hp => ed_on (ρ := ρ) ha hb hab) (fun p hp q hq => ?_) fun μ' d1 d2 => hQ μ' ⟨fun p hp => ?_, d1⟩ (fun i h1 h2 => ?_)
  · simp (disch := omega) only [st_ne]; exact h.2 p hp q hq
  · rw [d2 _ (by omega), st_eq, st_eq]
    unfold onW
    by_cases e1 : p = a
    · subst e1; rw [upd_ne (by omega), upd_eq, if_pos rfl, h.1 p hp]
    · rw [if_neg (by omega)]
      by_cases e2 : p = b
      · subst e2; rw [upd_eq, upd_ne (by omega), if_pos rfl, h.1 p hp]
      · rw [upd_ne e2, upd_ne e1, if_neg (by omega), h.1 p hp]
  · rw [d2 i h2]; simp (disch := omega) only [st_ne]
theorem sp_shut {ρ : Nat → Int32} {j a b : Nat} (ha : a < 10) (hb : b < 10) (hab : a ≠ b) (hw : inw ρ) {μ : vM} (h : rd j μ ρ) {Q : vM → Prop} (hQ : ∀ μ' : vM, rd j μ' (ofW ρ a b) → (∀ i, i ≠ j + 1 → i ≠ j + 2 → μ' i = μ i) → Q μ') : wp_X3_shut j (nI a) (nI b) Q μ := by
  unfold wp_X3_shut
  have wa : vp_in (nI a) 10 := vp_in_nI ha (by decide)
  have wb : vp_in (nI b) 10 := vp_in_nI hb (by decide)
  simp only [wa, wb, true_and, exists_eq_left, nI_clamp (show a < 2 ^ 31 by omega), nI_clamp (show b < 2 ^ 31 by omega)]
  have hways : ∀ p, p < 10 → st (st μ (j + 1) a (μ (j + 1) a &&& (((1 : Int32) <<< (nI b &&& 31)) ^^^ (-1 : Int32)))) (j + 1) b (st μ (j + 1) a (μ (j + 1) a &&& (((1 : Int32) <<< (nI b &&& 31)) ^^^ (-1 : Int32))) (j + 1) b &&& (((1 : Int32) <<< (nI a &&& 31)) ^^^ (-1 : Int32))) (j + 1) p = ofW ρ a b (9 + p) := by
    intro p hp
    rw [st_eq, st_eq]
    unfold ofW
    by_cases e1 : p = a
    · subst e1; rw [upd_ne (by omega), upd_eq, if_pos rfl, h.1 p hp]
    · rw [if_neg (by omega)]
      by_cases e2 : p = b
      · subst e2; rw [upd_eq, upd_ne (by omega), if_pos rfl, h.1 p hp]
      · rw [upd_ne e2, upd_ne e1, if_neg (by omega), h.1 p hp]
  refine sp_measure (inw_of ha hb hab hw) hways fun μ' d1 d2 => hQ μ' ⟨fun p hp => ?_, d1⟩ (fun i h1 h2 => ?_)
  · rw [d2 _ (by omega)]; exact hways p hp
  · rw [d2 i h2]; simp (disch := omega) only [st_ne]
