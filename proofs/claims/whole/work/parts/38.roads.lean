/-! the class's roads: shorten, measure, join, shut -/
theorem ix_ro (x y : Nat) : nI x * (10 : Int32) + nI y = nI (10 * x + y) := by
  show nI x * nI 10 + nI y = _; rw [nI_mul, nI_add, Nat.mul_comm]
theorem ix_ro2 (x y : Nat) : (10 : Int32) * nI x + nI y = nI (10 * x + y) := by
  show nI 10 * nI x + nI y = _; rw [nI_mul, nI_add]
theorem sp_btw {j x y : Nat} (hx : x < 10) (hy : y < 10) {Q : Int32 → vM → Prop} {μ : vM} : wp_X3_between j (nI x) (nI y) Q μ = Q (μ (j + 2) (10 * x + y)) μ := by
  unfold wp_X3_between
  rw [ix_ro, nI_clamp (by omega)]
  have w : vp_in (nI (10 * x + y)) 100 := vp_in_nI (by omega) (by decide)
  simp only [w, true_and]
theorem wk_ce {ρ ρ' : Nat → Int32} (he : ∀ p q, p < 10 → (ed ρ' p q ↔ ed ρ p q)) : ∀ (n p q : Nat), p < 10 → (wk ρ' n p q ↔ wk ρ n p q)
  | 0, _, _, _ => Iff.rfl
  | n + 1, p, q, hp => by
    constructor
    · rintro ⟨r, h1, h2, h3⟩; exact ⟨r, h1, (he p r hp).mp h2, (wk_ce he n r q h1).mp h3⟩
    · rintro ⟨r, h1, h2, h3⟩; exact ⟨r, h1, (he p r hp).mpr h2, (wk_ce he n r q h1).mpr h3⟩
theorem isD_ce {ρ ρ' : Nat → Int32} (he : ∀ p q, p < 10 → (ed ρ' p q ↔ ed ρ p q)) {p q : Nat} {d : Int32} (hp : p < 10) (a : isD ρ p q d) : isD ρ' p q d := by
  rcases a with ⟨n, h1, h2, h3, h4⟩ | ⟨h1, h2⟩
  · exact Or.inl ⟨n, h1, h2, (wk_ce he n p q hp).mpr h3, fun m hm hw => h4 m hm ((wk_ce he m p q hp).mp hw)⟩
  · exact Or.inr ⟨h1, fun n hw => h2 n ((wk_ce he n p q hp).mp hw)⟩
def shI (ρ ρ' : Nat → Int32) (j : Nat) (μ : vM) (t : Nat) (m : vM) : Prop := (∀ x, x < 10 → ∀ y, y < 10 → ∃ n, m (j + 2) (10 * x + y) = nI n ∧ ((10 * x + y < t ∧ isN ρ' x y n) ∨ (t ≤ 10 * x + y ∧ isN ρ x y n))) ∧ ∀ i, i ≠ j + 2 → m i = μ i
theorem sp_short {ρ ρ' : Nat → Int32} {j a b : Nat} (ha : a < 10) (hb : b < 10) (he : ∀ p q, p < 10 → (ed ρ' p q ↔ ed ρ p q ∨ (p = a ∧ q = b) ∨ (p = b ∧ q = a))) {μ : vM} (hD : ∀ p, p < 10 → ∀ q, q < 10 → isD ρ p q (μ (j + 2) (10 * p + q))) {Q : vM → Prop}
    (h : ∀ μ' : vM, (∀ p, p < 10 → ∀ q, q < 10 → isD ρ' p q (μ' (j + 2) (10 * p + q))) → (∀ i, i ≠ j + 2 → μ' i = μ i) → Q μ') : wp_X3_shorten j (nI a) (nI b) Q μ := by
  have inner : ∀ (k2 : Int32 → vM → Prop) (p : Nat), p < 10 → (∀ m', shI ρ ρ' j μ (10 * (p + 1)) m' → k2 (nI (p + 1)) m') → ∀ (g q : Nat) (m : vM), q + g = 10 → shI ρ ρ' j μ (10 * p + q) m → wp_X3_shorten_11 j (nI a) (nI b) Q k2 (g + 1) (nI p) (nI q) m := by
    intro k2 p hp hk g
    induction g with
    | zero =>
      intro q m hq hI
      have : q = 10 := by omega
      subst this
      unfold wp_X3_shorten_11
      rw [if_pos (show (10 : Int32) ≤ nI 10 by decide)]
      exact ⟨_, rfl, by rw [nI_1]; exact hk m (by rw [show 10 * (p + 1) = 10 * p + 10 by omega]; exact hI)⟩
    | succ g ih =>
      intro q m hq hI
      have hq10 : q < 10 := by omega
      unfold wp_X3_shorten_11
      rw [if_neg (show ¬ (10 : Int32) ≤ nI q from nI_ge (b := 10) (by omega) (by decide))]
      simp only [sp_btw hp ha, sp_btw hb hq10, sp_btw hp hb, sp_btw ha hq10, sp_btw hp hq10, exists_eq_left, ix_ro, nI_clamp (show 10 * p + q < 2 ^ 31 by omega)]
      refine ⟨vp_in_nI (by omega) (by decide), ?_⟩
      rw [nI_1]
      obtain ⟨h1, h2⟩ := hI
      obtain ⟨E, hE⟩ : ∃ E : Nat → Nat → Nat, ∀ x, x < 10 → ∀ y, y < 10 → m (j + 2) (10 * x + y) = nI (E x y) ∧ ((10 * x + y < 10 * p + q ∧ isN ρ' x y (E x y)) ∨ (10 * p + q ≤ 10 * x + y ∧ isN ρ x y (E x y))) := by
        refine ⟨fun x y => (m (j + 2) (10 * x + y)).toNatClampNeg, fun x hx y hy => ?_⟩
        obtain ⟨n, e1, e2⟩ := h1 x hx y hy
        have n99 : n ≤ 99 := by rcases e2 with ⟨_, e2⟩ | ⟨_, e2⟩ <;> exact isN_99 e2
        simp only [e1, nI_clamp (show n < 2 ^ 31 by omega)]
        exact ⟨trivial, e2⟩
      have b99 : ∀ x, x < 10 → ∀ y, y < 10 → E x y ≤ 99 := fun x hx y hy => by
        rcases (hE x hx y hy).2 with ⟨_, e2⟩ | ⟨_, e2⟩ <;> exact isN_99 e2
      have pt := sh_pt (E := E) ha hb hp hq10 he (fun x y hx hy => by
        rcases (hE x hx y hy).2 with ⟨_, e2⟩ | ⟨_, e2⟩
        · exact Or.inr e2
        · exact Or.inl e2)
      have z1 := b99 p hp a ha
      have z2 := b99 b hb q hq10
      have z3 := b99 p hp b hb
      have z4 := b99 a ha q hq10
      have z5 := b99 p hp q hq10
      have val : (if (if (m (j + 2) (10 * p + b) + 1) + m (j + 2) (10 * a + q) < (m (j + 2) (10 * p + a) + 1) + m (j + 2) (10 * b + q) then (m (j + 2) (10 * p + b) + 1) + m (j + 2) (10 * a + q) else (m (j + 2) (10 * p + a) + 1) + m (j + 2) (10 * b + q)) < m (j + 2) (10 * p + q) then (if (m (j + 2) (10 * p + b) + 1) + m (j + 2) (10 * a + q) < (m (j + 2) (10 * p + a) + 1) + m (j + 2) (10 * b + q) then (m (j + 2) (10 * p + b) + 1) + m (j + 2) (10 * a + q) else (m (j + 2) (10 * p + a) + 1) + m (j + 2) (10 * b + q)) else m (j + 2) (10 * p + q)) = nI (min (E p q) (min (E p a + 1 + E b q) (E p b + 1 + E a q))) := by
        rw [(hE p hp b hb).1, (hE a ha q hq10).1, (hE p hp a ha).1, (hE b hb q hq10).1, (hE p hp q hq10).1, nI_1, nI_1, nI_add, nI_add]
        have l1 : nI (E p b + 1 + E a q) < nI (E p a + 1 + E b q) ↔ E p b + 1 + E a q < E p a + 1 + E b q := nI_ltI (by omega) (by omega)
        have e1 : (if nI (E p b + 1 + E a q) < nI (E p a + 1 + E b q) then nI (E p b + 1 + E a q) else nI (E p a + 1 + E b q)) = nI (min (E p a + 1 + E b q) (E p b + 1 + E a q)) := by
          by_cases c : E p b + 1 + E a q < E p a + 1 + E b q
          · rw [if_pos (l1.mpr c)]; congr 1; omega
          · rw [if_neg (fun z => c (l1.mp z))]; congr 1; omega
        rw [e1]
        have l2 : nI (min (E p a + 1 + E b q) (E p b + 1 + E a q)) < nI (E p q) ↔ min (E p a + 1 + E b q) (E p b + 1 + E a q) < E p q := nI_ltI (by omega) (by omega)
        by_cases c : min (E p a + 1 + E b q) (E p b + 1 + E a q) < E p q
        · rw [if_pos (l2.mpr c)]; congr 1; omega
        · rw [if_neg (fun z => c (l2.mp z))]; congr 1; omega
      rw [val]
      refine ih (q + 1) _ (by omega) ⟨fun x hx y hy => ?_, fun i hi => ?_⟩
      · rw [st_eq]
        by_cases e : 10 * x + y = 10 * p + q
        · have ex : x = p := by omega
          have ey : y = q := by omega
          subst ex; subst ey
          exact ⟨_, upd_eq, Or.inl ⟨by omega, pt⟩⟩
        · rw [upd_ne e]
          obtain ⟨e1, e2⟩ := hE x hx y hy
          refine ⟨_, e1, ?_⟩
          rcases e2 with ⟨e2, e3⟩ | ⟨e2, e3⟩
          · exact Or.inl ⟨by omega, e3⟩
          · exact Or.inr ⟨by omega, e3⟩
      · rw [st_ne hi]; exact h2 i hi
  have outer : ∀ (g p : Nat) (m : vM), p + g = 10 → shI ρ ρ' j μ (10 * p) m → wp_X3_shorten_2 j (nI a) (nI b) Q (g + 1) (nI p) m := by
    intro g
    induction g with
    | zero =>
      intro p m hp hI
      have : p = 10 := by omega
      subst this
      unfold wp_X3_shorten_2
      rw [if_pos (show (10 : Int32) ≤ nI 10 by decide)]
      refine h m (fun x hx y hy => ?_) hI.2
      obtain ⟨n, e1, e2⟩ := hI.1 x hx y hy
      rcases e2 with ⟨_, e3⟩ | ⟨e2, _⟩
      · exact isD_N.mpr ⟨n, e1, e3⟩
      · omega
    | succ g ih =>
      intro p m hp hI
      unfold wp_X3_shorten_2
      rw [if_neg (show ¬ (10 : Int32) ≤ nI p from nI_ge (b := 10) (by omega) (by decide))]
      exact ⟨11, inner _ p (by omega) (fun m' hm' => ih (p + 1) m' (by omega) hm') 10 0 m (by omega) hI⟩
  refine ⟨11, outer 10 0 μ (by omega) ⟨fun x hx y hy => ?_, fun _ _ => rfl⟩⟩
  obtain ⟨n, e1, e2⟩ := isD_N.mp (hD x hx y hy)
  exact ⟨n, e1, Or.inr ⟨by omega, e2⟩⟩
-- bits of a way's number
theorem bt_1 (k : Nat) (h : k < 32) : bt 1 k = decide (k = 0) := by
  have : ∀ k, k < 32 → bt 1 k = decide (k = 0) := by decide +kernel
  exact this k h
theorem bt_set {x : Int32} {q i : Nat} (hq : q < 32) (hi : i < 32) : bt (x ||| ((1 : Int32) <<< (nI q &&& 31))) i = (bt x i || decide (i = q)) := by
  rw [b_or, b_shl q hq 1 hi, bt_1 _ (by omega)]
  by_cases e : i = q
  · subst e; simp
  · by_cases c : q ≤ i
    · simp only [e, decide_false, Bool.or_false, c, decide_true, Bool.true_and]
      have : ¬ i - q = 0 := by omega
      simp [this]
    · simp [e, c]
theorem bt_clr {x : Int32} {q i : Nat} (hq : q < 32) (hi : i < 32) : bt (x &&& (((1 : Int32) <<< (nI q &&& 31)) ^^^ (-1 : Int32))) i = (bt x i && !decide (i = q)) := by
  rw [b_and, b_xor, b_m1 i hi, b_shl q hq 1 hi, bt_1 _ (by omega)]
  by_cases e : i = q
  · subst e; simp
  · by_cases c : q ≤ i
    · have : ¬ i - q = 0 := by omega
      simp [e, c, this]
    · simp [e, c]
theorem bt_tst {x : Int32} {q : Nat} (hq : q < 31) : ((x >>> (nI q &&& 31)) &&& (1 : Int32)) = if bt x q = true then 1 else 0 := by
  have key : ∀ i, i < 32 → bt ((x >>> (nI q &&& 31)) &&& (1 : Int32)) i = (bt x q && decide (i = 0)) := by
    intro i hi
    rw [b_and, b_sshr q (by omega) x hi, bt_1 i hi]
    by_cases e : i = 0
    · subst e; simp [show q < 32 by omega]
    · simp [e]
  by_cases c : bt x q = true
  · rw [if_pos c]
    exact b_ext fun i hi => by rw [key i hi, c, bt_1 i hi]; simp
  · rw [if_neg c]
    exact b_ext fun i hi => by rw [key i hi, b_0]; simp [c]
theorem bt_ex (f : Nat → Bool) : ∀ n, n ≤ 32 → ∃ x : Int32, ∀ i, i < 32 → bt x i = (decide (i < n) && f i)
  | 0, _ => ⟨0, fun i _ => by rw [b_0]; simp⟩
  | n + 1, hn => by
    obtain ⟨x, hx⟩ := bt_ex f n (by omega)
    by_cases c : f n = true
    · refine ⟨x ||| ((1 : Int32) <<< (nI n &&& 31)), fun i hi => ?_⟩
      rw [bt_set (by omega) hi, hx i hi]
      by_cases e : i = n
      · subst e; simp [c]
      · have : (i < n + 1) = (i < n) := by simp; omega
        simp [e, this]
    · refine ⟨x, fun i hi => ?_⟩
      rw [hx i hi]
      by_cases e : i = n
      · subst e; simp [c]
      · have : (i < n + 1) = (i < n) := by simp; omega
        simp [this]
theorem row_ex (f : Nat → Nat → Bool) : ∃ ρ : Nat → Int32, ∀ p q, q < 32 → (ed ρ p q ↔ f p q = true) := by
  have h : ∀ p : Nat, ∃ x : Int32, ∀ i, i < 32 → bt x i = f p i := fun p => by
    obtain ⟨x, hx⟩ := bt_ex (f p) 32 (Nat.le_refl _)
    exact ⟨x, fun i hi => by rw [hx i hi]; simp [hi]⟩
  obtain ⟨r, hr⟩ := Classical.axiomOfChoice h
  refine ⟨fun k => r (k - 9), fun p q hq => ?_⟩
  show (r (9 + p - 9)).toBitVec.getLsbD q = true ↔ _
  rw [show 9 + p - 9 = p by omega]
  have := hr p q hq
  unfold bt at this
  rw [this]
theorem sp_open {j x y : Nat} (hx : x < 10) (hy : y < 10) {Q : Int32 → vM → Prop} {μ : vM} : wp_X3_isOpen j (nI x) (nI y) Q μ = if bt (μ (j + 1) x) y = true then Q 1 μ else Q 0 μ := by
  unfold wp_X3_isOpen
  have w : vp_in (nI x) 10 := vp_in_nI hx (by decide)
  rw [nI_clamp (by omega), bt_tst (by omega)]
  simp only [w, true_and]
  by_cases c : bt (μ (j + 1) x) y = true
  · simp only [c, if_true]
  · simp only [c]; simp
