/-! distances -/
theorem ed_bt {ρ : Nat → Int32} {p q : Nat} : ed ρ p q ↔ bt (ρ (9 + p)) q = true := Iff.rfl
theorem wk_lt {ρ : Nat → Int32} : ∀ (n p q : Nat), p < 10 → wk ρ n p q → q < 10
  | 0, p, q, hp, h => by have : p = q := h; omega
  | n + 1, p, q, hp, h => by obtain ⟨r, h1, h2, h3⟩ := h; exact wk_lt n r q h1 h3
theorem wk_tr {ρ : Nat → Int32} : ∀ (n m p q r : Nat), wk ρ n p q → wk ρ m q r → wk ρ (n + m) p r
  | 0, m, p, q, r, h, h' => by have : p = q := h; subst this; rw [Nat.zero_add]; exact h'
  | n + 1, m, p, q, r, h, h' => by
    obtain ⟨s, h1, h2, h3⟩ := h
    rw [show n + 1 + m = (n + m) + 1 by omega]
    exact ⟨s, h1, h2, wk_tr n m s q r h3 h'⟩
theorem wk_sp {ρ : Nat → Int32} : ∀ (n p q k : Nat), p < 10 → k ≤ n → wk ρ n p q → ∃ v, v < 10 ∧ wk ρ k p v ∧ wk ρ (n - k) v q
  | n, p, q, 0, hp, _, h => ⟨p, hp, rfl, h⟩
  | 0, p, q, k + 1, hp, hk, h => absurd hk (by omega)
  | n + 1, p, q, k + 1, hp, hk, h => by
    obtain ⟨r, h1, h2, h3⟩ := h
    obtain ⟨v, v1, v2, v3⟩ := wk_sp n r q k h1 (by omega) h3
    exact ⟨v, v1, ⟨r, h1, h2, v2⟩, by rw [show n + 1 - (k + 1) = n - k by omega]; exact v3⟩
theorem wk_sy {ρ : Nat → Int32} (hw : inw ρ) : ∀ (n p q : Nat), p < 10 → wk ρ n p q → wk ρ n q p
  | 0, p, q, _, h => Eq.symm h
  | n + 1, p, q, hp, h => by
    obtain ⟨r, h1, h2, h3⟩ := h
    have a := wk_sy hw n r q h1 h3
    exact wk_tr n 1 q r p a ⟨p, hp, (hw p hp r h2).2.2, rfl⟩
/-- eleven numbers below ten: two are the same -/
theorem ph : ∀ (N : Nat) (f : Nat → Nat), (∀ k, k < N + 1 → f k < N) → ∃ i j, i < j ∧ j < N + 1 ∧ f i = f j
  | 0, f, h => absurd (h 0 (by omega)) (by omega)
  | N + 1, f, h => by
    by_cases c : ∃ i, i < N + 1 ∧ f i = f (N + 1)
    · obtain ⟨i, h1, h2⟩ := c
      exact ⟨i, N + 1, h1, by omega, h2⟩
    · have c' : ∀ i, i < N + 1 → f i ≠ f (N + 1) := fun i hi e => c ⟨i, hi, e⟩
      obtain ⟨i, j, h1, h2, h3⟩ := ph N (fun k => if f k = N then f (N + 1) else f k) (fun k hk => by
        have a := h k (by omega)
        have b := h (N + 1) (by omega)
        have d := c' k hk
        by_cases e : f k = N
        · simp only [e, if_true]; omega
        · simp only [e, if_false]; omega)
      refine ⟨i, j, h1, by omega, ?_⟩
      have di := c' i (by omega)
      have dj := c' j h2
      by_cases ei : f i = N
      · by_cases ej : f j = N
        · omega
        · simp only [ei, ej, if_true, if_false] at h3; exact absurd h3.symm dj
      · by_cases ej : f j = N
        · simp only [ei, ej, if_true, if_false] at h3; exact absurd h3 di
        · simp only [ei, ej, if_false] at h3; exact h3
theorem lst (P : Nat → Prop) : (∃ n, P n) → ∃ n, P n ∧ ∀ m, m < n → ¬ P m := by
  rintro ⟨n, hn⟩
  have key : ∀ b n, n ≤ b → P n → ∃ n, P n ∧ ∀ m, m < n → ¬ P m := by
    intro b
    induction b with
    | zero => intro n hb h; exact ⟨n, h, fun m hm => absurd hm (by omega)⟩
    | succ b ih =>
      intro n hb h
      by_cases c : ∃ m, m < n ∧ P m
      · obtain ⟨m, h1, h2⟩ := c; exact ih m (by omega) h2
      · exact ⟨n, h, fun m hm hp => c ⟨m, hm, hp⟩⟩
  exact key n n (Nat.le_refl _) hn
/-- a shortest walk has at most 9 steps -/
theorem wk_sh {ρ : Nat → Int32} {n p q : Nat} (hp : p < 10) (h : wk ρ n p q) (hm : ∀ m, m < n → ¬ wk ρ m p q) : n < 10 := by
  rcases Nat.lt_or_ge n 10 with c | c
  · exact c
  · exfalso
    have ch : ∀ k : Nat, ∃ v, k < 11 → (v < 10 ∧ wk ρ k p v ∧ wk ρ (n - k) v q) := fun k => by
      by_cases hk : k < 11
      · obtain ⟨v, h1⟩ := wk_sp n p q k hp (by omega) h; exact ⟨v, fun _ => h1⟩
      · exact ⟨0, fun a => absurd a hk⟩
    obtain ⟨f, hf⟩ := Classical.axiomOfChoice ch
    obtain ⟨i, j, h1, h2, h3⟩ := ph 10 f (fun k hk => (hf k hk).1)
    have a := (hf i (by omega)).2.1
    have b := (hf j h2).2.2
    rw [← h3] at b
    exact hm (i + (n - j)) (by omega) (wk_tr i (n - j) p (f i) q a b)
/-- the distance as a number: 99 is none -/
def isN (ρ : Nat → Int32) (p q n : Nat) : Prop := (n < 10 ∧ wk ρ n p q ∧ ∀ m, m < n → ¬ wk ρ m p q) ∨ (n = 99 ∧ ∀ m, ¬ wk ρ m p q)
theorem isN_ex {ρ : Nat → Int32} {p q : Nat} (hp : p < 10) : ∃ n, isN ρ p q n := by
  by_cases c : ∃ n, wk ρ n p q
  · obtain ⟨n, h1, h2⟩ := lst _ c
    exact ⟨n, Or.inl ⟨wk_sh hp h1 h2, h1, h2⟩⟩
  · exact ⟨99, Or.inr ⟨rfl, fun m h => c ⟨m, h⟩⟩⟩
theorem isN_le {ρ : Nat → Int32} {p q n m : Nat} (h : isN ρ p q n) (hw : wk ρ m p q) : n ≤ m := by
  rcases h with ⟨_, _, h⟩ | ⟨_, h⟩
  · rcases Nat.lt_or_ge m n with c | c
    · exact absurd hw (h m c)
    · exact c
  · exact absurd hw (h m)
theorem isN_99 {ρ : Nat → Int32} {p q n : Nat} (h : isN ρ p q n) : n ≤ 99 := by
  rcases h with ⟨h, _⟩ | ⟨h, _⟩ <;> omega
theorem isN_un {ρ : Nat → Int32} {p q n m : Nat} (h : isN ρ p q n) (h' : isN ρ p q m) : n = m := by
  rcases h with ⟨a1, a2, a3⟩ | ⟨a1, a2⟩
  · rcases h' with ⟨b1, b2, b3⟩ | ⟨b1, b2⟩
    · have c1 : ¬ m < n := fun c => a3 m c b2
      have c2 : ¬ n < m := fun c => b3 n c a2
      omega
    · exact absurd a2 (b2 n)
  · rcases h' with ⟨b1, b2, b3⟩ | ⟨b1, b2⟩
    · exact absurd b2 (a2 m)
    · omega
theorem isD_N {ρ : Nat → Int32} {p q : Nat} {d : Int32} : isD ρ p q d ↔ ∃ n, d = nI n ∧ isN ρ p q n := by
  constructor
  · rintro (⟨n, h1, h2, h3, h4⟩ | ⟨h1, h2⟩)
    · exact ⟨n, h2, Or.inl ⟨h1, h3, h4⟩⟩
    · exact ⟨99, h1, Or.inr ⟨rfl, h2⟩⟩
  · rintro ⟨n, rfl, ⟨h1, h3, h4⟩ | ⟨rfl, h2⟩⟩
    · exact Or.inl ⟨n, h1, rfl, h3, h4⟩
    · exact Or.inr ⟨rfl, h2⟩
theorem isD_un {ρ : Nat → Int32} {p q : Nat} {d d' : Int32} (h : isD ρ p q d) (h' : isD ρ p q d') : d = d' := by
  obtain ⟨n, rfl, a⟩ := isD_N.mp h
  obtain ⟨m, rfl, b⟩ := isD_N.mp h'
  rw [isN_un a b]
theorem isN_tr {ρ : Nat → Int32} {p q r a b c : Nat} (h1 : isN ρ p q a) (h2 : isN ρ q r b) (h3 : isN ρ p r c) : c ≤ a + b := by
  rcases h1 with ⟨_, a2, _⟩ | ⟨a1, _⟩
  · rcases h2 with ⟨_, b2, _⟩ | ⟨b1, _⟩
    · exact isN_le h3 (wk_tr a b p q r a2 b2)
    · have := isN_99 h3; omega
  · have := isN_99 h3; omega
-- one more way between a and b
theorem wk_new {ρ ρ' : Nat → Int32} {a b : Nat} (ha : a < 10) (hb : b < 10) (he : ∀ p q, p < 10 → (ed ρ' p q ↔ ed ρ p q ∨ (p = a ∧ q = b) ∨ (p = b ∧ q = a))) : ∀ (n p q : Nat), p < 10 → wk ρ' n p q → (∃ m, m ≤ n ∧ wk ρ m p q) ∨ (∃ i k, i + 1 + k ≤ n ∧ wk ρ i p a ∧ wk ρ k b q) ∨ (∃ i k, i + 1 + k ≤ n ∧ wk ρ i p b ∧ wk ρ k a q)
  | 0, p, q, _, h => Or.inl ⟨0, Nat.le_refl _, h⟩
  | n + 1, p, q, hp, h => by
    obtain ⟨r, h1, h2, h3⟩ := h
    have ih := wk_new ha hb he n r q h1 h3
    rcases (he p r hp).mp h2 with e | ⟨rfl, rfl⟩ | ⟨rfl, rfl⟩
    · rcases ih with ⟨m, m1, m2⟩ | ⟨i, k, i1, i2, i3⟩ | ⟨i, k, i1, i2, i3⟩
      · exact Or.inl ⟨m + 1, by omega, r, h1, e, m2⟩
      · exact Or.inr (Or.inl ⟨i + 1, k, by omega, ⟨r, h1, e, i2⟩, i3⟩)
      · exact Or.inr (Or.inr ⟨i + 1, k, by omega, ⟨r, h1, e, i2⟩, i3⟩)
    · rcases ih with ⟨m, m1, m2⟩ | ⟨i, k, i1, i2, i3⟩ | ⟨i, k, i1, i2, i3⟩
      · exact Or.inr (Or.inl ⟨0, m, by omega, rfl, m2⟩)
      · exact Or.inr (Or.inl ⟨0, k, by omega, rfl, i3⟩)
      · exact Or.inl ⟨k, by omega, i3⟩
    · rcases ih with ⟨m, m1, m2⟩ | ⟨i, k, i1, i2, i3⟩ | ⟨i, k, i1, i2, i3⟩
      · exact Or.inr (Or.inr ⟨0, m, by omega, rfl, m2⟩)
      · exact Or.inl ⟨k, by omega, i3⟩
      · exact Or.inr (Or.inr ⟨0, k, by omega, rfl, i3⟩)
theorem wk_old {ρ ρ' : Nat → Int32} {a b : Nat} (he : ∀ p q, p < 10 → (ed ρ' p q ↔ ed ρ p q ∨ (p = a ∧ q = b) ∨ (p = b ∧ q = a))) : ∀ (n p q : Nat), p < 10 → wk ρ n p q → wk ρ' n p q
  | 0, _, _, _, h => h
  | n + 1, p, q, hp, h => by
    obtain ⟨r, h1, h2, h3⟩ := h
    exact ⟨r, h1, (he p r hp).mpr (Or.inl h2), wk_old he n r q h1 h3⟩
/-- a place of the table, worked out anew while others are old or new -/
theorem sh_pt {ρ ρ' : Nat → Int32} {a b p q : Nat} (ha : a < 10) (hb : b < 10) (hp : p < 10) (hq : q < 10) (he : ∀ p q, p < 10 → (ed ρ' p q ↔ ed ρ p q ∨ (p = a ∧ q = b) ∨ (p = b ∧ q = a))) {E : Nat → Nat → Nat}
    (hE : ∀ x y, x < 10 → y < 10 → isN ρ x y (E x y) ∨ isN ρ' x y (E x y)) : isN ρ' p q (min (E p q) (min (E p a + 1 + E b q) (E p b + 1 + E a q))) := by
  have up : ∀ x y n n', x < 10 → y < 10 → isN ρ x y n → isN ρ' x y n' → n' ≤ n := by
    intro x y n n' hx hy h h'
    rcases h with ⟨_, h2, _⟩ | ⟨h1, _⟩
    · exact isN_le h' (wk_old he n x y hx h2)
    · have := isN_99 h'; omega
  have lo : ∀ x y n', x < 10 → y < 10 → isN ρ' x y n' → n' ≤ E x y := by
    intro x y n' hx hy h'
    rcases hE x y hx hy with h | h
    · exact up x y _ _ hx hy h h'
    · exact Nat.le_of_eq (isN_un h' h)
  have hi : ∀ x y n, x < 10 → y < 10 → isN ρ x y n → E x y ≤ n := by
    intro x y n hx hy h
    rcases hE x y hx hy with h2 | h2
    · exact Nat.le_of_eq (isN_un h2 h)
    · exact up x y _ _ hx hy h h2
  have e1 : ed ρ' a b := (he a b ha).mpr (Or.inr (Or.inl ⟨rfl, rfl⟩))
  have e2 : ed ρ' b a := (he b a hb).mpr (Or.inr (Or.inr ⟨rfl, rfl⟩))
  have N1 : ∀ x y, ed ρ' x y → y < 10 → ∀ n, isN ρ' x y n → n ≤ 1 := fun x y e hy n h => isN_le h ⟨y, hy, e, rfl⟩
  obtain ⟨n, hn⟩ := isN_ex (ρ := ρ') (p := p) (q := q) hp
  obtain ⟨pa, hpa⟩ := isN_ex (ρ := ρ') (p := p) (q := a) hp
  obtain ⟨pb, hpb⟩ := isN_ex (ρ := ρ') (p := p) (q := b) hp
  obtain ⟨bq, hbq⟩ := isN_ex (ρ := ρ') (p := b) (q := q) hb
  obtain ⟨aq, haq⟩ := isN_ex (ρ := ρ') (p := a) (q := q) ha
  obtain ⟨ab, hab⟩ := isN_ex (ρ := ρ') (p := a) (q := b) ha
  obtain ⟨ba, hba⟩ := isN_ex (ρ := ρ') (p := b) (q := a) hb
  have x1 := N1 a b e1 hb ab hab
  have x2 := N1 b a e2 ha ba hba
  have l0 := lo p q n hp hq hn
  have l1 := lo p a pa hp ha hpa
  have l2 := lo b q bq hb hq hbq
  have l3 := lo p b pb hp hb hpb
  have l4 := lo a q aq ha hq haq
  obtain ⟨aq2, haq2⟩ := isN_ex (ρ := ρ') (p := a) (q := q) ha
  have t1 : n ≤ pa + 1 + bq := by
    have := isN_tr hpa (isN_ex (ρ := ρ') (p := a) (q := q) ha).choose_spec hn
    have := isN_tr hab hbq (isN_ex (ρ := ρ') (p := a) (q := q) ha).choose_spec
    omega
  have t2 : n ≤ pb + 1 + aq := by
    have := isN_tr hpb (isN_ex (ρ := ρ') (p := b) (q := q) hb).choose_spec hn
    have := isN_tr hba haq (isN_ex (ρ := ρ') (p := b) (q := q) hb).choose_spec
    omega
  have ge : n ≤ min (E p q) (min (E p a + 1 + E b q) (E p b + 1 + E a q)) := by omega
  have le : min (E p q) (min (E p a + 1 + E b q) (E p b + 1 + E a q)) ≤ n := by
    rcases hn with ⟨_, h2, _⟩ | ⟨h1, _⟩
    · rcases wk_new ha hb he n p q hp h2 with ⟨m, m1, m2⟩ | ⟨i, k, i1, i2, i3⟩ | ⟨i, k, i1, i2, i3⟩
      · obtain ⟨z, hz⟩ := isN_ex (ρ := ρ) (p := p) (q := q) hp
        have := hi p q z hp hq hz
        have := isN_le hz m2
        omega
      · obtain ⟨z, hz⟩ := isN_ex (ρ := ρ) (p := p) (q := a) hp
        obtain ⟨w, hw⟩ := isN_ex (ρ := ρ) (p := b) (q := q) hb
        have := hi p a z hp ha hz
        have := hi b q w hb hq hw
        have := isN_le hz i2
        have := isN_le hw i3
        omega
      · obtain ⟨z, hz⟩ := isN_ex (ρ := ρ) (p := p) (q := b) hp
        obtain ⟨w, hw⟩ := isN_ex (ρ := ρ) (p := a) (q := q) ha
        have := hi p b z hp hb hz
        have := hi a q w ha hq hw
        have := isN_le hz i2
        have := isN_le hw i3
        omega
    · have := hE p q hp hq
      have : E p q ≤ 99 := by rcases this with h | h <;> exact isN_99 h
      omega
  rw [Nat.le_antisymm le ge]; exact hn
