/-! THE RELATION of the class's memory to the reference's; ρ is a row of the reference -/
theorem i_add (x y : Int32) (h1 : -2147483648 ≤ x.toInt + y.toInt) (h2 : x.toInt + y.toInt < 2147483648) : (x + y).toInt = x.toInt + y.toInt := by
  rw [Int32.toInt_add]; exact Int.bmod_eq_of_le (by omega) (by omega)
theorem i_sub (x y : Int32) (h1 : -2147483648 ≤ x.toInt - y.toInt) (h2 : x.toInt - y.toInt < 2147483648) : (x - y).toInt = x.toInt - y.toInt := by
  rw [Int32.toInt_sub]; exact Int.bmod_eq_of_le (by omega) (by omega)
theorem nI_mul (a b : Nat) : nI a * nI b = nI (a * b) := (Int32.ofNat_mul a b).symm
/-- a small number -/
def lt (x : Int32) (n : Nat) : Prop := ∃ i, i < n ∧ x = nI i
/-- within 0 .. n - 1, as a test -/
abbrev rg (x : Int32) (n : Nat) : Prop := 0 ≤ x.toInt ∧ x.toInt < n
theorem rg_nI {i n : Nat} (hi : i < n) (hn : n < 2 ^ 31) : rg (nI i) n := by
  unfold rg; rw [nI_toInt (by omega)]; omega
theorem rg_of {x : Int32} {n : Nat} (h : rg x n) : ∃ i, i < n ∧ x = nI i := by
  obtain ⟨h1, h2⟩ := h
  have hb := x.toInt_lt
  refine ⟨x.toInt.toNat, by omega, ?_⟩
  apply Int32.toInt_inj.mp
  rw [nI_toInt (by omega)]; omega
theorem lt_in {x : Int32} {n : Nat} (h : lt x n) (hn : n < 2 ^ 31) : vp_in x n := by
  obtain ⟨i, hi, rfl⟩ := h; exact vp_in_nI hi hn
theorem lt_up {x : Int32} {n k : Nat} (h : lt x n) (hk : n ≤ k) : lt x k := by
  obtain ⟨i, hi, rfl⟩ := h; exact ⟨i, by omega, rfl⟩
-- ways and distances
def ed (ρ : Nat → Int32) (p q : Nat) : Prop := (ρ (9 + p)).toBitVec.getLsbD q = true
def wk (ρ : Nat → Int32) : Nat → Nat → Nat → Prop
  | 0, p, q => p = q
  | n + 1, p, q => ∃ r, r < 10 ∧ ed ρ p r ∧ wk ρ n r q
def isD (ρ : Nat → Int32) (p q : Nat) (d : Int32) : Prop := (∃ n, n < 10 ∧ d = nI n ∧ wk ρ n p q ∧ ∀ m, m < n → ¬ wk ρ m p q) ∨ (d = 99 ∧ ∀ n, ¬ wk ρ n p q)
-- the harvest, the roads
def hv (h : Nat) (μ : vM) (ρ : Nat → Int32) : Prop := μ h 0 = ρ 2 ∧ μ h 1 = ρ 0 ∧ (∀ b, b < 8 → μ (h + 1) b = ρ (19 + 5 * b) ∧ μ (h + 2) b = ρ (20 + 5 * b) ∧ μ (h + 3) b = ρ (21 + 5 * b) ∧ μ (h + 4) b = ρ (22 + 5 * b) ∧ μ (h + 5) b = ρ (23 + 5 * b)) ∧ ∀ f, f < 4 → μ (h + 6) f = ρ (5 + f)
def rd (r : Nat) (μ : vM) (ρ : Nat → Int32) : Prop := (∀ p, p < 10 → μ (r + 1) p = ρ (9 + p)) ∧ ∀ p, p < 10 → ∀ q, q < 10 → isD ρ p q (μ (r + 2) (10 * p + q))
-- a text's words: the class's, and the reference's two rows
def sgn (c : Nat) : Prop := c = 124 ∨ c = 38 ∨ c = 60 ∨ c = 61 ∨ c = 62 ∨ c = 43 ∨ c = 45 ∨ c = 42 ∨ c = 47 ∨ c = 37
def en (w a b : Int32) : Prop := (∃ v, v < 10000 ∧ w = nI v ∧ a = 1 ∧ b = nI v) ∨ (∃ i, i < 3 ∧ w = nI (10000 + i) ∧ a = 2 ∧ b = nI i) ∨ (w = nI 20033 ∧ a = 3) ∨ (∃ c, sgn c ∧ w = nI (20000 + c) ∧ a = nI c)
def lw (g : Nat) (μ : vM) (ρ : Nat → Int32) (at_ : Nat) : Prop := μ g 4 = ρ at_ ∧ ∀ k, k < 60 → nI k < ρ at_ → en (μ (g + 1) k) (ρ (at_ + 1 + k)) (ρ (at_ + 61 + k))
/-- the height of the pile ahead of word k; the words are well-formed -/
def hg (ρ : Nat → Int32) (at_ : Nat) : Nat → Nat
  | 0 => 0
  | k + 1 => if ρ (at_ + 1 + k) = 1 ∨ ρ (at_ + 1 + k) = 2 then hg ρ at_ k + 1 else if ρ (at_ + 1 + k) = 3 then hg ρ at_ k else hg ρ at_ k - 1
def wf (ρ : Nat → Int32) (at_ : Nat) : Prop := ∃ n, n ≤ 60 ∧ ρ at_ = nI n ∧ (∀ k, k < n → (ρ (at_ + 1 + k) = 1 ∨ (ρ (at_ + 1 + k) = 2 ∧ lt (ρ (at_ + 61 + k)) 3) ∨ (ρ (at_ + 1 + k) = 3 ∧ 1 ≤ hg ρ at_ k) ∨ ((∃ c, sgn c ∧ ρ (at_ + 1 + k) = nI c) ∧ 2 ≤ hg ρ at_ k))) ∧ (0 < n → hg ρ at_ n = 1)
def wld (w : Nat) (μ : vM) (ρ : Nat → Int32) : Prop := hv (w + 4) μ ρ ∧ rd (w + 1) μ ρ ∧ lw (w + 11) μ ρ 143 ∧ lw (w + 14) μ ρ 264 ∧ (μ w 5 = ρ 3 ∧ ∀ i, i < 60 → μ (w + 17) i = ρ (59 + i)) ∧ (μ w 7 = ρ 4 ∧ ∀ i, i < 24 → μ (w + 18) i = ρ (119 + i)) ∧ μ w 8 = ρ 1
def inb (ρ : Nat → Int32) : Prop := ∀ b, b < 8 → lt (ρ (19 + 5 * b)) 7 ∧ lt (ρ (20 + 5 * b)) 10 ∧ lt (ρ (21 + 5 * b)) 4 ∧ lt (ρ (22 + 5 * b)) 10 ∧ lt (ρ (23 + 5 * b)) 10
def inw (ρ : Nat → Int32) : Prop := ∀ p, p < 10 → ∀ q, ed ρ p q → q < 10 ∧ q ≠ p ∧ ed ρ q p
/-- what always holds of the reference's row -/
def inv (ρ : Nat → Int32) : Prop := lt (ρ 2) 9 ∧ lt (ρ 0) 10000 ∧ inb ρ ∧ (∀ f, f < 4 → lt (ρ (5 + f)) 10) ∧ inw ρ ∧ lt (ρ 3) 61 ∧ lt (ρ 4) 25 ∧ (∀ i, i < 60 → lt (ρ (59 + i)) 256) ∧ wf ρ 143 ∧ wf ρ 264
def kno (μ : vM) : Prop := bz (μ 0 9) ∧ (μ 0 9 = 1 → ∀ p, p < 10 → ∀ q, q < 10 → isD (μ 1) p q (μ 8 (10 * p + q)))
def sht (μ ν : vM) : Prop := (∀ s, s < 4 → μ 54 s = ν 5 s ∧ μ 55 s = ν 6 s ∧ (ν 5 s = 0 ∨ ν 5 s = 8 ∨ ν 5 s = 16 ∨ ν 5 s = 32) ∧ lt (ν 6 s) 25) ∧ ∀ i, i < 96 → μ 56 i = ν 7 i
def trc (μ ν : vM) : Prop := μ 0 10 = ν 0 21 ∧ lt (ν 0 21) 31 ∧ ∀ i, i < 30 → μ 58 i = ν 14 i
def err (μ ν : vM) : Prop := ∀ k, k < 7 → μ 57 k = ν 4 k
def kpt (μ ν : vM) : Prop := μ 0 2 = ν 0 3 ∧ (ν 0 3 = 0 ∨ (wld 20 μ (ν 2) ∧ inv (ν 2)))
def nms (μ : vM) : Prop := μ 12 0 = 0 ∧ μ 12 1 = 3 ∧ μ 15 0 = 1 ∧ μ 15 1 = 99
def Rl (μ ν : vM) : Prop := wld 1 μ (ν 1) ∧ inv (ν 1) ∧ kno ν ∧ kpt μ ν ∧ sht μ ν ∧ trc μ ν ∧ err μ ν ∧ nms μ
-- reading behind a write
theorem st_ne {μ : vM} {j k i : Nat} {v : Int32} (h : i ≠ j) : st μ j k v i = μ i := by simp [st, sa, h]
theorem st_eq {μ : vM} {j k : Nat} {v : Int32} : st μ j k v j = upd (μ j) k v := by simp [st, sa]
theorem sa_ne {μ : vM} {j i : Nat} {f : Nat → Int32} (h : i ≠ j) : sa μ j f i = μ i := by simp [sa, h]
theorem sa_eq {μ : vM} {j : Nat} {f : Nat → Int32} : sa μ j f j = f := by simp [sa]
theorem upd_eq {f : Nat → Int32} {k : Nat} {v : Int32} : upd f k v k = v := by simp [upd]
theorem upd_ne {f : Nat → Int32} {k i : Nat} {v : Int32} (h : i ≠ k) : upd f k v i = f i := by simp [upd, h]
-- what of one memory depends on what
theorem hv_cg {h : Nat} {μ μ' : vM} {ρ ρ' : Nat → Int32} (a : hv h μ ρ) (h1 : ∀ i, i < 7 → μ' (h + i) = μ (h + i)) (h2 : ρ' 0 = ρ 0 ∧ ρ' 2 = ρ 2 ∧ (∀ i, 5 ≤ i → i < 9 → ρ' i = ρ i) ∧ ∀ i, 19 ≤ i → i < 59 → ρ' i = ρ i) : hv h μ' ρ' := by
  obtain ⟨a1, a2, a3, a4⟩ := a
  obtain ⟨e0, e2, e5, e19⟩ := h2
  have c0 := h1 0 (by omega)
  rw [Nat.add_zero] at c0
  refine ⟨by rw [c0, e2]; exact a1, by rw [c0, e0]; exact a2, fun b hb => ?_, fun f hf => ?_⟩
  · obtain ⟨b1, b2, b3, b4, b5⟩ := a3 b hb
    rw [h1 1 (by omega), h1 2 (by omega), h1 3 (by omega), h1 4 (by omega), h1 5 (by omega), e19 (19 + 5 * b) (by omega) (by omega), e19 (20 + 5 * b) (by omega) (by omega), e19 (21 + 5 * b) (by omega) (by omega), e19 (22 + 5 * b) (by omega) (by omega), e19 (23 + 5 * b) (by omega) (by omega)]
    exact ⟨b1, b2, b3, b4, b5⟩
  · rw [h1 6 (by omega), e5 (5 + f) (by omega) (by omega)]; exact a4 f hf
theorem ed_cg {ρ ρ' : Nat → Int32} (h : ∀ i, 9 ≤ i → i < 19 → ρ' i = ρ i) {p q : Nat} (hp : p < 10) : ed ρ' p q ↔ ed ρ p q := by
  unfold ed; rw [h (9 + p) (by omega) (by omega)]
theorem wk_cg {ρ ρ' : Nat → Int32} (h : ∀ i, 9 ≤ i → i < 19 → ρ' i = ρ i) : ∀ (n p q : Nat), p < 10 → (wk ρ' n p q ↔ wk ρ n p q)
  | 0, _, _, _ => Iff.rfl
  | n + 1, p, q, hp => by
    constructor
    · rintro ⟨r, h1, h2, h3⟩; exact ⟨r, h1, (ed_cg h hp).mp h2, (wk_cg h n r q h1).mp h3⟩
    · rintro ⟨r, h1, h2, h3⟩; exact ⟨r, h1, (ed_cg h hp).mpr h2, (wk_cg h n r q h1).mpr h3⟩
theorem isD_cg {ρ ρ' : Nat → Int32} (h : ∀ i, 9 ≤ i → i < 19 → ρ' i = ρ i) {p q : Nat} {d : Int32} (hp : p < 10) (a : isD ρ p q d) : isD ρ' p q d := by
  rcases a with ⟨n, h1, h2, h3, h4⟩ | ⟨h1, h2⟩
  · exact Or.inl ⟨n, h1, h2, (wk_cg h n p q hp).mpr h3, fun m hm hw => h4 m hm ((wk_cg h m p q hp).mp hw)⟩
  · exact Or.inr ⟨h1, fun n hw => h2 n ((wk_cg h n p q hp).mp hw)⟩
theorem rd_cg {r : Nat} {μ μ' : vM} {ρ ρ' : Nat → Int32} (a : rd r μ ρ) (h1 : μ' (r + 1) = μ (r + 1)) (h2 : μ' (r + 2) = μ (r + 2)) (h : ∀ i, 9 ≤ i → i < 19 → ρ' i = ρ i) : rd r μ' ρ' := by
  refine ⟨fun p hp => ?_, fun p hp q hq => ?_⟩
  · rw [h1, h (9 + p) (by omega) (by omega)]; exact a.1 p hp
  · rw [h2]; exact isD_cg h hp (a.2 p hp q hq)
theorem lw_cg {g at_ : Nat} {μ μ' : vM} {ρ ρ' : Nat → Int32} (a : lw g μ ρ at_) (h0 : μ' g 4 = μ g 4) (h1 : μ' (g + 1) = μ (g + 1)) (h : ∀ i, at_ ≤ i → i < at_ + 121 → ρ' i = ρ i) : lw g μ' ρ' at_ := by
  refine ⟨by rw [h0, h at_ (by omega) (by omega)]; exact a.1, fun k hk hn => ?_⟩
  rw [h at_ (by omega) (by omega)] at hn
  rw [h1, h (at_ + 1 + k) (by omega) (by omega), h (at_ + 61 + k) (by omega) (by omega)]
  exact a.2 k hk hn
theorem hg_cg {at_ : Nat} {ρ ρ' : Nat → Int32} (h : ∀ i, at_ ≤ i → i < at_ + 121 → ρ' i = ρ i) : ∀ k, k ≤ 60 → hg ρ' at_ k = hg ρ at_ k
  | 0, _ => rfl
  | k + 1, hk => by simp only [hg]; rw [h (at_ + 1 + k) (by omega) (by omega), hg_cg h k (by omega)]
theorem wf_cg {at_ : Nat} {ρ ρ' : Nat → Int32} (a : wf ρ at_) (h : ∀ i, at_ ≤ i → i < at_ + 121 → ρ' i = ρ i) : wf ρ' at_ := by
  obtain ⟨n, h1, h2, h3, h4⟩ := a
  refine ⟨n, h1, by rw [h at_ (by omega) (by omega)]; exact h2, fun k hk => ?_, fun hn => by rw [hg_cg h n h1]; exact h4 hn⟩
  rw [h (at_ + 1 + k) (by omega) (by omega), h (at_ + 61 + k) (by omega) (by omega), hg_cg h k (by omega)]
  exact h3 k hk
theorem inw_cg {ρ ρ' : Nat → Int32} (a : inw ρ) (h : ∀ i, 9 ≤ i → i < 19 → ρ' i = ρ i) : inw ρ' := by
  intro p hp q hq
  obtain ⟨h1, h2, h3⟩ := a p hp q ((ed_cg h hp).mp hq)
  exact ⟨h1, h2, (ed_cg h h1).mpr h3⟩
/-- a row that differs in one small slot -/
theorem rl_err {μ ν : vM} {k : Nat} (hk : k < 7) (h : Rl μ ν) : Rl (st μ 57 k (μ 57 k + 1)) (st ν 4 k (ν 4 k + 1)) := by
  obtain ⟨h1, h2, h3, h4, h5, h6, h7, h8⟩ := h
  simp only [Rl, wld, hv, rd, lw, kno, kpt, sht, trc, err, nms, st_ne, ne_eq, Nat.reduceEqDiff, not_false_eq_true, reduceCtorEq, Nat.reduceAdd] at *
  refine ⟨h1, h2, h3, h4, h5, h6, ?_, h8⟩
  intro i hi
  rw [st_eq, st_eq]
  by_cases hik : i = k
  · subst hik; rw [upd_eq, upd_eq, h7 i hi]
  · rw [upd_ne hik, upd_ne hik]; exact h7 i hi
