/-! a bit's steps, worth, warmth -/
theorem rs_g {ν ν' : vM} (h : kno ν) (d : ∀ i, i ≠ 11 → i ≠ 12 → ν' i = ν i) : rs ν ν' :=
  ⟨fun i _ _ h1 h2 => d i h1 h2, fun k _ => by rw [d 0 (by decide) (by decide)], kno_cg h (by rw [d 0 (by decide) (by decide)]) (d 8 (by decide) (by decide)) (fun i _ _ => by rw [d 1 (by decide) (by decide)])⟩
theorem rs_1 {ν ν' : vM} (h : rs ν ν') : ν' 1 = ν 1 := h.1 1 (by decide) (by decide) (by decide) (by decide)
def ok (ρ : Nat → Int32) : Prop := lt (ρ 2) 9 ∧ inb ρ ∧ (∀ f, f < 4 → lt (ρ (5 + f)) 10) ∧ inw ρ ∧ wf ρ 143 ∧ wf ρ 264
theorem inv_ok {ρ : Nat → Int32} (h : inv ρ) : ok ρ := ⟨h.1, h.2.2.1, h.2.2.2.1, h.2.2.2.2.1, h.2.2.2.2.2.2.2.2.1, h.2.2.2.2.2.2.2.2.2⟩
def gF (ρ : Nat → Int32) (b : Nat) : Int32 := ρ (5 + (ρ (21 + 5 * b)).toNatClampNeg)
noncomputable def df (ρ : Nat → Int32) (p q : Nat) : Int32 := by
  classical
  exact if h : ∃ d, isD ρ p q d then Classical.choose h else 0
theorem df_eq {ρ : Nat → Int32} {p q : Nat} {d : Int32} (h : isD ρ p q d) : df ρ p q = d := by
  have : ∃ d, isD ρ p q d := ⟨d, h⟩
  unfold df
  rw [dif_pos this]
  exact isD_un (Classical.choose_spec this) h
theorem df_is {ρ : Nat → Int32} {p q : Nat} (hp : p < 10) : isD ρ p q (df ρ p q) := by
  obtain ⟨n, h⟩ := isN_ex (ρ := ρ) (q := q) hp
  have : isD ρ p q (nI n) := isD_N.mpr ⟨n, rfl, h⟩
  rw [df_eq this]; exact this
noncomputable def dF (ρ : Nat → Int32) (b : Nat) : Int32 := df ρ (ρ (22 + 5 * b)).toNatClampNeg (gF ρ b).toNatClampNeg
abbrev atH (ρ : Nat → Int32) (b : Nat) : Prop := ρ (22 + 5 * b) = gF ρ b
theorem ok_b {ρ : Nat → Int32} {b : Nat} (o : ok ρ) (hb : b < 8) : ∃ f p q, f < 4 ∧ p < 10 ∧ q < 10 ∧ ρ (21 + 5 * b) = nI f ∧ ρ (22 + 5 * b) = nI p ∧ gF ρ b = nI q ∧ ρ (5 + f) = nI q ∧ isD ρ p q (dF ρ b) := by
  obtain ⟨-, -, ⟨f, hf, e1⟩, ⟨p, hp, e2⟩, -⟩ := And.intro trivial (And.intro trivial (And.intro (o.2.1 b hb).2.2.1 (And.intro (o.2.1 b hb).2.2.2.1 trivial)))
  obtain ⟨q, hq, e3⟩ := o.2.2.1 f hf
  have e4 : gF ρ b = nI q := by unfold gF; rw [e1, nI_clamp (by omega), e3]
  refine ⟨f, p, q, hf, hp, hq, e1, e2, e4, e3, ?_⟩
  unfold dF
  rw [e2, e4, nI_clamp (by omega), nI_clamp (by omega)]
  exact df_is hp
noncomputable def vF (ρ : Nat → Int32) (b : Nat) : Int32 := if dF ρ b = 99 then 0 else 9 - dF ρ b
def co (ρ : Nat → Int32) (b a : Nat) : Prop := a ≠ b ∧ ρ (21 + 5 * a) = ρ (21 + 5 * b) ∧ ρ (22 + 5 * a) = ρ (22 + 5 * b)
def cF (ρ : Nat → Int32) (n b : Nat) : Prop := ∃ a, a < n ∧ co ρ b a
noncomputable def cG (ρ : Nat → Int32) (n b : Nat) : Int32 := by
  classical
  exact if cF ρ n b then 1 else 0
theorem cG_1 {ρ : Nat → Int32} {n b : Nat} (h : cF ρ n b) : cG ρ n b = 1 := by unfold cG; rw [if_pos h]
theorem cG_0 {ρ : Nat → Int32} {n b : Nat} (h : ¬ cF ρ n b) : cG ρ n b = 0 := by unfold cG; rw [if_neg h]
noncomputable def wF (ρ : Nat → Int32) (b : Nat) : Int32 :=
  if ρ (19 + 5 * b) = 1 then (if ρ 0 % 2 = 0 then 1 else 0) else if ρ (19 + 5 * b) = 2 then (if ρ 0 % 7 = ρ (20 + 5 * b) % 7 then 2 else 0) else if ρ (19 + 5 * b) = 3 then (if 6 < ρ (20 + 5 * b) then 1 else cG ρ (ρ 2).toNatClampNeg b) else if ρ (19 + 5 * b) = 4 then (if ρ 0 % 3 = 0 then (if ρ 0 % 2 = 0 then 1 else 0) + 1 else (if ρ 0 % 2 = 0 then 1 else 0) + 0) else if ρ (19 + 5 * b) = 5 then (if ρ 0 % 7 = ρ (20 + 5 * b) % 7 then 2 else 0) + 1 else if ρ (19 + 5 * b) = 6 then (if ρ (20 + 5 * b) = 9 then 1 else 0) else 1
def zF (ρ : Nat → Int32) (b : Nat) : Int32 :=
  if ρ (19 + 5 * b) = 1 then (10 + ρ (20 + 5 * b)) + ρ (23 + 5 * b) else if ρ (19 + 5 * b) = 2 then (if ρ (23 + 5 * b) ≤ 4 then 0 else 10 + ρ (20 + 5 * b)) else if ρ (19 + 5 * b) = 3 then (10 + ρ (20 + 5 * b)) / 2 else if ρ (19 + 5 * b) = 4 then ((10 + ρ (20 + 5 * b)) + ρ (23 + 5 * b)) + 5 else if ρ (19 + 5 * b) = 5 then 2 * (if ρ (23 + 5 * b) ≤ 4 then 0 else 10 + ρ (20 + 5 * b)) + ρ (20 + 5 * b) else if ρ (19 + 5 * b) = 6 then 3 * (10 + ρ (20 + 5 * b)) else 10 + ρ (20 + 5 * b)
noncomputable def uF (ρ : Nat → Int32) (b : Nat) : Int32 := gv ρ 264 99 (zF ρ b) (ρ (23 + 5 * b)) (ρ 0 % 10)
noncomputable def sF (ρ : Nat → Int32) (b : Nat) : Int32 := gv ρ 143 3 (wF ρ b) (ρ 0 % 7) (if dF ρ b = 99 then 0 else dF ρ b)
-- the class's side: a harvest, roads, the laws of now
def Tc (h r : Nat) (μ : vM) (ρ : Nat → Int32) : Prop := ok ρ ∧ hv h μ ρ ∧ rd r μ ρ ∧ lw 12 μ ρ 143 ∧ lw 15 μ ρ 264 ∧ nms μ
theorem ok_n {ρ : Nat → Int32} (o : ok ρ) : ∃ n, n < 9 ∧ ρ 2 = nI n := o.1
theorem sp_goalC {h b : Nat} {μ : vM} {ρ : Nat → Int32} (o : ok ρ) (v : hv h μ ρ) (hb : b < 8) {Q : Int32 → vM → Prop} : wp_X0_goal h (nI b) Q μ = Q (gF ρ b) μ := by
  obtain ⟨f, p, q, hf, hp, hq, e1, e2, e3, e4, d⟩ := ok_b o hb
  unfold wp_X0_goal
  have w : vp_in (nI b) 8 := vp_in_nI hb (by decide)
  have w' : vp_in (nI f) 4 := vp_in_nI hf (by decide)
  rw [nI_clamp (by omega), (v.2.2.1 b hb).2.2.1, e1, nI_clamp (by omega), v.2.2.2 f hf, e3, e4]
  simp only [w, w', true_and]
theorem sp_isHC {h b : Nat} {μ : vM} {ρ : Nat → Int32} (o : ok ρ) (v : hv h μ ρ) (hb : b < 8) {Q : Int32 → vM → Prop} : wp_X0_isHome h (nI b) Q μ = if atH ρ b then Q 1 μ else Q 0 μ := by
  unfold wp_X0_isHome
  have w : vp_in (nI b) 8 := vp_in_nI hb (by decide)
  rw [sp_goalC o v hb, nI_clamp (by omega), (v.2.2.1 b hb).2.2.2.1]
  simp only [w, true_and]
theorem sp_compC {h b n : Nat} {μ : vM} {ρ : Nat → Int32} (v : hv h μ ρ) (hb : b < 8) (hn : n < 9) (e : ρ 2 = nI n) {Q : Int32 → vM → Prop} (h1 : cF ρ n b → Q 1 μ) (h0 : ¬ cF ρ n b → Q 0 μ) : ∀ g i, i + g = n → (∀ a, a < i → ¬ co ρ b a) → wp_X0_hasCompany_2 h (nI b) Q (g + 1) (nI i) μ
  | 0, i, hi, hc => by
    unfold wp_X0_hasCompany_2
    rw [v.1, e, if_pos (nI_le (by omega) (by omega))]
    exact h0 (fun ⟨a, ha, hca⟩ => hc a (by omega) hca)
  | g + 1, i, hi, hc => by
    have ih := sp_compC v hb hn e h1 h0 g (i + 1) (by omega)
    unfold wp_X0_hasCompany_2
    have w : vp_in (nI b) 8 := vp_in_nI hb (by decide)
    have w' : vp_in (nI i) 8 := vp_in_nI (by omega) (by decide)
    rw [v.1, e, if_neg (nI_ge (by omega) (by omega))]
    unfold wp_X0_hasCompany_47
    simp only [exists_eq_left, nI_1, w, w', true_and, nI_clamp (show b < 2 ^ 31 by omega), nI_clamp (show i < 2 ^ 31 by omega), (v.2.2.1 b hb).2.2.1, (v.2.2.1 i (by omega)).2.2.1, (v.2.2.1 b hb).2.2.2.1, (v.2.2.1 i (by omega)).2.2.2.1]
    have go : ¬ co ρ b i → wp_X0_hasCompany_2 h (nI b) Q (g + 1) (nI (i + 1)) μ := fun z => ih (fun a ha => by
      by_cases ea : a = i
      · subst ea; exact z
      · exact hc a (by omega))
    by_cases c1 : i = b
    · rw [if_pos (by rw [c1])]; exact go (fun z => z.1 c1)
    · rw [if_neg (fun z => c1 ((nI_eq (by omega) (by omega)).mp z))]
      by_cases c2 : ρ (21 + 5 * i) = ρ (21 + 5 * b)
      · rw [if_pos c2]
        by_cases c3 : ρ (22 + 5 * i) = ρ (22 + 5 * b)
        · rw [if_pos c3]; exact h1 ⟨i, by omega, c1, c2, c3⟩
        · rw [if_neg c3]; exact go (fun z => c3 z.2.2)
      · rw [if_neg c2]; exact go (fun z => c2 z.2.1)
theorem kd {x : Int32} (h : lt x 7) : x = 0 ∨ x = 1 ∨ x = 2 ∨ x = 3 ∨ x = 4 ∨ x = 5 ∨ x = 6 := by
  obtain ⟨i, hi, rfl⟩ := h
  have : i = 0 ∨ i = 1 ∨ i = 2 ∨ i = 3 ∨ i = 4 ∨ i = 5 ∨ i = 6 := by omega
  rcases this with rfl | rfl | rfl | rfl | rfl | rfl | rfl <;> decide
theorem sp_walkC {h b : Nat} {μ : vM} {ρ : Nat → Int32} (o : ok ρ) (v : hv h μ ρ) (hb : b < 8) {Q : Int32 → vM → Prop} (hQ : Q (wF ρ b) μ) : wp_X0_walks h (nI b) Q μ := by
  obtain ⟨n, hn, e⟩ := ok_n o
  have w : vp_in (nI b) 8 := vp_in_nI hb (by decide)
  have V := v.2.2.1 b hb
  unfold wp_X0_walks wp_X0_walks_14 wp_X0_walks_39 wp_X0_walks_113
  simp only [w, true_and, nI_clamp (show b < 2 ^ 31 by omega), V.1, V.2.1, v.2.1]
  unfold wF at hQ
  rcases kd (o.2.1 b hb).1 with k | k | k | k | k | k | k
  · rw [k] at hQ ⊢; rw [if_pos rfl]; exact hQ
  · rw [k] at hQ ⊢; rw [if_neg (by decide), if_pos rfl]; exact hQ
  · rw [k] at hQ ⊢; rw [if_neg (by decide), if_neg (by decide), if_pos rfl]; exact hQ
  · rw [k] at hQ ⊢; rw [if_neg (by decide), if_neg (by decide), if_neg (by decide), if_pos rfl]
    rw [if_neg (by decide), if_neg (by decide), if_pos rfl, e, nI_clamp (by omega)] at hQ
    by_cases c : 6 < ρ (20 + 5 * b)
    · rw [if_pos c] at hQ ⊢; exact hQ
    · rw [if_neg c] at hQ ⊢
      refine ⟨n + 1, sp_compC v hb hn e (fun z => ?_) (fun z => ?_) n 0 (by omega) (fun a ha => absurd ha (by omega))⟩
      · rw [cG_1 z] at hQ; rw [if_neg (by decide)]; exact hQ
      · rw [cG_0 z] at hQ; rw [if_pos rfl]; exact hQ
  · rw [k] at hQ ⊢; rw [if_neg (by decide), if_neg (by decide), if_neg (by decide), if_neg (by decide), if_pos rfl]
    rw [if_neg (by decide), if_neg (by decide), if_neg (by decide), if_pos rfl] at hQ
    by_cases c : ρ 0 % 3 = 0
    · rw [if_pos c] at hQ ⊢; exact hQ
    · rw [if_neg c] at hQ ⊢; exact hQ
  · rw [k] at hQ ⊢; rw [if_neg (by decide), if_neg (by decide), if_neg (by decide), if_neg (by decide), if_neg (by decide), if_pos rfl]; exact hQ
  · rw [k] at hQ ⊢; rw [if_neg (by decide), if_neg (by decide), if_neg (by decide), if_neg (by decide), if_neg (by decide), if_neg (by decide), if_pos rfl]
    rw [if_neg (by decide), if_neg (by decide), if_neg (by decide), if_neg (by decide), if_neg (by decide), if_pos rfl] at hQ
    by_cases c : ρ (20 + 5 * b) = 9
    · rw [if_pos c] at hQ ⊢; exact hQ
    · rw [if_neg c] at hQ ⊢; exact hQ
theorem sp_weighC {h b : Nat} {μ : vM} {ρ : Nat → Int32} (o : ok ρ) (v : hv h μ ρ) (hb : b < 8) {Q : Int32 → vM → Prop} (hQ : Q (zF ρ b) μ) : wp_X0_weighs h (nI b) Q μ := by
  have w : vp_in (nI b) 8 := vp_in_nI hb (by decide)
  have V := v.2.2.1 b hb
  unfold wp_X0_weighs wp_X0_weighs_34
  simp only [w, true_and, exists_eq_left, nI_clamp (show b < 2 ^ 31 by omega), V.1, V.2.1, V.2.2.2.2]
  unfold zF at hQ
  rcases kd (o.2.1 b hb).1 with k | k | k | k | k | k | k
  all_goals (rw [k] at hQ ⊢; first | (rw [if_pos rfl]; exact hQ) | (rw [if_neg (by decide), if_pos rfl]; exact hQ) | (rw [if_neg (by decide), if_neg (by decide), if_pos rfl]; exact hQ) | (rw [if_neg (by decide), if_neg (by decide), if_neg (by decide), if_pos rfl]; exact hQ) | (rw [if_neg (by decide), if_neg (by decide), if_neg (by decide), if_neg (by decide), if_pos rfl]; exact hQ) | (rw [if_neg (by decide), if_neg (by decide), if_neg (by decide), if_neg (by decide), if_neg (by decide), if_pos rfl]; exact hQ) | (rw [if_neg (by decide), if_neg (by decide), if_neg (by decide), if_neg (by decide), if_neg (by decide), if_neg (by decide), if_pos rfl]; exact hQ))
theorem Tc_d {h r b : Nat} {μ : vM} {ρ : Nat → Int32} (t : Tc h r μ ρ) (hb : b < 8) {p q : Nat} (hp : p < 10) (hq : q < 10) (e2 : ρ (22 + 5 * b) = nI p) (e3 : gF ρ b = nI q) : μ (r + 2) (10 * p + q) = dF ρ b := by
  have := df_eq (t.2.2.1.2 p hp q hq)
  unfold dF
  rw [e2, e3, nI_clamp (by omega), nI_clamp (by omega), this]
theorem sp_stepC {h r b : Nat} {μ : vM} {ρ : Nat → Int32} (t : Tc h r μ ρ) (hb : b < 8) {Q : Int32 → vM → Prop} (hQ : ∀ μ' : vM, (∀ i, i ≠ 14 → μ' i = μ i) → Q (sF ρ b) μ') : wp_X6_stepsOf h r (nI b) Q μ := by
  obtain ⟨f, p, q, hf, hp, hq, e1, e2, e3, e4, d⟩ := ok_b t.1 hb
  have w : vp_in (nI b) 8 := vp_in_nI hb (by decide)
  have D := Tc_d t hb hp hq e2 e3
  unfold wp_X6_stepsOf wp_X6_stepsOf_38
  rw [sp_goalC t.1 t.2.1 hb]
  simp only [w, true_and, nI_clamp (show b < 2 ^ 31 by omega), (t.2.1.2.2.1 b hb).2.2.2.1, e2, e3, sp_leads hp hq t.2.2.1, sp_btw hp hq, D]
  have fin : ∀ x, x = (if dF ρ b = 99 then 0 else dF ρ b) → wp_X0_walks h (nI b) (fun r49 μ49 => wp_X1_gives 12 r49 (μ49 h 1 % 7) x (fun r61 μ61 => Q r61 μ61) μ49) μ := by
    intro x hx
    refine sp_walkC t.1 t.2.1 hb ?_
    rw [t.2.1.2.1]
    refine sp_gvC t.2.2.2.1 t.1.2.2.2.2.1 t.2.2.2.2.2.2.1 (Or.inl rfl) fun μ' d' => ?_
    rw [hx]
    exact hQ μ' d'
  by_cases c : dF ρ b = 99
  · rw [if_pos c]; simp only [if_true]; exact fin _ (by rw [if_pos c])
  · rw [if_neg c]; simp only [if_neg (by decide : ¬ (1 : Int32) = 0)]; exact fin _ (by rw [if_neg c])
theorem sp_worC {h r b : Nat} {μ : vM} {ρ : Nat → Int32} (t : Tc h r μ ρ) (hb : b < 8) {Q : Int32 → vM → Prop} (hQ : ∀ μ' : vM, (∀ i, i ≠ 17 → μ' i = μ i) → Q (uF ρ b) μ') : wp_X6_worthOf h (nI b) Q μ := by
  have w : vp_in (nI b) 8 := vp_in_nI hb (by decide)
  unfold wp_X6_worthOf
  refine sp_weighC t.1 t.2.1 hb ⟨w, ?_⟩
  rw [t.2.1.2.1, nI_clamp (by omega), (t.2.1.2.2.1 b hb).2.2.2.2]
  exact sp_gvC t.2.2.2.2.1 t.1.2.2.2.2.2 t.2.2.2.2.2.2.2.2 (Or.inr rfl) hQ
theorem sp_warC {h r b : Nat} {μ : vM} {ρ : Nat → Int32} (t : Tc h r μ ρ) (hb : b < 8) {Q : Int32 → vM → Prop} (hQ : Q (vF ρ b) μ) : wp_X6_warmthOf h r (nI b) Q μ := by
  obtain ⟨f, p, q, hf, hp, hq, e1, e2, e3, e4, d⟩ := ok_b t.1 hb
  have w : vp_in (nI b) 8 := vp_in_nI hb (by decide)
  have D := Tc_d t hb hp hq e2 e3
  unfold wp_X6_warmthOf
  rw [sp_goalC t.1 t.2.1 hb]
  simp only [w, true_and, nI_clamp (show b < 2 ^ 31 by omega), (t.2.1.2.2.1 b hb).2.2.2.1, e2, e3, sp_leads hp hq t.2.2.1, sp_btw hp hq, D]
  unfold vF at hQ
  by_cases c : dF ρ b = 99
  · rw [if_pos c] at hQ ⊢; simp only [if_true]; exact hQ
  · rw [if_neg c] at hQ ⊢; simp only [if_neg (by decide : ¬ (1 : Int32) = 0)]; exact hQ
-- the reference's side
def Tr (ν : vM) : Prop := ok (ν 1) ∧ kno ν
theorem Tr_rs {ν ν' : vM} (t : Tr ν) (r : rs ν ν') : Tr ν' := ⟨by rw [rs_1 r]; exact t.1, r.2.2⟩
theorem sp_homR {b : Nat} {ν : vM} (o : ok (ν 1)) (hb : b < 8) {Q : Int32 → vM → Prop} : wp_X7_homeOf (nI b) Q ν = Q (gF (ν 1) b) ν := by
  obtain ⟨f, p, q, hf, hp, hq, e1, e2, e3, e4, d⟩ := ok_b o hb
  unfold wp_X7_homeOf
  have i5 : (5 : Int32) + nI f = nI (5 + f) := nI_add 5 f
  have w' : vp_in (nI (5 + f)) 385 := vp_in_nI (by omega) (by decide)
  simp only [sp_of2 hb, e1, i5, w', true_and, nI_clamp (show 5 + f < 2 ^ 31 by omega), e4, e3]
theorem sp_isHR {b : Nat} {ν : vM} (o : ok (ν 1)) (hb : b < 8) {Q : Int32 → vM → Prop} : wp_X7_isHome (nI b) Q ν = if atH (ν 1) b then Q 1 ν else Q 0 ν := by
  unfold wp_X7_isHome
  simp only [sp_of3 hb, sp_homR o hb]
theorem sp_farR {b : Nat} {ν : vM} (t : Tr ν) (hb : b < 8) {Q : Int32 → vM → Prop} (hQ : ∀ ν', rs ν ν' → Q (dF (ν 1) b) ν') : wp_X7_farHome (nI b) Q ν := by
  obtain ⟨f, p, q, hf, hp, hq, e1, e2, e3, e4, d⟩ := ok_b t.1 hb
  unfold wp_X7_farHome
  simp only [sp_of3 hb, sp_homR t.1 hb, e2, e3]
  refine sp_farBy hp hq t.1.2.2.2.1 t.2 fun d' ν' h1 h2 => ?_
  rw [isD_un h1 d]
  exact hQ ν' h2
theorem sp_warR {b : Nat} {ν : vM} (t : Tr ν) (hb : b < 8) {Q : Int32 → vM → Prop} (hQ : ∀ ν', rs ν ν' → Q (vF (ν 1) b) ν') : wp_X7_warmth (nI b) Q ν := by
  unfold wp_X7_warmth
  refine sp_farR t hb fun ν' r => ?_
  have := hQ ν' r
  unfold vF at this
  by_cases c : dF (ν 1) b = 99
  · rw [if_pos c] at this ⊢; exact this
  · rw [if_neg c] at this ⊢; exact this
theorem sp_compR {b n : Nat} {ν : vM} (hb : b < 8) (hn : n < 9) (e : ν 1 2 = nI n) {Q : Int32 → vM → Prop} (h1 : cF (ν 1) n b → Q 1 ν) (h0 : ¬ cF (ν 1) n b → Q 0 ν) : ∀ g i (x : Int32), i + g = n → (x = 0 ∧ (∀ a, a < i → ¬ co (ν 1) b a) ∨ x = 1 ∧ cF (ν 1) n b) → wp_X7_isTogether_4 (nI b) Q (g + 1) x (nI i) ν
  | 0, i, x, hi, hc => by
    unfold wp_X7_isTogether_4
    rw [t2_, e, if_pos (nI_le (by omega) (by omega))]
    rcases hc with ⟨rfl, hc⟩ | ⟨rfl, hc⟩
    · exact ⟨v2_, bz0, h0 (fun ⟨a, ha, hca⟩ => hc a (by omega) hca)⟩
    · exact ⟨v2_, bz1, h1 hc⟩
  | g + 1, i, x, hi, hc => by
    have ih := sp_compR hb hn e h1 h0 g (i + 1)
    unfold wp_X7_isTogether_4
    rw [t2_, e, if_neg (nI_ge (by omega) (by omega))]
    refine ⟨v2_, ?_⟩
    unfold wp_X7_isTogether_57 wp_X7_isTogether_53 wp_X7_isTogether_58
    simp only [exists_eq_left, nI_1, sp_of2 (show i < 8 by omega), sp_of2 hb, sp_of3 (show i < 8 by omega), sp_of3 hb]
    rcases hc with ⟨rfl, hc⟩ | ⟨rfl, hc⟩
    · rw [if_pos rfl]
      have go : ¬ co (ν 1) b i → wp_X7_isTogether_4 (nI b) Q (g + 1) 0 (nI (i + 1)) ν := fun z => ih 0 (by omega) (Or.inl ⟨rfl, fun a ha => by
        by_cases ea : a = i
        · subst ea; exact z
        · exact hc a (by omega)⟩)
      by_cases c1 : i = b
      · rw [if_pos (by rw [c1])]; exact go (fun z => z.1 c1)
      · rw [if_neg (fun z => c1 ((nI_eq (by omega) (by omega)).mp z))]
        by_cases c2 : ν 1 (21 + 5 * i) = ν 1 (21 + 5 * b)
        · rw [if_pos c2]
          by_cases c3 : ν 1 (22 + 5 * i) = ν 1 (22 + 5 * b)
          · rw [if_pos c3]; exact ih 1 (by omega) (Or.inr ⟨rfl, i, by omega, c1, c2, c3⟩)
          · rw [if_neg c3]; exact go (fun z => c3 z.2.2)
        · rw [if_neg c2]; exact go (fun z => c2 z.2.1)
    · rw [if_neg (by decide)]
      exact ih 1 (by omega) (Or.inr ⟨rfl, hc⟩)
theorem sp_walkR {b : Nat} {ν : vM} (o : ok (ν 1)) (hb : b < 8) {Q : Int32 → vM → Prop} (hQ : Q (wF (ν 1) b) ν) : wp_X7_walksBy (nI b) Q ν := by
  obtain ⟨n, hn, e⟩ := ok_n o
  unfold wp_X7_walksBy wp_X7_walksBy_23 wp_X7_walksBy_45 wp_X7_walksBy_111
  simp only [sp_of1 hb, sp_of0 hb, v0_, t0_, true_and]
  unfold wF at hQ
  rcases kd (o.2.1 b hb).1 with k | k | k | k | k | k | k
  · rw [k] at hQ ⊢; exact hQ
  · rw [k] at hQ ⊢; exact hQ
  · rw [k] at hQ ⊢; exact hQ
  · rw [k] at hQ ⊢
    rw [if_neg (by decide), if_neg (by decide), if_pos rfl] at hQ ⊢
    rw [e, nI_clamp (by omega)] at hQ
    by_cases c : 6 < ν 1 (20 + 5 * b)
    · rw [if_pos c] at hQ ⊢; exact hQ
    · rw [if_neg c] at hQ ⊢
      refine ⟨n + 1, sp_compR hb hn e (fun z => ?_) (fun z => ?_) n 0 0 (by omega) (Or.inl ⟨rfl, fun a ha => absurd ha (by omega)⟩)⟩
      · rw [cG_1 z] at hQ; rw [if_neg (by decide)]; exact hQ
      · rw [cG_0 z] at hQ; rw [if_pos rfl]; exact hQ
  · rw [k] at hQ ⊢
    rw [if_neg (by decide), if_neg (by decide), if_neg (by decide), if_pos rfl] at hQ ⊢
    by_cases c : ν 1 0 % 3 = 0
    · rw [if_pos c] at hQ ⊢; exact hQ
    · rw [if_neg c] at hQ ⊢; exact hQ
  · rw [k] at hQ ⊢; exact hQ
  · rw [k] at hQ ⊢
    rw [if_neg (by decide), if_neg (by decide), if_neg (by decide), if_neg (by decide), if_neg (by decide), if_pos rfl] at hQ ⊢
    by_cases c : ν 1 (20 + 5 * b) = 9
    · rw [if_pos c] at hQ ⊢; exact hQ
    · rw [if_neg c] at hQ ⊢; exact hQ
theorem sp_weighR {b : Nat} {ν : vM} (o : ok (ν 1)) (hb : b < 8) {Q : Int32 → vM → Prop} (hQ : Q (zF (ν 1) b) ν) : wp_X7_weighsOf (nI b) Q ν := by
  unfold wp_X7_weighsOf wp_X7_weighsOf_27
  simp only [sp_of1 hb, sp_of0 hb, sp_of4 hb, exists_eq_left]
  unfold zF at hQ
  rcases kd (o.2.1 b hb).1 with k | k | k | k | k | k | k
  all_goals (rw [k] at hQ ⊢; exact hQ)
theorem sp_stepR {b : Nat} {ν : vM} (t : Tr ν) (hb : b < 8) {Q : Int32 → vM → Prop} (hQ : ∀ ν', rs ν ν' → Q (sF (ν 1) b) ν') : wp_X7_stepsOf (nI b) Q ν := by
  unfold wp_X7_stepsOf wp_X7_stepsOf_33
  refine sp_farR t hb fun ν1 r1 => ?_
  have t1 := Tr_rs t r1
  refine sp_walkR t1.1 hb ?_
  rw [rs_1 r1, t0_]
  refine ⟨v0_, ?_⟩
  refine sp_gvR (u := 0) (by decide) t1.1.2.2.2.2.1 fun ν2 r2 => ?_
  have := hQ ν2 (rs_tr r1 (rs_g t1.2 r2))
  rw [rs_1 r1]
  exact this
theorem sp_worR {b : Nat} {ν : vM} (t : Tr ν) (hb : b < 8) {Q : Int32 → vM → Prop} (hQ : ∀ ν', rs ν ν' → Q (uF (ν 1) b) ν') : wp_X7_worthOf (nI b) Q ν := by
  unfold wp_X7_worthOf
  refine sp_weighR t.1 hb ?_
  rw [sp_of4 hb, t0_]
  refine ⟨v0_, ?_⟩
  refine sp_gvR (u := 1) (by decide) t.1.2.2.2.2.2 fun ν2 r2 => ?_
  exact hQ ν2 (rs_g t.2 r2)
theorem rl_Tc {μ ν : vM} (h : Rl μ ν) : Tc 5 2 μ (ν 1) := ⟨inv_ok h.2.1, h.1.1, h.1.2.1, h.1.2.2.1, h.1.2.2.2.1, h.2.2.2.2.2.2.2⟩
theorem rl_Tr {μ ν : vM} (h : Rl μ ν) : Tr ν := ⟨inv_ok h.2.1, h.2.2.1⟩
theorem sm_bitIs_ok : sm_bitIs Rl := by
  intro x a μ ν h
  obtain ⟨n, hn, e1, e2⟩ := rl_size h
  have r1 := rl_err (k := 1) (by decide) h
  unfold wp_X6_bitIs wp_X7_bitIs
  simp only [sp_isBit6 hn e1, sp_isBit7 hn e2, e6_1, e7_1, in7_7]
  by_cases c1 : rg x n
  · obtain ⟨b, hb, rfl⟩ := rg_of c1
    have hb8 : b < 8 := by omega
    have w : vp_in (nI b) 8 := vp_in_nI hb8 (by decide)
    simp only [if_pos c1, if_neg (by decide : ¬ (1 : Int32) = 0), w, true_and, nI_clamp (show b < 2 ^ 31 by omega)]
    have V := h.1.1.2.2.1 b hb8
    by_cases c2 : rg a 8
    · obtain ⟨i, hi, rfl⟩ := rg_of c2
      simp only [if_pos c2, if_neg (by decide : ¬ (1 : Int32) = 0)]
      have : i = 0 ∨ i = 1 ∨ i = 2 ∨ i = 3 ∨ i = 4 ∨ i = 5 ∨ i = 6 ∨ i = 7 := by omega
      rcases this with rfl | rfl | rfl | rfl | rfl | rfl | rfl | rfl
      · rw [if_pos (by decide), if_neg (by decide), sp_of (k := 0) hb8 (by decide) rfl]
        exact ⟨V.1, h⟩
      · rw [if_neg (by decide), if_pos (by decide), if_neg (by decide), sp_of (k := 1) hb8 (by decide) rfl]
        exact ⟨by rw [V.2.1]; congr 1; omega, h⟩
      · rw [if_neg (by decide), if_neg (by decide), if_pos (by decide), if_neg (by decide), sp_of (k := 2) hb8 (by decide) rfl]
        exact ⟨by rw [V.2.2.1]; congr 1; omega, h⟩
      · rw [if_neg (by decide), if_neg (by decide), if_neg (by decide), if_pos (by decide), if_neg (by decide), sp_of (k := 3) hb8 (by decide) rfl]
        exact ⟨by rw [V.2.2.2.1]; congr 1; omega, h⟩
      · rw [if_neg (by decide), if_neg (by decide), if_neg (by decide), if_neg (by decide), if_pos (by decide), if_neg (by decide), sp_of (k := 4) hb8 (by decide) rfl]
        exact ⟨by rw [V.2.2.2.2]; congr 1; omega, h⟩
      · rw [if_neg (by decide), if_neg (by decide), if_neg (by decide), if_neg (by decide), if_neg (by decide), if_pos (by decide)]
        refine sp_stepC (rl_Tc h) hb8 fun μ' d => ?_
        rw [if_pos (by decide), if_pos (by decide)]
        exact sp_stepR (rl_Tr h) hb8 fun ν' r => ⟨rfl, rl_rs (rl_sc h (fun i h1 _ _ => d i h1)) r⟩
      · rw [if_neg (by decide), if_neg (by decide), if_neg (by decide), if_neg (by decide), if_neg (by decide), if_neg (by decide), if_pos (by decide)]
        refine sp_worC (rl_Tc h) hb8 fun μ' d => ?_
        rw [if_pos (by decide), if_neg (by decide), if_pos (by decide)]
        exact sp_worR (rl_Tr h) hb8 fun ν' r => ⟨rfl, rl_rs (rl_sc h (fun i _ h1 _ => d i h1)) r⟩
      · rw [if_neg (by decide), if_neg (by decide), if_neg (by decide), if_neg (by decide), if_neg (by decide), if_neg (by decide), if_neg (by decide), if_pos (by decide)]
        refine sp_warC (rl_Tc h) hb8 ?_
        rw [if_pos (by decide), if_neg (by decide), if_neg (by decide)]
        exact sp_warR (rl_Tr h) hb8 fun ν' r => ⟨rfl, rl_rs h r⟩
    · simp only [if_neg c2, if_true]
      have nk : ∀ k, k < 8 → ¬ a = nI k := fun k hk e => c2 (by rw [e]; exact rg_nI hk (by decide))
      have n0 : ¬ a = 0 := nk 0 (by decide)
      have n1 : ¬ a = 1 := nk 1 (by decide)
      have n2 : ¬ a = 2 := nk 2 (by decide)
      have n3 : ¬ a = 3 := nk 3 (by decide)
      have n4 : ¬ a = 4 := nk 4 (by decide)
      have n5 : ¬ a = 5 := nk 5 (by decide)
      have n6 : ¬ a = 6 := nk 6 (by decide)
      have n7 : ¬ a = 7 := nk 7 (by decide)
      rw [if_neg n0, if_neg n1, if_neg n2, if_neg n3, if_neg n4, if_neg n5, if_neg n6, if_neg n7]
      first | exact ⟨rfl, r1⟩ | exact r1
  · simp only [if_neg c1, if_true, true_and]; exact r1
theorem jd_C {s z n : Nat} (hs : s < 4) (hz : z < 25) (hn : n < 9) {μ : vM} {ρ : Nat → Int32} {cv : Nat → Int32} (t : Tc 5 2 μ ρ) (e1 : μ 5 0 = nI n) (e2 : μ 55 s = nI z) (ec : ∀ i, i < 24 → μ 56 (24 * s + i) = cv i) {Q : Int32 → vM → Prop} {k : Nat} (hk : k ≤ z ∧ k ≤ n) (ha : ∀ i, i < k → cv i = vF ρ i) (hs' : k = z ∨ k = n ∨ cv k ≠ vF ρ k) (hQ : Q (nI k) μ) : ∀ (g i : Nat), i + g = k → wp_X6_judge_32 (nI s) Q (g + 1) (nI i) μ
  | 0, i, hi => by
    have : i = k := by omega
    subst this
    unfold wp_X6_judge_32
    rw [nI_clamp (by omega), e2]
    refine ⟨vp_in_nI hs (by decide), ?_⟩
    by_cases c1 : z ≤ i
    · rw [if_pos (nI_le c1 (by omega))]; exact hQ
    · rw [if_neg (nI_ge (by omega) (by omega)), sp_isBit6 hn e1]
      by_cases c2 : i < n
      · rw [if_pos (rg_nI c2 (by omega)), if_neg (by decide)]
        unfold wp_X4_number
        rw [(ix_sh s i).2, nI_clamp (by omega), ec i (by omega)]
        refine ⟨vp_in_nI (by omega) (by decide), sp_warC t (by omega) ?_⟩
        rw [if_neg (by rcases hs' with z | z | z <;> first | exact z | omega)]
        exact hQ
      · rw [if_neg (fun z => c2 (by have := z.2; rw [nI_toInt (by omega)] at this; omega)), if_pos rfl]
        exact hQ
  | g + 1, i, hi => by
    have ih := jd_C hs hz hn t e1 e2 ec hk ha hs' hQ g (i + 1) (by omega)
    unfold wp_X6_judge_32
    rw [nI_clamp (by omega), e2, if_neg (nI_ge (by omega) (by omega)), sp_isBit6 hn e1, if_pos (rg_nI (by omega) (by omega)), if_neg (by decide)]
    refine ⟨vp_in_nI hs (by decide), ?_⟩
    unfold wp_X4_number
    rw [(ix_sh s i).2, nI_clamp (by omega), ec i (by omega)]
    refine ⟨vp_in_nI (by omega) (by decide), sp_warC t (by omega) ?_⟩
    rw [if_pos (ha i (by omega)), nI_1]
    exact ⟨_, rfl, ih⟩
theorem jd_R {s z n : Nat} (hs : s < 4) (hz : z < 25) (hn : n < 9) {ν : vM} {cv : Nat → Int32} (t : Tr ν) (e1 : ν 1 2 = nI n) (e2 : ν 6 s = nI z) (ec : ∀ i, i < 24 → ν 7 (24 * s + i) = cv i) {Q : Int32 → vM → Prop} {k : Nat} (hk : k ≤ z ∧ k ≤ n) (ha : ∀ i, i < k → cv i = vF (ν 1) i) (hs' : k = z ∨ k = n ∨ cv k ≠ vF (ν 1) k) (hQ : ∀ ν', rs ν ν' → Q (nI k) ν') : ∀ (g i : Nat) (m : vM), i + g = k → rs ν m → wp_X7_judge_18 (nI s) Q (g + 1) (nI i) m
  | 0, i, m, hi, hm => by
    have : i = k := by omega
    subst this
    unfold wp_X7_judge_18
    rw [nI_clamp (by omega), hm.1 6 (by decide) (by decide) (by decide) (by decide), e2, rs_1 hm, t2_, e1]
    refine ⟨vp_in_nI hs (by decide), ?_⟩
    by_cases c1 : z ≤ i
    · rw [if_pos (nI_le c1 (by omega))]; exact hQ m hm
    · rw [if_neg (nI_ge (by omega) (by omega))]
      refine ⟨v2_, ?_⟩
      by_cases c2 : n ≤ i
      · rw [if_pos (nI_le c2 (by omega))]; exact hQ m hm
      · rw [if_neg (nI_ge (by omega) (by omega)), (ix_sh s i).1, nI_clamp (by omega), hm.1 7 (by decide) (by decide) (by decide) (by decide), ec i (by omega)]
        refine ⟨vp_in_nI (by omega) (by decide), sp_warR (Tr_rs t hm) (by omega) fun m' r => ?_⟩
        rw [rs_1 hm, if_neg (by rcases hs' with z | z | z <;> first | exact z | omega)]
        exact hQ m' (rs_tr hm r)
  | g + 1, i, m, hi, hm => by
    have ih := fun m' => jd_R hs hz hn t e1 e2 ec hk ha hs' hQ g (i + 1) m' (by omega)
    unfold wp_X7_judge_18
    rw [nI_clamp (by omega), hm.1 6 (by decide) (by decide) (by decide) (by decide), e2, rs_1 hm, t2_, e1, if_neg (nI_ge (by omega) (by omega)), if_neg (nI_ge (by omega) (by omega)), (ix_sh s i).1, nI_clamp (by omega), hm.1 7 (by decide) (by decide) (by decide) (by decide), ec i (by omega)]
    refine ⟨vp_in_nI hs (by decide), v2_, vp_in_nI (by omega) (by decide), sp_warR (Tr_rs t hm) (by omega) fun m' r => ?_⟩
    rw [rs_1 hm, if_pos (ha i (by omega)), nI_1]
    exact ⟨_, rfl, ih m' (rs_tr hm r)⟩
theorem sm_judge_ok : sm_judge Rl := by
  intro a μ ν h
  obtain ⟨n, hn, e1, e2⟩ := rl_size h
  have r1 := rl_err (k := 1) (by decide) h
  have r2 := rl_err (k := 2) (by decide) h
  unfold wp_X6_judge wp_X7_judge wp_X4_isMissing
  simp only [sp_isSheet6, sp_notThere, e6_1, e6_2]
  by_cases c1 : rg a 4
  · obtain ⟨s, hs, rfl⟩ := rg_of c1
    have H := h.2.2.2.2.1.1 s hs
    have w : vp_in (nI s) 4 := vp_in_nI hs (by decide)
    simp only [if_pos c1, if_neg (by decide : ¬ (1 : Int32) = 0), w, true_and, nI_clamp (show s < 2 ^ 31 by omega), H.1]
    by_cases c2 : ν 5 s = 0
    · simp only [if_pos c2, if_neg (by decide : ¬ (1 : Int32) = 0), if_neg (by decide : ¬ (-1000000002 : Int32) = 0), e7_2, true_and]
      exact r2
    · simp only [if_neg c2, if_true]
      obtain ⟨z, hz, ez⟩ := H.2.2.2
      -- how many are right
      have : ∃ k, (k ≤ z ∧ k ≤ n) ∧ (∀ i, i < k → ν 7 (24 * s + i) = vF (ν 1) i) ∧ (k = z ∨ k = n ∨ ν 7 (24 * s + k) ≠ vF (ν 1) k) := by
        have P := lst (fun k => k = z ∨ k = n ∨ ν 7 (24 * s + k) ≠ vF (ν 1) k) ⟨z, Or.inl rfl⟩
        obtain ⟨k, p1, p2⟩ := P
        refine ⟨k, ⟨?_, ?_⟩, fun i hi => ?_, p1⟩
        · exact Nat.le_of_not_lt fun z' => p2 z z' (Or.inl rfl)
        · exact Nat.le_of_not_lt fun z' => p2 n z' (Or.inr (Or.inl rfl))
        · exact Classical.byContradiction fun e => p2 i hi (Or.inr (Or.inr e))
      obtain ⟨k, k1, k2, k3⟩ := this
      refine ⟨k + 1, jd_C hs hz hn (rl_Tc h) e1 (by rw [H.2.1]; exact ez) (cv := fun i => ν 7 (24 * s + i)) (fun i hi => h.2.2.2.2.1.2 _ (by omega)) k1 k2 k3 ?_ k 0 (by omega)⟩
      exact ⟨k + 1, jd_R hs hz hn (rl_Tr h) e2 ez (cv := fun i => ν 7 (24 * s + i)) (fun i hi => rfl) k1 k2 k3 (fun ν' r => ⟨rfl, rl_rs h r⟩) k 0 ν (by omega) (rs_rf h.2.2.1)⟩
  · simp only [if_neg c1, if_true, if_neg (by decide : ¬ (-1000000001 : Int32) = 0), e7_1, true_and]; exact r1
