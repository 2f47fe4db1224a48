/-! days, and what is only thought -/
noncomputable def it : Nat → (Nat → Int32) → Nat → Int32
  | 0, ρ => ρ
  | k + 1, ρ => it k (goF ρ)
theorem it_succ : ∀ (k : Nat) (ρ : Nat → Int32), it (k + 1) ρ = goF (it k ρ)
  | 0, _ => rfl
  | k + 1, ρ => by
    have := it_succ k (goF ρ)
    simp only [it] at this ⊢
    exact this
theorem it_ok : ∀ (k : Nat) {ρ : Nat → Int32}, ok ρ → ok (it k ρ)
  | 0, _, o => o
  | k + 1, ρ, o => by rw [it_succ]; exact ok_go (it_ok k o)
theorem it_sm : ∀ (k : Nat) {ρ : Nat → Int32}, ok ρ → sm0 ρ (it k ρ)
  | 0, _, _ => sm0_rf
  | k + 1, ρ, o => by rw [it_succ]; exact sm0_tr (it_sm k o) (sm0_go (it_ok k o))
theorem it_day : ∀ (k : Nat) (ρ : Nat → Int32), it k ρ 0 = ρ 0 + nI k
  | 0, ρ => by show ρ 0 = ρ 0 + 0; rw [Int32.add_zero]
  | k + 1, ρ => by
    rw [it_succ]; unfold goF; rw [upd_eq, it_day k ρ, nI_succ, Int32.add_assoc]
theorem up0_n {ρ : Nat → Int32} {v : Int32} : (upd ρ 0 v) 2 = ρ 2 := upd_ne (by decide)
theorem onw_up {ρ : Nat → Int32} {v : Int32} {b : Nat} : onw (upd ρ 0 v) b ↔ onw ρ b := by
  have e1 : gF (upd ρ 0 v) b = gF ρ b := by unfold gF; rw [upd_ne (by omega), upd_ne (by omega)]
  have e2 : upd ρ 0 v (22 + 5 * b) = ρ (22 + 5 * b) := upd_ne (by omega)
  have hw : ∀ i, 9 ≤ i → i < 19 → upd ρ 0 v i = ρ i := fun i h _ => upd_ne (by omega)
  have e3 : ∀ p q, df (upd ρ 0 v) p q = df ρ p q := by
    intro p q
    have hd : ∀ d, isD (upd ρ 0 v) p q d ↔ isD ρ p q d := by
      intro d
      have E : ∀ x y, ed (upd ρ 0 v) x y ↔ ed ρ x y := fun x y => by unfold ed; rw [upd_ne (by omega)]
      have W : ∀ n x y, wk (upd ρ 0 v) n x y ↔ wk ρ n x y := by
        intro n
        induction n with
        | zero => intro x y; exact Iff.rfl
        | succ n ih => intro x y; simp only [wk, E, ih]
      unfold isD; simp only [W]
    by_cases ex : ∃ d, isD ρ p q d
    · obtain ⟨d, h⟩ := ex
      rw [df_eq h, df_eq ((hd d).mpr h)]
    · unfold df
      rw [dif_neg ex, dif_neg (fun ⟨d, h⟩ => ex ⟨d, (hd d).mp h⟩)]
  unfold onw atH dF
  rw [e1, e2, e3]
/-- where none is on its way only the day goes on -/
theorem go_still {ρ : Nat → Int32} {n : Nat} (o : ok ρ) (hn : n < 9) (e : ρ 2 = nI n) (h : ∀ b, b < n → ¬ onw ρ b) : goF ρ = upd ρ 0 (ρ 0 + 1) := by
  have key : ∀ k, k ≤ n → mid ρ k = ρ := by
    intro k
    induction k with
    | zero => intro _; rfl
    | succ k ih =>
      intro hk
      simp only [mid]
      rw [ih (by omega)]
      refine upd_id ?_
      have hk8 : k < 8 := by omega
      obtain ⟨f, p, q, hf, hp, hq, e1, e2, e3, e4, d⟩ := ok_b o hk8
      unfold nw
      by_cases c : dF ρ k = 99
      · rw [if_pos c]
      · rw [if_neg c, e2, e3, nI_clamp (by omega), nI_clamp (by omega)]
        have : p = q := by
          refine Classical.byContradiction fun z => h k (by omega) ⟨fun z' => z ?_, c⟩
          unfold atH at z'
          rw [e2, e3] at z'
          exact (nI_eq (by omega) (by omega)).mp z'
        rw [this, wl_q]
  unfold goF
  rw [e, nI_clamp (by omega), key n (Nat.le_refl _)]
theorem it_still : ∀ (k : Nat) {ρ : Nat → Int32} {n : Nat}, ok ρ → n < 9 → ρ 2 = nI n → (∀ b, b < n → ¬ onw ρ b) → it k ρ = upd ρ 0 (ρ 0 + nI k)
  | 0, ρ, n, _, _, _, _ => by
    show ρ = upd ρ 0 (ρ 0 + 0)
    rw [Int32.add_zero]; exact (upd_id rfl).symm
  | k + 1, ρ, n, o, hn, e, h => by
    have g := go_still o hn e h
    simp only [it]
    rw [it_still k (ok_go o) hn (by rw [g, up0_n]; exact e) (fun b hb => by rw [g, onw_up]; exact h b hb), g, upd_upd, upd_eq, Int32.add_assoc, Int32.add_comm 1, nI_succ]
theorem it_add : ∀ (a b : Nat) (ρ : Nat → Int32), it (a + b) ρ = it b (it a ρ)
  | 0, b, ρ => by rw [Nat.zero_add]; rfl
  | a + 1, b, ρ => by
    rw [Nat.succ_add]; simp only [it]; exact it_add a b (goF ρ)
theorem sub_nI {a b : Nat} (h : b ≤ a) : nI a - nI b = nI (a - b) := by
  have : nI a = nI b + nI (a - b) := by rw [nI_add]; congr 1; omega
  rw [this, Int32.add_comm, Int32.add_sub_cancel]
theorem pds_6 {h r n k : Nat} {μ : vM} {ρ : Nat → Int32} (hh : (h = 5 ∨ h = 39) ∧ (r = 2 ∨ r = 46)) (t : Tc h r μ ρ) (hn : n < 9) (e : ρ 2 = nI n) (hk : k < 1000) {Q : vM → Prop} (hQ : ∀ μ', hv h μ' (it k ρ) → (∀ i, i ≠ h → i ≠ h + 4 → i ≠ 49 → i ≠ 14 → μ' i = μ i) → Q μ') : ∀ g i m x, i + g = k → hv h m (it i ρ) → (∀ j, j ≠ h → j ≠ h + 4 → j ≠ 49 → j ≠ 14 → m j = μ j) → (x = 1 ∨ (∀ b, b < n → ¬ onw (it i ρ) b)) → wp_X6_passDays_6 h r (nI k) Q (g + 1) x (nI i) m := by
  intro g
  induction g with
  | zero =>
    intro i m x hi v hm hx
    have : i = k := by omega
    subst this
    unfold wp_X6_passDays_6
    rw [if_pos (nI_le (Nat.le_refl _) (by omega))]
    refine ⟨_, rfl, hQ _ ?_ (fun j h1 h2 h3 h4 => by rw [st_ne h1]; exact hm j h1 h2 h3 h4)⟩
    have : nI i - nI i = 0 := Int32.sub_self _
    rw [this, Int32.add_zero]
    have : st m h 1 (m h 1) = m := by
      funext j
      by_cases ej : j = h
      · subst ej; rw [st_eq]; exact upd_id rfl
      · exact st_ne ej
    rw [this]; exact v
  | succ g ih =>
    intro i m x hi v hm hx
    have oi := it_ok i t.1
    have ei : it i ρ 2 = nI n := by rw [it_sm i t.1 2 (by omega)]; exact e
    have ti : Tc h r m (it i ρ) := Tc_sm t oi v (it_sm i t.1) ⟨hm _ (by omega) (by omega) (by omega) (by omega), hm _ (by omega) (by omega) (by omega) (by omega)⟩ ⟨hm _ (by omega) (by omega) (by omega) (by omega), hm _ (by omega) (by omega) (by omega) (by omega), hm _ (by omega) (by omega) (by omega) (by omega), hm _ (by omega) (by omega) (by omega) (by omega)⟩
    unfold wp_X6_passDays_6
    rw [if_neg (nI_ge (by omega) (by omega))]
    by_cases c : x = 0
    · rw [if_pos c]
      have st' := hx.resolve_left (by rw [c]; decide)
      refine ⟨_, rfl, hQ _ ?_ (fun j h1 h2 h3 h4 => by rw [st_ne h1]; exact hm j h1 h2 h3 h4)⟩
      rw [sub_nI (by omega), show k = i + (k - i) by omega, it_add, it_still _ oi hn ei st', show i + (k - i) - i = k - i by omega]
      refine hv_of ?_ ?_ (fun b hb j hj => ?_) (fun f hf => ?_)
      · rw [st_eq, upd_ne (by decide), v.1, upd_ne (by decide)]
      · rw [st_eq, upd_eq, upd_eq, v.2.1]
      · rw [st_ne (by omega), hv_to v hb hj, upd_ne (by omega)]
      · rw [st_ne (by omega), v.2.2.2 f hf, upd_ne (by omega)]
    · rw [if_neg c]
      refine sp_dayC hh ti hn ei fun y μ' y1 y2 d1 d2 => ⟨_, rfl, ?_⟩
      rw [nI_1]
      refine ih (i + 1) μ' y (by omega) (by rw [it_succ]; exact d1) (fun j h1 h2 h3 h4 => by rw [d2 j h1 h2 h3 h4]; exact hm j h1 h2 h3 h4) ?_
      by_cases cy : y = 1
      · exact Or.inl cy
      · refine Or.inr fun b hb z => ?_
        have none : ∀ b, b < n → ¬ onw (it i ρ) b := fun b hb z => cy (y2.mpr ⟨b, hb, z⟩)
        rw [it_succ, go_still oi hn ei none, onw_up] at z
        exact none b hb z
theorem sp_pdC {h r k : Nat} {μ : vM} {ρ : Nat → Int32} (hh : (h = 5 ∨ h = 39) ∧ (r = 2 ∨ r = 46)) (t : Tc h r μ ρ) (hk : k < 1000) {Q : vM → Prop} (hQ : ∀ μ', hv h μ' (it k ρ) → (∀ i, i ≠ h → i ≠ h + 4 → i ≠ 49 → i ≠ 14 → μ' i = μ i) → Tc h r μ' (it k ρ) → Q μ') : wp_X6_passDays h r (nI k) Q μ := by
  obtain ⟨n, hn, e⟩ := ok_n t.1
  refine ⟨k + 1, pds_6 hh t hn e hk (fun μ' d1 d2 => hQ μ' d1 d2 ?_) k 0 μ 1 (by omega) t.2.1 (fun _ _ _ _ _ => rfl) (Or.inl rfl)⟩
  exact Tc_sm t (it_ok k t.1) d1 (it_sm k t.1) ⟨d2 _ (by omega) (by omega) (by omega) (by omega), d2 _ (by omega) (by omega) (by omega) (by omega)⟩ ⟨d2 _ (by omega) (by omega) (by omega) (by omega), d2 _ (by omega) (by omega) (by omega) (by omega), d2 _ (by omega) (by omega) (by omega) (by omega), d2 _ (by omega) (by omega) (by omega) (by omega)⟩
theorem sp_gofor {k : Nat} {ν : vM} (t : Tr ν) (hk : k < 1000) {Q : vM → Prop} (hQ : ∀ ν', ν' 1 = it k (ν 1) → gs ν ν' → Q ν') : wp_X7_goesFor (nI k) Q ν := by
  have lp : ∀ g i m, i + g = k → m 1 = it i (ν 1) → gs ν m → wp_X7_goesFor_2 (nI k) Q (g + 1) (nI i) m := by
    intro g
    induction g with
    | zero =>
      intro i m hi h1 hg
      have : i = k := by omega
      subst this
      unfold wp_X7_goesFor_2
      rw [if_pos (nI_le (Nat.le_refl _) (by omega))]
      exact hQ m h1 hg
    | succ g ih =>
      intro i m hi h1 hg
      unfold wp_X7_goesFor_2
      rw [if_neg (nI_ge (by omega) (by omega))]
      refine sp_goes ⟨by rw [h1]; exact it_ok i t.1, hg.2.2⟩ fun m' a1 a2 => ⟨_, rfl, ?_⟩
      rw [nI_1]
      exact ih (i + 1) m' (by omega) (by rw [a1, h1, it_succ]) (gs_tr hg a2)
  exact ⟨k + 1, lp k 0 ν (by omega) rfl (gs_rf t.2)⟩
-- who is home
noncomputable def hmS (ρ : Nat → Int32) : Nat → Int32
  | 0 => 0
  | k + 1 => if atH ρ k then hmS ρ k ||| ((1 : Int32) <<< (nI k &&& 31)) else hmS ρ k
theorem or_0 (x : Int32) : x ||| 0 = x := b_ext fun i hi => by rw [b_or, b_0, Bool.or_false]
theorem sp_homeC {h n : Nat} {μ : vM} {ρ : Nat → Int32} (o : ok ρ) (v : hv h μ ρ) (hn : n < 9) (e : ρ 2 = nI n) {Q : Int32 → vM → Prop} (hQ : Q (hmS ρ n) μ) : wp_X0_homeSet h Q μ := by
  have lp : ∀ g i, i + g = n → wp_X0_homeSet_4 h Q (g + 1) (hmS ρ i) (nI i) μ := by
    intro g
    induction g with
    | zero =>
      intro i hi
      have : i = n := by omega
      subst this
      unfold wp_X0_homeSet_4
      rw [v.1, e, if_pos (nI_le (Nat.le_refl _) (by omega))]
      exact hQ
    | succ g ih =>
      intro i hi
      have := ih (i + 1) (by omega)
      simp only [hmS] at this
      unfold wp_X0_homeSet_4 wp_X0_homeSet_26
      rw [v.1, e, if_neg (nI_ge (by omega) (by omega)), sp_isHC o v (show i < 8 by omega)]
      simp only [exists_eq_left, nI_1]
      by_cases c : atH ρ i
      · rw [if_pos c] at this ⊢; rw [if_neg (by decide)]; exact this
      · rw [if_neg c] at this ⊢; simp only [if_true]; exact this
  exact ⟨n + 1, lp n 0 (by omega)⟩
theorem sp_homeR {n : Nat} {ν : vM} (o : ok (ν 1)) (hn : n < 9) (e : ν 1 2 = nI n) {Q : Int32 → vM → Prop} (hQ : Q (hmS (ν 1) n) ν) : wp_X7_homes Q ν := by
  have lp : ∀ g i, i + g = n → wp_X7_homes_4 Q (g + 1) (hmS (ν 1) i) (nI i) ν := by
    intro g
    induction g with
    | zero =>
      intro i hi
      have : i = n := by omega
      subst this
      unfold wp_X7_homes_4
      rw [t2_, e, if_pos (nI_le (Nat.le_refl _) (by omega))]
      exact ⟨v2_, hQ⟩
    | succ g ih =>
      intro i hi
      have := ih (i + 1) (by omega)
      simp only [hmS] at this
      unfold wp_X7_homes_4 wp_X7_homes_30
      rw [t2_, e, if_neg (nI_ge (by omega) (by omega)), sp_isHR o (show i < 8 by omega)]
      simp only [exists_eq_left, nI_1]
      refine ⟨v2_, ?_⟩
      by_cases c : atH (ν 1) i
      · rw [if_pos c] at this ⊢; rw [if_neg (by decide)]; exact this
      · rw [if_neg c] at this ⊢; simp only [if_true, or_0]; exact this
  exact ⟨n + 1, lp n 0 (by omega)⟩
-- what a field gets
noncomputable def got (ρ : Nat → Int32) (f : Int32) : Nat → Int32
  | 0 => 0
  | k + 1 => if ρ (21 + 5 * k) = f ∧ atH ρ k then got ρ f k + uF ρ k else got ρ f k
theorem sp_gotC {h r n : Nat} {f : Int32} {μ : vM} {ρ : Nat → Int32} (hh : (h = 5 ∨ h = 39) ∧ (r = 2 ∨ r = 46)) (t : Tc h r μ ρ) (hn : n < 9) (e : ρ 2 = nI n) {Q : Int32 → vM → Prop} (hQ : ∀ μ', (∀ i, i ≠ 17 → μ' i = μ i) → Q (got ρ f n) μ') : wp_X6_worthAtHome h f Q μ := by
  have lp : ∀ g i m, i + g = n → (∀ j, j ≠ 17 → m j = μ j) → wp_X6_worthAtHome_5 h f Q (g + 1) (got ρ f i) (nI i) m := by
    intro g
    induction g with
    | zero =>
      intro i m hi hm
      have : i = n := by omega
      subst this
      unfold wp_X6_worthAtHome_5
      rw [hm h (by omega), t.2.1.1, e, if_pos (nI_le (Nat.le_refl _) (by omega))]
      exact hQ m hm
    | succ g ih =>
      intro i m hi hm
      have hi8 : i < 8 := by omega
      have := fun m' => ih (i + 1) m' (by omega)
      simp only [got] at this
      have v' : hv h m ρ := hv_cg t.2.1 (fun k hk => hm _ (by omega)) ⟨rfl, rfl, fun _ _ _ => rfl, fun _ _ _ => rfl⟩
      have tm : Tc h r m ρ := Tc_sm t t.1 v' sm0_rf ⟨hm _ (by omega), hm _ (by omega)⟩ ⟨hm _ (by omega), hm _ (by omega), hm _ (by omega), hm _ (by omega)⟩
      unfold wp_X6_worthAtHome_5 wp_X6_worthAtHome_44
      rw [v'.1, e, if_neg (nI_ge (by omega) (by omega)), nI_clamp (by omega), (v'.2.2.1 i hi8).2.2.1, sp_isHC t.1 v' hi8]
      simp only [exists_eq_left, nI_1]
      refine ⟨vp_in_nI hi8 (by decide), ?_⟩
      by_cases c1 : ρ (21 + 5 * i) = f
      · rw [if_pos c1]
        by_cases c2 : atH ρ i
        · rw [if_pos c2, if_neg (by decide)]
          refine sp_worC tm hi8 fun m' d => ?_
          have := this m' (fun j hj => by rw [d j hj]; exact hm j hj)
          rw [if_pos ⟨c1, c2⟩] at this
          exact this
        · rw [if_neg c2]; simp only [if_true]
          have := this m hm
          rw [if_neg (fun z => c2 z.2)] at this
          exact this
      · rw [if_neg c1]
        have := this m hm
        rw [if_neg (fun z => c1 z.1)] at this
        exact this
  exact ⟨n + 1, lp n 0 μ (by omega) (fun _ _ => rfl)⟩
theorem sp_gotR {n : Nat} {f : Int32} {ν : vM} (t : Tr ν) (hn : n < 9) (e : ν 1 2 = nI n) {Q : Int32 → vM → Prop} (hQ : ∀ ν', rs ν ν' → Q (got (ν 1) f n) ν') : wp_X7_gotBy f Q ν := by
  have lp : ∀ g i m, i + g = n → rs ν m → wp_X7_gotBy_4 f Q (g + 1) (got (ν 1) f i) (nI i) m := by
    intro g
    induction g with
    | zero =>
      intro i m hi hm
      have : i = n := by omega
      subst this
      unfold wp_X7_gotBy_4
      rw [t2_, rs_1 hm, e, if_pos (nI_le (Nat.le_refl _) (by omega))]
      exact ⟨v2_, hQ m hm⟩
    | succ g ih =>
      intro i m hi hm
      have hi8 : i < 8 := by omega
      have := fun m' => ih (i + 1) m' (by omega)
      simp only [got] at this
      unfold wp_X7_gotBy_4 wp_X7_gotBy_41 wp_X7_gotBy_42
      rw [t2_, rs_1 hm, e, if_neg (nI_ge (by omega) (by omega)), sp_of2 hi8, sp_isHR (by rw [rs_1 hm]; exact t.1) hi8, rs_1 hm]
      simp only [exists_eq_left, nI_1, Int32.add_zero]
      refine ⟨v2_, ?_⟩
      by_cases c1 : ν 1 (21 + 5 * i) = f
      · rw [if_pos c1]
        by_cases c2 : atH (ν 1) i
        · rw [if_pos c2, if_neg (by decide)]
          refine sp_worR (Tr_rs t hm) hi8 fun m' d => ?_
          have := this m' (rs_tr hm d)
          rw [if_pos ⟨c1, c2⟩] at this
          rw [rs_1 hm]
          exact this
        · rw [if_neg c2]; simp only [if_true]
          have := this m hm
          rw [if_neg (fun z => c2 z.2)] at this
          exact this
      · rw [if_neg c1]
        have := this m hm
        rw [if_neg (fun z => c1 z.1)] at this
        exact this
  exact ⟨n + 1, lp n 0 ν (by omega) (rs_rf t.2)⟩
-- thinking
theorem sp_copyE {p q : Nat} (hpq : p ≠ q) {Q : vM → Prop} {μ : vM} (h : ∀ μ' : vM, (∀ k, k < 385 → μ' q k = μ p k) → (∀ k, 385 ≤ k → μ' q k = μ q k) → (∀ i, i ≠ q → μ' i = μ i) → Q μ') : wp_X7_copyAll p 385 q 385 Q μ := by
  have key : ∀ (g i : Nat) (m : vM), i + g = 385 → (∀ k, k < i → m q k = μ p k) → (∀ k, 385 ≤ k → m q k = μ q k) → (∀ i, i ≠ q → m i = μ i) → wp_X7_copyAll_2 p 385 q 385 Q (g + 1) (nI i) m := by
    intro g
    induction g with
    | zero =>
      intro i m hi h1 h3 h2
      unfold wp_X7_copyAll_2
      rw [if_pos (show (385 : Int32) ≤ nI i from nI_le (a := 385) (by omega) (by omega))]
      exact h m (fun k hk => h1 k (by omega)) h3 h2
    | succ g ih =>
      intro i m hi h1 h3 h2
      unfold wp_X7_copyAll_2
      rw [if_neg (show ¬ (385 : Int32) ≤ nI i from nI_ge (b := 385) (by omega) (by omega))]
      refine ⟨vp_in_nI (by omega) (by decide), vp_in_nI (by omega) (by decide), _, rfl, _, rfl, ?_⟩
      rw [nI_1, nI_clamp (by omega)]
      refine ih (i + 1) _ (by omega) (fun k hk => ?_) (fun k hk => ?_) (fun k hk => ?_)
      · rw [st_eq]
        by_cases e : k = i
        · subst e; rw [upd_eq, h2 p hpq]
        · rw [upd_ne e]; exact h1 k (by omega)
      · rw [st_eq, upd_ne (by omega)]; exact h3 k hk
      · rw [st_ne hk]; exact h2 k hk
  exact ⟨386, key 385 0 μ (by omega) (fun k hk => by omega) (fun _ _ => rfl) (fun _ _ => rfl)⟩
/-- in thought, begun from ν -/
def TH (ν m : vM) : Prop := (∀ i, i ≠ 0 → i ≠ 1 → i ≠ 3 → i ≠ 8 → i ≠ 11 → i ≠ 12 → i ≠ 13 → m i = ν i) ∧ (∀ k, k ≠ 9 → m 0 k = ν 0 k) ∧ kno m ∧ ∀ k, k < 385 → m 3 k = ν 1 k
theorem th_start {ν : vM} (k : kno ν) {V : vM → Prop} (h : ∀ m, TH ν m → m 1 = ν 1 → V m) : wp_X7_thinks V ν := by
  unfold wp_X7_thinks
  refine sp_copyE (by decide) fun m a1 a2 a3 => h m ⟨fun i _ _ h3 _ _ _ _ => a3 i h3, fun k _ => by rw [a3 0 (by decide)], kno_cg k (by rw [a3 0 (by decide)]) (a3 8 (by decide)) (fun _ _ _ => by rw [a3 1 (by decide)]), a1⟩ (a3 1 (by decide))
theorem th_gs {ν m m' : vM} (t : TH ν m) (g : gs m m') : TH ν m' := ⟨fun i h0 h1 h3 h8 h11 h12 h13 => (g.1 i h0 h1 h8 h11 h12 h13).trans (t.1 i h0 h1 h3 h8 h11 h12 h13), fun k hk => (g.2.1 k hk).trans (t.2.1 k hk), g.2.2, fun k hk => by rw [g.1 3 (by decide) (by decide) (by decide) (by decide) (by decide) (by decide)]; exact t.2.2.2 k hk⟩
theorem th_back {ν m : vM} (t : TH ν m) (hw : ∀ i, 9 ≤ i → i < 19 → m 1 i = ν 1 i) (hk : ∀ k, 385 ≤ k → m 1 k = ν 1 k) {V : vM → Prop} (h : ∀ m', TH ν m' → m' 1 = ν 1 → V m') : wp_X7_putsBack V m := by
  unfold wp_X7_putsBack
  refine sp_copyE (by decide) fun m' a1 a2 a3 => ?_
  have e : m' 1 = ν 1 := by
    funext k
    by_cases c : k < 385
    · rw [a1 k c]; exact t.2.2.2 k c
    · rw [a2 k (by omega)]; exact hk k (by omega)
  refine h m' ⟨fun i h0 h1 h3 h8 h11 h12 h13 => (a3 i h1).trans (t.1 i h0 h1 h3 h8 h11 h12 h13), fun k hk => by rw [a3 0 (by decide)]; exact t.2.1 k hk, kno_cg t.2.2.1 (by rw [a3 0 (by decide)]) (a3 8 (by decide)) (fun i h1 h2 => by rw [e, hw i h1 h2]), fun k hk => by rw [a3 3 (by decide)]; exact t.2.2.2 k hk⟩ e
theorem rl_bk {μ ν μ' ν' : vM} (h : Rl μ ν) (s : sc μ μ') (t : TH ν ν') (e : ν' 1 = ν 1) : Rl μ' ν' := by
  have h' := rl_sc h s
  have h'' := h'
  obtain ⟨w, a2, a3, a4, a5, a6, a7, a8⟩ := h'
  refine rl_now h'' (fun j hj => rfl) (fun j hj => t.1 j (by omega) (by omega) (by omega) (by omega) (by omega) (by omega) (by omega)) ⟨t.2.1 3 (by decide), t.2.1 21 (by decide)⟩ t.2.2.1 (by rw [e]; exact w) (by rw [e]; exact a2) a8
theorem sp_thinkC {μ ν : vM} {k : Nat} (h : Rl μ ν) (hk : k < 1000) {Q : vM → Prop} (hQ : ∀ μ', sc μ μ' → Tc 39 2 μ' (it k (ν 1)) → Q μ') : wp_X6_think (nI k) Q μ := by
  unfold wp_X6_think
  refine sp_copy0 (by omega) fun m a1 a2 => ?_
  have t := rl_Tc h
  have tm : Tc 39 2 m (ν 1) := ⟨t.1, a1 _ t.2.1, rd_cg t.2.2.1 (a2 _ (by omega)) (a2 _ (by omega)) (fun _ _ _ => rfl), lw_cg t.2.2.2.1 (by rw [a2 _ (by omega)]) (a2 _ (by omega)) (fun _ _ _ => rfl), lw_cg t.2.2.2.2.1 (by rw [a2 _ (by omega)]) (a2 _ (by omega)) (fun _ _ _ => rfl), by have := t.2.2.2.2.2; unfold nms at this ⊢; rw [a2 12 (by omega), a2 15 (by omega)]; exact this⟩
  refine sp_pdC ⟨Or.inr rfl, Or.inl rfl⟩ tm hk fun μ' d1 d2 d3 => hQ μ' (fun i h1 h2 h3 => ?_) d3
  rw [d2 i (by omega) (by omega) (by omega) h1]; exact a2 i (by omega)
theorem rl_go {μ ν μ' ν' : vM} (h : Rl μ ν) (hc : ∀ j, j = 0 ∨ (2 ≤ j ∧ j < 5) ∨ (12 ≤ j ∧ j < 39 ∧ j ≠ 14 ∧ j ≠ 17) ∨ 53 ≤ j → μ' j = μ j) (h1 : ∀ k, k ≠ 8 → μ' 1 k = μ 1 k) (z : μ' 1 8 = ν' 1 1) (v : hv 5 μ' (ν' 1)) (o : ok (ν' 1)) (d : lt (ν' 1 0) 10000) (sm : ∀ i, (2 ≤ i ∧ i < 19) ∨ 59 ≤ i → ν' 1 i = ν 1 i) (g : gs ν ν') : Rl μ' ν' := by
  have h' := h
  obtain ⟨⟨w1, w2, w3, w4, w5, w6, w7⟩, a2, a3, a4, a5, a6, a7, a8⟩ := h
  obtain ⟨b1, b2, b3, b4, b5, b6, b7, b8, b9, b10⟩ := a2
  refine rl_now h' (fun j hj => hc j (by omega)) (fun j hj => g.1 j (by omega) (by omega) (by omega) (by omega) (by omega) (by omega)) ⟨g.2.1 3 (by decide), g.2.1 21 (by decide)⟩ g.2.2 ⟨v, rd_cg w2 (hc _ (by omega)) (hc _ (by omega)) (fun i _ _ => sm i (by omega)), lw_cg w3 (by rw [hc _ (by omega)]) (hc _ (by omega)) (fun i _ _ => sm i (by omega)), lw_cg w4 (by rw [hc _ (by omega)]) (hc _ (by omega)) (fun i _ _ => sm i (by omega)), ⟨by rw [h1 5 (by decide), sm 3 (by omega)]; exact w5.1, fun i hi => by rw [hc _ (by omega), sm _ (by omega)]; exact w5.2 i hi⟩, ⟨by rw [h1 7 (by decide), sm 4 (by omega)]; exact w6.1, fun i hi => by rw [hc _ (by omega), sm _ (by omega)]; exact w6.2 i hi⟩, z⟩ ⟨o.1, d, o.2.1, o.2.2.1, o.2.2.2.1, by rw [sm 3 (by omega)]; exact b6, by rw [sm 4 (by omega)]; exact b7, fun i hi => by rw [sm _ (by omega)]; exact b8 i hi, o.2.2.2.2.1, o.2.2.2.2.2⟩ ?_
  unfold nms at a8 ⊢
  rw [hc 12 (by omega), hc 15 (by omega)]; exact a8
theorem in7_1to {a : Int32} {n : Nat} {Q : Int32 → vM → Prop} {ν : vM} (hn : n < 1000) {h : Int32} (hh : h = nI n) : wp_X7_in a 1 h Q ν = if rg a (n + 1) ∧ a ≠ 0 then Q 1 ν else Q 0 ν := by
  rw [sp_in7b]
  have e : ((1 : Int32).toInt ≤ a.toInt ∧ a.toInt ≤ h.toInt) ↔ (rg a (n + 1) ∧ a ≠ 0) := by
    have h1 : (1 : Int32).toInt = 1 := rfl
    have h0 : (0 : Int32).toInt = 0 := rfl
    subst hh
    rw [nI_toInt (by omega), h1]
    constructor
    · rintro ⟨a1, a2⟩
      exact ⟨⟨by omega, by omega⟩, fun z => by rw [z, h0] at a1; omega⟩
    · rintro ⟨⟨a1, a2⟩, a3⟩
      refine ⟨?_, by omega⟩
      have : a.toInt ≠ 0 := fun z => a3 (Int32.toInt_inj.mp (by rw [h0]; exact z))
      omega
  simp only [e]
theorem sp_1to {a : Int32} {n : Nat} {A B : Prop} (hn : n < 1000) {h : Int32} (hh : h = nI n) : (if a < 1 then A else if a ≤ h then B else A) = if rg a (n + 1) ∧ a ≠ 0 then B else A := by
  have h1 : (1 : Int32).toInt = 1 := rfl
  have h0 : (0 : Int32).toInt = 0 := rfl
  subst hh
  by_cases c : rg a (n + 1) ∧ a ≠ 0
  · rw [if_pos c]
    have : a.toInt ≠ 0 := fun z => c.2 (Int32.toInt_inj.mp (by rw [h0]; exact z))
    have c1 := c.1.1
    have c2 := c.1.2
    rw [if_neg (fun z => by have := Int32.lt_iff_toInt_lt.mp z; omega), if_pos (Int32.le_iff_toInt_le.mpr (by rw [nI_toInt (by omega)]; omega))]
  · rw [if_neg c]
    by_cases c1 : a < 1
    · rw [if_pos c1]
    · rw [if_neg c1]
      by_cases c2 : a ≤ nI n
      · have c1' : ¬ a.toInt < (1 : Int32).toInt := fun z => c1 (Int32.lt_iff_toInt_lt.mpr z)
        have c2' := Int32.le_iff_toInt_le.mp c2
        rw [nI_toInt (by omega)] at c2'
        exact absurd ⟨⟨by omega, by omega⟩, fun z => by rw [z, h0] at c1'; omega⟩ c
      · rw [if_neg c2]
theorem rl_lt {μ ν : vM} (h : Rl μ ν) : ∃ d, d < 10000 ∧ μ 5 1 = nI d ∧ ν 1 0 = nI d := by
  obtain ⟨d, hd, e⟩ := h.2.1.2.1
  exact ⟨d, hd, by rw [h.1.1.2.1]; exact e, e⟩
theorem rl_it {μ ν μ' ν' : vM} {k : Nat} (h : Rl μ ν) (d : ∃ d, d < 10000 ∧ it k (ν 1) 0 = nI d) (v : hv 5 μ' (it k (ν 1))) (hc : ∀ i, i ≠ 5 → i ≠ 9 → i ≠ 49 → i ≠ 14 → μ' i = μ i) (e : ν' 1 = it k (ν 1)) (g : gs ν ν') : Rl μ' ν' := by
  have o := inv_ok h.2.1
  have s := it_sm k o
  refine rl_go h (fun j hj => hc j (by omega) (by omega) (by omega) (by omega)) (fun k' _ => by rw [hc 1 (by omega) (by omega) (by omega) (by omega)]) ?_ (by rw [e]; exact v) (by rw [e]; exact it_ok k o) (by rw [e]; exact d) (fun i hi => by rw [e]; exact s i (by omega)) g
  rw [hc 1 (by omega) (by omega) (by omega) (by omega), e, s 1 (by omega)]; exact h.1.2.2.2.2.2.2
theorem sm_days_ok : sm_days Rl := by
  intro a μ ν h
  have r1 := rl_err (k := 1) (by decide) h
  have r3 := rl_err (k := 3) (by decide) h
  obtain ⟨n, hn, e1, e2⟩ := rl_size h
  obtain ⟨d, hd, ed1, ed2⟩ := rl_lt h
  unfold wp_X6_days wp_X7_days
  simp only [sp_1to (n := 60) (h := 60) (by decide) rfl, in7_1to (n := 60) (h := 60) (by decide) rfl, e6_1, e7_1, e6_3, e7_3]
  by_cases c1 : rg a 61 ∧ a ≠ 0
  · obtain ⟨k, hk, rfl⟩ := rg_of c1.1
    simp only [if_pos c1, if_neg (by decide : ¬ (1 : Int32) = 0), t0_, v0_, true_and, ed1, ed2, nI_add]
    by_cases c2 : nI (d + k) ≤ 9999
    · simp only [if_pos c2]
      have dk : d + k < 10000 := by
        have := (nI_leI (b := 9999) (by omega) (by decide)).mp c2
        omega
      refine sp_pdC ⟨Or.inl rfl, Or.inl rfl⟩ (rl_Tc h) (by omega) fun μ' a1 a2 a3 => ?_
      have o := inv_ok h.2.1
      have ei : it k (ν 1) 2 = nI n := by rw [it_sm k o 2 (by omega)]; exact e2
      refine sp_homeC (it_ok k o) a1 hn ei ?_
      refine sp_gofor (rl_Tr h) (by omega) fun ν' b1 b2 => ?_
      refine sp_homeR (by rw [b1]; exact it_ok k o) hn (by rw [b1]; exact ei) ?_
      rw [b1]
      exact ⟨rfl, rl_it h ⟨d + k, dk, by rw [it_day, ed2, nI_add]⟩ a1 a2 b1 b2⟩
    · simp only [if_neg c2, true_and]; exact r3
  · simp only [if_neg c1, if_true, true_and]; exact r1
theorem sm_count_ok : sm_count Rl := by
  intro a μ ν h
  have r1 := rl_err (k := 1) (by decide) h
  obtain ⟨n, hn, e1, e2⟩ := rl_size h
  obtain ⟨d, hd, ed1, ed2⟩ := rl_lt h
  have o := inv_ok h.2.1
  unfold wp_X6_count wp_X7_count
  simp only [e6_1, e7_1, t0_, t1_, t2_, t3_, t4_, v0_, v1_, v2_, v3_, v4_, true_and]
  by_cases c0 : a = 0
  · simp only [if_pos c0]; exact ⟨by rw [e1, e2], h⟩
  simp only [if_neg c0]
  by_cases c1 : a = 1
  · simp only [if_pos c1]; exact ⟨by rw [ed1, ed2], h⟩
  simp only [if_neg c1]
  by_cases c2 : a = 2
  · simp only [if_pos c2]
    refine sp_homeC o h.1.1 hn e2 (sp_homeR o hn e2 ⟨rfl, h⟩)
  simp only [if_neg c2]
  by_cases c3 : a = 3
  · simp only [if_pos c3]; exact ⟨h.1.2.2.2.2.1.1, h⟩
  simp only [if_neg c3]
  by_cases c4 : a = 4
  · simp only [if_pos c4]; exact ⟨h.1.2.2.2.2.2.1.1, h⟩
  simp only [if_neg c4]
  by_cases c5 : a = 5
  · simp only [if_pos c5]; exact ⟨h.2.2.2.2.2.1.1, h⟩
  simp only [if_neg c5]
  by_cases c6 : a = 6
  · simp only [if_pos c6]; exact ⟨h.1.2.2.2.2.2.2, h⟩
  simp only [if_neg c6, true_and]
  exact r1
theorem sm_then_ok : sm_then Rl := by
  intro x a μ ν h
  have r1 := rl_err (k := 1) (by decide) h
  obtain ⟨n, hn, e1, e2⟩ := rl_size h
  have o := inv_ok h.2.1
  unfold wp_X6_then wp_X7_then
  simp only [sp_isBit6 hn e1, sp_isBit7 hn e2, e6_1, e7_1, in7_60, sp_hi (n := 60) (k := 60) (by decide) rfl]
  by_cases c1 : rg x n
  · obtain ⟨b, hb, rfl⟩ := rg_of c1
    have hb8 : b < 8 := by omega
    simp only [if_pos c1, if_neg (by decide : ¬ (1 : Int32) = 0)]
    by_cases c2 : rg a 61
    · obtain ⟨k, hk, rfl⟩ := rg_of c2
      simp only [if_pos c2, if_neg (by decide : ¬ (1 : Int32) = 0)]
      refine sp_thinkC h (by omega) fun μ' s t => ⟨vp_in_nI hb8 (by decide), ?_⟩
      refine th_start h.2.2.1 fun m m1 m2 => ?_
      refine sp_gofor ⟨by rw [m2]; exact o, m1.2.2.1⟩ (by omega) fun m' b1 b2 => ?_
      rw [m2] at b1
      rw [sp_of3 hb8]
      refine th_back (th_gs m1 b2) (fun i h1 h2 => by rw [b1]; exact it_sm k o i (by omega)) (fun i hi => by rw [b1]; exact it_sm k o i (by omega)) fun m3 c1 c2 => ⟨?_, rl_bk h s c1 c2⟩
      rw [b1, nI_clamp (by omega)]
      exact (t.2.1.2.2.1 b hb8).2.2.2.1
    · simp only [if_neg c2, if_true, true_and]; exact r1
  · simp only [if_neg c1, if_true, true_and]; exact r1
theorem sm_gets_ok : sm_gets Rl := by
  intro x a μ ν h
  have r1 := rl_err (k := 1) (by decide) h
  obtain ⟨n, hn, e1, e2⟩ := rl_size h
  have o := inv_ok h.2.1
  unfold wp_X6_gets wp_X7_gets
  simp only [sp_isField6, sp_isField7, e6_1, e7_1, in7_60, sp_hi (n := 60) (k := 60) (by decide) rfl]
  by_cases c1 : rg x 4
  · simp only [if_pos c1, if_neg (by decide : ¬ (1 : Int32) = 0)]
    by_cases c2 : rg a 61
    · obtain ⟨k, hk, rfl⟩ := rg_of c2
      simp only [if_pos c2, if_neg (by decide : ¬ (1 : Int32) = 0)]
      have ei : it k (ν 1) 2 = nI n := by rw [it_sm k o 2 (by omega)]; exact e2
      refine sp_thinkC h (by omega) fun μ' s t => ?_
      refine sp_gotC ⟨Or.inr rfl, Or.inl rfl⟩ t hn ei fun μ'' d => ?_
      refine th_start h.2.2.1 fun m m1 m2 => ?_
      refine sp_gofor ⟨by rw [m2]; exact o, m1.2.2.1⟩ (by omega) fun m' b1 b2 => ?_
      rw [m2] at b1
      refine sp_gotR ⟨by rw [b1]; exact it_ok k o, b2.2.2⟩ hn (by rw [b1]; exact ei) fun m'' d' => ?_
      rw [b1]
      refine th_back (th_gs (th_gs m1 b2) (gs_rs d')) (fun i h1 h2 => by rw [rs_1 d', b1]; exact it_sm k o i (by omega)) (fun i hi => by rw [rs_1 d', b1]; exact it_sm k o i (by omega)) fun m3 c1 c2 => ⟨rfl, rl_bk h (sc_tr s (fun i _ h1 _ => d i h1)) c1 c2⟩
    · simp only [if_neg c2, if_true, true_and]; exact r1
  · simp only [if_neg c1, if_true, true_and]; exact r1
