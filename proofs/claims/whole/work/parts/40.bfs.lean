/-! the reference's search: findFrom, farBy; opens and far -/
theorem sp_find {f : Nat} (hf : f < 10) {ν : vM} (hw : inw (ν 1)) {V : vM → Prop} (h : ∀ ν' : vM, (∀ p, p < 10 → isD (ν 1) f p (ν' 8 (10 * f + p))) → (∀ k, k < 10 * f ∨ 10 * f + 10 ≤ k → ν' 8 k = ν 8 k) → (∀ i, i ≠ 8 → ν' i = ν i) → V ν') : wp_X7_findFrom (nI f) V ν := by
  have ch : ∀ p : Nat, ∃ n, p < 10 → isN (ν 1) f p n := fun p => by
    obtain ⟨n, hn⟩ := isN_ex (ρ := ν 1) (p := f) (q := p) hf; exact ⟨n, fun _ => hn⟩
  obtain ⟨N, hN⟩ := Classical.axiomOfChoice ch
  have n0 : ∀ p, p < 10 → (N p < 1 ↔ p = f) := fun p hp => by
    constructor
    · intro a
      rcases hN p hp with ⟨_, b, _⟩ | ⟨b, _⟩
      · have : N p = 0 := by omega
        rw [this] at b; exact Eq.symm b
      · omega
    · rintro rfl
      have := isN_le (hN p hp) (show wk (ν 1) 0 p p from rfl)
      omega
  have nb : ∀ p, p < 10 → N p < 10 ∨ N p = 99 := fun p hp => by
    rcases hN p hp with ⟨a, _⟩ | ⟨a, _⟩
    · exact Or.inl a
    · exact Or.inr a
  -- a place comes at n just if its distance is n
  have nx : ∀ n p, 1 ≤ n → p < 10 → (N p = n ∧ n < 10 ↔ ¬ N p < n ∧ ∃ r, r < 10 ∧ ed (ν 1) p r ∧ N r < n) := by
    intro n p hn hp
    constructor
    · rintro ⟨a, b⟩
      refine ⟨by omega, ?_⟩
      rcases hN p hp with ⟨_, c, _⟩ | ⟨c, _⟩
      · rw [a] at c
        obtain ⟨v, v1, v2, v3⟩ := wk_sp n f p (n - 1) hf (by omega) c
        have e : n - (n - 1) = 1 := by omega
        rw [e] at v3
        obtain ⟨r, r1, r2, r3⟩ := v3
        have r3 : r = p := r3
        subst r3
        refine ⟨v, v1, (hw v v1 r r2).2.2, ?_⟩
        have := isN_le (hN v v1) v2
        omega
      · omega
    · rintro ⟨a, r, r1, r2, r3⟩
      rcases hN r r1 with ⟨_, c, _⟩ | ⟨c, _⟩
      · have w := wk_tr (N r) 1 f r p c ⟨p, hp, (hw p hp r r2).2.2, rfl⟩
        have := isN_le (hN p hp) w
        rcases nb p hp with d | d
        · omega
        · omega
      · rcases nb p hp with d | d <;> rcases nb r r1 with d2 | d2 <;> omega
  have w100 : ∀ p, p < 10 → vp_in (nI (10 * f + p)) 100 := fun p hp => vp_in_nI (by omega) (by decide)
  have inner : ∀ (k : Int32 → Int32 → vM → Prop) (n : Nat) (x2 : Int32), 1 ≤ n → n < 10 → (∀ q, q < 32 → (bt x2 q = true ↔ q < 10 ∧ N q < n)) → (∀ x4 m, (∀ q, q < 32 → (bt x4 q = true ↔ q < 10 ∧ N q < n + 1)) → (∀ q, q < 10 → m 8 (10 * f + q) = nI (if N q < n + 1 then N q else 99)) → (∀ k, k < 10 * f ∨ 10 * f + 10 ≤ k → m 8 k = ν 8 k) → (∀ i, i ≠ 8 → m i = ν i) → k x4 (nI (n + 1)) m) →
      ∀ (g p : Nat) (x4 : Int32) (m : vM), p + g = 10 → (∀ q, q < 32 → (bt x4 q = true ↔ q < 10 ∧ N q < (if q < p then n + 1 else n))) → (∀ q, q < 10 → m 8 (10 * f + q) = nI (if N q < (if q < p then n + 1 else n) then N q else 99)) → (∀ k, k < 10 * f ∨ 10 * f + 10 ≤ k → m 8 k = ν 8 k) → (∀ i, i ≠ 8 → m i = ν i) → wp_X7_findFrom_54 (nI f) V k (g + 1) x2 (nI n) x4 (nI p) m := by
    intro k n x2 hn1 hn10 hx2 hk g
    induction g with
    | zero =>
      intro p x4 m hp h4 h8 hF1 hF2
      have : p = 10 := by omega
      subst this
      unfold wp_X7_findFrom_54
      rw [if_pos (show (10 : Int32) ≤ nI 10 by decide)]
      refine ⟨_, rfl, ?_⟩
      rw [nI_1]
      refine hk x4 m (fun q hq => ?_) (fun q hq => ?_) hF1 hF2
      · rw [h4 q hq]
        constructor
        · rintro ⟨a, b⟩; rw [if_pos a] at b; exact ⟨a, b⟩
        · rintro ⟨a, b⟩; rw [if_pos a]; exact ⟨a, b⟩
      · rw [h8 q hq, if_pos hq]
    | succ g ih =>
      intro p x4 m hp h4 h8 hF1 hF2
      have hp10 : p < 10 := by omega
      have same : ¬ (N p = n) → wp_X7_findFrom_89 (nI f) V (fun x2 x3 x4 x5 μ => wp_X7_findFrom_54 (nI f) V k (g + 1) x2 x3 x4 x5 μ) x2 (nI n) x4 (nI p) m := by
        intro hne
        unfold wp_X7_findFrom_89 wp_X7_findFrom_90 wp_X7_findFrom_124 wp_X7_findFrom_140
        simp only [if_true, ix_ro2, w100 p hp10, true_and, exists_eq_left, nI_clamp (show 10 * f + p < 2 ^ 31 by omega), nI_1]
        have e4 : x4 ||| 0 = x4 := b_ext fun i hi => by rw [b_or, b_0]; simp
        rw [e4]
        refine ih (p + 1) x4 _ (by omega) (fun q hq => ?_) (fun q hq => ?_) (fun z hz => ?_) (fun i hi => by rw [st_ne hi]; exact hF2 i hi)
        · rw [h4 q hq]
          by_cases e : q = p
          · subst e
            rw [if_neg (by omega), if_pos (by omega)]
            constructor
            · rintro ⟨a, b⟩; exact ⟨a, by omega⟩
            · rintro ⟨a, b⟩; exact ⟨a, by omega⟩
          · by_cases l : q < p
            · rw [if_pos l, if_pos (by omega)]
            · rw [if_neg l, if_neg (by omega)]
        · rw [st_eq]
          have hv : upd (m 8) (10 * f + p) (m 8 (10 * f + p)) (10 * f + q) = m 8 (10 * f + q) := by
            by_cases e : q = p
            · subst e; rw [upd_eq]
            · rw [upd_ne (by omega)]
          rw [hv, h8 q hq]
          by_cases e : q = p
          · subst e
            rw [if_neg (show ¬ q < q by omega), if_pos (show q < q + 1 by omega)]
            by_cases l : N q < n
            · rw [if_pos l, if_pos (by omega)]
            · rw [if_neg l, if_neg (by omega)]
          · by_cases l : q < p
            · rw [if_pos l, if_pos (show q < p + 1 by omega)]
            · rw [if_neg l, if_neg (show ¬ q < p + 1 by omega)]
        · rw [st_eq, upd_ne (by omega)]; exact hF1 z hz
      unfold wp_X7_findFrom_54
      rw [if_neg (show ¬ (10 : Int32) ≤ nI p from nI_ge (b := 10) (by omega) (by decide)), bt_tst (by omega)]
      have e9 : (9 : Int32) + nI p = nI (9 + p) := nI_add 9 p
      by_cases c : bt x2 p = true
      · rw [if_pos c, if_neg (by decide)]
        have := ((hx2 p (by omega)).mp c).2
        exact same (by omega)
      · rw [if_neg c, if_pos rfl, e9, nI_clamp (by omega), hF2 1 (by decide)]
        refine ⟨vp_in_nI (by omega) (by decide), ?_⟩
        have hNp : ¬ N p < n := fun z => c ((hx2 p (by omega)).mpr ⟨hp10, z⟩)
        have and0 : (ν 1 (9 + p) &&& x2) = 0 ↔ ¬ ∃ r, r < 10 ∧ ed (ν 1) p r ∧ N r < n := by
          constructor
          · rintro a ⟨r, r1, r2, r3⟩
            have b : bt (ν 1 (9 + p) &&& x2) r = true := by
              rw [b_and, (hx2 r (by omega)).mpr ⟨r1, r3⟩, show bt (ν 1 (9 + p)) r = true from r2]; rfl
            rw [a, b_0] at b; cases b
          · intro a
            refine b_ext fun i hi => ?_
            rw [b_and, b_0]
            by_cases b1 : bt (ν 1 (9 + p)) i = true
            · by_cases b2 : bt x2 i = true
              · obtain ⟨d1, d2⟩ := (hx2 i hi).mp b2
                exact absurd ⟨i, d1, b1, d2⟩ a
              · simp [b2]
            · simp [b1]
        by_cases d : (ν 1 (9 + p) &&& x2) = 0
        · rw [if_pos d]
          refine same (fun z => ?_)
          exact (and0.mp d) ((nx n p hn1 hp10).mp ⟨z, hn10⟩).2
        · rw [if_neg d]
          have ex : ∃ r, r < 10 ∧ ed (ν 1) p r ∧ N r < n := Classical.byContradiction fun z => d (and0.mpr z)
          have hpn : N p = n := ((nx n p hn1 hp10).mpr ⟨hNp, ex⟩).1
          unfold wp_X7_findFrom_90 wp_X7_findFrom_124 wp_X7_findFrom_140
          simp only [if_neg (by decide : ¬ (1 : Int32) = 0), ix_ro2, w100 p hp10, true_and, exists_eq_left, nI_clamp (show 10 * f + p < 2 ^ 31 by omega), nI_1]
          refine ih (p + 1) _ _ (by omega) (fun q hq => ?_) (fun q hq => ?_) (fun z hz => ?_) (fun i hi => by rw [st_ne hi]; exact hF2 i hi)
          · rw [bt_set (by omega) hq]
            simp only [Bool.or_eq_true, decide_eq_true_eq, h4 q hq]
            by_cases e : q = p
            · subst e
              rw [if_pos (show q < q + 1 by omega)]
              constructor
              · intro _; exact ⟨hp10, by omega⟩
              · intro _; exact Or.inr rfl
            · by_cases l : q < p
              · rw [if_pos l, if_pos (show q < p + 1 by omega)]; simp [e]
              · rw [if_neg l, if_neg (show ¬ q < p + 1 by omega)]; simp [e]
          · rw [st_eq]
            by_cases e : q = p
            · subst e
              rw [upd_eq, if_pos (show q < q + 1 by omega), if_pos (by omega), hpn]
            · rw [upd_ne (by omega), h8 q hq]
              by_cases l : q < p
              · rw [if_pos l, if_pos (show q < p + 1 by omega)]
              · rw [if_neg l, if_neg (show ¬ q < p + 1 by omega)]
          · rw [st_eq, upd_ne (by omega)]; exact hF1 z hz
  have outer : ∀ (g n : Nat) (x2 : Int32) (m : vM), n + g = 10 → 1 ≤ n → (∀ q, q < 32 → (bt x2 q = true ↔ q < 10 ∧ N q < n)) → (∀ q, q < 10 → m 8 (10 * f + q) = nI (if N q < n then N q else 99)) → (∀ k, k < 10 * f ∨ 10 * f + 10 ≤ k → m 8 k = ν 8 k) → (∀ i, i ≠ 8 → m i = ν i) → wp_X7_findFrom_42 (nI f) V (g + 1) x2 (nI n) m := by
    intro g
    induction g with
    | zero =>
      intro n x2 m hn _ h2 h8 hF1 hF2
      have : n = 10 := by omega
      subst this
      unfold wp_X7_findFrom_42
      rw [if_pos (show (10 : Int32) ≤ nI 10 by decide)]
      refine h m (fun p hp => ?_) hF1 hF2
      rw [h8 p hp]
      refine isD_N.mpr ⟨N p, ?_, hN p hp⟩
      rcases nb p hp with d | d
      · rw [if_pos d]
      · rw [if_neg (by omega), d]
    | succ g ih =>
      intro n x2 m hn hn1 h2 h8 hF1 hF2
      unfold wp_X7_findFrom_42
      rw [if_neg (show ¬ (10 : Int32) ≤ nI n from nI_ge (b := 10) (by omega) (by decide))]
      refine ⟨11, inner _ n x2 hn1 (by omega) h2 (fun x4 m' a b c d => ih (n + 1) x4 m' (by omega) (by omega) a b c d) 10 0 x2 m (by omega) (fun q hq => ?_) (fun q hq => ?_) hF1 hF2⟩
      · rw [h2 q hq, if_neg (by omega)]
      · rw [h8 q hq, if_neg (show ¬ q < 0 by omega)]
  have init : ∀ (g p : Nat) (m : vM), p + g = 10 → (∀ q, q < p → m 8 (10 * f + q) = nI (if N q < 1 then N q else 99)) → (∀ k, k < 10 * f ∨ 10 * f + 10 ≤ k → m 8 k = ν 8 k) → (∀ i, i ≠ 8 → m i = ν i) → wp_X7_findFrom_6 (nI f) V (g + 1) ((1 : Int32) <<< (nI f &&& 31)) (nI p) m := by
    intro g
    induction g with
    | zero =>
      intro p m hp h8 hF1 hF2
      have : p = 10 := by omega
      subst this
      unfold wp_X7_findFrom_6
      rw [if_pos (show (10 : Int32) ≤ nI 10 by decide)]
      refine ⟨10, outer 9 1 _ m (by omega) (by omega) (fun q hq => ?_) h8 hF1 hF2⟩
      have b0 := bt_set (x := 0) (q := f) (i := q) (by omega) hq
      have z0 : (0 : Int32) ||| ((1 : Int32) <<< (nI f &&& 31)) = ((1 : Int32) <<< (nI f &&& 31)) := b_ext fun i hi => by rw [b_or, b_0]; simp
      rw [z0, b_0] at b0
      rw [b0]
      simp only [Bool.false_or, decide_eq_true_eq]
      constructor
      · rintro rfl; exact ⟨hf, (n0 q hf).mpr rfl⟩
      · rintro ⟨a, b⟩; exact (n0 q a).mp b
    | succ g ih =>
      intro p m hp h8 hF1 hF2
      have hp10 : p < 10 := by omega
      have e : (nI p = nI f) ↔ p = f := nI_eq (by omega) (by omega)
      unfold wp_X7_findFrom_6
      rw [if_neg (show ¬ (10 : Int32) ≤ nI p from nI_ge (b := 10) (by omega) (by decide))]
      unfold wp_X7_findFrom_33
      simp only [ix_ro2, w100 p hp10, true_and, exists_eq_left, nI_clamp (show 10 * f + p < 2 ^ 31 by omega), nI_1, e]
      refine ih (p + 1) _ (by omega) (fun q hq => ?_) (fun z hz => by rw [st_eq, upd_ne (by omega)]; exact hF1 z hz) (fun i hi => by rw [st_ne hi]; exact hF2 i hi)
      rw [st_eq]
      by_cases eq : q = p
      · subst eq
        rw [upd_eq]
        by_cases c : q = f
        · have z1 := (n0 q hp10).mpr c
          have z2 : N q = 0 := by omega
          rw [if_pos c, if_pos z1, z2]; rfl
        · rw [if_neg c, if_neg (fun z => c ((n0 q hp10).mp z))]; rfl
      · rw [upd_ne (by omega)]; exact h8 q (by omega)
  unfold wp_X7_findFrom
  exact ⟨_, rfl, 11, init 10 0 ν (by omega) (fun q hq => absurd hq (by omega)) (fun _ _ => rfl) (fun _ _ => rfl)⟩
/-- what only reads may change of the reference: what it knows of FAR, facts and pile -/
def rs (ν ν' : vM) : Prop := (∀ i, i ≠ 0 → i ≠ 8 → i ≠ 11 → i ≠ 12 → ν' i = ν i) ∧ (∀ k, k ≠ 9 → ν' 0 k = ν 0 k) ∧ kno ν'
theorem rs_rf {ν : vM} (h : kno ν) : rs ν ν := ⟨fun _ _ _ _ _ => rfl, fun _ _ => rfl, h⟩
theorem rs_tr {a b c : vM} (h : rs a b) (h' : rs b c) : rs a c := ⟨fun i h1 h2 h3 h4 => (h'.1 i h1 h2 h3 h4).trans (h.1 i h1 h2 h3 h4), fun k hk => (h'.2.1 k hk).trans (h.2.1 k hk), h'.2.2⟩
theorem rl_rs {μ ν ν' : vM} (h : Rl μ ν) (r : rs ν ν') : Rl μ ν' := by
  have e1 : ν' 1 = ν 1 := r.1 1 (by decide) (by decide) (by decide) (by decide)
  refine rl_now h (fun _ _ => rfl) (fun j hj => r.1 j (by omega) (by omega) (by omega) (by omega)) ⟨r.2.1 3 (by decide), r.2.1 21 (by decide)⟩ r.2.2 (by rw [e1]; exact h.1) (by rw [e1]; exact h.2.1) h.2.2.2.2.2.2.2
theorem sp_farBy {a b : Nat} (ha : a < 10) (hb : b < 10) {ν : vM} (hw : inw (ν 1)) (hk : kno ν) {Q : Int32 → vM → Prop} (h : ∀ d ν', isD (ν 1) a b d → rs ν ν' → Q d ν') : wp_X7_farBy (nI a) (nI b) Q ν := by
  have fin : ∀ m : vM, (∀ i, i ≠ 0 → i ≠ 8 → m i = ν i) → (∀ k, k ≠ 9 → m 0 k = ν 0 k) → (∀ p, p < 10 → ∀ q, q < 10 → isD (ν 1) p q (m 8 (10 * p + q))) → wp_X7_farBy_26 (nI a) (nI b) Q m := by
    intro m h1 h2 h3
    unfold wp_X7_farBy_26
    have w : vp_in (nI (10 * a + b)) 100 := vp_in_nI (by omega) (by decide)
    simp only [bz1, ix_ro2, w, true_and, exists_eq_left, nI_clamp (show 10 * a + b < 2 ^ 31 by omega)]
    refine h _ _ ?_ ⟨fun i i0 i8 _ _ => by rw [st_ne i0]; exact h1 i i0 i8, fun k k9 => by rw [st_eq, upd_ne k9]; exact h2 k k9, ⟨by rw [st_eq, upd_eq]; exact bz1, fun _ p hp q hq => ?_⟩⟩
    · rw [st_ne (by decide)]; exact h3 a ha b hb
    · rw [st_ne (by decide), st_ne (by decide), h1 1 (by decide) (by decide)]; exact h3 p hp q hq
  by_cases c : ν 0 9 = 0
  · have lp : ∀ (g p : Nat) (m : vM), p + g = 10 → (∀ i, i ≠ 8 → m i = ν i) → (∀ x, x < p → ∀ y, y < 10 → isD (ν 1) x y (m 8 (10 * x + y))) → wp_X7_farBy_2 (nI a) (nI b) Q (g + 1) (nI p) m := by
      intro g
      induction g with
      | zero =>
        intro p m hp h1 h2
        have : p = 10 := by omega
        subst this
        unfold wp_X7_farBy_2
        rw [if_pos (show (10 : Int32) ≤ nI 10 by decide)]
        exact fin m (fun i _ i8 => h1 i i8) (fun k _ => by rw [h1 0 (by decide)]) h2
      | succ g ih =>
        intro p m hp h1 h2
        unfold wp_X7_farBy_2
        rw [if_neg (show ¬ (10 : Int32) ≤ nI p from nI_ge (b := 10) (by omega) (by decide)), h1 0 (by decide), if_pos c]
        have e1 : m 1 = ν 1 := h1 1 (by decide)
        refine sp_find (by omega) (by rw [e1]; exact hw) fun m' d1 d2 d3 => ?_
        refine ⟨_, rfl, ?_⟩
        rw [nI_1]
        refine ih (p + 1) m' (by omega) (fun i hi => by rw [d3 i hi, h1 i hi]) (fun x hx y hy => ?_)
        by_cases e : x = p
        · subst e; rw [← e1]; exact d1 y hy
        · rw [d2 _ (by omega)]; exact h2 x (by omega) y hy
    exact ⟨11, lp 10 0 ν (by omega) (fun _ _ => rfl) (fun x hx => absurd hx (by omega))⟩
  · have c1 : ν 0 9 = 1 := hk.1.resolve_left c
    refine ⟨1, ?_⟩
    unfold wp_X7_farBy_2
    rw [if_neg (show ¬ (10 : Int32) ≤ 0 by decide), if_neg c]
    exact fin ν (fun _ _ _ => rfl) (fun _ _ => rfl) (hk.2 c1)
theorem isD_99 {ρ : Nat → Int32} {p q : Nat} {d : Int32} (h : isD ρ p q d) : (99 ≤ d ↔ d = 99) := by
  obtain ⟨n, rfl, hn⟩ := isD_N.mp h
  have l := isN_99 hn
  have e1 : (99 : Int32) ≤ nI n ↔ 99 ≤ n := nI_leI (a := 99) (by decide) (by omega)
  have e2 : nI n = (99 : Int32) ↔ n = 99 := nI_eq (b := 99) (by omega) (by decide)
  rw [e1, e2]; omega
theorem sp_leads {j x y : Nat} (hx : x < 10) (hy : y < 10) {Q : Int32 → vM → Prop} {μ : vM} {ρ : Nat → Int32} (h : rd j μ ρ) : wp_X3_leads j (nI x) (nI y) Q μ = if μ (j + 2) (10 * x + y) = 99 then Q 0 μ else Q 1 μ := by
  unfold wp_X3_leads
  have w : vp_in (nI (10 * x + y)) 100 := vp_in_nI (by omega) (by decide)
  rw [ix_ro, nI_clamp (by omega)]
  simp only [w, true_and, isD_99 (h.2 x hx y hy)]
theorem sm_far_ok : sm_far Rl := by
  intro x y μ ν h
  have r1 := rl_err (k := 1) (by decide) h
  unfold wp_X6_far wp_X7_far
  simp only [sp_isPlace6, sp_isPlace7, e6_1, e7_1, e6_2]
  by_cases c1 : rg x 10
  · by_cases c2 : rg y 10
    · obtain ⟨a, ha, rfl⟩ := rg_of c1
      obtain ⟨b, hb, rfl⟩ := rg_of c2
      have hr : rd 2 μ (ν 1) := h.1.2.1
      simp only [if_pos c1, if_pos c2, if_neg (by decide : ¬ (1 : Int32) = 0), sp_leads ha hb hr, sp_btw ha hb]
      have D := hr.2 a ha b hb
      have key : ∀ r μ1, (r = (if μ (2 + 2) (10 * a + b) = 99 then (-1000000002 : Int32) else μ (2 + 2) (10 * a + b))) → (μ1 = if μ (2 + 2) (10 * a + b) = 99 then st μ 57 2 (μ 57 2 + 1) else μ) → wp_X7_farBy (nI a) (nI b) (fun r24 μ24 => if r24 = 99 then wp_X7_error (-1000000002) (fun r37 μ37 => r = r37 ∧ Rl μ1 μ37) μ24 else r = r24 ∧ Rl μ1 μ24) ν := by
        intro r μ1 hr1 hm
        refine sp_farBy ha hb h.2.1.2.2.2.2.1 h.2.2.1 fun d ν' d1 d2 => ?_
        have ed := isD_un D d1
        rw [ed] at hr1 hm
        by_cases e : d = 99
        · rw [if_pos e] at hr1 hm
          simp only [if_pos e, e7_2]
          subst hr1; subst hm
          exact ⟨rfl, rl_err (by decide) (rl_rs h d2)⟩
        · rw [if_neg e] at hr1 hm
          simp only [if_neg e]
          subst hm
          exact ⟨hr1, rl_rs h d2⟩
      by_cases e : μ (2 + 2) (10 * a + b) = 99
      · rw [if_pos e]; simp only [if_true]
        exact key _ _ (by rw [if_pos e]) (by rw [if_pos e])
      · rw [if_neg e]
        exact key _ _ (by rw [if_neg e]) (by rw [if_neg e])
    · simp only [if_pos c1, if_neg c2, if_neg (by decide : ¬ (1 : Int32) = 0), if_true, true_and]; exact r1
  · simp only [if_neg c1, if_true, true_and]; exact r1
