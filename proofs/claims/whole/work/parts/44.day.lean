/-! a day -/
def isNx (ρ : Nat → Int32) (p q x : Nat) : Prop := x < 10 ∧ ed ρ p x ∧ df ρ x q = df ρ p q - 1 ∧ ∀ y, y < x → ¬ (ed ρ p y ∧ df ρ y q = df ρ p q - 1)
noncomputable def nx (ρ : Nat → Int32) (p q : Nat) : Nat := by
  classical
  exact if h : ∃ x, isNx ρ p q x then Classical.choose h else p
theorem nx_eq {ρ : Nat → Int32} {p q x : Nat} (h : isNx ρ p q x) : nx ρ p q = x := by
  have e : ∃ x, isNx ρ p q x := ⟨x, h⟩
  have h' := Classical.choose_spec e
  unfold nx
  rw [dif_pos e]
  rcases Nat.lt_trichotomy (Classical.choose e) x with z | z | z
  · exact absurd ⟨h'.2.1, h'.2.2.1⟩ (h.2.2.2 _ z)
  · exact z
  · exact absurd ⟨h.2.1, h.2.2.1⟩ (h'.2.2.2 _ z)
theorem nx_is {ρ : Nat → Int32} {p q : Nat} (hp : p < 10) (hpq : p ≠ q) (hd : df ρ p q ≠ 99) : isNx ρ p q (nx ρ p q) ∧ df ρ (nx ρ p q) q ≠ 99 := by
  obtain ⟨n, en, hn⟩ := isD_N.mp (df_is (ρ := ρ) (q := q) hp)
  rcases hn with ⟨hn, hw, hm⟩ | ⟨rfl, _⟩
  · rcases n with _ | m
    · exact absurd hw hpq
    · obtain ⟨r, hr, he, hw'⟩ := hw
      have hr' : isN ρ r q m := by
        refine Or.inl ⟨by omega, hw', fun k hk hk' => hm (k + 1) (by omega) ⟨r, hr, he, hk'⟩⟩
      have er : df ρ r q = df ρ p q - 1 := by
        rw [df_eq (isD_N.mpr ⟨m, rfl, hr'⟩), en]; exact (nI_pred m).symm
      obtain ⟨x, x1, x2⟩ := lst (fun y => ed ρ p y ∧ df ρ y q = df ρ p q - 1) ⟨r, he, er⟩
      have hx10 : x ≤ r := Nat.le_of_not_lt fun z => x2 r z ⟨he, er⟩
      have I : isNx ρ p q x := ⟨by omega, x1.1, x1.2, x2⟩
      rw [nx_eq I]
      refine ⟨I, ?_⟩
      rw [x1.2, en, nI_pred]
      intro z
      have := (nI_eq (b := 99) (by omega) (by decide)).mp z
      omega
  · exact absurd en hd
theorem df_cg {ρ ρ' : Nat → Int32} (h : ∀ i, 9 ≤ i → i < 19 → ρ' i = ρ i) {p q : Nat} (hp : p < 10) : df ρ' p q = df ρ p q := df_eq (isD_cg h hp (df_is hp))
theorem nx_lt {ρ : Nat → Int32} {p q : Nat} (hp : p < 10) (hpq : p ≠ q) (hd : df ρ p q ≠ 99) : nx ρ p q < 10 := (nx_is hp hpq hd).1.1
theorem nx_cg {ρ ρ' : Nat → Int32} (h : ∀ i, 9 ≤ i → i < 19 → ρ' i = ρ i) {p q : Nat} (hp : p < 10) (hpq : p ≠ q) (hd : df ρ p q ≠ 99) : nx ρ' p q = nx ρ p q := by
  obtain ⟨h1, h2, h3, h4⟩ := (nx_is hp hpq hd).1
  refine nx_eq ⟨h1, (ed_cg h hp).mpr h2, by rw [df_cg h h1, df_cg h hp]; exact h3, fun y hy => ?_⟩
  rw [ed_cg h hp, df_cg h (by omega), df_cg h hp]; exact h4 y hy
noncomputable def wl (ρ : Nat → Int32) (q : Nat) : Nat → Nat → Nat
  | 0, p => p
  | k + 1, p => if p = q then p else wl ρ q k (nx ρ p q)
theorem wl_lt {ρ : Nat → Int32} {q : Nat} : ∀ (k p : Nat), p < 10 → df ρ p q ≠ 99 → wl ρ q k p < 10
  | 0, _, hp, _ => hp
  | k + 1, p, hp, hd => by
    simp only [wl]
    by_cases c : p = q
    · rw [if_pos c]; exact hp
    · rw [if_neg c]; exact wl_lt k _ (nx_lt hp c hd) (nx_is hp c hd).2
theorem wl_q {ρ : Nat → Int32} {q : Nat} : ∀ k, wl ρ q k q = q
  | 0 => rfl
  | k + 1 => by simp only [wl, if_true]
theorem sp_nextC {r p q : Nat} {μ : vM} {ρ : Nat → Int32} (h : rd r μ ρ) (hp : p < 10) (hq : q < 10) (hpq : p ≠ q) (hd : df ρ p q ≠ 99) {Q : Int32 → vM → Prop} (hQ : Q (nI (nx ρ p q)) μ) : wp_X3_nextToward r (nI p) (nI q) Q μ := by
  obtain ⟨⟨h1, h2, h3, h4⟩, -⟩ := nx_is hp hpq hd
  have lp : ∀ g i, i + g = nx ρ p q → wp_X3_nextToward_2 r (nI p) (nI q) Q (g + 1) (nI i) μ := by
    intro g
    induction g with
    | zero =>
      intro i hi
      have : i = nx ρ p q := by omega
      unfold wp_X3_nextToward_2
      rw [if_neg (show ¬ (10 : Int32) ≤ nI i from nI_ge (b := 10) (by omega) (by decide)), sp_open hp (show i < 10 by omega), h.1 p hp]
      rw [this]
      have h2' : bt (ρ (9 + p)) (nx ρ p q) = true := h2
      rw [if_pos h2', if_neg (by decide)]
      simp only [sp_btw h1 hq, sp_btw hp hq, ← df_eq (h.2 _ h1 q hq), ← df_eq (h.2 p hp q hq), if_pos h3]
      exact hQ
    | succ g ih =>
      intro i hi
      have := ih (i + 1) (by omega)
      unfold wp_X3_nextToward_2
      rw [if_neg (show ¬ (10 : Int32) ≤ nI i from nI_ge (b := 10) (by omega) (by decide)), sp_open hp (show i < 10 by omega), h.1 p hp]
      unfold wp_X3_nextToward_36
      simp only [sp_btw (show i < 10 by omega) hq, sp_btw hp hq, ← df_eq (h.2 i (by omega) q hq), ← df_eq (h.2 p hp q hq), exists_eq_left, nI_1]
      by_cases c : bt (ρ (9 + p)) i = true
      · rw [if_pos c, if_neg (by decide), if_neg (fun z => h4 i (by omega) ⟨c, z⟩)]; exact this
      · rw [if_neg c]; simp only [if_true]; exact this
  exact ⟨nx ρ p q + 1, lp (nx ρ p q) 0 (by omega)⟩
theorem sp_wlkC {r q : Nat} {μ : vM} {ρ : Nat → Int32} (h : rd r μ ρ) (hq : q < 10) {a1 : Int32} {k : Nat} (hk : k < 100) {Q : Int32 → vM → Prop} : ∀ (g i p : Nat), i + g = k → p < 10 → (g = 0 ∨ p = q ∨ df ρ p q ≠ 99) → Q (nI (wl ρ q g p)) μ → wp_X3_walked_6 r a1 (nI q) (nI k) Q (g + 1) (nI p) (nI i) μ
  | 0, i, p, hi, hp, hd, hQ => by
    unfold wp_X3_walked_6
    rw [if_pos (nI_le (by omega) (by omega))]
    exact hQ
  | g + 1, i, p, hi, hp, hd, hQ => by
    unfold wp_X3_walked_6
    rw [if_neg (nI_ge (by omega) (by omega))]
    simp only [wl] at hQ
    by_cases c : p = q
    · rw [if_pos c] at hQ
      rw [if_pos (by rw [c])]; exact hQ
    · rw [if_neg c] at hQ
      rw [if_neg (fun z => c ((nI_eq (by omega) (by omega)).mp z))]
      have hd' : df ρ p q ≠ 99 := by rcases hd with z | z | z <;> first | exact z | omega
      refine sp_nextC h hp hq c hd' ?_
      simp only [exists_eq_left, nI_1]
      exact sp_wlkC h hq hk g (i + 1) _ (by omega) (nx_lt hp c hd') (Or.inr (Or.inr (nx_is hp c hd').2)) hQ
theorem hl_3 (v : Int32) {m : Nat} (hm : m < 1000) : ∃ k, k ≤ m ∧ hl v (nI m) = nI k := by
  unfold hl
  by_cases h1 : 0 ≤ v
  · rw [if_pos h1]
    by_cases h2 : v ≤ nI m
    · rw [if_pos h2]
      have h1' := Int32.le_iff_toInt_le.mp h1
      have h2' := Int32.le_iff_toInt_le.mp h2
      rw [nI_toInt (by omega)] at h2'
      have h0 : (0 : Int32).toInt = 0 := rfl
      obtain ⟨i, hi, e⟩ := rg_of (x := v) (n := m + 1) ⟨by omega, by omega⟩
      exact ⟨i, by omega, e⟩
    · rw [if_neg h2]; exact ⟨m, Nat.le_refl _, rfl⟩
  · rw [if_neg h1]; exact ⟨0, by omega, rfl⟩
theorem sF_3 (ρ : Nat → Int32) (b : Nat) : ∃ k, k ≤ 3 ∧ sF ρ b = nI k := hl_3 _ (m := 3) (by decide)
theorem uF_99 (ρ : Nat → Int32) (b : Nat) : ∃ k, k ≤ 99 ∧ uF ρ b = nI k := hl_3 _ (m := 99) (by decide)
noncomputable def nw (ρ : Nat → Int32) (b : Nat) : Int32 := if dF ρ b = 99 then ρ (22 + 5 * b) else nI (wl ρ (gF ρ b).toNatClampNeg (sF ρ b).toNatClampNeg (ρ (22 + 5 * b)).toNatClampNeg)
noncomputable def mid (ρ : Nat → Int32) : Nat → Nat → Int32
  | 0 => ρ
  | k + 1 => upd (mid ρ k) (22 + 5 * k) (nw ρ k)
theorem mid_ne {ρ : Nat → Int32} {i : Nat} : ∀ k, (∀ a, a < k → i ≠ 22 + 5 * a) → mid ρ k i = ρ i
  | 0, _ => rfl
  | k + 1, h => by
    simp only [mid]
    rw [upd_ne (h k (by omega))]
    exact mid_ne k (fun a ha => h a (by omega))
theorem mid_lo {ρ : Nat → Int32} {i : Nat} {k : Nat} (h : i < 22 ∨ 62 ≤ i) (hk : k ≤ 8) : mid ρ k i = ρ i := mid_ne k (fun a ha => by omega)
theorem mid_at {ρ : Nat → Int32} {b k : Nat} (h : k ≤ b) : mid ρ k (22 + 5 * b) = ρ (22 + 5 * b) := mid_ne k (fun a ha => by omega)
theorem mid_in {ρ : Nat → Int32} {b : Nat} : ∀ k, b < k → mid ρ k (22 + 5 * b) = nw ρ b
  | 0, h => absurd h (by omega)
  | k + 1, h => by
    simp only [mid]
    by_cases e : b = k
    · subst e; rw [upd_eq]
    · rw [upd_ne (by omega)]; exact mid_in k (by omega)
theorem nw_lt {ρ : Nat → Int32} {b : Nat} (o : ok ρ) (hb : b < 8) : lt (nw ρ b) 10 := by
  obtain ⟨f, p, q, hf, hp, hq, e1, e2, e3, e4, d⟩ := ok_b o hb
  unfold nw
  by_cases c : dF ρ b = 99
  · rw [if_pos c, e2]; exact ⟨p, hp, rfl⟩
  · rw [if_neg c, e2, e3, nI_clamp (by omega), nI_clamp (by omega)]
    refine ⟨_, wl_lt _ p hp ?_, rfl⟩
    rw [df_eq d]; exact c
theorem ok_cg {ρ ρ' : Nat → Int32} (o : ok ρ) (hb : inb ρ') (h : ∀ i, (1 ≤ i ∧ i < 19) ∨ 59 ≤ i → ρ' i = ρ i) : ok ρ' :=
  ⟨by rw [h 2 (by omega)]; exact o.1, hb, fun f hf => by rw [h _ (by omega)]; exact o.2.2.1 f hf, inw_cg o.2.2.2.1 (fun i _ _ => h i (by omega)), wf_cg o.2.2.2.2.1 (fun i _ _ => h i (by omega)), wf_cg o.2.2.2.2.2 (fun i _ _ => h i (by omega))⟩
theorem inb_at {ρ : Nat → Int32} {b : Nat} {v : Int32} (hv : lt v 10) (a : inb ρ) : inb (upd ρ (22 + 5 * b) v) := inb_slot (o := 3) (by decide) hv a
theorem ok_at {ρ : Nat → Int32} {b : Nat} {v : Int32} (hb : b < 8) (hv : lt v 10) (a : ok ρ) : ok (upd ρ (22 + 5 * b) v) :=
  ok_cg a (inb_at hv a.2.1) (fun i hi => upd_ne (by omega))
theorem ok_mid {ρ : Nat → Int32} (o : ok ρ) : ∀ k, k ≤ 8 → ok (mid ρ k)
  | 0, _ => o
  | k + 1, h => by simp only [mid]; exact ok_at (by omega) (nw_lt o (by omega)) (ok_mid o k (by omega))
noncomputable def goF (ρ : Nat → Int32) : Nat → Int32 := upd (mid ρ (ρ 2).toNatClampNeg) 0 (ρ 0 + 1)
theorem inb_0 {ρ : Nat → Int32} {k : Nat} {v : Int32} (hk : k < 19 ∨ 59 ≤ k) (a : inb ρ) : inb (upd ρ k v) := by
  refine inb_of fun b hb i hi => ?_
  rw [upd_ne (by omega)]; exact inb_to a hb hi
theorem ok_go {ρ : Nat → Int32} (o : ok ρ) : ok (goF ρ) := by
  obtain ⟨n, hn, e⟩ := ok_n o
  unfold goF
  rw [e, nI_clamp (by omega)]
  have := ok_mid o n (by omega)
  exact ok_cg this (inb_0 (by omega) this.2.1) (fun i hi => upd_ne (by omega))
/-- the same but for days and where bits are -/
def sm0 (ρ ρ' : Nat → Int32) : Prop := ∀ i, (1 ≤ i ∧ i < 22) ∨ 62 ≤ i ∨ (22 ≤ i ∧ i % 5 ≠ 2) → ρ' i = ρ i
theorem sm0_rf {ρ : Nat → Int32} : sm0 ρ ρ := fun _ _ => rfl
theorem sm0_tr {a b c : Nat → Int32} (h : sm0 a b) (h' : sm0 b c) : sm0 a c := fun i hi => (h' i hi).trans (h i hi)
theorem sm0_mid {ρ : Nat → Int32} {k : Nat} (hk : k ≤ 8) : sm0 ρ (mid ρ k) := fun i hi => mid_ne k (fun a ha => by omega)
theorem sm0_go {ρ : Nat → Int32} (o : ok ρ) : sm0 ρ (goF ρ) := by
  obtain ⟨n, hn, e⟩ := ok_n o
  intro i hi
  unfold goF
  rw [e, nI_clamp (by omega), upd_ne (by omega)]
  exact sm0_mid (by omega) i hi
theorem gF_sm {ρ ρ' : Nat → Int32} (h : sm0 ρ ρ') {b : Nat} (o : ok ρ) (hb : b < 8) : gF ρ' b = gF ρ b := by
  obtain ⟨f, p, q, hf, hp, hq, e1, e2, e3, e4, d⟩ := ok_b o hb
  unfold gF
  rw [h (21 + 5 * b) (by omega), e1, nI_clamp (by omega), h (5 + f) (by omega)]
theorem Tc_sm {h r : Nat} {μ μ' : vM} {ρ ρ' : Nat → Int32} (t : Tc h r μ ρ) (o : ok ρ') (v : hv h μ' ρ') (s : sm0 ρ ρ') (hr : μ' (r + 1) = μ (r + 1) ∧ μ' (r + 2) = μ (r + 2)) (hl : μ' 12 = μ 12 ∧ μ' 13 = μ 13 ∧ μ' 15 = μ 15 ∧ μ' 16 = μ 16) : Tc h r μ' ρ' := by
  obtain ⟨t1, t2, t3, t4, t5, t6⟩ := t
  refine ⟨o, v, rd_cg t3 hr.1 hr.2 (fun i _ _ => s i (by omega)), lw_cg t4 (by rw [hl.1]) hl.2.1 (fun i _ _ => s i (by omega)), lw_cg t5 (by rw [hl.2.2.1]) hl.2.2.2 (fun i _ _ => s i (by omega)), ?_⟩
  unfold nms; rw [hl.1, hl.2.2.1]; exact t6
/-- one is on its way -/
def onw (ρ : Nat → Int32) (b : Nat) : Prop := ¬ atH ρ b ∧ dF ρ b ≠ 99
theorem hv_at {h b : Nat} {v : Int32} {μ : vM} {ρ : Nat → Int32} (hb : b < 8) (a : hv h μ ρ) : hv h (st μ (h + 4) b v) (upd ρ (22 + 5 * b) v) := hv_slot (o := 3) (by decide) hb a
/-- the second loop: they go -/
theorem pd_88 {h r n : Nat} {x3 : Int32} {μ : vM} {ρ : Nat → Int32} (hh : (h = 5 ∨ h = 39) ∧ (r = 2 ∨ r = 46)) (t : Tc h r μ ρ) (hn : n < 9) (e : ρ 2 = nI n) (hx : bz x3) (hp : ∀ b, b < n → (onw ρ b ∧ μ 49 b = sF ρ b) ∨ (¬ onw ρ b ∧ μ 49 b = 0)) {Q : Int32 → vM → Prop} (hQ : ∀ μ', hv h μ' (goF ρ) → (∀ i, i ≠ h → i ≠ h + 4 → μ' i = μ i) → Q x3 μ') : ∀ g i m, i + g = n → hv h m (mid ρ i) → (∀ j, j ≠ h + 4 → m j = μ j) → wp_X6_passDay_88 h r Q (g + 1) x3 (nI i) m
  | 0, i, m, hi, hv', hm => by
    have : i = n := by omega
    subst this
    unfold wp_X6_passDay_88
    rw [hm h (by omega), t.2.1.1, e, if_pos (nI_le (Nat.le_refl _) (by omega))]
    refine ⟨_, rfl, hx, hQ _ ?_ (fun j h1 h2 => by rw [st_ne h1]; exact hm j h2)⟩
    unfold goF
    rw [e, nI_clamp (by omega)]
    refine hv_of ?_ ?_ (fun b hb k hk => ?_) (fun f hf => ?_)
    · rw [st_eq, upd_ne (by decide), hv'.1, upd_ne (by decide)]
    · rw [st_eq, upd_eq, upd_eq, t.2.1.2.1]
    · rw [st_ne (by omega), hv_to hv' hb hk, upd_ne (by omega)]
    · rw [st_ne (by omega), hv'.2.2.2 f hf, upd_ne (by omega)]
  | g + 1, i, m, hi, hv', hm => by
    have ih := pd_88 hh t hn e hx hp hQ g (i + 1)
    have hi8 : i < 8 := by omega
    have w : vp_in (nI i) 8 := vp_in_nI hi8 (by decide)
    obtain ⟨f, p, q, hf, hp', hq, e1, e2, e3, e4, d⟩ := ok_b t.1 hi8
    have om := ok_mid t.1 i (by omega)
    have rm : rd r m ρ := ⟨fun p hp => by rw [hm _ (by omega)]; exact t.2.2.1.1 p hp, fun p hp q hq => by rw [hm _ (by omega)]; exact t.2.2.1.2 p hp q hq⟩
    unfold wp_X6_passDay_88
    rw [hm h (by omega), t.2.1.1, e, if_neg (nI_ge (by omega) (by omega)), sp_goalC om hv' hi8, nI_clamp (by omega), (hv'.2.2.1 i hi8).2.2.2.1, mid_at (Nat.le_refl _), gF_sm (sm0_mid (by omega)) t.1 hi8, e2, e3, hm 49 (by omega)]
    refine ⟨w, w, ?_⟩
    have dd : df ρ p q = dF ρ i := df_eq d
    have fin : ∀ k, k < 100 → μ 49 i = nI k → (k = 0 ∨ p = q ∨ df ρ p q ≠ 99) → nI (wl ρ q k p) = nw ρ i → wp_X3_walked r (nI p) (nI q) (μ 49 i) (fun r124 μ124 => vp_in (nI i) 8 ∧ ∃ μ127 : vM, μ127 = st μ124 (h + 4) i r124 ∧ ∃ x4_128 : Int32, x4_128 = (nI i) + (1 : Int32) ∧ wp_X6_passDay_88 h r Q (g + 1) x3 x4_128 μ127) m := by
      intro k hk ek hd en
      rw [ek]
      refine ⟨k + 1, sp_wlkC rm hq hk k 0 p (by omega) hp' hd ?_⟩
      refine ⟨w, _, rfl, _, rfl, ?_⟩
      rw [nI_1]
      refine ih _ (by omega) ?_ (fun j hj => by rw [st_ne hj]; exact hm j hj)
      simp only [mid]
      rw [← en]
      exact hv_at hi8 hv'
    have nwe : nw ρ i = if dF ρ i = 99 then nI p else nI (wl ρ q (sF ρ i).toNatClampNeg p) := by
      unfold nw; rw [e2, e3, nI_clamp (by omega), nI_clamp (by omega)]
    rcases hp i (by omega) with ⟨c, E⟩ | ⟨c, E⟩
    · obtain ⟨k, hk, ek⟩ := sF_3 ρ i
      refine fin k (by omega) (by rw [E, ek]) (Or.inr (Or.inr (by rw [dd]; exact c.2))) ?_
      rw [nwe, if_neg c.2, ek, nI_clamp (by omega)]
    · refine fin 0 (by omega) E (Or.inl rfl) ?_
      rw [nwe]
      by_cases c2 : dF ρ i = 99
      · rw [if_pos c2]; rfl
      · rw [if_neg c2]
        have : p = q := by
          refine Classical.byContradiction fun z => c ⟨fun z' => z ?_, c2⟩
          unfold atH at z'
          rw [e2, e3] at z'
          exact (nI_eq (by omega) (by omega)).mp z'
        rw [this, wl_q, wl_q]
theorem bz_or {x y : Int32} (hx : bz x) (hy : bz y) : bz (x ||| y) ∧ (x ||| y = 1 ↔ x = 1 ∨ y = 1) := by
  unfold bz
  rcases hx with rfl | rfl <;> rcases hy with rfl | rfl <;> decide
theorem pd_5 {h r n : Nat} {μ : vM} {ρ : Nat → Int32} (hh : (h = 5 ∨ h = 39) ∧ (r = 2 ∨ r = 46)) (t : Tc h r μ ρ) (hn : n < 9) (e : ρ 2 = nI n) {Q : Int32 → vM → Prop} (hQ : ∀ x μ', bz x → (x = 1 ↔ ∃ b, b < n ∧ onw ρ b) → hv h μ' (goF ρ) → (∀ i, i ≠ h → i ≠ h + 4 → i ≠ 49 → i ≠ 14 → μ' i = μ i) → Q x μ') : ∀ g i m x, i + g = n → bz x → (x = 1 ↔ ∃ b, b < i ∧ onw ρ b) → (∀ b, b < i → (onw ρ b ∧ m 49 b = sF ρ b) ∨ (¬ onw ρ b ∧ m 49 b = 0)) → (∀ j, j ≠ 49 → j ≠ 14 → m j = μ j) → wp_X6_passDay_5 h r Q (g + 1) x (nI i) m
  | 0, i, m, x, hi, hx, hx1, hp, hm => by
    have : i = n := by omega
    subst this
    have v' : hv h m ρ := hv_cg t.2.1 (fun k hk => hm _ (by omega) (by omega)) ⟨rfl, rfl, fun _ _ _ => rfl, fun _ _ _ => rfl⟩
    have tm : Tc h r m ρ := Tc_sm t t.1 v' sm0_rf ⟨hm _ (by omega) (by omega), hm _ (by omega) (by omega)⟩ ⟨hm _ (by omega) (by omega), hm _ (by omega) (by omega), hm _ (by omega) (by omega), hm _ (by omega) (by omega)⟩
    unfold wp_X6_passDay_5
    rw [hm h (by omega) (by omega), t.2.1.1, e, if_pos (nI_le (Nat.le_refl _) (by omega))]
    refine ⟨i + 1, pd_88 hh tm hn e hx hp (fun μ' d1 d2 => hQ x μ' hx hx1 d1 (fun j h1 h2 h3 h4 => by rw [d2 j h1 h2]; exact hm j h3 h4)) i 0 m (by omega) v' (fun _ _ => rfl)⟩
  | g + 1, i, m, x, hi, hx, hx1, hp, hm => by
    have ih := pd_5 hh t hn e hQ g (i + 1)
    have hi8 : i < 8 := by omega
    have w : vp_in (nI i) 8 := vp_in_nI hi8 (by decide)
    obtain ⟨f, p, q, hf, hp', hq, e1, e2, e3, e4, d⟩ := ok_b t.1 hi8
    have v' : hv h m ρ := hv_cg t.2.1 (fun k hk => hm _ (by omega) (by omega)) ⟨rfl, rfl, fun _ _ _ => rfl, fun _ _ _ => rfl⟩
    have tm : Tc h r m ρ := Tc_sm t t.1 v' sm0_rf ⟨hm _ (by omega) (by omega), hm _ (by omega) (by omega)⟩ ⟨hm _ (by omega) (by omega), hm _ (by omega) (by omega), hm _ (by omega) (by omega), hm _ (by omega) (by omega)⟩
    have D := Tc_d tm hi8 hp' hq e2 e3
    have put : ∀ (y v : Int32) (m' : vM), bz y → (y = 1 ↔ onw ρ i) → ((onw ρ i ∧ v = sF ρ i) ∨ (¬ onw ρ i ∧ v = 0)) → (∀ j, j ≠ 14 → m' j = m j) → wp_X6_passDay_5 h r Q (g + 1) (x ||| y) (nI (i + 1)) (st m' 49 i v) := by
      intro y v m' hy hy1 hv' hm'
      have B := bz_or hx hy
      refine ih _ _ (by omega) B.1 ⟨fun z => ?_, fun ⟨b, hb, ob⟩ => ?_⟩ (fun b hb => ?_) (fun j h1 h2 => by rw [st_ne h1, hm' j h2]; exact hm j h1 h2)
      · rcases B.2.mp z with z | z
        · obtain ⟨b, hb, ob⟩ := hx1.mp z; exact ⟨b, by omega, ob⟩
        · exact ⟨i, by omega, hy1.mp z⟩
      · refine B.2.mpr ?_
        by_cases eb : b = i
        · subst eb; exact Or.inr (hy1.mpr ob)
        · exact Or.inl (hx1.mpr ⟨b, by omega, ob⟩)
      · rw [st_eq]
        by_cases eb : b = i
        · subst eb; rw [upd_eq]; exact hv'
        · rw [upd_ne eb, hm' 49 (by decide)]; exact hp b (by omega)
    unfold wp_X6_passDay_5
    rw [hm h (by omega) (by omega), t.2.1.1, e, if_neg (nI_ge (by omega) (by omega)), sp_isHC t.1 v' hi8]
    unfold wp_X6_passDay_47 wp_X6_passDay_48 wp_X6_passDay_73
    simp only [w, true_and, exists_eq_left, nI_1, nI_clamp (show i < 2 ^ 31 by omega), sp_goalC t.1 v' hi8, (v'.2.2.1 i hi8).2.2.2.1, e2, e3, sp_leads hp' hq tm.2.2.1, D, if_true, if_neg (by decide : ¬ (1 : Int32) = 0)]
    by_cases c1 : atH ρ i
    · rw [if_pos c1]
      exact put 0 0 m bz0 ⟨fun z => absurd z (by decide), fun z => absurd c1 z.1⟩ (Or.inr ⟨fun z => z.1 c1, rfl⟩) (fun _ _ => rfl)
    · rw [if_neg c1]
      by_cases c2 : dF ρ i = 99
      · rw [if_pos c2]
        exact put 0 0 m bz0 ⟨fun z => absurd z (by decide), fun z => absurd c2 z.2⟩ (Or.inr ⟨fun z => z.2 c2, rfl⟩) (fun _ _ => rfl)
      · rw [if_neg c2]
        refine sp_stepC tm hi8 fun m' d' => ?_
        exact put 1 _ m' bz1 ⟨fun _ => ⟨c1, c2⟩, fun _ => rfl⟩ (Or.inl ⟨⟨c1, c2⟩, rfl⟩) d'
theorem sp_dayC {h r n : Nat} {μ : vM} {ρ : Nat → Int32} (hh : (h = 5 ∨ h = 39) ∧ (r = 2 ∨ r = 46)) (t : Tc h r μ ρ) (hn : n < 9) (e : ρ 2 = nI n) {Q : Int32 → vM → Prop} (hQ : ∀ x μ', bz x → (x = 1 ↔ ∃ b, b < n ∧ onw ρ b) → hv h μ' (goF ρ) → (∀ i, i ≠ h → i ≠ h + 4 → i ≠ 49 → i ≠ 14 → μ' i = μ i) → Q x μ') : wp_X6_passDay h r Q μ :=
  ⟨n + 1, pd_5 hh t hn e hQ n 0 μ 0 (by omega) bz0 ⟨fun z => absurd z (by decide), fun ⟨b, hb, _⟩ => absurd hb (by omega)⟩ (fun b hb => absurd hb (by omega)) (fun _ _ _ => rfl)⟩
/-- what going changes of the reference's memory -/
def gs (ν ν' : vM) : Prop := (∀ i, i ≠ 0 → i ≠ 1 → i ≠ 8 → i ≠ 11 → i ≠ 12 → i ≠ 13 → ν' i = ν i) ∧ (∀ k, k ≠ 9 → ν' 0 k = ν 0 k) ∧ kno ν'
theorem gs_tr {a b c : vM} (h : gs a b) (h' : gs b c) : gs a c := ⟨fun i h1 h2 h3 h4 h5 h6 => (h'.1 i h1 h2 h3 h4 h5 h6).trans (h.1 i h1 h2 h3 h4 h5 h6), fun k hk => (h'.2.1 k hk).trans (h.2.1 k hk), h'.2.2⟩
theorem gs_rs {a b : vM} (h : rs a b) : gs a b := ⟨fun i h1 h2 h3 h4 h5 h6 => h.1 i h1 h3 h4 h5, h.2.1, h.2.2⟩
theorem gs_rf {ν : vM} (h : kno ν) : gs ν ν := gs_rs (rs_rf h)
theorem gs_1 {ν : vM} {k : Nat} {v : Int32} (h : kno ν) (hk : k < 9 ∨ 19 ≤ k) : gs ν (st ν 1 k v) := by
  refine ⟨fun i h1 h2 h3 h4 h5 h6 => st_ne h2, fun k _ => by rw [st_ne (by decide)], kno_cg h (by rw [st_ne (by decide)]) (st_ne (by decide)) (fun i h1 h2 => ?_)⟩
  rw [st_eq, upd_ne (by omega)]
theorem sp_nextR {p q : Nat} {ν : vM} (hw : inw (ν 1)) (hk : kno ν) (hp : p < 10) (hq : q < 10) (hpq : p ≠ q) (hd : df (ν 1) p q ≠ 99) {Q : Int32 → vM → Prop} (hQ : ∀ ν', rs ν ν' → Q (nI (nx (ν 1) p q)) ν') : wp_X7_nextOf (nI p) (nI q) Q ν := by
  obtain ⟨⟨h1, h2, h3, h4⟩, -⟩ := nx_is hp hpq hd
  have i9 : (9 : Int32) + nI p = nI (9 + p) := nI_add 9 p
  have w : vp_in (nI (9 + p)) 385 := vp_in_nI (by omega) (by decide)
  have lp : ∀ g i m, i + g = nx (ν 1) p q → rs ν m → wp_X7_nextOf_2 (nI p) (nI q) Q (g + 1) (nI i) m := by
    intro g
    induction g with
    | zero =>
      intro i m hi hm
      have e : i = nx (ν 1) p q := by omega
      subst e
      unfold wp_X7_nextOf_2
      have h2' : bt (ν 1 (9 + p)) (nx (ν 1) p q) = true := h2
      rw [i9, nI_clamp (by omega), rs_1 hm, bt_tst (by omega), if_pos h2', if_neg (by decide)]
      refine ⟨w, ?_⟩
      refine sp_farBy h1 hq (by rw [rs_1 hm]; exact hw) hm.2.2 fun d1 m1 a1 a2 => ?_
      refine sp_farBy hp hq (by rw [rs_1 a2, rs_1 hm]; exact hw) a2.2.2 fun d2 m2 b1 b2 => ?_
      rw [rs_1 hm] at a1
      rw [rs_1 a2, rs_1 hm] at b1
      rw [← df_eq a1, ← df_eq b1, if_pos h3]
      exact hQ m2 (rs_tr hm (rs_tr a2 b2))
    | succ g ih =>
      intro i m hi hm
      unfold wp_X7_nextOf_2
      rw [i9, nI_clamp (by omega), rs_1 hm, bt_tst (by omega)]
      refine ⟨w, ?_⟩
      unfold wp_X7_nextOf_35
      simp only [exists_eq_left, nI_1]
      by_cases c : bt (ν 1 (9 + p)) i = true
      · rw [if_pos c, if_neg (by decide)]
        refine sp_farBy (show i < 10 by omega) hq (by rw [rs_1 hm]; exact hw) hm.2.2 fun d1 m1 a1 a2 => ?_
        refine sp_farBy hp hq (by rw [rs_1 a2, rs_1 hm]; exact hw) a2.2.2 fun d2 m2 b1 b2 => ?_
        rw [rs_1 hm] at a1
        rw [rs_1 a2, rs_1 hm] at b1
        rw [← df_eq a1, ← df_eq b1, if_neg (fun z => h4 i (by omega) ⟨c, z⟩)]
        exact ih (i + 1) m2 (by omega) (rs_tr hm (rs_tr a2 b2))
      · rw [if_neg c, if_pos rfl]; exact ih (i + 1) m (by omega) hm
  exact ⟨nx (ν 1) p q + 1, lp (nx (ν 1) p q) 0 ν (by omega) (rs_rf hk)⟩
theorem upd_id {f : Nat → Int32} {k : Nat} {v : Int32} (h : f k = v) : upd f k v = f := by
  funext i
  by_cases e : i = k
  · subst e; rw [upd_eq, h]
  · rw [upd_ne e]
theorem upd_upd {f : Nat → Int32} {k : Nat} {v w : Int32} : upd (upd f k v) k w = upd f k w := by
  funext i
  by_cases e : i = k
  · subst e; rw [upd_eq, upd_eq]
  · rw [upd_ne e, upd_ne e, upd_ne e]
theorem wl_cg {ρ ρ' : Nat → Int32} (h : ∀ i, 9 ≤ i → i < 19 → ρ' i = ρ i) {q : Nat} : ∀ k p, p < 10 → (k = 0 ∨ df ρ p q ≠ 99) → wl ρ' q k p = wl ρ q k p
  | 0, _, _, _ => rfl
  | k + 1, p, hp, hd => by
    have hd' : df ρ p q ≠ 99 := hd.resolve_left (by omega)
    simp only [wl]
    by_cases c : p = q
    · rw [if_pos c, if_pos c]
    · rw [if_neg c, if_neg c, nx_cg h hp c hd']
      exact wl_cg h k _ (nx_lt hp c hd') (Or.inr (nx_is hp c hd').2)
/-- the inner loop: one goes its steps -/
theorem go_57 {b s q : Nat} (hb : b < 8) (hs : s < 100) (hq : q < 10) {Q : vM → Prop} {k45 : Int32 → vM → Prop} {ρm : Nat → Int32} (om : ok ρm) (eq : gF ρm b = nI q) {ν : vM} : ∀ g i p m, i + g = s → p < 10 → (g = 0 ∨ df ρm p q ≠ 99) → m 1 = upd ρm (22 + 5 * b) (nI p) → m 13 b = nI s → gs ν m → m 13 = ν 13 → (∀ m', m' 1 = upd ρm (22 + 5 * b) (nI (wl ρm q g p)) → gs ν m' → m' 13 = ν 13 → k45 (nI (b + 1)) m') → wp_X7_goes_57 Q k45 (g + 1) (nI b) (nI i) m
  | 0, i, p, m, hi, hp, hd, h1, h13, hg, h13', hQ => by
    unfold wp_X7_goes_57 wp_X7_goes_102
    rw [nI_clamp (by omega), h13, if_pos (nI_le (by omega) (by omega)), nI_1]
    exact ⟨vp_in_nI hb (by decide), _, rfl, hQ m h1 hg h13'⟩
  | g + 1, i, p, m, hi, hp, hd, h1, h13, hg, h13', hQ => by
    have hd' : df ρm p q ≠ 99 := hd.resolve_left (by omega)
    have o1 : ok (m 1) := by rw [h1]; exact ok_at hb ⟨p, hp, rfl⟩ om
    have g1 : gF (m 1) b = nI q := by
      rw [h1, ← eq]
      exact gF_sm (fun i hi => upd_ne (by omega)) om hb
    have a1 : m 1 (22 + 5 * b) = nI p := by rw [h1, upd_eq]
    have way : ∀ i, 9 ≤ i → i < 19 → m 1 i = ρm i := fun i h2 h3 => by rw [h1, upd_ne (by omega)]
    unfold wp_X7_goes_57 wp_X7_goes_102
    rw [nI_clamp (by omega), h13, if_neg (nI_ge (by omega) (by omega)), nI_1, sp_isHR o1 hb]
    refine ⟨vp_in_nI hb (by decide), ?_⟩
    simp only [wl] at hQ
    by_cases c : p = q
    · have : atH (m 1) b := by unfold atH; rw [a1, g1, c]
      rw [if_pos this, if_neg (by decide)]
      rw [if_pos c] at hQ
      refine ⟨_, rfl, ?_⟩
      rw [nI_1]
      exact hQ m h1 hg h13'
    · have : ¬ atH (m 1) b := fun z => by unfold atH at z; rw [a1, g1] at z; exact c ((nI_eq (by omega) (by omega)).mp z)
      rw [if_neg this, if_pos rfl, sp_of3 hb, a1, sp_homR o1 hb, g1]
      refine sp_nextR o1.2.2.2.1 hg.2.2 hp hq c (by rw [df_cg way hp]; exact hd') fun m1 r1 => ?_
      rw [sp_lets3 hb, nx_cg way hp c hd']
      simp only [exists_eq_left, nI_1]
      have e1 := rs_1 r1
      refine go_57 (ν := ν) hb hs hq om eq g (i + 1) (nx ρm p q) _ (by omega) (nx_lt hp c hd') (Or.inr (nx_is hp c hd').2) ?_ ?_ ?_ ?_ ?_
      · rw [st_eq, e1, h1, upd_upd]
      · rw [st_ne (by decide), r1.1 13 (by decide) (by decide) (by decide) (by decide)]; exact h13
      · exact gs_tr (gs_tr hg (gs_rs r1)) (gs_1 r1.2.2 (by omega))
      · rw [st_ne (by decide), r1.1 13 (by decide) (by decide) (by decide) (by decide)]; exact h13'
      · rw [if_neg c] at hQ; exact hQ
theorem go_45 {n : Nat} {ρ : Nat → Int32} (o : ok ρ) (hn : n < 9) (e : ρ 2 = nI n) {ν : vM} (hp : ∀ b, b < n → ν 13 b = if dF ρ b = 99 then 0 else sF ρ b) {Q : vM → Prop} (hQ : ∀ ν', ν' 1 = goF ρ → gs ν ν' → Q ν') : ∀ g i m, i + g = n → m 1 = mid ρ i → gs ν m → m 13 = ν 13 → wp_X7_goes_45 Q (g + 1) (nI i) m
  | 0, i, m, hi, h1, hg, h13 => by
    have : i = n := by omega
    subst this
    unfold wp_X7_goes_45
    rw [t2_, t0_, h1, mid_lo (by omega) (by omega), e, if_pos (nI_le (Nat.le_refl _) (by omega)), mid_lo (by omega) (by omega)]
    refine ⟨v2_, v0_, v0_, _, rfl, hQ _ ?_ (gs_tr hg (gs_1 hg.2.2 (by omega)))⟩
    rw [st_eq, h1]; unfold goF; rw [e, nI_clamp (by omega)]
  | g + 1, i, m, hi, h1, hg, h13 => by
    have ih := go_45 o hn e hp hQ g (i + 1)
    have hi8 : i < 8 := by omega
    obtain ⟨f, p, q, hf, hp', hq, e1, e2, e3, e4, d⟩ := ok_b o hi8
    have om := ok_mid o i (by omega)
    unfold wp_X7_goes_45
    rw [t2_, h1, mid_lo (by omega) (by omega), e, if_neg (nI_ge (by omega) (by omega))]
    refine ⟨v2_, ?_⟩
    have way : ∀ j, 9 ≤ j → j < 19 → mid ρ i j = ρ j := fun j _ _ => mid_lo (by omega) (by omega)
    have dd : df (mid ρ i) p q = dF ρ i := by rw [df_cg way hp']; exact df_eq d
    have gq : gF (mid ρ i) i = nI q := by rw [gF_sm (sm0_mid (by omega)) o hi8, e3]
    have fin : ∀ k, k < 100 → m 13 i = nI k → (k = 0 ∨ df (mid ρ i) p q ≠ 99) → nI (wl (mid ρ i) q k p) = nw ρ i → wp_X7_goes_57 Q (fun x1 μ => wp_X7_goes_45 Q (g + 1) x1 μ) (k + 1) (nI i) 0 m := by
      intro k hk ek hd en
      refine go_57 (ν := ν) hi8 hk hq om gq k 0 p m (by omega) hp' hd ?_ ek hg h13 fun m' a1 a2 a3 => ?_
      · rw [h1]; exact (upd_id (by rw [mid_at (Nat.le_refl _), e2])).symm
      · refine ih m' (by omega) ?_ a2 a3
        rw [a1, en]; rfl
    have nwe : nw ρ i = if dF ρ i = 99 then nI p else nI (wl ρ q (sF ρ i).toNatClampNeg p) := by
      unfold nw; rw [e2, e3, nI_clamp (by omega), nI_clamp (by omega)]
    have P := hp i (by omega)
    rw [← h13] at P
    by_cases c : dF ρ i = 99
    · rw [if_pos c] at P
      refine ⟨0 + 1, fin 0 (by omega) P (Or.inl rfl) ?_⟩
      rw [nwe, if_pos c]; rfl
    · rw [if_neg c] at P
      obtain ⟨k, hk, ek⟩ := sF_3 ρ i
      refine ⟨k + 1, fin k (by omega) (by rw [P, ek]) (Or.inr (by rw [dd]; exact c)) ?_⟩
      rw [nwe, if_neg c, ek, nI_clamp (by omega), wl_cg way k p hp' (Or.inr (by rw [df_eq d]; exact c))]
theorem sp_goes {ν : vM} (t : Tr ν) {Q : vM → Prop} (hQ : ∀ ν', ν' 1 = goF (ν 1) → gs ν ν' → Q ν') : wp_X7_goes Q ν := by
  obtain ⟨n, hn, e⟩ := ok_n t.1
  have lp : ∀ g i m, i + g = n → m 1 = ν 1 → gs ν m → (∀ b, b < i → m 13 b = if dF (ν 1) b = 99 then 0 else sF (ν 1) b) → wp_X7_goes_2 Q (g + 1) (nI i) m := by
    intro g
    induction g with
    | zero =>
      intro i m hi h1 hg hp
      have : i = n := by omega
      subst this
      unfold wp_X7_goes_2
      rw [t2_, h1, e, if_pos (nI_le (Nat.le_refl _) (by omega))]
      exact ⟨v2_, i + 1, go_45 t.1 hn e hp (fun ν' a1 a2 => hQ ν' a1 (gs_tr hg a2)) i 0 m (by omega) h1 (gs_rf hg.2.2) rfl⟩
    | succ g ih =>
      intro i m hi h1 hg hp
      have hi8 : i < 8 := by omega
      have tm : Tr m := ⟨by rw [h1]; exact t.1, hg.2.2⟩
      unfold wp_X7_goes_2
      rw [t2_, h1, e, if_neg (nI_ge (by omega) (by omega))]
      refine ⟨v2_, sp_farR tm hi8 fun m1 r1 => ?_⟩
      have put : ∀ v m2, rs m m2 → v = (if dF (ν 1) i = 99 then 0 else sF (ν 1) i) → wp_X7_goes_36 Q (fun x1 μ => wp_X7_goes_2 Q (g + 1) x1 μ) (nI i) (nI i) v m2 := by
        intro v m2 r2 hv
        unfold wp_X7_goes_36
        rw [nI_clamp (by omega), nI_1]
        refine ⟨vp_in_nI hi8 (by decide), _, rfl, _, rfl, ih (i + 1) _ (by omega) ?_ ?_ (fun b hb => ?_)⟩
        · rw [st_ne (by decide), rs_1 r2, h1]
        · refine gs_tr (gs_tr hg (gs_rs r2)) ⟨fun j _ _ _ _ _ h6 => st_ne h6, fun k _ => by rw [st_ne (by decide)], kno_cg r2.2.2 (by rw [st_ne (by decide)]) (st_ne (by decide)) (fun _ _ _ => by rw [st_ne (by decide)])⟩
        · rw [st_eq]
          by_cases eb : b = i
          · subst eb; rw [upd_eq]; exact hv
          · rw [upd_ne eb, r2.1 13 (by decide) (by decide) (by decide) (by decide)]; exact hp b (by omega)
      rw [h1]
      by_cases c : dF (ν 1) i = 99
      · rw [if_pos c]; exact put 0 m1 r1 (by rw [if_pos c])
      · rw [if_neg c]
        refine sp_stepR (Tr_rs tm r1) hi8 fun m2 r2 => ?_
        rw [rs_1 r1, h1]
        exact put _ m2 (rs_tr r1 r2) (by rw [if_neg c])
  exact ⟨n + 1, lp n 0 ν (by omega) rfl (gs_rf t.2) (fun b hb => absurd hb (by omega))⟩
