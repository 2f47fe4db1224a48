/-! carry: the two searches -/
theorem and_d2 (s A : Nat) : (s &&& A) / 2 = (s / 2) &&& (A / 2) := by
  apply Nat.eq_of_testBit_eq
  intro i
  rw [Nat.testBit_and, ← Nat.testBit_succ, ← Nat.testBit_succ, ← Nat.testBit_succ, Nat.testBit_and]
theorem and_m2 (s A : Nat) : (s &&& A) % 2 ≤ s % 2 ∧ (s &&& A) % 2 ≤ A % 2 := by
  have h := Nat.testBit_and s A 0
  simp only [Nat.testBit_zero] at h
  have h1 : (s &&& A) % 2 = 1 → s % 2 = 1 ∧ A % 2 = 1 := by
    intro z
    have : decide ((s &&& A) % 2 = 1) = true := decide_eq_true z
    rw [h, Bool.and_eq_true] at this
    exact ⟨of_decide_eq_true this.1, of_decide_eq_true this.2⟩
  omega
theorem pcN_and : ∀ g s A, pcN g (s &&& A) ≤ pcN g s ∧ pcN g (s &&& A) ≤ pcN g A
  | 0, _, _ => ⟨Nat.le_refl _, Nat.le_refl _⟩
  | g + 1, s, A => by
    have := pcN_and g (s / 2) (A / 2)
    have := and_m2 s A
    simp only [pcN]
    rw [and_d2]
    omega
theorem pcN_lt : ∀ g s A, A < 2 ^ g → (s &&& A) ≠ A → pcN g (s &&& A) < pcN g A
  | 0, s, A, h, hne => by
    have : A = 0 := by omega
    subst this
    exact absurd (Nat.and_zero s) hne
  | g + 1, s, A, h, hne => by
    have m := and_m2 s A
    have d := and_d2 s A
    have le := pcN_and g (s / 2) (A / 2)
    have hp : 2 ^ (g + 1) = 2 * 2 ^ g := by rw [Nat.pow_succ, Nat.mul_comm]
    simp only [pcN]
    by_cases c : (s / 2) &&& (A / 2) = A / 2
    · rw [d, c]
      rw [c] at d
      omega
    · have := pcN_lt g (s / 2) (A / 2) (by omega) c
      rw [d]
      omega
def Best (n : Nat) (E : Nat → Prop) (B : Nat) : Prop := B < 2 ^ n ∧ E B ∧ ∀ s, s < 2 ^ n → E s → pc B < pc s ∨ (pc B = pc s ∧ B ≤ s)
theorem best_un {n : Nat} {E : Nat → Prop} {B B' : Nat} (h : Best n E B) (h' : Best n E B') : B = B' := by
  have a := h.2.2 B' h'.1 h'.2.1
  have b := h'.2.2 B h.1 h.2.1
  omega
theorem lt_256 {n s : Nat} (hn : n < 9) (h : s < 2 ^ n) : s < 256 := Nat.lt_of_lt_of_le h (Nat.pow_le_pow_right (by decide) (by omega : n ≤ 8))
theorem best_ret {E : Nat → Prop} {n A few i : Nat} (hn : n < 9) (hA : A < 2 ^ n) (hE : ∀ s, s < 2 ^ n → (E s ↔ E (s &&& A))) (hi : i < A) (hp : pc i = few) (Ei : E i) (hlow : ∀ s, s < A → s &&& A = s → pc s < few → ¬ E s) (hin : ∀ s, s < i → s &&& A = s → pc s = few → ¬ E s) (hfew : few < pc A) : Best n E i := by
  refine ⟨by omega, Ei, fun s hs Es => ?_⟩
  have Es' := (hE s hs).mp Es
  have p := (pcN_and 8 s A).1
  have l : s &&& A ≤ s := Nat.and_le_left
  have lA : s &&& A ≤ A := Nat.and_le_right
  have idem : (s &&& A) &&& A = s &&& A := by rw [Nat.and_assoc, Nat.and_self]
  by_cases c : s &&& A = A
  · rw [c] at p
    have : pc A ≤ pc s := p
    omega
  · have h1 : ¬ pc (s &&& A) < few := fun z => hlow _ (by omega) idem z Es'
    have h2 : pc (s &&& A) = few → ¬ (s &&& A) < i := fun z z' => hin _ z' idem z Es'
    have p' : pc (s &&& A) ≤ pc s := p
    by_cases c2 : pc (s &&& A) = few
    · have := h2 c2; omega
    · omega
theorem best_all {E : Nat → Prop} {n A few : Nat} (hn : n < 9) (hA : A < 2 ^ n) (hE : ∀ s, s < 2 ^ n → (E s ↔ E (s &&& A))) (EA : E A) (hlow : ∀ s, s < A → s &&& A = s → pc s < few → ¬ E s) (hfew : pc A ≤ few) : Best n E A := by
  refine ⟨hA, EA, fun s hs Es => ?_⟩
  have Es' := (hE s hs).mp Es
  have p : pc (s &&& A) ≤ pc s := (pcN_and 8 s A).1
  have l : s &&& A ≤ s := Nat.and_le_left
  have lA : s &&& A ≤ A := Nat.and_le_right
  have idem : (s &&& A) &&& A = s &&& A := by rw [Nat.and_assoc, Nat.and_self]
  by_cases c : s &&& A = A
  · rw [c] at p l; omega
  · have : pc (s &&& A) < pc A := pcN_lt 8 s A (lt_256 hn hA) c
    exact absurd Es' (hlow _ (by omega) idem (by omega))
theorem sub_iff {s A : Nat} (hs : s < 256) (hA : A < 256) : (nI s &&& (nI A ^^^ (-1 : Int32))) = 0 ↔ s &&& A = s := by
  have e : (nI s &&& (nI A ^^^ (-1 : Int32))) = 0 ↔ nI s &&& nI A = nI s := by
    constructor
    · intro h
      refine b_ext fun i hi => ?_
      have := congrArg (fun x => bt x i) h
      simp only [b_and, b_xor, b_m1 i hi, b_0] at this
      rw [b_and]
      cases h1 : bt (nI s) i <;> cases h2 : bt (nI A) i <;> simp_all
    · intro h
      refine b_ext fun i hi => ?_
      have := congrArg (fun x => bt x i) h
      simp only [b_and] at this
      rw [b_and, b_xor, b_m1 i hi, b_0]
      cases h1 : bt (nI s) i <;> cases h2 : bt (nI A) i <;> simp_all
  rw [e, nx_and]
  have : s &&& A ≤ s := Nat.and_le_left
  exact nI_eq (by omega) (by omega)
-- those of a field that are away
noncomputable def awS (ρ : Nat → Int32) (f : Int32) : Nat → Int32
  | 0 => 0
  | k + 1 => if ρ (21 + 5 * k) = f ∧ ¬ atH ρ k then awS ρ f k ||| ((1 : Int32) <<< (nI k &&& 31)) else awS ρ f k
theorem awS_n (ρ : Nat → Int32) (f : Int32) : ∀ k, k ≤ 8 → ∃ s, s < 2 ^ k ∧ awS ρ f k = nI s
  | 0, _ => ⟨0, by decide, rfl⟩
  | k + 1, h => by
    obtain ⟨s, hs, e⟩ := awS_n ρ f k (by omega)
    have hp : 2 ^ (k + 1) = 2 * 2 ^ k := by rw [Nat.pow_succ, Nat.mul_comm]
    simp only [awS]
    split
    · rw [e, one_sh k (by omega), nx_or]
      exact ⟨_, Nat.or_lt_two_pow (by omega) (by omega), rfl⟩
    · rw [e]; exact ⟨s, by omega, rfl⟩
theorem awS_bt (ρ : Nat → Int32) (f : Int32) : ∀ k, k ≤ 8 → ∀ b, b < k → ρ (21 + 5 * b) = f → ¬ atH ρ b → bt (awS ρ f k) b = true
  | 0, _, b, hb, _, _ => absurd hb (by omega)
  | k + 1, h, b, hb, h1, h2 => by
    simp only [awS]
    by_cases c : b = k
    · subst c
      rw [if_pos ⟨h1, h2⟩, bt_set (by omega) (by omega)]; simp
    · have := awS_bt ρ f k (by omega) b (by omega) h1 h2
      split
      · rw [bt_set (by omega) (by omega), this]; rfl
      · exact this
theorem sp_awC {h n : Nat} {f : Int32} {μ : vM} {ρ : Nat → Int32} (o : ok ρ) (v : hv h μ ρ) (hn : n < 9) (e : ρ 2 = nI n) {Q : Int32 → vM → Prop} (hQ : Q (awS ρ f n) μ) : wp_X0_awaySet h f Q μ := by
  have lp : ∀ g i, i + g = n → wp_X0_awaySet_4 h f Q (g + 1) (awS ρ f i) (nI i) μ := by
    intro g
    induction g with
    | zero =>
      intro i hi
      have : i = n := by omega
      subst this
      unfold wp_X0_awaySet_4
      rw [v.1, e, if_pos (nI_le (Nat.le_refl _) (by omega))]
      exact hQ
    | succ g ih =>
      intro i hi
      have := ih (i + 1) (by omega)
      simp only [awS] at this
      unfold wp_X0_awaySet_4 wp_X0_awaySet_36
      rw [v.1, e, if_neg (nI_ge (by omega) (by omega)), sp_isHC o v (show i < 8 by omega), nI_clamp (by omega), (v.2.2.1 i (by omega)).2.2.1]
      simp only [exists_eq_left, nI_1]
      refine ⟨vp_in_nI (by omega) (by decide), ?_⟩
      by_cases c1 : ρ (21 + 5 * i) = f
      · rw [if_pos c1]
        by_cases c : atH ρ i
        · rw [if_neg (fun z => z.2 c)] at this; rw [if_pos c, if_neg (by decide)]; exact this
        · rw [if_pos ⟨c1, c⟩] at this; rw [if_neg c]; simp only [if_true]; exact this
      · rw [if_neg (fun z => c1 z.1)] at this; rw [if_neg c1]; exact this
  exact ⟨n + 1, lp n 0 (by omega)⟩
theorem Tc_sc {μ m : vM} {ρ : Nat → Int32} (t : Tc 5 2 μ ρ) (s' : sc μ m) : Tc 5 2 m ρ :=
  Tc_2 t t.1 (hv_cg t.2.1 (fun i hi => s' _ (by omega) (by omega) (by omega)) ⟨rfl, rfl, fun _ _ _ => rfl, fun _ _ _ => rfl⟩) (fun _ _ => rfl) ⟨s' _ (by omega) (by omega) (by omega), s' _ (by omega) (by omega) (by omega)⟩ ⟨s' _ (by omega) (by omega) (by omega), s' _ (by omega) (by omega) (by omega), s' _ (by omega) (by omega) (by omega), s' _ (by omega) (by omega) (by omega)⟩
theorem bt_one {s i : Nat} (hi : i < 31) : (((nI s) >>> (nI i &&& 31)) &&& (1 : Int32)) = (1 : Int32) ↔ bt (nI s) i = true := by
  rw [bt_tst hi]
  by_cases c : bt (nI s) i = true
  · rw [if_pos c]; exact ⟨fun _ => c, fun _ => rfl⟩
  · rw [if_neg c]; exact ⟨fun z => absurd z (by decide), fun z => absurd z c⟩
theorem sp_getC {n k s : Nat} {f : Int32} {μ m : vM} {ρ : Nat → Int32} (hn : n < 9) (e : ρ 2 = nI n) (hk : k < 1000) (t : Tc 5 2 μ ρ) (sm : sc μ m) {Q : Int32 → vM → Prop} (hQ : ∀ m', sc μ m' → Q (val ρ f n k s) m') : wp_X6_getsWith f (nI s) (nI k) Q m := by
  unfold wp_X6_getsWith
  have tm := Tc_sc t sm
  refine sp_copy0 (by omega) fun m1 a1 a2 => ?_
  have t1 := Tc_39 tm a1 a2
  have s1 : sc μ m1 := fun i h1 h2 h3 => by rw [a2 i (by omega)]; exact sm i h1 h2 h3
  have lp : ∀ g i m2, i + g = n → Tc 39 2 m2 (put s ρ i) → sc μ m2 → wp_X6_getsWith_17 f (nI s) (nI k) Q (g + 1) (nI i) m2 := by
    intro g
    induction g with
    | zero =>
      intro i m2 hi t2 s2
      have : i = n := by omega
      subst this
      have en : put s ρ i 2 = nI i := by rw [put_ne i (fun a ha => by omega)]; exact e
      unfold wp_X6_getsWith_17
      rw [t2.2.1.1, en, if_pos (nI_le (Nat.le_refl _) (by omega))]
      refine sp_pdC ⟨Or.inr rfl, Or.inl rfl⟩ t2 hk fun m3 d1 d2 d3 => ?_
      refine sp_gotC ⟨Or.inr rfl, Or.inl rfl⟩ d3 hn (by rw [it_sm k t2.1 2 (by omega)]; exact en) fun m4 d4 => ?_
      exact hQ m4 (sc_tr (sc_day s2 d2) (fun j _ h1 _ => d4 j h1))
    | succ g ih =>
      intro i m2 hi t2 s2
      have hi8 : i < 8 := by omega
      have en : put s ρ i 2 = nI n := by rw [put_ne i (fun a ha => by omega)]; exact e
      have ga : gF (put s ρ i) i = gF ρ i := gF_sm (put_sm (by omega)) t.1 hi8
      have oi := ok_put (s := s) t.1 (i + 1) (by omega)
      unfold wp_X6_getsWith_17 wp_X6_getsWith_58
      rw [t2.2.1.1, en, if_neg (nI_ge (by omega) (by omega)), sp_goalC t2.1 t2.2.1 hi8, ga]
      simp only [bt_one (show i < 31 by omega), exists_eq_left, nI_1, nI_clamp (show i < 2 ^ 31 by omega)]
      by_cases c : bt (nI s) i = true
      · rw [if_pos c]
        refine ⟨vp_in_nI hi8 (by decide), ih (i + 1) _ (by omega) ?_ (fun j h1 h2 h3 => by rw [st_ne (by omega)]; exact s2 j h1 h2 h3)⟩
        have v' : hv 39 (st m2 43 i (gF ρ i)) (put s ρ (i + 1)) := by
          simp only [put]; rw [if_pos c]; exact hv_at (h := 39) hi8 t2.2.1
        exact Tc_2 t2 oi v' (fun j hj => by rw [put_ne (i + 1) (fun a ha => by omega), put_ne i (fun a ha => by omega)]) ⟨st_ne (by decide), st_ne (by decide)⟩ ⟨st_ne (by decide), st_ne (by decide), st_ne (by decide), st_ne (by decide)⟩
      · rw [if_neg c]
        refine ih (i + 1) m2 (by omega) ?_ s2
        have : put s ρ (i + 1) = put s ρ i := by
          simp only [put]; rw [if_neg c]
          exact upd_id (put_ne i (fun a ha => by omega))
        rw [this]; exact t2
  exact ⟨n + 1, lp n 0 m1 (by omega) t1 s1⟩
theorem sp_enR {n k s : Nat} {f v : Int32} {ν m : vM} (hn : n < 9) (o : ok (ν 1)) (e : ν 1 2 = nI n) (hk : k < 1000) (th : TH ν m) (m1 : m 1 = ν 1) {Q : Int32 → vM → Prop} (hQ : ∀ m', TH ν m' → m' 1 = ν 1 → Q (if val (ν 1) f n k s < v then 0 else 1) m') : wp_X7_isEnough (nI s) f v (nI k) Q m := by
  have lp : ∀ g i m2, i + g = n → m2 1 = put s (ν 1) i → TH ν m2 → wp_X7_isEnough_3 (nI s) f v (nI k) Q (g + 1) (nI i) m2 := by
    intro g
    induction g with
    | zero =>
      intro i m2 hi r2 t2
      have : i = n := by omega
      subst this
      have en : put s (ν 1) i 2 = nI i := by rw [put_ne i (fun a ha => by omega)]; exact e
      have oi := ok_put (s := s) o i (by omega)
      unfold wp_X7_isEnough_3 wp_X7_isEnough_73
      rw [t2_, r2, en, if_pos (nI_le (Nat.le_refl _) (by omega))]
      refine ⟨v2_, sp_gofor ⟨by rw [r2]; exact oi, t2.2.2.1⟩ hk fun m3 b1 b2 => ?_⟩
      rw [r2] at b1
      have ok3 : ok (m3 1) := by rw [b1]; exact it_ok k oi
      refine sp_gotR ⟨ok3, b2.2.2⟩ hn (by rw [b1, it_sm k oi 2 (by omega)]; exact en) fun m4 d => ?_
      rw [b1]
      have same : ∀ j, (9 ≤ j ∧ j < 19) ∨ 385 ≤ j → m4 1 j = ν 1 j := fun j hj => by
        rw [rs_1 d, b1, it_sm k oi j (by omega), put_ne i (fun a ha => by omega)]
      refine th_back (th_gs (th_gs t2 b2) (gs_rs d)) (fun j h1 h2 => same j (by omega)) (fun j hj => same j (by omega)) fun m5 c1 c2 => ⟨?_, ?_⟩
      · split <;> first | exact bz0 | exact bz1
      · exact hQ m5 c1 c2
    | succ g ih =>
      intro i m2 hi r2 t2
      have hi8 : i < 8 := by omega
      have en : put s (ν 1) i 2 = nI n := by rw [put_ne i (fun a ha => by omega)]; exact e
      have oi := ok_put (s := s) o i (by omega)
      have ga : gF (m2 1) i = gF (ν 1) i := by rw [r2]; exact gF_sm (put_sm (by omega)) o hi8
      unfold wp_X7_isEnough_3 wp_X7_isEnough_44
      rw [t2_, r2, en, if_neg (nI_ge (by omega) (by omega)), sp_homR (by rw [r2]; exact oi) hi8, ga, sp_of3 hi8]
      simp only [bt_one (show i < 31 by omega), exists_eq_left, nI_1, sp_lets3 hi8]
      refine ⟨v2_, ?_⟩
      have go : ∀ x, x = (if bt (nI s) i = true then gF (ν 1) i else ν 1 (22 + 5 * i)) → wp_X7_isEnough_3 (nI s) f v (nI k) Q (g + 1) (nI (i + 1)) (st m2 1 (22 + 5 * i) x) := by
        intro x hx
        refine ih (i + 1) _ (by omega) ?_ (th_gs t2 (gs_1 t2.2.2.1 (by omega)))
        rw [st_eq, r2, hx]; rfl
      by_cases c : bt (nI s) i = true
      · rw [if_pos c]; exact go _ (by rw [if_pos c])
      · rw [if_neg c]; exact go _ (by rw [if_neg c, r2, put_ne i (fun a ha => by omega)])
  exact ⟨n + 1, lp n 0 m (by omega) m1 th⟩
