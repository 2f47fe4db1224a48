/-! carry -/
theorem one_sh9 : ∀ k, k < 9 → (1 : Int32) <<< (nI k &&& 31) = nI (2 ^ k) := by decide +kernel
theorem nle_lt {a b : Int32} : ¬ a ≤ b ↔ b < a := by
  constructor
  · intro h
    exact Int32.lt_iff_toInt_lt.mpr (by have : ¬ a.toInt ≤ b.toInt := fun z => h (Int32.le_iff_toInt_le.mpr z); omega)
  · intro h z
    have := Int32.lt_iff_toInt_lt.mp h
    have := Int32.le_iff_toInt_le.mp z
    omega
theorem ca_C {n k A : Nat} {f v : Int32} {μ : vM} {ρ : Nat → Int32} (hn : n < 9) (e : ρ 2 = nI n) (hk : k < 1000) (t : Tc 5 2 μ ρ) (hA : A < 2 ^ n) (hE : ∀ s, s < 2 ^ n → (v ≤ val ρ f n k s ↔ v ≤ val ρ f n k (s &&& A))) (EA : v ≤ val ρ f n k A) {Q : Int32 → vM → Prop} (hQ : ∀ B m', sc μ m' → Best n (fun s => v ≤ val ρ f n k s) B → Q (nI B) m') : ∀ G few m, sc μ m → pc A + 1 ≤ few + G → (∀ s, s < A → s &&& A = s → pc s < few → ¬ v ≤ val ρ f n k s) → few < 100 → wp_X6_carry_68 f v (nI k) Q (G + 1) (nI A) (nI few) m := by
  have A256 := lt_256 hn hA
  have pA := pc_8 A A256
  intro G
  induction G with
  | zero =>
    intro few m sm hf hlow hf1
    unfold wp_X6_carry_68
    refine sp_bitC A256 ?_
    rw [if_pos (nI_le (by omega) (by omega))]
    exact hQ A m sm (best_all hn hA hE EA hlow (by omega))
  | succ G ih =>
    intro few m sm hf hlow hf1
    unfold wp_X6_carry_68
    refine sp_bitC A256 ?_
    by_cases c : pc A ≤ few
    · rw [if_pos (nI_le c (by omega))]
      exact hQ A m sm (best_all hn hA hE EA hlow c)
    · rw [if_neg (nI_ge (by omega) (by omega))]
      have inner : ∀ g i m, i + g = A → sc μ m → (∀ s, s < i → s &&& A = s → pc s = few → ¬ v ≤ val ρ f n k s) → wp_X6_carry_81 f v (nI k) Q (fun x4 x5 μ => wp_X6_carry_68 f v (nI k) Q (G + 1) x4 x5 μ) (g + 1) (nI A) (nI few) (nI i) m := by
        intro g
        induction g with
        | zero =>
          intro i m hi sm hin
          have : i = A := by omega
          subst this
          unfold wp_X6_carry_81
          rw [if_pos (nI_le (Nat.le_refl _) (by omega)), nI_1]
          refine ⟨_, rfl, ih (few + 1) m sm (by omega) (fun s h1 h2 h3 => ?_) (by omega)⟩
          by_cases c3 : pc s = few
          · exact hin s h1 h2 c3
          · exact hlow s h1 h2 (by omega)
        | succ g ih2 =>
          intro i m hi sm hin
          have i256 : i < 256 := by omega
          have next : ∀ m', sc μ m' → (i &&& A = i → pc i = few → ¬ v ≤ val ρ f n k i) → wp_X6_carry_81 f v (nI k) Q (fun x4 x5 μ => wp_X6_carry_68 f v (nI k) Q (G + 1) x4 x5 μ) (g + 1) (nI A) (nI few) (nI (i + 1)) m' := by
            intro m' s' hno
            refine ih2 (i + 1) m' (by omega) s' (fun s h1 h2 h3 => ?_)
            by_cases es : s = i
            · subst es; exact hno h2 h3
            · exact hin s (by omega) h2 h3
          unfold wp_X6_carry_81 wp_X6_carry_112 wp_X6_carry_113 wp_X6_carry_135
          rw [if_neg (nI_ge (by omega) (by omega))]
          simp only [sub_iff i256 A256, exists_eq_left, nI_1, if_true, if_neg (by decide : ¬ (1 : Int32) = 0)]
          by_cases c1 : i &&& A = i
          · rw [if_pos c1]
            refine sp_bitC i256 ?_
            have p8 := pc_8 i i256
            by_cases c2 : pc i = few
            · rw [if_pos (by rw [c2])]
              refine sp_getC hn e hk t sm fun m' s' => ?_
              by_cases c3 : v ≤ val ρ f n k i
              · rw [if_neg (fun z => (nle_lt.mpr z) c3)]
                exact hQ i m' s' (best_ret hn hA hE (by omega) c2 c3 hlow hin (by omega))
              · rw [if_pos (nle_lt.mp c3)]
                exact next m' s' (fun _ _ => c3)
            · rw [if_neg (fun z => c2 ((nI_eq (by omega) (by omega)).mp z))]
              exact next m sm (fun _ z => absurd z c2)
          · rw [if_neg c1]
            exact next m sm (fun z => absurd z c1)
      exact ⟨A + 1, inner A 0 m (by omega) sm (fun s hs => absurd hs (by omega))⟩
theorem ca_R {n k : Nat} {f v : Int32} {ν : vM} (hn : n < 9) (o : ok (ν 1)) (e : ν 1 2 = nI n) (hk : k < 1000) {Q : Int32 → vM → Prop} (hB : ∀ B m', TH ν m' → m' 1 = ν 1 → Best n (fun s => v ≤ val (ν 1) f n k s) B → Q (nI B) m') (hN : ∀ m', TH ν m' → m' 1 = ν 1 → (∀ s, s < 2 ^ n → ¬ v ≤ val (ν 1) f n k s) → Q (-1000000002) (st m' 4 2 (m' 4 2 + 1))) : ∀ g i x m, i + g = 2 ^ n → TH ν m → m 1 = ν 1 → ((x = -1 ∧ ∀ s, s < i → ¬ v ≤ val (ν 1) f n k s) ∨ (∃ B, x = nI B ∧ B < i ∧ v ≤ val (ν 1) f n k B ∧ ∀ s, s < i → v ≤ val (ν 1) f n k s → pc B < pc s ∨ (pc B = pc s ∧ B ≤ s))) → wp_X7_carry_45 f v (nI k) Q (g + 1) x (nI i) m := by
  have P : 2 ^ n ≤ 256 := Nat.pow_le_pow_right (by decide) (by omega : n ≤ 8)
  intro g
  induction g with
  | zero =>
    intro i x m hi th m1 hx
    have : i = 2 ^ n := by omega
    unfold wp_X7_carry_45
    rw [t2_, m1, e, one_sh9 n hn, if_pos (nI_le (by omega) (by omega)), e7_2]
    refine ⟨v2_, ?_⟩
    rcases hx with ⟨rfl, h⟩ | ⟨B, rfl, h1, h2, h3⟩
    · rw [if_neg (by decide)]
      exact hN m th m1 (fun s hs => h s (by omega))
    · rw [if_pos (nI_pos' (by omega))]
      exact hB B m th m1 ⟨by omega, h2, fun s hs => h3 s (by omega)⟩
  | succ g ih =>
    intro i x m hi th m1 hx
    have i256 : i < 256 := by omega
    unfold wp_X7_carry_45 wp_X7_carry_76 wp_X7_carry_81 wp_X7_carry_105 wp_X7_carry_107
    rw [t2_, m1, e, one_sh9 n hn, if_neg (nI_ge (by omega) (by omega))]
    refine ⟨v2_, ?_⟩
    simp only [exists_eq_left, nI_1, if_true, if_neg (by decide : ¬ (1 : Int32) = 0)]
    -- where one may be better
    have may : (∀ s, s < i → v ≤ val (ν 1) f n k s → pc i < pc s) → ((x = -1 ∧ ∀ s, s < i → ¬ v ≤ val (ν 1) f n k s) ∨ (∃ B, x = nI B ∧ B < i ∧ v ≤ val (ν 1) f n k B ∧ ∀ s, s < i → v ≤ val (ν 1) f n k s → pc B < pc s ∨ (pc B = pc s ∧ B ≤ s) ∧ True) ∧ (∀ B, x = nI B → B < i → pc i < pc B)) → True := fun _ _ => trivial
    have try_ : (∀ s, s < i → v ≤ val (ν 1) f n k s → pc i < pc s) → wp_X7_isEnough (nI i) f v (nI k) (fun r94 μ94 => if r94 = 0 then wp_X7_carry_45 f v (nI k) Q (g + 1) x (nI (i + 1)) μ94 else wp_X7_carry_45 f v (nI k) Q (g + 1) (nI i) (nI (i + 1)) μ94) m := by
      intro hlt
      refine sp_enR hn o e hk th m1 fun m' a1 a2 => ?_
      by_cases c : v ≤ val (ν 1) f n k i
      · rw [if_neg (fun z => (nle_lt.mpr z) c), if_neg (by decide)]
        refine ih (i + 1) (nI i) m' (by omega) a1 a2 (Or.inr ⟨i, rfl, by omega, c, fun s hs Es => ?_⟩)
        by_cases es : s = i
        · subst es; exact Or.inr ⟨rfl, Nat.le_refl _⟩
        · exact Or.inl (hlt s (by omega) Es)
      · rw [if_pos (nle_lt.mp c), if_pos rfl]
        refine ih (i + 1) x m' (by omega) a1 a2 ?_
        rcases hx with ⟨rfl, h⟩ | ⟨B, rfl, h1, h2, h3⟩
        · refine Or.inl ⟨rfl, fun s hs => ?_⟩
          by_cases es : s = i
          · subst es; exact c
          · exact h s (by omega)
        · refine Or.inr ⟨B, rfl, by omega, h2, fun s hs Es => ?_⟩
          by_cases es : s = i
          · subst es; exact absurd Es c
          · exact h3 s (by omega) Es
    rcases hx with ⟨rfl, h⟩ | ⟨B, rfl, h1, h2, h3⟩
    · rw [if_pos (by decide)]
      exact try_ (fun s hs Es => absurd Es (h s hs))
    · rw [if_neg (nI_pos (by omega))]
      have p8 := pc_8 i i256
      have p8' := pc_8 B (by omega)
      refine sp_bitR i256 (sp_bitR (by omega) ?_)
      by_cases c : pc B ≤ pc i
      · rw [if_pos (nI_le c (by omega))]
        refine ih (i + 1) _ m (by omega) th m1 (Or.inr ⟨B, rfl, by omega, h2, fun s hs Es => ?_⟩)
        by_cases es : s = i
        · subst es; omega
        · exact h3 s (by omega) Es
      · rw [if_neg (nI_ge (by omega) (by omega))]
        exact try_ (fun s hs Es => by have := h3 s hs Es; omega)
theorem sm_carry_ok : sm_carry Rl := by
  intro f v a μ ν h
  have r1 := rl_err (k := 1) (by decide) h
  obtain ⟨n, hn, e1, e2⟩ := rl_size h
  have o := inv_ok h.2.1
  have TC := rl_Tc h
  unfold wp_X6_carry wp_X7_carry
  simp only [sp_isField6, sp_isField7, e6_1, e7_1, e6_2, in7_999, in7_30, sp_hi2 (n := 999) (m := 30) (k := 999) (l := 30) (by decide) (by decide) rfl rfl]
  by_cases c1 : rg f 4
  · simp only [if_pos c1, if_neg (by decide : ¬ (1 : Int32) = 0)]
    by_cases c2 : rg v 1000
    · simp only [if_pos c2, if_neg (by decide : ¬ (1 : Int32) = 0)]
      by_cases c3 : rg a 31
      · obtain ⟨k, hk, rfl⟩ := rg_of c3
        simp only [if_pos c3, if_neg (by decide : ¬ (1 : Int32) = 0)]
        obtain ⟨A, hA, eA⟩ := awS_n (ν 1) f n (by omega)
        have bA : ∀ b, b < n → ν 1 (21 + 5 * b) = f → ¬ atH (ν 1) b → bt (nI A) b = true := fun b hb h1 h2 => by
          rw [← eA]; exact awS_bt (ν 1) f n (by omega) b hb h1 h2
        have hE : ∀ s, s < 2 ^ n → (v ≤ val (ν 1) f n k s ↔ v ≤ val (ν 1) f n k (s &&& A)) := by
          intro s hs
          have : val (ν 1) f n k (s &&& A) = val (ν 1) f n k s := val_fs o hn fun b hb h1 h2 => by
            rw [← nx_and, b_and, bA b hb h1 h2, Bool.and_true]
          rw [this]
        refine sp_awC o h.1.1 hn e2 ?_
        rw [eA]
        refine sp_getC hn e2 (by omega) TC sc_rf fun m s1 => ?_
        by_cases EA : v ≤ val (ν 1) f n k A
        · rw [if_pos EA]
          refine ⟨pc A + 1 + 1, ca_C hn e2 (by omega) TC hA hE EA (fun B m' s' hB => ?_) (pc A + 1) 0 m s1 (by omega) (fun s _ _ hs => absurd hs (by omega)) (by omega)⟩
          refine th_start h.2.2.1 fun w w1 w2 => ⟨2 ^ n + 1, ca_R hn o e2 (by omega) (fun B' m2 a1 a2 hB' => ⟨by rw [best_un hB hB'], rl_bk h s' a1 a2⟩) (fun m2 a1 a2 hno => absurd hB.2.1 (hno B hB.1)) (2 ^ n) 0 (-1) w (by omega) w1 w2 (Or.inl ⟨rfl, fun s hs => absurd hs (by omega)⟩)⟩
        · rw [if_neg EA]
          have none : ∀ s, s < 2 ^ n → ¬ v ≤ val (ν 1) f n k s := fun s hs z => EA (Int32.le_trans z (val_max o hn bA))
          refine th_start h.2.2.1 fun w w1 w2 => ⟨2 ^ n + 1, ca_R hn o e2 (by omega) (fun B' m2 a1 a2 hB' => absurd hB'.2.1 (none B' hB'.1)) (fun m2 a1 a2 hno => ⟨rfl, rl_err (by decide) (rl_bk h s1 a1 a2)⟩) (2 ^ n) 0 (-1) w (by omega) w1 w2 (Or.inl ⟨rfl, fun s hs => absurd hs (by omega)⟩)⟩
      · simp only [if_neg c3, if_true, true_and]; exact r1
    · simp only [if_neg c2, if_true, true_and]; exact r1
  · simp only [if_neg c1, if_true, true_and]; exact r1
