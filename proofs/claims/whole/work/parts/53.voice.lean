/-! voice -/
def wr (f : Nat → Int32) : List Int32 → Nat → Int32
  | [] => f
  | b :: L => if L.length < 30 then upd (wr f L) L.length b else wr f L
def cm (μ : vM) (L : List Int32) (p : Int32) : vM := fun j => if j = 0 then upd (upd (μ 0) 10 (nI (min 30 L.length))) 11 p else if j = 58 then wr (μ 58) L else μ j
def rm (ν : vM) (L : List Int32) (p : Int32) : vM := fun j => if j = 0 then upd (upd (ν 0) 21 (nI (min 30 L.length))) 22 p else if j = 14 then wr (ν 14) L else ν j
theorem cm_o {μ : vM} {L : List Int32} {p : Int32} {j : Nat} (h : j ≠ 0) (h' : j ≠ 58) : cm μ L p j = μ j := by unfold cm; rw [if_neg h, if_neg h']
theorem rm_o {μ : vM} {L : List Int32} {p : Int32} {j : Nat} (h : j ≠ 0) (h' : j ≠ 14) : rm μ L p j = μ j := by unfold rm; rw [if_neg h, if_neg h']
theorem cm_0 {μ : vM} {L : List Int32} {p : Int32} : cm μ L p 0 = upd (upd (μ 0) 10 (nI (min 30 L.length))) 11 p := by unfold cm; rw [if_pos rfl]
theorem rm_0 {μ : vM} {L : List Int32} {p : Int32} : rm μ L p 0 = upd (upd (μ 0) 21 (nI (min 30 L.length))) 22 p := by unfold rm; rw [if_pos rfl]
theorem cm_c {μ : vM} {L : List Int32} {p : Int32} : cm μ L p 0 10 = nI (min 30 L.length) := by rw [cm_0, upd_ne (by decide), upd_eq]
theorem rm_c {μ : vM} {L : List Int32} {p : Int32} : rm μ L p 0 21 = nI (min 30 L.length) := by rw [rm_0, upd_ne (by decide), upd_eq]
theorem cm_p {μ : vM} {L : List Int32} {p : Int32} : cm μ L p 0 11 = p := by rw [cm_0, upd_eq]
theorem rm_p {μ : vM} {L : List Int32} {p : Int32} : rm μ L p 0 22 = p := by rw [rm_0, upd_eq]
theorem cm_58 {μ : vM} {L : List Int32} {p : Int32} : cm μ L p 58 = wr (μ 58) L := by unfold cm; rw [if_neg (by decide), if_pos rfl]
theorem rm_14 {μ : vM} {L : List Int32} {p : Int32} : rm μ L p 14 = wr (μ 14) L := by unfold rm; rw [if_neg (by decide), if_pos rfl]
theorem cm_full {μ : vM} {L : List Int32} {p b : Int32} (h : 30 ≤ L.length) : cm μ (b :: L) p = cm μ L p := by
  unfold cm
  have e : min 30 (b :: L).length = min 30 L.length := by rw [List.length_cons]; omega
  funext j
  rw [e]
  simp only [wr]
  rw [if_neg (show ¬ L.length < 30 by omega)]
theorem rm_full {μ : vM} {L : List Int32} {p b : Int32} (h : 30 ≤ L.length) : rm μ (b :: L) p = rm μ L p := by
  unfold rm
  have e : min 30 (b :: L).length = min 30 L.length := by rw [List.length_cons]; omega
  funext j
  rw [e]
  simp only [wr]
  rw [if_neg (show ¬ L.length < 30 by omega)]
theorem cm_beg {μ : vM} {L : List Int32} {p b : Int32} (h : L.length < 30) : st (st (cm μ L p) 0 10 (nI L.length + 1)) 58 L.length b = cm μ (b :: L) p := by
  funext j
  have e : min 30 (b :: L).length = L.length + 1 := by rw [List.length_cons]; omega
  by_cases h0 : j = 0
  · subst h0
    rw [st_ne (by decide), st_eq, cm_0, cm_0, e, nI_1]
    funext k
    unfold upd
    repeat' split
    all_goals first | (exfalso; omega) | rfl
  · by_cases h1 : j = 58
    · subst h1
      rw [st_eq, st_ne (by decide), cm_58, cm_58]
      simp only [wr]
      rw [if_pos h]
    · rw [st_ne h1, st_ne h0, cm_o h0 h1, cm_o h0 h1]
theorem rm_beg {μ : vM} {L : List Int32} {p b : Int32} (h : L.length < 30) : st (st (rm μ L p) 14 L.length b) 0 21 (nI L.length + 1) = rm μ (b :: L) p := by
  funext j
  have e : min 30 (b :: L).length = L.length + 1 := by rw [List.length_cons]; omega
  by_cases h0 : j = 0
  · subst h0
    rw [st_eq, st_ne (by decide), rm_0, rm_0, e, nI_1]
    funext k
    unfold upd
    repeat' split
    all_goals first | (exfalso; omega) | rfl
  · by_cases h1 : j = 14
    · subst h1
      rw [st_ne (by decide), st_eq, rm_14, rm_14]
      simp only [wr]
      rw [if_pos h]
    · rw [st_ne h0, st_ne h1, rm_o h0 h1, rm_o h0 h1]
-- what is said, and by which bodies
def w0 (t x : Int32) (L : List Int32) : Int32 × List Int32 := (x + t, 10 :: L)
def w1 (t x : Int32) (L : List Int32) : Int32 × List Int32 := ((w0 t x (20 :: L)).1 - 4, (w0 t x (20 :: L)).2)
def wK (K t x : Int32) (L : List Int32) : Int32 × List Int32 := if K = 1 then w1 t x L else if K = 4 then ((w1 t x (50 :: L)).1 * 3, (w1 t x (50 :: L)).2) else if K = 6 then (9, 70 :: L) else w0 t x L
def m0 (K t x : Int32) (L : List Int32) : Int32 × List Int32 := ((wK K t x (11 :: L)).1 * 2, (wK K t x (11 :: L)).2)
def m2 (K t x : Int32) (L : List Int32) : Int32 × List Int32 := (-(m0 K t x (30 :: L)).1, (m0 K t x (30 :: L)).2)
def mK (K M t x : Int32) (L : List Int32) : Int32 × List Int32 := if K = 2 then m2 K t x L else if K = 5 then m2 K t (x + 1) (60 :: L) else if K = 6 then ((m0 K t x (71 :: L)).1 + M, (m0 K t x (71 :: L)).2) else m0 K t x L
def s0 (K M t x : Int32) (L : List Int32) : Int32 × List Int32 := ((mK K M t x (12 :: L)).1 - M, (mK K M t x (12 :: L)).2)
def sK (K M t x : Int32) (L : List Int32) : Int32 × List Int32 := if K = 3 then s0 K M t (x / 2) (40 :: L) else if K = 4 then ((s0 K M t x (51 :: L)).1 ^^^ t, (s0 K M t x (51 :: L)).2) else s0 K M t x L
-- the reference
theorem bg_R {b : Int32} {ν : vM} {L : List Int32} {p : Int32} {Q : vM → Prop} (h : Q (rm ν (b :: L) p)) : wp_X7_begins b Q (rm ν L p) := by
  unfold wp_X7_begins
  rw [rm_c]
  by_cases c : 30 ≤ L.length
  · rw [if_pos (show (30 : Int32) ≤ nI (min 30 L.length) from nI_le (a := 30) (by omega) (by omega))]
    rw [rm_full c] at h; exact h
  · rw [if_neg (show ¬ (30 : Int32) ≤ nI (min 30 L.length) from nI_ge (b := 30) (by omega) (by decide))]
    have e : min 30 L.length = L.length := by omega
    rw [e, nI_clamp (by omega)]
    refine ⟨vp_in_nI (by omega) (by decide), _, rfl, _, rfl, ?_⟩
    have e2 : st (rm ν L p) 14 L.length b 0 21 = nI L.length := by rw [st_ne (by decide), rm_c, e]
    rw [e2, rm_beg (by omega)]
    exact h
theorem w0_R {t x : Int32} {ν : vM} {L : List Int32} {p : Int32} {Q : Int32 → vM → Prop} (h : Q (w0 t x L).1 (rm ν (w0 t x L).2 p)) : wp_X7_plainWalks t x Q (rm ν L p) := bg_R h
theorem w1_R {t x : Int32} {ν : vM} {L : List Int32} {p : Int32} {Q : Int32 → vM → Prop} (h : Q (w1 t x L).1 (rm ν (w1 t x L).2 p)) : wp_X7_crustWalks t x Q (rm ν L p) := bg_R (w0_R h)
theorem of0_rm {b : Nat} (hb : b < 8) {ν : vM} {L : List Int32} {p : Int32} {Q : Int32 → vM → Prop} : wp_X7_of (nI b) 0 Q (rm ν L p) = Q (ν 1 (19 + 5 * b)) (rm ν L p) := by rw [sp_of0 hb, rm_o (by decide) (by decide)]
theorem of1_rm {b : Nat} (hb : b < 8) {ν : vM} {L : List Int32} {p : Int32} {Q : Int32 → vM → Prop} : wp_X7_of (nI b) 1 Q (rm ν L p) = Q (ν 1 (20 + 5 * b)) (rm ν L p) := by rw [sp_of1 hb, rm_o (by decide) (by decide)]
theorem wK_R {b : Nat} (hb : b < 8) {x : Int32} {ν : vM} {L : List Int32} {p K : Int32} (eK : ν 1 (19 + 5 * b) = K) {Q : Int32 → vM → Prop} (h : Q (wK K (nI b) x L).1 (rm ν (wK K (nI b) x L).2 p)) : wp_X7_walks (nI b) x Q (rm ν L p) := by
  unfold wp_X7_walks
  rw [of0_rm hb, eK]
  unfold wK at h
  by_cases c1 : K = 1
  · rw [if_pos c1] at h ⊢; exact w1_R h
  · rw [if_neg c1] at h ⊢
    by_cases c2 : K = 4
    · rw [if_pos c2] at h ⊢; exact bg_R (w1_R h)
    · rw [if_neg c2] at h ⊢
      by_cases c3 : K = 6
      · rw [if_pos c3] at h ⊢; exact bg_R h
      · rw [if_neg c3] at h ⊢; exact w0_R h
theorem m0_R {b : Nat} (hb : b < 8) {x : Int32} {ν : vM} {L : List Int32} {p K : Int32} (eK : ν 1 (19 + 5 * b) = K) {Q : Int32 → vM → Prop} (h : Q (m0 K (nI b) x L).1 (rm ν (m0 K (nI b) x L).2 p)) : wp_X7_plainWarms (nI b) x Q (rm ν L p) := bg_R (wK_R hb eK h)
theorem m2_R {b : Nat} (hb : b < 8) {x : Int32} {ν : vM} {L : List Int32} {p K : Int32} (eK : ν 1 (19 + 5 * b) = K) {Q : Int32 → vM → Prop} (h : Q (m2 K (nI b) x L).1 (rm ν (m2 K (nI b) x L).2 p)) : wp_X7_officeWarms (nI b) x Q (rm ν L p) := bg_R (m0_R hb eK h)
theorem mK_R {b : Nat} (hb : b < 8) {x : Int32} {ν : vM} {L : List Int32} {p K M : Int32} (eK : ν 1 (19 + 5 * b) = K) (eM : ν 1 (20 + 5 * b) = M) {Q : Int32 → vM → Prop} (h : Q (mK K M (nI b) x L).1 (rm ν (mK K M (nI b) x L).2 p)) : wp_X7_warms (nI b) x Q (rm ν L p) := by
  unfold wp_X7_warms
  rw [of0_rm hb, eK]
  unfold mK at h
  by_cases c1 : K = 2
  · rw [if_pos c1] at h ⊢; exact m2_R hb eK h
  · rw [if_neg c1] at h ⊢
    by_cases c2 : K = 5
    · rw [if_pos c2] at h ⊢; exact bg_R (m2_R hb eK h)
    · rw [if_neg c2] at h ⊢
      by_cases c3 : K = 6
      · rw [if_pos c3] at h ⊢
        refine bg_R (m0_R hb eK ?_)
        rw [of1_rm hb, eM]; exact h
      · rw [if_neg c3] at h ⊢; exact m0_R hb eK h
theorem s0_R {b : Nat} (hb : b < 8) {x : Int32} {ν : vM} {L : List Int32} {p K M : Int32} (eK : ν 1 (19 + 5 * b) = K) (eM : ν 1 (20 + 5 * b) = M) {Q : Int32 → vM → Prop} (h : Q (s0 K M (nI b) x L).1 (rm ν (s0 K M (nI b) x L).2 p)) : wp_X7_plainSprouts (nI b) x Q (rm ν L p) := by
  refine bg_R (mK_R hb eK eM ?_)
  rw [of1_rm hb, eM]; exact h
theorem sK_R {b : Nat} (hb : b < 8) {x : Int32} {ν : vM} {L : List Int32} {p K M : Int32} (eK : ν 1 (19 + 5 * b) = K) (eM : ν 1 (20 + 5 * b) = M) {Q : Int32 → vM → Prop} (h : Q (sK K M (nI b) x L).1 (rm ν (sK K M (nI b) x L).2 p)) : wp_X7_sprouts (nI b) x Q (rm ν L p) := by
  unfold wp_X7_sprouts
  rw [of0_rm hb, eK]
  unfold sK at h
  by_cases c1 : K = 3
  · rw [if_pos c1] at h ⊢; exact bg_R (s0_R hb eK eM h)
  · rw [if_neg c1] at h ⊢
    by_cases c2 : K = 4
    · rw [if_pos c2] at h ⊢; exact bg_R (s0_R hb eK eM h)
    · rw [if_neg c2] at h ⊢; exact s0_R hb eK eM h
theorem rm_22 {ν : vM} {L : List Int32} {p q : Int32} : st (rm ν L p) 0 22 q = rm ν L q := by
  funext j
  by_cases h0 : j = 0
  · subst h0
    rw [st_eq, rm_0, rm_0]
    funext k
    unfold upd
    repeat' split
    all_goals first | (exfalso; omega) | rfl
  · rw [st_ne h0]
    unfold rm
    rw [if_neg h0, if_neg h0]
theorem p0_R {b : Nat} (hb : b < 8) {x : Int32} {ν : vM} {L : List Int32} {M : Int32} (eM : ν 1 (20 + 5 * b) = M) {Q : Int32 → vM → Prop} (h0 : M - nI b = 0 → Q 0 (rm ν (13 :: L) 1)) (h1 : ¬ M - nI b = 0 → Q (x / (M - nI b)) (rm ν (13 :: L) 0)) : wp_X7_plainParts (nI b) x Q (rm ν L 0) := by
  unfold wp_X7_plainParts
  refine bg_R ?_
  rw [of1_rm hb, eM]
  refine ⟨_, rfl, ?_⟩
  unfold wp_X7_plainParts_25
  by_cases c : M - nI b = 0
  · rw [if_pos c]
    refine ⟨bz1, _, rfl, ?_⟩
    rw [rm_22, rm_p, if_neg (by decide)]
    exact h0 c
  · rw [if_neg c]
    refine ⟨bz0, _, rfl, ?_⟩
    rw [rm_22, rm_p, if_pos rfl]
    exact ⟨c, h1 c⟩
theorem pK_R {b : Nat} (hb : b < 8) {x : Int32} {ν : vM} {L : List Int32} {K M : Int32} (eK : ν 1 (19 + 5 * b) = K) (eM : ν 1 (20 + 5 * b) = M) {Q : Int32 → vM → Prop} (h0 : M - nI b = 0 → ∀ v, Q v (rm ν (13 :: if K = 1 ∨ K = 4 then 21 :: L else L) 1)) (h1 : ¬ M - nI b = 0 → (K = 1 ∨ K = 4) → Q (x / (M - nI b) + (mK K M (nI b) 1 (13 :: 21 :: L)).1) (rm ν (mK K M (nI b) 1 (13 :: 21 :: L)).2 0)) (h2 : ¬ M - nI b = 0 → ¬ (K = 1 ∨ K = 4) → Q (x / (M - nI b)) (rm ν (13 :: L) 0)) : wp_X7_partsBy (nI b) x Q (rm ν L 0) := by
  unfold wp_X7_partsBy wp_X7_partsBy_20
  have A : (K = 1 ∨ K = 4) → wp_X7_begins 21 (fun μ23 => wp_X7_plainParts (nI b) x (fun r29 μ29 => if (μ29 0 22) = 0 then wp_X7_warms (nI b) 1 (fun r48 μ48 => Q (r29 + r48) μ48) μ29 else Q 0 μ29) μ23) (rm ν L 0) := by
    intro c
    refine bg_R (p0_R hb eM (fun z => ?_) (fun z => ?_))
    · rw [rm_p, if_neg (by decide)]
      have := h0 z 0
      rw [if_pos c] at this; exact this
    · rw [rm_p, if_pos rfl]
      exact mK_R hb eK eM (h1 z c)
  rw [of0_rm hb, eK]
  by_cases c1 : K = 1
  · rw [if_pos c1]; exact A (Or.inl c1)
  · rw [if_neg c1, of0_rm hb, eK]
    by_cases c4 : K = 4
    · rw [if_pos c4]; exact A (Or.inr c4)
    · rw [if_neg c4]
      have c : ¬ (K = 1 ∨ K = 4) := fun z => z.elim c1 c4
      refine p0_R hb eM (fun z => ?_) (fun z => h2 z c)
      have := h0 z 0
      rw [if_neg c] at this; exact this
-- the class
def abv (j : Nat) : Nat := [0, 0, 0, 0, 1, 2, 0].getD j 0
def fk : Nat → Nat → Nat → Nat
  | 0, _, j => j
  | g + 1, v, j => if c_BODIES (j * 4 + v) = 0 then fk g v (abv j) else j
theorem abv_e : ∀ v, v < 4 → ∀ j, j < 7 → c_BODIES (j * 4 + v) = 0 → c_ABOVE j = nI (abv j) ∧ abv j < 7 := by decide +kernel
theorem fk_e : ∀ v, v < 4 → ∀ j, j < 7 → fk 3 v j < 7 ∧ ¬ c_BODIES (fk 3 v j * 4 + v) = 0 := by decide +kernel
theorem ix_bo (j v : Nat) : (nI j * 4) + nI v = nI (j * 4 + v) := by
  show (nI j * nI 4) + nI v = _; rw [nI_mul, nI_add]
theorem bg_C {n b v k d : Nat} (hv : v < 4) (hk : k < 7) (hd : d ≤ 20) {a3 x : Int32} {μ : vM} {L : List Int32} {Q : Int32 → vM → Prop} (h : wg_sy n 1 (c_BODIES (k * 4 + v)) (nI b) (c_ABOVE k) x (nI (d + 1)) Q (cm μ (c_BODIES (k * 4 + v) :: L) 0)) : wp_X6_say_54 (wg_sy n) (nI b) (nI v) a3 x (nI d) Q (nI k) (cm μ L 0) := by
  unfold wp_X6_say_54 wp_X6_say_107
  have wk := vp_in_nI (n := k) (N := 7) hk (by decide)
  rw [if_neg (nI_pos (by omega)), if_pos (show nI d ≤ (20 : Int32) from nI_le (b := 20) (by omega) (by decide)), ix_bo, nI_clamp (by omega), nI_clamp (by omega), nI_1, cm_c]
  refine ⟨vp_in_nI (by omega) (by decide), _, rfl, ?_⟩
  by_cases c : 30 ≤ L.length
  · rw [if_pos (show (30 : Int32) ≤ nI (min 30 L.length) from nI_le (a := 30) (by omega) (by omega))]
    rw [cm_full c] at h
    exact ⟨wk, h⟩
  · rw [if_neg (show ¬ (30 : Int32) ≤ nI (min 30 L.length) from nI_ge (b := 30) (by omega) (by decide))]
    have e : min 30 L.length = L.length := by omega
    rw [e, nI_clamp (by omega)]
    refine ⟨_, rfl, vp_in_nI (by omega) (by decide), _, rfl, wk, ?_⟩
    rw [cm_beg (by omega)]
    exact h
theorem sy_loop {n b v d : Nat} (hv : v < 4) (hd : d ≤ 20) {a3 x : Int32} {μ : vM} {L : List Int32} {Q : Int32 → vM → Prop} : ∀ g i j, i + g ≤ 6 → j < 7 → fk g v j < 7 → ¬ c_BODIES (fk g v j * 4 + v) = 0 → wg_sy n 1 (c_BODIES (fk g v j * 4 + v)) (nI b) (c_ABOVE (fk g v j)) x (nI (d + 1)) Q (cm μ (c_BODIES (fk g v j * 4 + v) :: L) 0) → wp_X6_say_15 (wg_sy n) (nI b) (nI v) a3 x (nI d) Q (g + 1) (nI j) (nI i) (cm μ L 0)
  | 0, i, j, hi, hj, hf, hb, h => by
    simp only [fk] at hb h
    unfold wp_X6_say_15
    rw [if_neg (show ¬ (7 : Int32) ≤ nI i from nI_ge (b := 7) (by omega) (by decide)), if_neg (nI_pos (by omega)), ix_bo, nI_clamp (by omega), if_neg hb]
    exact ⟨vp_in_nI (by omega) (by decide), bg_C hv hj hd h⟩
  | g + 1, i, j, hi, hj, hf, hb, h => by
    unfold wp_X6_say_15
    rw [if_neg (show ¬ (7 : Int32) ≤ nI i from nI_ge (b := 7) (by omega) (by decide)), if_neg (nI_pos (by omega)), ix_bo, nI_clamp (by omega)]
    refine ⟨vp_in_nI (by omega) (by decide), ?_⟩
    simp only [fk] at hf hb h
    by_cases c : c_BODIES (j * 4 + v) = 0
    · rw [if_pos c] at hf hb h ⊢
      obtain ⟨e1, e2⟩ := abv_e v hv j hj c
      rw [nI_clamp (by omega), e1, nI_1]
      exact ⟨vp_in_nI hj (by decide), _, rfl, _, rfl, sy_loop hv hd g (i + 1) (abv j) (by omega) e2 hf hb h⟩
    · rw [if_neg c] at hf hb h ⊢
      exact bg_C hv hj hd h
/-- one says: the body of the kind, or of the next kind above that has one -/
theorem sy_say {n b v d j k : Nat} {B : Int32} (hv : v < 4) (hd : d ≤ 20) (hj : j < 7) (ek : fk 3 v j = k) (eB : c_BODIES (k * 4 + v) = B) {A : Int32} (eA : c_ABOVE k = A) {x : Int32} {μ : vM} {L : List Int32} {Q : Int32 → vM → Prop} (h : wg_sy n 1 B (nI b) A x (nI (d + 1)) Q (cm μ (B :: L) 0)) : wg_sy (n + 1) 0 (nI b) (nI v) (nI j) x (nI d) Q (cm μ L 0) := by
  have F := fk_e v hv j hj
  subst ek; subst eB; subst eA
  simp only [wg_sy, if_true]
  unfold wp_X6_say
  rw [cm_p, if_pos rfl]
  exact ⟨4, sy_loop hv hd 3 0 j (by omega) hj F.1 F.2 h⟩
theorem sy_body {n : Nat} {a1 a2 a3 a4 a5 : Int32} {μ : vM} {Q : Int32 → vM → Prop} (h : wp_X6_sayBody (wg_sy n) a1 a2 a3 a4 a5 Q μ) : wg_sy (n + 1) 1 a1 a2 a3 a4 a5 Q μ := by
  simp only [wg_sy, if_true, if_neg (by decide : ¬ (1 : Nat) = 0)]
  exact h
theorem bd_ {n b : Nat} (hb : b < 8) {B A x a5 : Int32} {μ : vM} {L : List Int32} {p : Int32} {K M : Int32} (eK : μ 6 b = K) (eM : μ 7 b = M) {Q : Int32 → vM → Prop} (h : (if B = (10 : Int32) then Q (x + nI b) (cm μ L p) else if B = (11 : Int32) then wg_sy n 0 (nI b) (0 : Int32) K x a5 (fun r158 μ158 => Q (r158 * (2 : Int32)) μ158) (cm μ L p) else if B = (12 : Int32) then wg_sy n 0 (nI b) (1 : Int32) K x a5 (fun r173 μ173 => Q (r173 - M) μ173) (cm μ L p) else if B = (13 : Int32) then wp_X6_partsOf x (M - nI b) (fun r187 μ187 => Q r187 μ187) (cm μ L p) else if B = (20 : Int32) then wg_sy n 0 (nI b) (0 : Int32) A x a5 (fun r199 μ199 => Q (r199 - (4 : Int32)) μ199) (cm μ L p) else if B = (21 : Int32) then wg_sy n 0 (nI b) (3 : Int32) A x a5 (fun r213 μ213 => wg_sy n 0 (nI b) (1 : Int32) K (1 : Int32) a5 (fun r224 μ224 => Q (r213 + r224) μ224) μ213) (cm μ L p) else if B = (30 : Int32) then wg_sy n 0 (nI b) (1 : Int32) A x a5 (fun r238 μ238 => Q ((0 : Int32) - r238) μ238) (cm μ L p) else if B = (40 : Int32) then wg_sy n 0 (nI b) (2 : Int32) A (x / (2 : Int32)) a5 (fun r253 μ253 => Q r253 μ253) (cm μ L p) else if B = (50 : Int32) then wg_sy n 0 (nI b) (0 : Int32) A x a5 (fun r265 μ265 => Q (r265 * (3 : Int32)) μ265) (cm μ L p) else if B = (51 : Int32) then wg_sy n 0 (nI b) (2 : Int32) A x a5 (fun r279 μ279 => Q (r279 ^^^ nI b) μ279) (cm μ L p) else if B = (60 : Int32) then wg_sy n 0 (nI b) (1 : Int32) A (x + (1 : Int32)) a5 (fun r295 μ295 => Q r295 μ295) (cm μ L p) else if B = (70 : Int32) then Q (9 : Int32) (cm μ L p) else if B = (71 : Int32) then wg_sy n 0 (nI b) (1 : Int32) A x a5 (fun r310 μ310 => Q (r310 + M) μ310) (cm μ L p) else Q (0 : Int32) (cm μ L p))) : wg_sy (n + 1) 1 B (nI b) A x a5 Q (cm μ L p) := by
  refine sy_body ?_
  unfold wp_X6_sayBody
  have w := vp_in_nI (n := b) (N := 8) hb (by decide)
  rw [nI_clamp (by omega), cm_o (by decide) (by decide), cm_o (by decide) (by decide), eK, eM]
  exact ⟨w, _, rfl, w, _, rfl, h⟩
-- walks
theorem w0_C {n b d j : Nat} (hb : b < 8) (hd : d ≤ 20) (hj : j < 7) (ek : fk 3 0 j = 0) {x : Int32} {μ : vM} {L : List Int32} {Q : Int32 → vM → Prop} (h : Q (w0 (nI b) x L).1 (cm μ (w0 (nI b) x L).2 0)) : wg_sy (n + 2) 0 (nI b) 0 (nI j) x (nI d) Q (cm μ L 0) :=
  sy_say (v := 0) (by decide) hd hj ek rfl rfl (bd_ hb rfl rfl (by rw [if_pos (by decide)]; exact h))
theorem w1_C {n b d j : Nat} (hb : b < 8) (hd : d ≤ 19) (hj : j < 7) (ek : fk 3 0 j = 1) {x : Int32} {μ : vM} {L : List Int32} {Q : Int32 → vM → Prop} (h : Q (w1 (nI b) x L).1 (cm μ (w1 (nI b) x L).2 0)) : wg_sy (n + 4) 0 (nI b) 0 (nI j) x (nI d) Q (cm μ L 0) := by
  refine sy_say (v := 0) (by decide) (by omega) hj ek rfl rfl (bd_ hb rfl rfl ?_)
  rw [if_neg (by decide), if_neg (by decide), if_neg (by decide), if_neg (by decide), if_pos (by decide)]
  exact w0_C (n := n) (j := 0) hb (by omega) (by decide) (by decide) h
theorem wK_C {n b d K : Nat} (hb : b < 8) (hd : d ≤ 18) (hK : K < 7) {x : Int32} {μ : vM} {L : List Int32} {Q : Int32 → vM → Prop} (h : Q (wK (nI K) (nI b) x L).1 (cm μ (wK (nI K) (nI b) x L).2 0)) : wg_sy (n + 6) 0 (nI b) 0 (nI K) x (nI d) Q (cm μ L 0) := by
  have : K = 0 ∨ K = 1 ∨ K = 2 ∨ K = 3 ∨ K = 4 ∨ K = 5 ∨ K = 6 := by omega
  unfold wK at h
  rcases this with rfl | rfl | rfl | rfl | rfl | rfl | rfl
  · exact w0_C (n := n + 4) hb (by omega) (by decide) (by decide) h
  · exact w1_C (n := n + 2) hb (by omega) (by decide) (by decide) h
  · exact w0_C (n := n + 4) hb (by omega) (by decide) (by decide) h
  · exact w0_C (n := n + 4) hb (by omega) (by decide) (by decide) h
  · refine sy_say (v := 0) (k := 4) (by decide) (by omega) (by decide) (by decide) rfl rfl (bd_ hb rfl rfl ?_)
    rw [if_neg (by decide), if_neg (by decide), if_neg (by decide), if_neg (by decide), if_neg (by decide), if_neg (by decide), if_neg (by decide), if_neg (by decide), if_pos (by decide)]
    exact w1_C (n := n) (j := 1) hb (by omega) (by decide) (by decide) h
  · exact w0_C (n := n + 4) hb (by omega) (by decide) (by decide) h
  · refine sy_say (v := 0) (k := 6) (by decide) (by omega) (by decide) (by decide) rfl rfl (bd_ hb rfl rfl ?_)
    rw [if_neg (by decide), if_neg (by decide), if_neg (by decide), if_neg (by decide), if_neg (by decide), if_neg (by decide), if_neg (by decide), if_neg (by decide), if_neg (by decide), if_neg (by decide), if_neg (by decide), if_pos (by decide)]
    exact h
-- warms
theorem m0_C {n b d j K : Nat} (hb : b < 8) (hd : d ≤ 17) (hj : j < 7) (ek : fk 3 1 j = 0) (hK : K < 7) {x : Int32} {μ : vM} {L : List Int32} (eK : μ 6 b = nI K) {Q : Int32 → vM → Prop} (h : Q (m0 (nI K) (nI b) x L).1 (cm μ (m0 (nI K) (nI b) x L).2 0)) : wg_sy (n + 8) 0 (nI b) 1 (nI j) x (nI d) Q (cm μ L 0) := by
  refine sy_say (v := 1) (by decide) (by omega) hj ek rfl rfl (bd_ hb eK rfl ?_)
  rw [if_neg (by decide), if_pos (by decide)]
  exact wK_C (n := n) hb (by omega) hK h
theorem m2_C {n b d j K : Nat} (hb : b < 8) (hd : d ≤ 16) (hj : j < 7) (ek : fk 3 1 j = 2) (hK : K < 7) {x : Int32} {μ : vM} {L : List Int32} (eK : μ 6 b = nI K) {Q : Int32 → vM → Prop} (h : Q (m2 (nI K) (nI b) x L).1 (cm μ (m2 (nI K) (nI b) x L).2 0)) : wg_sy (n + 10) 0 (nI b) 1 (nI j) x (nI d) Q (cm μ L 0) := by
  refine sy_say (v := 1) (by decide) (by omega) hj ek rfl rfl (bd_ hb eK rfl ?_)
  rw [if_neg (by decide), if_neg (by decide), if_neg (by decide), if_neg (by decide), if_neg (by decide), if_neg (by decide), if_pos (by decide)]
  refine m0_C (n := n) (j := 0) (K := K) hb (by omega) (by decide) (by decide) hK eK ?_
  rw [Int32.zero_sub]; exact h
theorem mK_C {n b d K : Nat} (hb : b < 8) (hd : d ≤ 15) (hK : K < 7) {x M : Int32} {μ : vM} {L : List Int32} (eK : μ 6 b = nI K) (eM : μ 7 b = M) {Q : Int32 → vM → Prop} (h : Q (mK (nI K) M (nI b) x L).1 (cm μ (mK (nI K) M (nI b) x L).2 0)) : wg_sy (n + 12) 0 (nI b) 1 (nI K) x (nI d) Q (cm μ L 0) := by
  have : K = 0 ∨ K = 1 ∨ K = 2 ∨ K = 3 ∨ K = 4 ∨ K = 5 ∨ K = 6 := by omega
  unfold mK at h
  rcases this with rfl | rfl | rfl | rfl | rfl | rfl | rfl
  · exact m0_C (n := n + 4) hb (by omega) (by decide) (by decide) (by decide) eK h
  · exact m0_C (n := n + 4) hb (by omega) (by decide) (by decide) (by decide) eK h
  · exact m2_C (n := n + 2) hb (by omega) (by decide) (by decide) (by decide) eK h
  · exact m0_C (n := n + 4) hb (by omega) (by decide) (by decide) (by decide) eK h
  · exact m0_C (n := n + 4) hb (by omega) (by decide) (by decide) (by decide) eK h
  · refine sy_say (v := 1) (k := 5) (by decide) (by omega) (by decide) (by decide) rfl rfl (bd_ hb eK eM ?_)
    rw [if_neg (by decide), if_neg (by decide), if_neg (by decide), if_neg (by decide), if_neg (by decide), if_neg (by decide), if_neg (by decide), if_neg (by decide), if_neg (by decide), if_neg (by decide), if_pos (by decide)]
    exact m2_C (n := n) (j := 2) hb (by omega) (by decide) (by decide) (by decide) eK h
  · refine sy_say (v := 1) (k := 6) (by decide) (by omega) (by decide) (by decide) rfl rfl (bd_ hb eK eM ?_)
    rw [if_neg (by decide), if_neg (by decide), if_neg (by decide), if_neg (by decide), if_neg (by decide), if_neg (by decide), if_neg (by decide), if_neg (by decide), if_neg (by decide), if_neg (by decide), if_neg (by decide), if_neg (by decide), if_pos (by decide)]
    exact m0_C (n := n + 2) (j := 0) hb (by omega) (by decide) (by decide) (by decide) eK h
-- sprouts
theorem s0_C {n b d j K : Nat} (hb : b < 8) (hd : d ≤ 14) (hj : j < 7) (ek : fk 3 2 j = 0) (hK : K < 7) {x M : Int32} {μ : vM} {L : List Int32} (eK : μ 6 b = nI K) (eM : μ 7 b = M) {Q : Int32 → vM → Prop} (h : Q (s0 (nI K) M (nI b) x L).1 (cm μ (s0 (nI K) M (nI b) x L).2 0)) : wg_sy (n + 14) 0 (nI b) 2 (nI j) x (nI d) Q (cm μ L 0) := by
  refine sy_say (v := 2) (by decide) (by omega) hj ek rfl rfl (bd_ hb eK eM ?_)
  rw [if_neg (by decide), if_neg (by decide), if_pos (by decide)]
  exact mK_C (n := n) hb (by omega) hK eK eM h
theorem sK_C {n b d K : Nat} (hb : b < 8) (hd : d ≤ 13) (hK : K < 7) {x M : Int32} {μ : vM} {L : List Int32} (eK : μ 6 b = nI K) (eM : μ 7 b = M) {Q : Int32 → vM → Prop} (h : Q (sK (nI K) M (nI b) x L).1 (cm μ (sK (nI K) M (nI b) x L).2 0)) : wg_sy (n + 16) 0 (nI b) 2 (nI K) x (nI d) Q (cm μ L 0) := by
  have : K = 0 ∨ K = 1 ∨ K = 2 ∨ K = 3 ∨ K = 4 ∨ K = 5 ∨ K = 6 := by omega
  unfold sK at h
  rcases this with rfl | rfl | rfl | rfl | rfl | rfl | rfl
  · exact s0_C (n := n + 2) hb (by omega) (by decide) (by decide) (by decide) eK eM h
  · exact s0_C (n := n + 2) hb (by omega) (by decide) (by decide) (by decide) eK eM h
  · exact s0_C (n := n + 2) hb (by omega) (by decide) (by decide) (by decide) eK eM h
  · refine sy_say (v := 2) (k := 3) (by decide) (by omega) (by decide) (by decide) rfl rfl (bd_ hb eK eM ?_)
    rw [if_neg (by decide), if_neg (by decide), if_neg (by decide), if_neg (by decide), if_neg (by decide), if_neg (by decide), if_neg (by decide), if_pos (by decide)]
    exact s0_C (n := n) (j := 0) hb (by omega) (by decide) (by decide) (by decide) eK eM h
  · refine sy_say (v := 2) (k := 4) (by decide) (by omega) (by decide) (by decide) rfl rfl (bd_ hb eK eM ?_)
    rw [if_neg (by decide), if_neg (by decide), if_neg (by decide), if_neg (by decide), if_neg (by decide), if_neg (by decide), if_neg (by decide), if_neg (by decide), if_neg (by decide), if_pos (by decide)]
    exact s0_C (n := n) (j := 1) hb (by omega) (by decide) (by decide) (by decide) eK eM h
  · exact s0_C (n := n + 2) hb (by omega) (by decide) (by decide) (by decide) eK eM h
  · exact s0_C (n := n + 2) hb (by omega) (by decide) (by decide) (by decide) eK eM h
-- parts
theorem cm_11 {ν : vM} {L : List Int32} {p q : Int32} : st (cm ν L p) 0 11 q = cm ν L q := by
  funext j
  by_cases h0 : j = 0
  · subst h0
    rw [st_eq, cm_0, cm_0]
    funext k
    unfold upd
    repeat' split
    all_goals first | (exfalso; omega) | rfl
  · rw [st_ne h0]
    unfold cm
    rw [if_neg h0, if_neg h0]
theorem p0_C {n b d j : Nat} (hb : b < 8) (hd : d ≤ 19) (hj : j < 7) (ek : fk 3 3 j = 0) {x M : Int32} {μ : vM} {L : List Int32} (eM : μ 7 b = M) {Q : Int32 → vM → Prop} (h0 : M - nI b = 0 → Q 0 (cm μ (13 :: L) 1)) (h1 : ¬ M - nI b = 0 → Q (x / (M - nI b)) (cm μ (13 :: L) 0)) : wg_sy (n + 2) 0 (nI b) 3 (nI j) x (nI d) Q (cm μ L 0) := by
  refine sy_say (v := 3) (by decide) (by omega) hj ek rfl rfl (bd_ hb rfl eM ?_)
  rw [if_neg (by decide), if_neg (by decide), if_neg (by decide), if_pos (by decide)]
  unfold wp_X6_partsOf
  by_cases c : M - nI b = 0
  · rw [if_pos c]
    refine ⟨bz1, _, rfl, ?_⟩
    rw [cm_11]; exact h0 c
  · rw [if_neg c]; exact ⟨c, h1 c⟩
theorem sy_pt {n b : Nat} {v j x d : Int32} {μ : vM} {L : List Int32} {Q : Int32 → vM → Prop} (h : Q 0 (cm μ L 1)) : wg_sy (n + 1) 0 (nI b) v j x d Q (cm μ L 1) := by
  simp only [wg_sy, if_true]
  unfold wp_X6_say
  rw [cm_p, if_neg (by decide)]
  exact h
theorem pK_C {n b d K : Nat} (hb : b < 8) (hd : d ≤ 14) (hK : K < 7) {x M : Int32} {μ : vM} {L : List Int32} (eK : μ 6 b = nI K) (eM : μ 7 b = M) {Q : Int32 → vM → Prop} (h0 : M - nI b = 0 → ∀ v, Q v (cm μ (13 :: if nI K = 1 ∨ nI K = 4 then 21 :: L else L) 1)) (h1 : ¬ M - nI b = 0 → (nI K = 1 ∨ nI K = 4) → Q (x / (M - nI b) + (mK (nI K) M (nI b) 1 (13 :: 21 :: L)).1) (cm μ (mK (nI K) M (nI b) 1 (13 :: 21 :: L)).2 0)) (h2 : ¬ M - nI b = 0 → ¬ (nI K = 1 ∨ nI K = 4) → Q (x / (M - nI b)) (cm μ (13 :: L) 0)) : wg_sy (n + 14) 0 (nI b) 3 (nI K) x (nI d) Q (cm μ L 0) := by
  have A : (nI K = 1 ∨ nI K = 4) → fk 3 3 K = 1 → wg_sy (n + 14) 0 (nI b) 3 (nI K) x (nI d) Q (cm μ L 0) := by
    intro c ek
    refine sy_say (v := 3) (by decide) (by omega) hK ek rfl rfl (bd_ hb eK eM ?_)
    rw [if_neg (by decide), if_neg (by decide), if_neg (by decide), if_neg (by decide), if_neg (by decide), if_pos (by decide)]
    refine p0_C (n := n + 10) (j := 0) hb (by omega) (by decide) (by decide) eM (fun z => ?_) (fun z => ?_)
    · refine sy_pt ?_
      have := h0 z (0 + 0)
      rw [if_pos c] at this; exact this
    · exact mK_C (n := n) hb (by omega) hK eK eM (h1 z c)
  have B : ¬ (nI K = 1 ∨ nI K = 4) → fk 3 3 K = 0 → wg_sy (n + 14) 0 (nI b) 3 (nI K) x (nI d) Q (cm μ L 0) := by
    intro c ek
    refine p0_C (n := n + 12) hb (by omega) hK ek eM (fun z => ?_) (fun z => h2 z c)
    have := h0 z 0
    rw [if_neg c] at this; exact this
  have : K = 0 ∨ K = 1 ∨ K = 2 ∨ K = 3 ∨ K = 4 ∨ K = 5 ∨ K = 6 := by omega
  rcases this with rfl | rfl | rfl | rfl | rfl | rfl | rfl
  · exact B (by decide) (by decide)
  · exact A (by decide) (by decide)
  · exact B (by decide) (by decide)
  · exact B (by decide) (by decide)
  · exact A (by decide) (by decide)
  · exact B (by decide) (by decide)
  · exact B (by decide) (by decide)
theorem wr_eq {f f' : Nat → Int32} (h : ∀ i, i < 30 → f i = f' i) : ∀ L i, i < 30 → wr f L i = wr f' L i
  | [], i, hi => h i hi
  | b :: L, i, hi => by
    have ih := wr_eq h L i hi
    simp only [wr]
    by_cases c : L.length < 30
    · rw [if_pos c, if_pos c]
      by_cases e : i = L.length
      · subst e; rw [upd_eq, upd_eq]
      · rw [upd_ne e, upd_ne e]; exact ih
    · rw [if_neg c, if_neg c]; exact ih
theorem rl_vo {μ ν : vM} {L : List Int32} {p q : Int32} (h : Rl μ ν) : Rl (cm μ L p) (rm ν L q) := by
  obtain ⟨h1, h2, h3, h4, h5, h6, h7, h8⟩ := h
  have c : ∀ j, j ≠ 0 → j ≠ 58 → cm μ L p j = μ j := fun j a b => cm_o a b
  have r : ∀ j, j ≠ 0 → j ≠ 14 → rm ν L q j = ν j := fun j a b => rm_o a b
  have r1 : rm ν L q 1 = ν 1 := r 1 (by decide) (by decide)
  have r2 : rm ν L q 2 = ν 2 := r 2 (by decide) (by decide)
  refine ⟨?_, by rw [r1]; exact h2, ?_, ?_, ?_, ?_, ?_, ?_⟩
  · rw [r1]; exact wld_cells (fun i hi => c _ (by omega) (by omega)) h1
  · exact kno_cg h3 (by rw [rm_0, upd_ne (by decide), upd_ne (by decide)]) (r 8 (by decide) (by decide)) (fun i _ _ => by rw [r1])
  · unfold kpt at h4 ⊢
    rw [cm_0, rm_0, upd_ne (by decide), upd_ne (by decide), upd_ne (by decide), upd_ne (by decide), r2]
    exact ⟨h4.1, h4.2.imp id fun z => ⟨wld_cells (fun i hi => c _ (by omega) (by omega)) z.1, z.2⟩⟩
  · unfold sht at h5 ⊢
    rw [c 54 (by decide) (by decide), c 55 (by decide) (by decide), c 56 (by decide) (by decide), r 5 (by decide) (by decide), r 6 (by decide) (by decide), r 7 (by decide) (by decide)]
    exact h5
  · unfold trc at h6 ⊢
    rw [cm_c, rm_c, cm_58, rm_14]
    exact ⟨rfl, ⟨min 30 L.length, by omega, rfl⟩, wr_eq h6.2.2 L⟩
  · unfold err at h7 ⊢
    rw [c 57 (by decide) (by decide), r 4 (by decide) (by decide)]; exact h7
  · unfold nms at h8 ⊢
    rw [c 12 (by decide) (by decide), c 15 (by decide) (by decide)]; exact h8
theorem cm_nil {μ : vM} : st (st μ 0 10 0) 0 11 0 = cm μ [] 0 := by
  funext j
  by_cases h0 : j = 0
  · subst h0
    rw [st_eq, st_eq, cm_0]
    rfl
  · rw [st_ne h0, st_ne h0]
    by_cases h1 : j = 58
    · subst h1; rw [cm_58]; rfl
    · rw [cm_o h0 h1]
theorem rm_nil {μ : vM} : st (st μ 0 21 0) 0 22 0 = rm μ [] 0 := by
  funext j
  by_cases h0 : j = 0
  · subst h0
    rw [st_eq, st_eq, rm_0]
    rfl
  · rw [st_ne h0, st_ne h0]
    by_cases h1 : j = 14
    · subst h1; rw [rm_14]; rfl
    · rw [rm_o h0 h1]
theorem sp_hi4 {a : Int32} {A B : Prop} : (if a < 0 then A else if a < 4 then B else A) = if rg a 4 then B else A := by
  have := sp_hi (a := a) (n := 3) (by decide) (k := 3) rfl (A := A) (B := B)
  rw [← this]
  have e : a < 4 ↔ a ≤ 3 := by
    have h4 : (4 : Int32).toInt = 4 := rfl
    have h3 : (3 : Int32).toInt = 3 := rfl
    rw [Int32.lt_iff_toInt_lt, Int32.le_iff_toInt_le]; omega
  simp only [e]
theorem sm_voice_ok : sm_voice Rl := by
  intro x a y μ ν h
  have r1 := rl_err (k := 1) (by decide) h
  obtain ⟨n, hn, e1, e2⟩ := rl_size h
  unfold wp_X6_voice wp_X7_voice
  simp only [sp_isBit6 hn e1, sp_isBit7 hn e2, e6_1, e7_1, in7_3, sp_hi4, exists_eq_left, bz0, true_and, cm_nil, rm_nil]
  by_cases c1 : rg x n
  · obtain ⟨b, hb, rfl⟩ := rg_of c1
    have hb8 : b < 8 := by omega
    have w : vp_in (nI b) 8 := vp_in_nI hb8 (by decide)
    simp only [if_pos c1, if_neg (by decide : ¬ (1 : Int32) = 0)]
    by_cases c2 : rg a 4
    · obtain ⟨v, hv, rfl⟩ := rg_of c2
      simp only [if_pos c2, if_neg (by decide : ¬ (1 : Int32) = 0), w, true_and, nI_clamp (show b < 2 ^ 31 by omega)]
      obtain ⟨K, hK, eK'⟩ := (h.2.1.2.2.1 b hb8).1
      have V := h.1.1.2.2.1 b hb8
      have eK : μ 6 b = nI K := by rw [← eK']; exact V.1
      have eM : μ 7 b = ν 1 (20 + 5 * b) := V.2.1
      rw [cm_o (by decide) (by decide), eK]
      have endR : ∀ (r : Int32) (L : List Int32), wp_X7_voice_81 (nI b) (nI v) y (fun r2 μ2 => r = r2 ∧ Rl (cm μ L 0) μ2) r (rm ν L 0) := by
        intro r L
        unfold wp_X7_voice_81
        rw [rm_p, if_pos rfl]
        exact ⟨rfl, rl_vo h⟩
      have : v = 0 ∨ v = 1 ∨ v = 2 ∨ v = 3 := by omega
      rcases this with rfl | rfl | rfl | rfl
      · refine wK_C (n := 54) (d := 0) hb8 (by decide) hK ?_
        rw [cm_p, if_pos rfl, if_pos (by decide)]
        exact wK_R hb8 eK' (endR _ _)
      · refine mK_C (n := 48) (d := 0) hb8 (by decide) hK eK eM ?_
        rw [cm_p, if_pos rfl, if_neg (by decide), if_pos (by decide)]
        exact mK_R hb8 eK' rfl (endR _ _)
      · refine sK_C (n := 44) (d := 0) hb8 (by decide) hK eK eM ?_
        rw [cm_p, if_pos rfl, if_neg (by decide), if_neg (by decide), if_pos (by decide)]
        exact sK_R hb8 eK' rfl (endR _ _)
      · by_cases cz : ν 1 (20 + 5 * b) - nI b = 0
        · refine pK_C (n := 46) (d := 0) hb8 (by decide) hK eK eM (fun _ v => ?_) (fun z => absurd cz z) (fun z => absurd cz z)
          rw [cm_p, if_neg (by decide : ¬ (1 : Int32) = 0), e6_6, if_neg (by decide : ¬ nI 3 = (0 : Int32)), if_neg (by decide : ¬ nI 3 = (1 : Int32)), if_neg (by decide : ¬ nI 3 = (2 : Int32))]
          refine pK_R hb8 eK' rfl (fun _ v' => ?_) (fun z => absurd cz z) (fun z => absurd cz z)
          unfold wp_X7_voice_81
          rw [rm_p, if_neg (by decide), e7_6]
          exact ⟨rfl, rl_err (by decide) (rl_vo h)⟩
        · refine pK_C (n := 46) (d := 0) hb8 (by decide) hK eK eM (fun z => absurd z cz) (fun _ ck => ?_) (fun _ ck => ?_)
          · rw [cm_p, if_pos rfl, if_neg (by decide), if_neg (by decide), if_neg (by decide)]
            exact pK_R hb8 eK' rfl (fun z => absurd z cz) (fun _ _ => endR _ _) (fun _ z => absurd ck z)
          · rw [cm_p, if_pos rfl, if_neg (by decide), if_neg (by decide), if_neg (by decide)]
            exact pK_R hb8 eK' rfl (fun z => absurd z cz) (fun _ z => absurd z ck) (fun _ _ => endR _ _)
    · simp only [if_neg c2, if_true, true_and]; exact r1
  · simp only [if_neg c1, if_true, true_and]; exact r1
