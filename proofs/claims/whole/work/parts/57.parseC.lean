/-! the parser of the class -/
def PC (B : Nat → Nat) (m u : Nat) (μ0 : vM) (a : pS) (μ : vM) : Prop := μ 50 5 = nI a.1 ∧ μ 50 6 = (if a.2.1 = true then 1 else 0) ∧ (∃ k, k ≤ 60 ∧ μ 50 1 = nI k ∧ (a.2.1 = false → k = a.2.2.length ∧ ∀ i, i < k → μ 51 i = nI (a.2.2.getD i 0))) ∧ μ 50 3 = nI m ∧ μ 50 4 = nI u ∧ (∀ i, i < m → μ 52 i = nI (B i)) ∧ ∀ j, j ≠ 50 → j ≠ 51 → μ j = μ0 j
section PCV
variable {B : Nat → Nat} {m u : Nat} {μ0 : vM} {a : pS} {μ : vM}
theorem pc_qm (h : PC B m u μ0 a μ) : PC B m u μ0 (qm a) (st μ 50 5 (μ 50 5 + 1)) := by
  obtain ⟨h1, h2, ⟨k, h3, h4, h5⟩, h6, h7, h8, h9⟩ := h
  refine ⟨?_, ?_, ⟨k, h3, ?_, fun hb => ⟨(h5 hb).1, fun i hi => ?_⟩⟩, ?_, ?_, fun i hi => ?_, fun j hj hj' => ?_⟩
  · rw [st_eq, upd_eq, h1, nI_1]; rfl
  · rw [st_eq, upd_ne (by decide)]; exact h2
  · rw [st_eq, upd_ne (by decide)]; exact h4
  · rw [st_ne (by decide)]; exact (h5 hb).2 i hi
  · rw [st_eq, upd_ne (by decide)]; exact h6
  · rw [st_eq, upd_ne (by decide)]; exact h7
  · rw [st_ne (by decide)]; exact h8 i hi
  · rw [st_ne hj]; exact h9 j hj hj'
theorem pc_qb (h : PC B m u μ0 a μ) : PC B m u μ0 (qb a) (st μ 50 6 1) := by
  obtain ⟨h1, h2, ⟨k, h3, h4, h5⟩, h6, h7, h8, h9⟩ := h
  refine ⟨?_, ?_, ⟨k, h3, ?_, fun hb => absurd hb (by show ¬ true = false; decide)⟩, ?_, ?_, fun i hi => ?_, fun j hj hj' => ?_⟩
  · rw [st_eq, upd_ne (by decide)]; exact h1
  · rw [st_eq, upd_eq]; rfl
  · rw [st_eq, upd_ne (by decide)]; exact h4
  · rw [st_eq, upd_ne (by decide)]; exact h6
  · rw [st_eq, upd_ne (by decide)]; exact h7
  · rw [st_ne (by decide)]; exact h8 i hi
  · rw [st_ne hj]; exact h9 j hj hj'
theorem gD_lo {l : List Nat} {i v : Nat} (h : i < l.length) : (l ++ [v]).getD i 0 = l.getD i 0 := by
  simp [List.getD, List.getElem?_append_left h]
theorem gD_hi {l : List Nat} {v : Nat} : (l ++ [v]).getD l.length 0 = v := by
  simp [List.getD]
theorem sp_wrC {v : Nat} {w : Int32} (hw : w = nI v) (h : PC B m u μ0 a μ) (hl : a.2.1 = false → a.2.2.length < 60) {Q : vM → Prop} (hQ : ∀ μ', PC B m u μ0 (qw a v) μ' → Q μ') : wp_X2_write 50 w Q μ := by
  obtain ⟨h1, h2, ⟨k, h3, h4, h5⟩, h6, h7, h8, h9⟩ := h
  subst hw
  unfold wp_X2_write
  by_cases c : k < 60
  · rw [h4, if_neg (show ¬ (60 : Int32) ≤ nI k from nI_ge (b := 60) c (by decide))]
    refine ⟨vp_in_nI c (by decide), _, rfl, _, rfl, hQ _ ?_⟩
    rw [nI_clamp (by omega)]
    refine ⟨?_, ?_, ⟨k + 1, c, ?_, fun hb => ?_⟩, ?_, ?_, fun i hi => ?_, fun j hj hj' => ?_⟩
    · rw [st_eq, upd_ne (by decide), st_ne (by decide)]; exact h1
    · rw [st_eq, upd_ne (by decide), st_ne (by decide)]; exact h2
    · rw [st_eq, upd_eq, st_ne (by decide), h4, nI_1]
    · obtain ⟨e1, e2⟩ := h5 hb
      refine ⟨?_, fun i hi => ?_⟩
      · show k + 1 = (a.2.2 ++ [v]).length
        rw [List.length_append, List.length_singleton, e1]
      · show _ = nI ((a.2.2 ++ [v]).getD i 0)
        rw [st_ne (by decide), st_eq]
        by_cases d : i = k
        · subst d; rw [upd_eq, e1, gD_hi]
        · rw [upd_ne d, gD_lo (by omega)]; exact e2 i (by omega)
    · rw [st_eq, upd_ne (by decide), st_ne (by decide)]; exact h6
    · rw [st_eq, upd_ne (by decide), st_ne (by decide)]; exact h7
    · rw [st_ne (by decide), st_ne (by decide)]; exact h8 i hi
    · rw [st_ne hj, st_ne hj']; exact h9 j hj hj'
  · rw [h4, if_pos (show (60 : Int32) ≤ nI k from nI_le (a := 60) (by omega) (by omega))]
    refine hQ _ ⟨h1, h2, ⟨k, h3, h4, fun hb => ?_⟩, h6, h7, h8, h9⟩
    have := (h5 hb).1
    have := hl hb
    omega
theorem cix_t : ∀ q, q < 10 → ∀ c, c < 256 → (decide (c_ix (nI q) (((nI c).toUInt32 % 65536).toInt32) < 0) = ! qh q c) := by decide +kernel
theorem cix_n : ∀ u, u < 2 → ∀ c, c < 256 → qh u c = decide (qn u c < 3) ∧ (qn u c < 3 → c_ix (nI u) (((nI c).toUInt32 % 65536).toInt32) = nI (qn u c)) := by decide +kernel
theorem sp_nof {q : Nat} (hq : q < 10) (hm : m ≤ 60) (hB : ∀ i, i < m → B i < 256) (ha : a.1 ≤ m) (h : PC B m u μ0 a μ) {Q : Int32 → vM → Prop} (hQ : Q (if qh q (qk B m a.1) = true then 1 else 0) μ) : wp_X2_isNextOf 50 (nI q) Q μ := by
  obtain ⟨h1, h2, h3, h6, h7, h8, h9⟩ := h
  unfold wp_X2_isNextOf wp_X2_isNextOf_32
  rcases qk_cs (h := a.1) hB with ⟨c1, c2, c3⟩ | ⟨c1, c2⟩
  · rw [c2] at hQ c3
    rw [h1, h6, if_neg (nI_ge c1 (by omega)), nI_clamp (by omega), show (50 : Nat) + 2 = 52 from rfl, h8 _ c1]
    refine ⟨vp_in_nI (by omega) (by decide), _, rfl, ⟨nI_pos' (by omega), nI_lt (b := 10) hq (by decide)⟩, ?_⟩
    have t := cix_t q hq _ c3
    by_cases d : qh q (B a.1) = true
    · rw [d] at t
      rw [if_pos d] at hQ
      rw [if_neg (of_decide_eq_false t)]
      exact hQ
    · rw [if_neg d] at hQ
      rw [ts_nt d] at t
      rw [if_pos (of_decide_eq_true t)]
      exact hQ
  · rw [c2] at hQ
    rw [h1, h6, if_pos (nI_le (by omega) (by omega))]
    have : qh q 999 = false := by
      by_cases d : qh q 999 = true
      · have := qh_b d; omega
      · exact ts_nt d
    rw [this] at hQ
    exact hQ
theorem sp_nxd (hm : m ≤ 60) (hB : ∀ i, i < m → B i < 256) (ha : a.1 ≤ m) (h : PC B m u μ0 a μ) {Q : Int32 → vM → Prop} (hQ : Q (if qd (qk B m a.1) = true then 1 else 0) μ) : wp_X2_isNextDigit 50 Q μ := by
  obtain ⟨h1, h2, h3, h6, h7, h8, h9⟩ := h
  unfold wp_X2_isNextDigit wp_X2_isNextDigit_43
  rcases qk_cs (h := a.1) hB with ⟨c1, c2, c3⟩ | ⟨c1, c2⟩
  · rw [c2] at hQ c3
    rw [h1, h6, if_neg (nI_ge c1 (by omega)), nI_clamp (by omega), show (50 : Nat) + 2 = 52 from rfl, h8 _ c1]
    refine ⟨vp_in_nI (by omega) (by decide), ?_⟩
    by_cases d : B a.1 < 48
    · rw [if_neg (fun hh => by have := qd_b.mp hh; omega)] at hQ
      rw [if_pos (show nI (B a.1) < (48 : Int32) from nI_lt (b := 48) d (by decide))]
      exact hQ
    · rw [if_neg (show ¬ nI (B a.1) < (48 : Int32) from fun hh => d ((nI_ltI (b := 48) (by omega) (by decide)).mp hh))]
      refine ⟨vp_in_nI (by omega) (by decide), ?_⟩
      by_cases e : 57 < B a.1
      · rw [if_neg (fun hh => by have := qd_b.mp hh; omega)] at hQ
        rw [if_pos (show (57 : Int32) < nI (B a.1) from nI_lt (a := 57) e (by omega))]
        exact hQ
      · rw [if_pos (qd_b.mpr (by omega))] at hQ
        rw [if_neg (show ¬ (57 : Int32) < nI (B a.1) from fun hh => e ((nI_ltI (a := 57) (by decide) (by omega)).mp hh))]
        exact hQ
  · rw [c2] at hQ
    rw [h1, h6, if_pos (nI_le (by omega) (by omega))]
    exact hQ
/-- the byte that is next -/
theorem pc_by (hm : m ≤ 60) (h : PC B m u μ0 a μ) (hk : a.1 < m) : vp_in (μ 50 5) 60 ∧ μ 52 (μ 50 5).toNatClampNeg = nI (qk B m a.1) := by
  obtain ⟨h1, h2, h3, h6, h7, h8, h9⟩ := h
  rw [h1, nI_clamp (by omega), h8 _ hk]
  refine ⟨vp_in_nI (by omega) (by decide), ?_⟩
  unfold qk
  rw [if_pos hk]
theorem sp_numC (hm : m ≤ 60) (hB : ∀ i, i < m → B i < 256) {Q : vM → Prop} : ∀ (g i v : Nat) (b : pS) (μ : vM), i + g = 4 → b.2.1 = false → b.1 ≤ m → b.2.2.length < 60 → v < 10 ^ i → PC B m u μ0 b μ → (∀ μ', PC B m u μ0 ((qg B m g v b.1).2, b.2.1, b.2.2 ++ [(qg B m g v b.1).1]) μ' → Q μ') → wp_X2_readNumber_4 50 Q (g + 1) (nI v) (nI i) μ := by
  intro g
  induction g with
  | zero =>
    intro i v b μ hi h0 hb hl hv hP hQ
    unfold wp_X2_readNumber_4 wp_X2_readNumber_50
    rw [if_pos (show (4 : Int32) ≤ nI i from nI_le (a := 4) (by omega) (by omega))]
    exact sp_wrC rfl hP (fun _ => hl) hQ
  | succ g ih =>
    intro i v b μ hi h0 hb hl hv hP hQ
    unfold wp_X2_readNumber_4 wp_X2_readNumber_50
    rw [if_neg (show ¬ (4 : Int32) ≤ nI i from nI_ge (b := 4) (by omega) (by omega))]
    refine sp_nxd hm hB hb hP ?_
    unfold qg at hQ
    by_cases d : qd (qk B m b.1) = true
    · rw [if_pos d] at hQ
      simp only [if_pos d, if_neg (by decide : ¬ (1 : Int32) = 0)]
      have dq := qd_b.mp d
      have hlt : b.1 < m := qk_lt (B := B) (by omega)
      obtain ⟨p1, p2⟩ := pc_by hm hP hlt
      have hv3 : v < 1000 := Nat.lt_of_lt_of_le hv (by
        have : i ≤ 3 := by omega
        exact Nat.pow_le_pow_right (by decide) this)
      refine ⟨p1, _, rfl, _, rfl, _, rfl, ?_⟩
      rw [show (50 : Nat) + 2 = 52 from rfl, p2, nI_1, show (10 : Int32) = nI 10 from rfl, nI_mul, nI_add, show (48 : Int32) = nI 48 from rfl, sub_nI (by omega)]
      refine ih (i + 1) _ (qm b) _ (by omega) h0 (show b.1 + 1 ≤ m by omega) hl ?_ (pc_qm hP) hQ
      rw [Nat.pow_succ]
      omega
    · rw [if_neg d] at hQ
      simp only [if_neg d, if_true]
      exact sp_wrC rfl hP (fun _ => hl) hQ
/-- what a call of the parser does -/
def RC (B : Nat → Nat) (m u : Nat) (μ0 : vM) (n w : Nat) (a1 a2 : Int32) (F : pS → pS) : Prop := ∀ (a : pS) (μ : vM) (Q : vM → Prop), a.2.1 = false → ES m a → PC B m u μ0 a μ → (∀ μ', PC B m u μ0 (F a) μ' → Q μ') → wg_rd 50 n w a1 a2 Q μ
theorem lpC {n r M : Nat} {o : Int32} {f : pS → pS} (hm : m ≤ 60) (hB : ∀ i, i < m → B i < 256) (hr : r < 5) (hM : M ≤ 60) (hf : GP m f) (hc : RC B m u μ0 n 0 (nI r + 1) o f) {Q : vM → Prop} : ∀ (g i : Nat) (b : pS) (μ : vM), i + g = M → ES m b → PC B m u μ0 b μ → (∀ μ', PC B m u μ0 (ql B m (3 + r) f g b) μ' → Q μ') → wp_X2_readJoined_29 (wg_rd 50 n) 50 (nI r) o Q (g + 1) (nI (3 + r)) (nI M) (nI i) μ := by
  intro g
  induction g with
  | zero =>
    intro i b μ hi hE hP hQ
    unfold wp_X2_readJoined_29
    rw [if_pos (nI_le (by omega) (by omega))]
    exact hQ _ hP
  | succ g ih =>
    intro i b μ hi hE hP hQ
    unfold wp_X2_readJoined_29
    rw [if_neg (nI_ge (by omega) (by omega)), hP.2.1]
    unfold ql at hQ
    by_cases c : b.2.1 = true
    · rw [if_neg (fun hh => by rw [c] at hh; exact absurd hh.1 (by decide))] at hQ
      rw [if_pos c, if_neg (by decide : ¬ (1 : Int32) = 0)]
      exact hQ _ hP
    · rw [if_neg c, if_pos rfl]
      have c' := ts_nt c
      refine sp_nof (by omega) hm hB hE.1 hP ?_
      by_cases d : qh (3 + r) (qk B m b.1) = true
      · rw [if_pos ⟨c', d⟩] at hQ
        simp only [if_pos d, if_neg (by decide : ¬ (1 : Int32) = 0)]
        have hlt := qk_lt (qh_b d)
        obtain ⟨p1, p2⟩ := pc_by hm hP hlt
        have hE' : ES m (qm b) := ⟨show b.1 + 1 ≤ m by omega, fun hb => Nat.le_succ_of_le (hE.2 hb)⟩
        refine ⟨p1, _, rfl, _, rfl, hc (qm b) _ _ c' hE' (pc_qm hP) fun μ1 hP1 => ?_⟩
        have hl : (f (qm b)).2.1 = false → (f (qm b)).2.2.length < (f (qm b)).1 := fun hb => by
          obtain ⟨s, e1, e2, -⟩ := (hf (qm b) c' hE'.1).2.2 hb
          have e3 := hE.2 c'
          have e2' : s.length + (b.1 + 1) ≤ (f (qm b)).1 := e2
          rw [e1, List.length_append]
          show b.2.2.length + s.length < _
          omega
        have hfm := (hf (qm b) c' hE'.1).2.1
        refine sp_wrC (v := 20000 + qk B m b.1) (by rw [show (50 : Nat) + 2 = 52 from rfl, p2, show (20000 : Int32) = nI 20000 from rfl, nI_add]) hP1 (fun hb => by have := hl hb; omega) fun μ2 hP2 => ?_
        refine ⟨_, rfl, ?_⟩
        rw [nI_1]
        refine ih (i + 1) (qw (f (qm b)) (20000 + qk B m b.1)) _ (by omega) ⟨hfm, fun hb => ?_⟩ hP2 hQ
        show ((f (qm b)).2.2 ++ [20000 + qk B m b.1]).length ≤ (f (qm b)).1
        rw [List.length_append, List.length_singleton]
        exact hl hb
      · rw [if_neg (fun hh => d hh.2)] at hQ
        simp only [if_neg d, if_true]
        exact hQ _ hP
theorem sp_sgn {r : Nat} (hr : r < 5) {Q : Int32 → vM → Prop} (hQ : Q (nI (3 + r)) μ) : wp_X2_signsOf (nI r) Q μ := by
  have : r = 0 ∨ r = 1 ∨ r = 2 ∨ r = 3 ∨ r = 4 := by omega
  unfold wp_X2_signsOf
  rcases this with rfl | rfl | rfl | rfl | rfl <;> exact hQ
theorem eM_ {k : Nat} (hk : k < 5) : (if nI (5 - (k + 1)) = (2 : Int32) then (1 : Int32) else 60) = nI (if k = 2 then 1 else 60) := by
  have : k = 0 ∨ k = 1 ∨ k = 2 ∨ k = 3 ∨ k = 4 := by omega
  rcases this with rfl | rfl | rfl | rfl | rfl
  · rw [if_neg (by decide), if_neg (by decide)]; rfl
  · rw [if_neg (by decide), if_neg (by decide)]; rfl
  · rw [if_pos (by decide), if_pos rfl]; rfl
  · rw [if_neg (by decide), if_neg (by decide)]; rfl
  · rw [if_neg (by decide), if_neg (by decide)]; rfl
theorem qr_s {f : pS → pS} {k : Nat} : qr B m f (k + 1) a = ql B m (7 - k) (qr B m f k) (if k = 2 then 1 else 60) (qr B m f k a) := by rw [qr]
theorem rankZ {n : Nat} {o : Int32} {f : pS → pS} (hm : m ≤ 60) (hB : ∀ i, i < m → B i < 256) (hf : GP m f) (hc : RC B m u μ0 n 2 o 0 f) : RC B m u μ0 (n + 2 * 0 + 1) 0 (nI (5 - 0)) o (qr B m f 0) := by
  intro a μ Q h0 hE hP hQ
  have en : n + 2 * 0 + 1 = n + 1 := by omega
  rw [en]
  show wp_X2_readRank (wg_rd 50 n) 50 (nI 5) o Q μ
  unfold wp_X2_readRank
  rw [if_pos (show (5 : Int32) ≤ nI 5 by decide)]
  exact hc a μ Q h0 hE hP hQ
theorem rd_0 {N : Nat} {a1 a2 : Int32} {Q : vM → Prop} (h : ¬ (5 : Int32) ≤ a1) (hw : wg_rd 50 N 1 a1 a2 Q μ) : wg_rd 50 (N + 1) 0 a1 a2 Q μ := by
  show wp_X2_readRank (wg_rd 50 N) 50 a1 a2 Q μ
  unfold wp_X2_readRank
  rw [if_neg h]
  exact hw
theorem rd_1 {N : Nat} {a1 a2 : Int32} {Q : vM → Prop} (hw : wp_X2_readJoined (wg_rd 50 N) 50 a1 a2 Q μ) : wg_rd 50 (N + 1) 1 a1 a2 Q μ := hw
theorem n5_ {k : Nat} : ¬ (5 : Int32) ≤ nI (5 - (k + 1)) := nI_ge (b := 5) (by omega) (by decide)
theorem er_ {k : Nat} (hk : k < 5) : nI (5 - (k + 1)) + 1 = nI (5 - k) := by
  rw [nI_1, show 5 - (k + 1) + 1 = 5 - k by omega]
theorem rankS {n k : Nat} {o : Int32} {f : pS → pS} (hk : k + 1 ≤ 5) (hm : m ≤ 60) (hB : ∀ i, i < m → B i < 256) (hf : GP m f) (ih : RC B m u μ0 (n + 2 * k + 1) 0 (nI (5 - k)) o (qr B m f k)) : RC B m u μ0 (n + 2 * (k + 1) + 1) 0 (nI (5 - (k + 1))) o (qr B m f (k + 1)) := by
  intro a μ Q h0 hE hP hQ
  have en : n + 2 * (k + 1) + 1 = n + 2 * k + 1 + 1 + 1 := by omega
  rw [en]
  apply rd_0 n5_
  apply rd_1
  have gp := gp_qr (B := B) hf k (by omega)
  have e7 : 3 + (5 - (k + 1)) = 7 - k := by omega
  have hr : 5 - (k + 1) < 5 := by omega
  rw [← er_ (by omega)] at ih
  rw [qr_s] at hQ
  have hM : (if k = 2 then 1 else 60) ≤ 60 := by split <;> omega
  rw [← e7] at hQ
  unfold wp_X2_readJoined
  refine ih a μ _ h0 hE hP fun μ1 hP1 => ?_
  refine sp_sgn hr ?_
  unfold wp_X2_readJoined_24
  rw [eM_ (by omega)]
  refine ⟨(if k = 2 then 1 else 60) + 1, ?_⟩
  exact lpC hm hB hr hM gp ih _ 0 _ μ1 (Nat.zero_add _) (gp_es gp h0 hE) hP1 hQ
theorem rankC {n : Nat} {o : Int32} {f : pS → pS} (hm : m ≤ 60) (hB : ∀ i, i < m → B i < 256) (hf : GP m f) (hc : RC B m u μ0 n 2 o 0 f) : ∀ k, k ≤ 5 → RC B m u μ0 (n + 2 * k + 1) 0 (nI (5 - k)) o (qr B m f k)
  | 0, _ => rankZ hm hB hf hc
  | k + 1, hk => rankS hk hm hB hf (rankC hm hB hf hc k (by omega))
theorem leafC (hm : m ≤ 60) (hu : u < 2) (hB : ∀ i, i < m → B i < 256) {Q : vM → Prop} (h0 : a.2.1 = false) (hE : ES m a) (hP : PC B m u μ0 a μ) (hQ : ∀ μ', PC B m u μ0 (qf B m u a) μ' → Q μ') : wp_X2_isNextOf 50 (μ 50 4) (fun r22 μ22 => if r22 = 0 then wp_X2_isNextDigit 50 (fun r67 μ67 => if r67 = 0 then bz (1 : Int32) ∧ ∃ μ82 : vM, μ82 = st μ67 50 6 (1 : Int32) ∧ Q μ82 else wp_X2_readNumber 50 (fun μ74 => Q μ74) μ67) μ22 else vp_in (μ22 50 5) 60 ∧ ∃ r46 : Int32, r46 = c_ix (μ22 50 4) (((μ22 (50 + 2) (μ22 50 5).toNatClampNeg).toUInt32 % 65536).toInt32) ∧ (0 ≤ μ22 50 4 ∧ (μ22 50 4) < 10) ∧ wp_X2_write 50 ((10000 : Int32) + r46) (fun μ50 => ∃ μ60 : vM, μ60 = st μ50 50 5 ((μ50 50 5) + (1 : Int32)) ∧ Q μ60) μ22) μ := by
  have e4 : μ 50 4 = nI u := hP.2.2.2.2.1
  rw [e4]
  refine sp_nof (by omega) hm hB hE.1 hP ?_
  have hl := hE.2 h0
  have hE1 := hE.1
  unfold qf at hQ
  by_cases c : qh u (qk B m a.1) = true
  · simp only [if_pos c, if_neg (by decide : ¬ (1 : Int32) = 0)]
    have hlt := qk_lt (qh_b c)
    obtain ⟨p1, p2⟩ := pc_by hm hP hlt
    have t := cix_n u hu _ (qh_b c)
    have t1 : qn u (qk B m a.1) < 3 := by
      have := t.1; rw [c] at this; exact of_decide_eq_true this.symm
    rw [if_pos t1] at hQ
    refine ⟨p1, _, rfl, ?_, ?_⟩
    · rw [e4]; exact ⟨nI_pos' (by omega), nI_lt (b := 10) (by omega) (by decide)⟩
    · refine sp_wrC (v := 10000 + qn u (qk B m a.1)) ?_ hP (fun _ => by omega) fun μ1 hP1 => ⟨_, rfl, hQ _ (pc_qm hP1)⟩
      rw [e4, show (50 : Nat) + 2 = 52 from rfl, p2, t.2 t1, show (10000 : Int32) = nI 10000 from rfl, nI_add]
  · simp only [if_neg c, if_true]
    have t1 : ¬ qn u (qk B m a.1) < 3 := fun hh => by
      have := (cix_n u hu _ (qn_b hh)).1
      rw [decide_eq_true hh] at this
      exact c this
    rw [if_neg t1] at hQ
    refine sp_nxd hm hB hE.1 hP ?_
    by_cases d : qd (qk B m a.1) = true
    · rw [if_pos d] at hQ
      simp only [if_pos d, if_neg (by decide : ¬ (1 : Int32) = 0)]
      have dq := qd_b.mp d
      have hlt : a.1 < m := qk_lt (B := B) (by omega)
      unfold wp_X2_readNumber
      exact ⟨5, sp_numC hm hB 4 0 0 a μ (by omega) h0 hE.1 (by omega) (by decide) hP hQ⟩
    · rw [if_neg d] at hQ
      simp only [if_neg d, if_true]
      exact ⟨Or.inr rfl, _, rfl, hQ _ (pc_qb hP)⟩
theorem oneC (hm : m ≤ 60) (hu : u < 2) (hB : ∀ i, i < m → B i < 256) : ∀ d, d ≤ 5 → ∀ e, RC B m u μ0 (13 * d + 2 + e) 2 (nI (5 - d)) 0 (qo B m u d)
  | 0, _, e => by
    intro a μ Q h0 hE hP hQ
    have en : 13 * 0 + 2 + e = (e + 1) + 1 := by omega
    rw [en]
    show wp_X2_readOne (wg_rd 50 (e + 1)) 50 (nI 5) Q μ
    unfold wp_X2_readOne
    refine sp_nof (q := 8) (by omega) hm hB hE.1 hP ?_
    unfold qo at hQ
    by_cases c : qh 8 (qk B m a.1) = true
    · rw [if_pos c] at hQ
      simp only [if_pos c, if_neg (by decide : ¬ (1 : Int32) = 0)]
      show wp_X2_readOpened (wg_rd 50 e) 50 (nI 5) Q μ
      unfold wp_X2_readOpened
      rw [if_neg (show ¬ nI 5 < (5 : Int32) by decide)]
      exact ⟨Or.inr rfl, _, rfl, hQ _ (pc_qb hP)⟩
    · rw [if_neg c] at hQ
      simp only [if_neg c, if_true]
      exact leafC hm hu hB h0 hE hP hQ
  | d + 1, hd, e => by
    have ih := oneC hm hu hB d (by omega)
    intro a μ Q h0 hE hP hQ
    have en : 13 * (d + 1) + 2 + e = (13 * d + 2 + e + 11) + 1 + 1 := by omega
    rw [en]
    show wp_X2_readOne (wg_rd 50 (13 * d + 2 + e + 11 + 1)) 50 (nI (5 - (d + 1))) Q μ
    unfold wp_X2_readOne
    refine sp_nof (q := 8) (by omega) hm hB hE.1 hP ?_
    unfold qo at hQ
    by_cases c : qh 8 (qk B m a.1) = true
    · rw [if_pos c] at hQ
      simp only [if_pos c, if_neg (by decide : ¬ (1 : Int32) = 0)]
      show wp_X2_readOpened (wg_rd 50 (13 * d + 2 + e + 11)) 50 (nI (5 - (d + 1))) Q μ
      unfold wp_X2_readOpened
      rw [if_pos (show nI (5 - (d + 1)) < (5 : Int32) from nI_lt (b := 5) (by omega) (by decide))]
      have hlt := qk_lt (qh_b c)
      obtain ⟨p1, p2⟩ := pc_by hm hP hlt
      have hE' : ES m (qm a) := ⟨show a.1 + 1 ≤ m by omega, fun hb => Nat.le_succ_of_le (hE.2 hb)⟩
      have hP' := pc_qm hP
      have eo : nI (5 - (d + 1)) + 1 = nI (5 - d) := by rw [nI_1]; congr 1; omega
      refine ⟨p1, _, rfl, _, rfl, ?_⟩
      rw [show (50 : Nat) + 2 = 52 from rfl, p2, eo]
      have hl := hE.2 h0
      have hE1 := hE.1
      by_cases f : qk B m a.1 = 33
      · rw [if_pos f] at hQ
        rw [if_pos (show nI (qk B m a.1) = (33 : Int32) by rw [f]; rfl)]
        have ih2 := ih (e + 11)
        rw [show 13 * d + 2 + (e + 11) = 13 * d + 2 + e + 11 by omega] at ih2
        refine ih2 (qm a) _ _ h0 hE' hP' fun μ1 hP1 => ?_
        have gp := gp_qo (B := B) (m := m) (u := u) d (qm a) h0 hE'.1
        refine sp_wrC (v := 20033) (by rw [f]; rfl) hP1 (fun hb => ?_) hQ
        obtain ⟨s, e1, e2, -⟩ := gp.2.2 hb
        have e2' : s.length + (a.1 + 1) ≤ (qo B m u d (qm a)).1 := e2
        have e3 := gp.2.1
        rw [e1, List.length_append]
        show a.2.2.length + s.length < 60
        omega
      · rw [if_neg f] at hQ
        rw [if_neg (show ¬ nI (qk B m a.1) = (33 : Int32) from fun hh => f (by
          have hb := qh_b c
          have := congrArg Int32.toNatClampNeg hh
          rw [nI_clamp (by omega), show (33 : Int32).toNatClampNeg = 33 by decide] at this
          exact this))]
        have ih2 := rankC (n := 13 * d + 2 + e) hm hB (gp_qo d) (ih e) 5 (by omega)
        rw [show 13 * d + 2 + e + 2 * 5 + 1 = 13 * d + 2 + e + 11 by omega] at ih2
        refine ih2 (qm a) _ _ h0 hE' hP' fun μ1 hP1 => ?_
        unfold wp_X2_readOpened_91
        rw [hP1.2.1]
        by_cases g : (qr B m (qo B m u d) 5 (qm a)).2.1 = true
        · rw [if_pos g, if_neg (by decide : ¬ (1 : Int32) = 0)]
          rw [if_neg (fun hh => by rw [g] at hh; exact absurd hh.1 (by decide))] at hQ
          exact ⟨Or.inr rfl, _, rfl, hQ _ (pc_qb hP1)⟩
        · rw [if_neg g, if_pos rfl]
          have gp := gp_qr (B := B) (gp_qo (B := B) (m := m) (u := u) d) 5 (by omega) (qm a) h0 hE'.1
          refine sp_nof (q := 9) (by omega) hm hB gp.2.1 hP1 ?_
          by_cases k : qh 9 (qk B m (qr B m (qo B m u d) 5 (qm a)).1) = true
          · rw [if_pos ⟨ts_nt g, k⟩] at hQ
            simp only [if_pos k, if_neg (by decide : ¬ (1 : Int32) = 0)]
            exact ⟨_, rfl, hQ _ (pc_qm hP1)⟩
          · rw [if_neg (fun hh => k hh.2)] at hQ
            simp only [if_neg k, if_true]
            exact ⟨Or.inr rfl, _, rfl, hQ _ (pc_qb hP1)⟩
    · rw [if_neg c] at hQ
      simp only [if_neg c, if_true]
      exact leafC hm hu hB h0 hE hP hQ
end PCV
