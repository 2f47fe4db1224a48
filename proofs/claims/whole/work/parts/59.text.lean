/-! text -/
theorem nI_inj {a b : Nat} (ha : a < 2 ^ 31) (hb : b < 2 ^ 31) (h : nI a = nI b) : a = b := by
  have := congrArg Int32.toInt h
  rw [nI_toInt ha, nI_toInt hb] at this
  omega
theorem okw_lt {w : Nat} (h : okw w) : w < 2 ^ 31 := by
  rcases h with h | ⟨i, hi, rfl⟩ | rfl | ⟨c, hc, rfl⟩
  · omega
  · omega
  · decide
  · have := sgn_r hc; omega
theorem wf_w {ρ : Nat → Int32} {at_ k w y : Nat} (hw : w < 2 ^ 31) (he : en (nI w) (ρ (at_ + 1 + k)) (ρ (at_ + 61 + k))) (hr : rn [w] (hg ρ at_ k) = some y) : (ρ (at_ + 1 + k) = 1 ∨ (ρ (at_ + 1 + k) = 2 ∧ lt (ρ (at_ + 61 + k)) 3) ∨ (ρ (at_ + 1 + k) = 3 ∧ 1 ≤ hg ρ at_ k) ∨ ((∃ c, sgn c ∧ ρ (at_ + 1 + k) = nI c) ∧ 2 ≤ hg ρ at_ k)) ∧ y = hg ρ at_ (k + 1) := by
  simp only [hg]
  rcases he with ⟨v, hv, e, e1, e2⟩ | ⟨i, hi, e, e1, e2⟩ | ⟨e, e1⟩ | ⟨c, hc, e, e1⟩
  · have := nI_inj hw (by omega) e
    subst this
    simp only [rn] at hr
    rw [if_pos (by omega)] at hr
    rw [e1, if_pos (Or.inl rfl)]
    exact ⟨Or.inl rfl, (Option.some.inj hr).symm⟩
  · have := nI_inj hw (by omega) e
    subst this
    simp only [rn] at hr
    rw [if_pos (by omega)] at hr
    rw [e1, if_pos (Or.inr rfl)]
    exact ⟨Or.inr (Or.inl ⟨rfl, ⟨i, hi, e2⟩⟩), (Option.some.inj hr).symm⟩
  · have := nI_inj hw (by decide) e
    subst this
    simp only [rn] at hr
    rw [if_neg (by omega), if_pos trivial] at hr
    rw [e1, if_neg (by decide), if_pos rfl]
    by_cases z : hg ρ at_ k = 0
    · rw [if_pos z] at hr; exact absurd hr (by simp)
    · rw [if_neg z] at hr
      exact ⟨Or.inr (Or.inr (Or.inl ⟨rfl, by omega⟩)), (Option.some.inj hr).symm⟩
  · have cb := sgn_r hc
    have cn := sgn_n hc
    have c33 : c ≠ 33 := by rcases hc with rfl | rfl | rfl | rfl | rfl | rfl | rfl | rfl | rfl | rfl <;> decide
    have := nI_inj hw (by omega) e
    subst this
    simp only [rn] at hr
    rw [if_neg (by omega), if_neg (by omega)] at hr
    rw [e1, if_neg (fun q => q.elim cn.1 cn.2.1), if_neg cn.2.2]
    by_cases z : hg ρ at_ k < 2
    · rw [if_pos z] at hr; exact absurd hr (by simp)
    · rw [if_neg z] at hr
      exact ⟨Or.inr (Or.inr (Or.inr ⟨⟨c, hc, rfl⟩, by omega⟩)), (Option.some.inj hr).symm⟩
theorem rn_some {s t : List Nat} {h x : Nat} (e : rn (s ++ t) h = some x) : ∃ y, rn s h = some y ∧ rn t y = some x := by
  rw [rn_app] at e
  cases q : rn s h with
  | none => rw [q] at e; exact absurd e (by simp)
  | some y => rw [q] at e; exact ⟨y, rfl, e⟩
theorem tk_s {L : List Nat} {k : Nat} (hk : k < L.length) : L.take (k + 1) = L.take k ++ [L.getD k 0] := by
  rw [List.take_succ]
  congr 1
  simp [List.getD, List.getElem?_eq_getElem hk]
theorem gD_m {L : List Nat} {k : Nat} (hk : k < L.length) : L.getD k 0 ∈ L := by
  simp [List.getD, List.getElem?_eq_getElem hk]
theorem wf_of {ρ : Nat → Int32} {at_ : Nat} {L : List Nat} (hl : L.length ≤ 60) (e : ρ at_ = nI L.length) (ho : okS L) (hen : ∀ k, k < L.length → en (nI (L.getD k 0)) (ρ (at_ + 1 + k)) (ρ (at_ + 61 + k))) : wf ρ at_ := by
  have tot := ho.2 0
  have st1 : ∀ k, k < L.length → rn (L.take k) 0 = some (hg ρ at_ k) → (ρ (at_ + 1 + k) = 1 ∨ (ρ (at_ + 1 + k) = 2 ∧ lt (ρ (at_ + 61 + k)) 3) ∨ (ρ (at_ + 1 + k) = 3 ∧ 1 ≤ hg ρ at_ k) ∨ ((∃ c, sgn c ∧ ρ (at_ + 1 + k) = nI c) ∧ 2 ≤ hg ρ at_ k)) ∧ rn (L.take (k + 1)) 0 = some (hg ρ at_ (k + 1)) := by
    intro k hk hr
    have t2 : rn (L.take (k + 1) ++ L.drop (k + 1)) 0 = some (0 + 1) := by rw [List.take_append_drop]; exact tot
    obtain ⟨y, y1, -⟩ := rn_some t2
    rw [tk_s hk] at y1
    obtain ⟨z, z1, z2⟩ := rn_some y1
    have := Option.some.inj (hr.symm.trans z1)
    subst this
    have r := wf_w (okw_lt (ho.1 _ (gD_m hk))) (hen k hk) z2
    refine ⟨r.1, ?_⟩
    rw [tk_s hk, y1, r.2]
  have al : ∀ k, k ≤ L.length → rn (L.take k) 0 = some (hg ρ at_ k) := by
    intro k
    induction k with
    | zero => intro _; rfl
    | succ k ih => intro hk; exact (st1 k (by omega) (ih (by omega))).2
  refine ⟨L.length, hl, e, fun k hk => (st1 k hk (al k (by omega))).1, fun _ => ?_⟩
  have q := al L.length (Nat.le_refl _)
  rw [List.take_length, tot] at q
  exact (Option.some.inj q).symm
theorem rl_text {μ ν μ' ν' : vM} {u : Nat} (hu : u < 2) (h : Rl μ ν) (hc : ∀ j, (j < 50 ∨ 53 ≤ j) → j ≠ 1 → j ≠ 12 + 3 * u → j ≠ 13 + 3 * u → μ' j = μ j) (h1 : ∀ k, k ≠ 5 → μ' 1 k = μ 1 k) (h12 : ∀ k, k ≠ 4 → μ' (12 + 3 * u) k = μ (12 + 3 * u) k) (w : μ' 1 5 = 0) (hr : ∀ j, j ≠ 0 → j ≠ 1 → j ≠ 9 → j ≠ 10 → ν' j = ν j) (hr0 : ∀ k, k < 14 ∨ 18 < k → ν' 0 k = ν 0 k) (hρ : ∀ i, i ≠ 3 → (i < 143 + 121 * u ∨ 143 + 121 * u + 121 ≤ i) → ν' 1 i = ν 1 i) (e3 : ν' 1 3 = 0) (L : lw (12 + 3 * u) μ' (ν' 1) (143 + 121 * u)) (W : wf (ν' 1) (143 + 121 * u)) : Rl μ' ν' := by
  have h' := h
  obtain ⟨⟨w1, w2, w3, w4, w5, w6, w7⟩, a2, a3, a4, a5, a6, a7, a8⟩ := h
  obtain ⟨b1, b2, b3, b4, b5, b6, b7, b8, b9, b10⟩ := a2
  have hu' : u = 0 ∨ u = 1 := by omega
  have L1 : lw 12 μ' (ν' 1) 143 := by
    rcases hu' with rfl | rfl
    · exact L
    · exact lw_cg w3 (by rw [hc 12 (by decide) (by decide) (by decide) (by decide)]) (hc _ (by decide) (by decide) (by decide) (by decide)) (fun i _ _ => hρ i (by omega) (by omega))
  have L2 : lw 15 μ' (ν' 1) 264 := by
    rcases hu' with rfl | rfl
    · exact lw_cg w4 (by rw [hc 15 (by decide) (by decide) (by decide) (by decide)]) (hc _ (by decide) (by decide) (by decide) (by decide)) (fun i _ _ => hρ i (by omega) (by omega))
    · exact L
  have F1 : wf (ν' 1) 143 := by
    rcases hu' with rfl | rfl
    · exact W
    · exact wf_cg b9 (fun i _ _ => hρ i (by omega) (by omega))
  have F2 : wf (ν' 1) 264 := by
    rcases hu' with rfl | rfl
    · exact wf_cg b10 (fun i _ _ => hρ i (by omega) (by omega))
    · exact W
  have hq : ∀ i, i ≠ 3 → i < 143 → ν' 1 i = ν 1 i := fun i h1 h2 => hρ i h1 (by omega)
  have hcc : ∀ j, j < 12 → j ≠ 1 → μ' j = μ j := fun j h1 h2 => hc j (by omega) h2 (by omega) (by omega)
  refine rl_now h' (fun j hj => hc j (by omega) (by omega) (by omega) (by omega)) (fun j hj => hr j (by omega) (by omega) (by omega) (by omega)) ⟨hr0 3 (by omega), hr0 21 (by omega)⟩ (kno_cg a3 (hr0 9 (by omega)) (hr 8 (by decide) (by decide) (by decide) (by decide)) (fun i _ _ => hq i (by omega) (by omega))) ⟨hv_cg w1 (fun i hi => hcc _ (by omega) (by omega)) ⟨hq 0 (by omega) (by omega), hq 2 (by omega) (by omega), fun i _ _ => hq i (by omega) (by omega), fun i _ _ => hq i (by omega) (by omega)⟩, rd_cg w2 (hcc _ (by decide) (by decide)) (hcc _ (by decide) (by decide)) (fun i _ _ => hq i (by omega) (by omega)), L1, L2, ⟨by rw [w, e3], fun i hi => by rw [hc _ (by omega) (by omega) (by omega) (by omega), hq _ (by omega) (by omega)]; exact w5.2 i hi⟩, ⟨by rw [h1 7 (by decide), hq 4 (by omega) (by omega)]; exact w6.1, fun i hi => by rw [hc _ (by omega) (by omega) (by omega) (by omega), hq _ (by omega) (by omega)]; exact w6.2 i hi⟩, by rw [h1 8 (by decide), hq 1 (by omega) (by omega)]; exact w7⟩ ⟨by rw [hq 2 (by omega) (by omega)]; exact b1, by rw [hq 0 (by omega) (by omega)]; exact b2, inb_of fun b hb i hi => by rw [hq _ (by omega) (by omega)]; exact inb_to b3 hb hi, fun f hf => by rw [hq _ (by omega) (by omega)]; exact b4 f hf, inw_cg b5 (fun i _ _ => hq i (by omega) (by omega)), by rw [e3]; exact ⟨0, by decide, rfl⟩, by rw [hq 4 (by omega) (by omega)]; exact b7, fun i hi => by rw [hq _ (by omega) (by omega)]; exact b8 i hi, F1, F2⟩ ?_
  unfold nms at a8 ⊢
  rcases hu' with rfl | rfl
  · rw [h12 0 (by decide), h12 1 (by decide), hc 15 (by decide) (by decide) (by decide) (by decide)]; exact a8
  · rw [hc 12 (by decide) (by decide) (by decide) (by decide), h12 0 (by decide), h12 1 (by decide)]; exact a8
theorem tcR {at_ n : Nat} (hat : at_ + 121 ≤ 385) (hn : n ≤ 60) {ν : vM} {a1 : Int32} {Q : Int32 → vM → Prop} (e14 : ν 0 14 = nI n) (hQ : ∀ m : vM, (∀ i, i ≠ 1 → m i = ν i) → (∀ i, i ≤ at_ ∨ at_ + 121 ≤ i → m 1 i = ν 1 i) → (∀ i, i < n → m 1 (at_ + 1 + i) = ν 9 i ∧ m 1 (at_ + 61 + i) = ν 10 i) → Q 1 m) : ∀ (g k : Nat) (m : vM), k + g = n → (∀ i, i ≠ 1 → m i = ν i) → (∀ i, i ≤ at_ ∨ at_ + 121 ≤ i → m 1 i = ν 1 i) → (∀ i, i < k → m 1 (at_ + 1 + i) = ν 9 i ∧ m 1 (at_ + 61 + i) = ν 10 i) → wp_X7_text_117 a1 Q (g + 1) (nI at_) (nI k) m := by
  intro g
  induction g with
  | zero =>
    intro k m hk c1 c2 c3
    unfold wp_X7_text_117
    rw [c1 0 (by decide), e14, if_pos (nI_le (by omega) (by omega))]
    exact hQ m c1 c2 (fun i hi => c3 i (by omega))
  | succ g ih =>
    intro k m hk c1 c2 c3
    unfold wp_X7_text_117
    rw [c1 0 (by decide), e14, if_neg (nI_ge (by omega) (by omega))]
    have x1 : nI at_ + 1 + nI k = nI (at_ + 1 + k) := by rw [nI_1, nI_add]
    have x2 : nI at_ + 61 + nI k = nI (at_ + 61 + k) := by rw [show (61 : Int32) = nI 61 from rfl, nI_add, nI_add]
    rw [x1, x2]
    refine ⟨vp_in_nI (by omega) (by decide), vp_in_nI (by omega) (by decide), _, rfl, vp_in_nI (by omega) (by decide), vp_in_nI (by omega) (by decide), _, rfl, _, rfl, ?_⟩
    rw [nI_1, nI_clamp (show at_ + 1 + k < 2 ^ 31 by omega), nI_clamp (show at_ + 61 + k < 2 ^ 31 by omega), nI_clamp (show k < 2 ^ 31 by omega)]
    refine ih (k + 1) _ (by omega) (fun i hi => ?_) (fun i hi => ?_) (fun i hi => ?_)
    · rw [st_ne hi, st_ne hi]; exact c1 i hi
    · rw [st_eq, upd_ne (by omega), st_eq, upd_ne (by omega)]; exact c2 i hi
    · rw [st_eq, st_eq, st_ne (show (10 : Nat) ≠ 1 by decide), c1 9 (by decide), c1 10 (by decide)]
      by_cases d : i = k
      · subst d
        rw [upd_ne (by omega), upd_eq, upd_eq]
        exact ⟨rfl, rfl⟩
      · rw [upd_ne (by omega), upd_ne (by omega), upd_ne (by omega), upd_ne (by omega)]
        exact c3 i (by omega)
def qX (B : Nat → Nat) (m u : Nat) : pS := qr B m (qo B m u 5) 5 (0, false, [])
theorem qX_es {m : Nat} : ES m (0, false, []) := ⟨Nat.zero_le _, fun _ => Nat.le_refl _⟩
theorem qX_gp (B : Nat → Nat) (m u : Nat) : (qX B m u).1 ≤ m ∧ ((qX B m u).2.1 = false → (qX B m u).2.2.length ≤ (qX B m u).1 ∧ okS (qX B m u).2.2) := by
  have gp := gp_qr (B := B) (gp_qo (B := B) (m := m) (u := u) 5) 5 (by omega) (0, false, []) rfl (Nat.zero_le _)
  refine ⟨gp.2.1, fun hb => ?_⟩
  obtain ⟨s, e1, e2, e3⟩ := gp.2.2 hb
  have e1' : (qX B m u).2.2 = s := e1
  rw [e1']
  exact ⟨e2, e3⟩
theorem rdsC {B : Nat → Nat} {m u : Nat} (hm : m ≤ 60) (hu : u < 2) (hB : ∀ i, i < m → B i < 256) {μ : vM} (h18 : ∀ i, i < m → μ 18 i = nI (B i)) {Q : Int32 → vM → Prop} (hQ : ∀ μ' : vM, (∀ j, j < 50 ∨ 53 ≤ j → μ' j = μ j) → ((qX B m u).2.1 = false → μ' 50 1 = nI (qX B m u).2.2.length ∧ ∀ i, i < (qX B m u).2.2.length → μ' 51 i = nI ((qX B m u).2.2.getD i 0)) → Q (if (qX B m u).2.1 = false ∧ (qX B m u).1 = m then -1 else nI (qX B m u).1) μ') : wp_X2_reads 50 18 60 (nI m) (nI u) Q μ := by
  unfold wp_X2_reads
  have z0 : (0 : Int32).toNatClampNeg = 0 := by decide
  rw [z0, nI_clamp (show m < 2 ^ 31 by omega)]
  refine ⟨by decide, by decide, nI_pos (by omega), by omega, by omega, _, rfl, _, rfl, _, rfl, _, rfl, _, rfl, Or.inl rfl, _, rfl, ?_⟩
  have rc := rankC (B := B) (m := m) (u := u) (μ0 := sa μ 52 (va_cpy (μ 18) (μ 52) 0 0 m)) (n := 13 * 5 + 2 + 32) hm hB (gp_qo 5) (oneC hm hu hB 5 (by omega) 32) 5 (by omega)
  have rc' := rc (0, false, []) (st (st (st (st (st (sa μ 52 (va_cpy (μ 18) (μ 52) 0 0 m)) 50 3 (nI m)) 50 4 (nI u)) 50 5 0) 50 1 0) 50 6 0) (fun μ39 => if (μ39 50 6) = 0 then if (μ39 50 5) = (μ39 50 3) then Q (-1 : Int32) μ39 else Q (μ39 50 5) μ39 else Q (μ39 50 5) μ39) rfl qX_es ?_ ?_
  · exact rc'
  · refine ⟨?_, ?_, ⟨0, by decide, ?_, fun _ => ⟨rfl, fun i hi => absurd hi (by omega)⟩⟩, ?_, ?_, fun i hi => ?_, fun j h1 h2 => ?_⟩
    · simp (disch := decide) only [st_eq, upd_eq, upd_ne]; rfl
    · simp (disch := decide) only [st_eq, upd_eq, upd_ne]; rfl
    · simp (disch := decide) only [st_eq, upd_eq, upd_ne]; rfl
    · simp (disch := decide) only [st_eq, upd_eq, upd_ne]
    · simp (disch := decide) only [st_eq, upd_eq, upd_ne]
    · simp (disch := decide) only [st_ne, sa_eq]
      rw [cpz hi]; exact h18 i hi
    · rw [st_ne h1, st_ne h1, st_ne h1, st_ne h1, st_ne h1]
  · intro μ' hP
    have hP' : PC B m u (sa μ 52 (va_cpy (μ 18) (μ 52) 0 0 m)) (qX B m u) μ' := hP
    have hX := (qX_gp B m u).1
    clear rc hP
    generalize qX B m u = X at *
    obtain ⟨p1, p2, ⟨k, p3, p4, p5⟩, p6, p7, p8, p9⟩ := hP'
    have fr : ∀ j, j < 50 ∨ 53 ≤ j → μ' j = μ j := fun j hj => by rw [p9 j (by omega) (by omega), sa_ne (by omega)]
    have hQ' := hQ μ' fr (fun hb => by
      obtain ⟨e1, e2⟩ := p5 hb
      rw [← e1]
      exact ⟨p4, e2⟩)
    rw [p1, p2, p6]
    by_cases c : X.2.1 = true
    · rw [if_neg (fun hh => by rw [c] at hh; exact absurd hh.1 (by decide))] at hQ'
      rw [if_pos c, if_neg (by decide : ¬ (1 : Int32) = 0)]
      exact hQ'
    · rw [if_neg c, if_pos rfl]
      by_cases d : X.1 = m
      · rw [if_pos ⟨ts_nt c, d⟩] at hQ'
        rw [if_pos (by rw [d])]
        exact hQ'
      · rw [if_neg (fun hh => d hh.2)] at hQ'
        rw [if_neg (fun hh => d (nI_inj (by omega) (by omega) hh))]
        exact hQ'
theorem txR {B : Nat → Nat} {m u : Nat} (hm : m ≤ 60) (hu : u < 2) (hB : ∀ i, i < m → B i < 256) {ν : vM} (h3 : ν 1 3 = nI m) (h59 : ∀ i, i < m → ν 1 (59 + i) = nI (B i)) {Q : vM → Prop} (hQ : ∀ ν', PR B m u ν 0 (qX B m u) ν' → Q ν') : wg_tx 60 0 0 Q (st (st (st (st (st ν 0 18 (nI u)) 0 14 0) 0 15 0) 0 16 0) 0 17 0) := by
  have rc := any_R (ν0 := ν) (n := 7 * 5 + 2 + 18) hm hB (gp_qo 5) (oneR hm hu hB 5 (by omega) 18)
  have rc' := rc (0, false, []) (st (st (st (st (st ν 0 18 (nI u)) 0 14 0) 0 15 0) 0 16 0) 0 17 0) Q rfl qX_es ?_ ?_
  · exact rc'
  · refine ⟨?_, ?_, ⟨0, by decide, ?_, fun _ => ⟨rfl, fun i hi => absurd hi (by omega)⟩⟩, ?_, ?_, ⟨?_, fun i hi => ?_⟩, fun j h1 h2 h3 => ?_, fun k hk => ?_⟩
    · simp (disch := decide) only [st_eq, upd_eq, upd_ne]; rfl
    · simp (disch := decide) only [st_eq, upd_eq, upd_ne]; rfl
    · simp (disch := decide) only [st_eq, upd_eq, upd_ne]; rfl
    · simp (disch := decide) only [st_eq, upd_eq, upd_ne]; rfl
    · simp (disch := decide) only [st_eq, upd_eq, upd_ne]
    · simp (disch := decide) only [st_ne]; exact h3
    · simp (disch := decide) only [st_ne]; exact h59 i hi
    · rw [st_ne h1, st_ne h1, st_ne h1, st_ne h1, st_ne h1]
    · simp (disch := omega) only [st_eq, upd_ne]
  · intro ν' hP
    exact hQ ν' hP
theorem t71_bad {u : Nat} {Q : Int32 → vM → Prop} {ν : vM} (hQ : Q ((-10 : Int32) - ν 0 15) (st (st ν 0 17 1) 1 3 0)) : wp_X7_text_71 (nI u) Q 1 ν := by
  unfold wp_X7_text_71
  refine ⟨Or.inr rfl, _, rfl, v3_, _, rfl, ?_⟩
  rw [t3_]
  have e17 : (st (st ν 0 17 1) 1 3 0) 0 17 = 1 := by rw [st_ne (by decide), st_eq, upd_eq]
  have e15 : (st (st ν 0 17 1) 1 3 0) 0 15 = ν 0 15 := by rw [st_ne (by decide), st_eq, upd_ne (by decide)]
  rw [e17, e15, if_neg (by decide)]
  exact hQ
theorem t71_ok {u n : Nat} (hu : u < 2) (hn : n ≤ 60) {Q : Int32 → vM → Prop} {ν : vM} (e14 : ν 0 14 = nI n) (hQ : ∀ m : vM, (∀ i, i ≠ 0 → i ≠ 1 → m i = ν i) → (∀ k, k ≠ 17 → m 0 k = ν 0 k) → (∀ i, i ≠ 3 → (i < 143 + 121 * u ∨ 143 + 121 * u + 121 ≤ i) → m 1 i = ν 1 i) → m 1 3 = 0 → m 1 (143 + 121 * u) = nI n → (∀ i, i < n → m 1 (143 + 121 * u + 1 + i) = ν 9 i ∧ m 1 (143 + 121 * u + 61 + i) = ν 10 i) → Q 1 m) : wp_X7_text_71 (nI u) Q 0 ν := by
  have ix : (143 : Int32) + 121 * nI u = nI (143 + 121 * u) := by
    show nI 143 + nI 121 * nI u = _; rw [nI_mul, nI_add]
  unfold wp_X7_text_71
  refine ⟨Or.inl rfl, _, rfl, v3_, _, rfl, ?_⟩
  rw [t3_]
  have e17 : (st (st ν 0 17 0) 1 3 0) 0 17 = 0 := by rw [st_ne (by decide), st_eq, upd_eq]
  have e14' : (st (st ν 0 17 0) 1 3 0) 0 14 = nI n := by rw [st_ne (by decide), st_eq, upd_ne (by decide)]; exact e14
  rw [e17, if_pos rfl]
  refine ⟨_, rfl, ?_⟩
  rw [ix, nI_clamp (by omega), e14']
  refine ⟨vp_in_nI (by omega) (by decide), _, rfl, n + 1, ?_⟩
  refine tcR (ν := st (st (st ν 0 17 0) 1 3 0) 1 (143 + 121 * u) (nI n)) (by omega) hn (by rw [st_ne (by decide)]; exact e14') (fun m c1 c2 c3 => ?_) n 0 _ (by omega) (fun i _ => rfl) (fun i _ => rfl) (fun i hi => absurd hi (by omega))
  refine hQ m (fun i h0 h1 => ?_) (fun k hk => ?_) (fun i h3 hi => ?_) ?_ ?_ (fun i hi => ?_)
  · rw [c1 i h1, st_ne h1, st_ne h1, st_ne h0]
  · rw [c1 0 (by decide), st_ne (by decide), st_ne (by decide), st_eq, upd_ne hk]
  · rw [c2 i (by omega), st_eq, upd_ne (by omega), st_eq, upd_ne h3, st_ne (by decide)]
  · rw [c2 3 (by omega), st_eq, upd_ne (by omega), st_eq, upd_eq]
  · rw [c2 _ (by omega), st_eq, upd_eq]
  · have := c3 i hi
    simp (disch := decide) only [st_ne] at this
    exact this
theorem law_same {μ ν μ' ν' : vM} {u : Nat} (hu : u < 2) (h : Rl μ ν) (c1 : μ' (12 + 3 * u) = μ (12 + 3 * u)) (c2 : μ' (13 + 3 * u) = μ (13 + 3 * u)) (hρ : ∀ i, i ≠ 3 → ν' 1 i = ν 1 i) : lw (12 + 3 * u) μ' (ν' 1) (143 + 121 * u) ∧ wf (ν' 1) (143 + 121 * u) := by
  obtain ⟨⟨w1, w2, w3, w4, w5, w6, w7⟩, a2, -⟩ := h
  obtain ⟨b1, b2, b3, b4, b5, b6, b7, b8, b9, b10⟩ := a2
  have hu' : u = 0 ∨ u = 1 := by omega
  rcases hu' with rfl | rfl
  · exact ⟨lw_cg w3 (by rw [c1]) c2 (fun i _ _ => hρ i (by omega)), wf_cg b9 (fun i _ _ => hρ i (by omega))⟩
  · exact ⟨lw_cg w4 (by rw [c1]) c2 (fun i _ _ => hρ i (by omega)), wf_cg b10 (fun i _ _ => hρ i (by omega))⟩
theorem text_u {μ ν : vM} {u r : Nat} (hu : u < 2) (hr : r = 12 + 3 * u) (h : Rl μ ν) : wp_X2_reads 50 18 60 (μ 1 5) (μ r 0) (fun r41 μ41 => ∃ μ50 : vM, μ50 = st μ41 1 5 (0 : Int32) ∧ if r41 < 0 then wp_X1_take r 51 60 (μ50 50 1) (fun μ77 => (∃ μ18 : vM, μ18 = st ν 0 18 (nI u) ∧ ∃ μ23 : vM, μ23 = st μ18 0 14 (0 : Int32) ∧ ∃ μ28 : vM, μ28 = st μ23 0 15 (0 : Int32) ∧ ∃ μ33 : vM, μ33 = st μ28 0 16 (0 : Int32) ∧ bz (0 : Int32) ∧ ∃ μ38 : vM, μ38 = st μ33 0 17 (0 : Int32) ∧ wg_tx 60 0 0 (fun μ42 => if (μ42 0 17) = 0 then vp_in (3 : Int32) 385 ∧ if (μ42 1 (3 : Int32).toNatClampNeg) ≤ (μ42 0 15) then wp_X7_text_71 (nI u) (fun r2 μ2 => 1 = r2 ∧ Rl μ77 μ2) (0 : Int32) μ42 else wp_X7_text_66 (nI u) (fun r2 μ2 => 1 = r2 ∧ Rl μ77 μ2) μ42 else wp_X7_text_66 (nI u) (fun r2 μ2 => 1 = r2 ∧ Rl μ77 μ2) μ42) μ38)) μ50 else (∃ μ18 : vM, μ18 = st ν 0 18 (nI u) ∧ ∃ μ23 : vM, μ23 = st μ18 0 14 (0 : Int32) ∧ ∃ μ28 : vM, μ28 = st μ23 0 15 (0 : Int32) ∧ ∃ μ33 : vM, μ33 = st μ28 0 16 (0 : Int32) ∧ bz (0 : Int32) ∧ ∃ μ38 : vM, μ38 = st μ33 0 17 (0 : Int32) ∧ wg_tx 60 0 0 (fun μ42 => if (μ42 0 17) = 0 then vp_in (3 : Int32) 385 ∧ if (μ42 1 (3 : Int32).toNatClampNeg) ≤ (μ42 0 15) then wp_X7_text_71 (nI u) (fun r2 μ2 => (-10 : Int32) - r41 = r2 ∧ Rl μ50 μ2) (0 : Int32) μ42 else wp_X7_text_66 (nI u) (fun r2 μ2 => (-10 : Int32) - r41 = r2 ∧ Rl μ50 μ2) μ42 else wp_X7_text_66 (nI u) (fun r2 μ2 => (-10 : Int32) - r41 = r2 ∧ Rl μ50 μ2) μ42) μ38)) μ := by
  obtain ⟨m, hm, em⟩ := h.2.1.2.2.2.2.2.1
  have hb8 := h.2.1.2.2.2.2.2.2.2.1
  have htp := h.1.2.2.2.2.1
  have hm60 : m ≤ 60 := by omega
  have hB : ∀ i, i < m → (fun i => (ν 1 (59 + i)).toNatClampNeg) i < 256 := fun i hi => by
    obtain ⟨v, hv, e⟩ := hb8 i (by omega)
    show (ν 1 (59 + i)).toNatClampNeg < 256
    rw [e, nI_clamp (by omega)]; exact hv
  have h59 : ∀ i, i < m → ν 1 (59 + i) = nI ((fun i => (ν 1 (59 + i)).toNatClampNeg) i) := fun i hi => by
    obtain ⟨v, hv, e⟩ := hb8 i (by omega)
    show ν 1 (59 + i) = nI (ν 1 (59 + i)).toNatClampNeg
    rw [e, nI_clamp (by omega)]
  generalize (fun i => (ν 1 (59 + i)).toNatClampNeg) = B at hB h59
  have h18 : ∀ i, i < m → μ 18 i = nI (B i) := fun i hi => by rw [← h59 i hi]; exact htp.2 i (by omega)
  have e5 : μ 1 5 = nI m := by rw [← em]; exact htp.1
  have er : μ r 0 = nI u := by
    have hn := h.2.2.2.2.2.2.2
    have hu' : u = 0 ∨ u = 1 := by omega
    rcases hu' with rfl | rfl
    · subst hr; exact hn.1
    · subst hr; exact hn.2.2.1
  rw [e5, er]
  refine rdsC hm60 hu hB h18 fun μ1 f1 f2 => ?_
  obtain ⟨g1, g2⟩ := qX_gp B m u
  refine ⟨_, rfl, ?_⟩
  by_cases c : (qX B m u).2.1 = false ∧ (qX B m u).1 = m
  · rw [if_pos c, if_pos (by decide : (-1 : Int32) < 0)]
    obtain ⟨k1, k2⟩ := f2 c.1
    obtain ⟨l1, l2⟩ := g2 c.1
    have e1 : (st μ1 1 5 0) 50 1 = nI (qX B m u).2.2.length := by rw [st_ne (by decide)]; exact k1
    refine sp_take (c := 51) (by omega) (n := (qX B m u).2.2.length) (by omega) e1 fun μ2 t1 t2 t3 t4 => ?_
    refine ⟨_, rfl, _, rfl, _, rfl, _, rfl, Or.inl rfl, _, rfl, ?_⟩
    refine txR hm60 hu hB em h59 fun ν1 hP => ?_
    obtain ⟨p1, p2, ⟨k, p3, p4, p5⟩, p6, p7, p8, p9, p10⟩ := hP
    obtain ⟨p51, p52⟩ := p5 c.1
    rw [p2, c.1, if_neg (by decide : ¬ false = true), if_pos rfl, t3_, p1, p8.1, c.2, if_pos (nI_le (Nat.le_refl _) (by omega))]
    refine ⟨v3_, t71_ok hu (n := k) p3 p4 fun ν2 q1 q2 q3 q4 q5 q6 => ⟨rfl, ?_⟩⟩
    refine rl_text hu h (fun j j1 j2 j3 j4 => ?_) (fun k hk => ?_) (fun k hk => ?_) ?_ (fun j j1 j2 j3 j4 => ?_) (fun k hk => ?_) (fun i i1 i2 => ?_) q4 ⟨?_, fun i i1 i2 => ?_⟩ (wf_of (L := (qX B m u).2.2) (by omega) ?_ l2 fun i hi => ?_)
    · rw [t4 j (by omega) (by omega), st_ne j2]; exact f1 j j1
    · rw [t4 1 (by omega) (by omega), st_eq, upd_ne hk, f1 1 (by omega)]
    · rw [← hr, t3 k hk, st_ne (by omega), f1 r (by omega)]
    · rw [t4 1 (by omega) (by omega), st_eq, upd_eq]
    · rw [q1 j j1 j2]; exact p9 j j1 j3 j4
    · rw [q2 k (by omega)]; exact p10 k hk
    · rw [q3 i i1 i2, p9 1 (by decide) (by decide) (by decide)]
    · rw [← hr, t1, q5, p51]
    · rw [q5] at i2
      have hik : i < k := (nI_ltI (by omega) (by omega)).mp i2
      rw [(q6 i hik).1, (q6 i hik).2, ← hr, t2 i (by omega), st_ne (by decide), k2 i (by omega)]
      exact p52 i hik
    · rw [q5, p51]
    · rw [(q6 i (by omega)).1, (q6 i (by omega)).2]
      exact p52 i (by omega)
  · rw [if_neg c, if_neg (nI_pos (by omega))]
    refine ⟨_, rfl, _, rfl, _, rfl, _, rfl, Or.inl rfl, _, rfl, ?_⟩
    refine txR hm60 hu hB em h59 fun ν1 hP => ?_
    obtain ⟨p1, p2, ⟨k, p3, p4, p5⟩, p6, p7, p8, p9, p10⟩ := hP
    have bad : wp_X7_text_66 (nI u) (fun r2 μ2 => (-10 : Int32) - nI (qX B m u).1 = r2 ∧ Rl (st μ1 1 5 0) μ2) ν1 := by
      unfold wp_X7_text_66
      refine t71_bad ?_
      rw [p1]
      have hρ : ∀ i, i ≠ 3 → (st (st ν1 0 17 1) 1 3 0) 1 i = ν 1 i := fun i hi => by
        rw [st_eq, upd_ne hi, st_ne (by decide), p9 1 (by decide) (by decide) (by decide)]
      have ls := law_same (ν' := st (st ν1 0 17 1) 1 3 0) (μ' := st μ1 1 5 0) hu h (by rw [st_ne (by omega), f1 _ (by omega)]) (by rw [st_ne (by omega), f1 _ (by omega)]) hρ
      refine ⟨rfl, rl_text hu h (fun j j1 j2 j3 j4 => ?_) (fun k hk => ?_) (fun k hk => ?_) ?_ (fun j j1 j2 j3 j4 => ?_) (fun k hk => ?_) (fun i i1 i2 => hρ i i1) ?_ ls.1 ls.2⟩
      · rw [st_ne j2]; exact f1 j j1
      · rw [st_eq, upd_ne hk, f1 1 (by omega)]
      · rw [st_ne (by omega), f1 _ (by omega)]
      · rw [st_eq, upd_eq]
      · rw [st_ne j2, st_ne j1]; exact p9 j j1 j3 j4
      · rw [st_ne (by decide), st_eq, upd_ne (by omega)]; exact p10 k hk
      · rw [st_eq, upd_eq]
    rw [p2, t3_, p1, p8.1]
    by_cases d : (qX B m u).2.1 = true
    · rw [if_pos d, if_neg (by decide : ¬ (1 : Int32) = 0)]
      exact bad
    · rw [if_neg d, if_pos rfl, if_neg (nI_ge (by
        have : (qX B m u).1 ≠ m := fun hh => c ⟨ts_nt d, hh⟩
        omega) (by omega))]
      exact ⟨v3_, bad⟩
theorem sm_text_ok : sm_text Rl := by
  intro a μ ν h
  unfold wp_X6_text wp_X7_text wp_X6_lawOf
  simp only [sp_isUse6, in7_1, e6_1, e7_1]
  by_cases c : rg a 2
  · obtain ⟨u, hu, rfl⟩ := rg_of c
    simp only [if_pos c, if_neg (by decide : ¬ (1 : Int32) = 0)]
    have hu' : u = 0 ∨ u = 1 := by omega
    rcases hu' with rfl | rfl
    · rw [if_pos (show nI 0 = 0 from rfl)]
      exact text_u hu rfl h
    · rw [if_neg (show ¬ nI 1 = 0 by decide)]
      exact text_u hu rfl h
  · simp only [if_neg c, if_true, true_and]; exact rl_err (by decide) h
