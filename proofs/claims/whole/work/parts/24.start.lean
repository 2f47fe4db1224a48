/-! THE START: what the Statement gives of it; the two objects are made; the law's loop -/
def tmS (i : Nat) : Term := Term.string (c_strs.getD i ("", 0, "")).1 (c_strs.getD i ("", 0, "")).2.1
def flS : List Cond := flatC (Jvm.Cond.and given_1 narrow_1)
theorem fS_ex : ∀ i, i < 10 → Cond.exactly (tmS i) "java/lang/String" ∈ flS := by decide +kernel
theorem fS_co : ∀ i, i < 10 → Cond.eq (.field (tmS i) "java/lang/String" "coder" "B") (.int 0) ∈ flS := by decide +kernel
theorem fS_ar : ∀ i, i < 10 → Cond.arrayOf (.field (tmS i) "java/lang/String" "value" "[B") .byte ∈ flS := by decide +kernel
theorem fS_le : ∀ i, i < 10 → Cond.eq (.length (.field (tmS i) "java/lang/String" "value" "[B")) (.int (Int32.ofNat (c_len.getD i 0))) ∈ flS := by decide +kernel
theorem fS_el : ∀ i, i < 10 → ∀ j, j < c_len.getD i 0 → Cond.eq (.elem (.field (tmS i) "java/lang/String" "value" "[B") (.int (Int32.ofNat j))) (.int ((c_byt.getD i []).getD j 0)) ∈ flS := by decide +kernel
theorem fS_ne : ∀ i, i < 10 → ∀ j, j < 10 → i ≠ j → (Cond.not (Cond.eq (tmS i) (tmS j)) ∈ flS ∨ Cond.not (Cond.eq (tmS j) (tmS i)) ∈ flS) := by decide +kernel
theorem fS_ln : ∀ i, i < 10 → c_len.getD i 0 < 2 ^ 31 := by decide +kernel
theorem fA_0 : Cond.arrayOf (.static "CrumbsHome" "ABOVE" "[I") .int ∈ flS ∧ Cond.eq (.length (.static "CrumbsHome" "ABOVE" "[I")) (.int (Int32.ofNat 7)) ∈ flS := by decide +kernel
theorem fA_e : ∀ j, j < 7 → Cond.eq (.elem (.static "CrumbsHome" "ABOVE" "[I") (.int (Int32.ofNat j))) (.int (c_ABOVE j)) ∈ flS := by decide +kernel
theorem fB_0 : Cond.arrayOf (.static "CrumbsHome" "BODIES" "[I") .int ∈ flS ∧ Cond.eq (.length (.static "CrumbsHome" "BODIES" "[I")) (.int (Int32.ofNat 28)) ∈ flS := by decide +kernel
theorem fB_e : ∀ j, j < 28 → Cond.eq (.elem (.static "CrumbsHome" "BODIES" "[I") (.int (Int32.ofNat j))) (.int (c_BODIES j)) ∈ flS := by decide +kernel
theorem fC_0 : Cond.eq (.static "java/lang/String" "COMPACT_STRINGS" "Z") (.int 1) ∈ flS := by decide +kernel
theorem fT_s : Cond.laysStatic "CrumbsHome" "ABOVE" "[I" ∈ tables_1 ∧ Cond.laysStatic "CrumbsHome" "BODIES" "[I" ∈ tables_1 ∧ Cond.laysStatic "java/lang/String" "COMPACT_STRINGS" "Z" ∈ tables_1 := by decide +kernel
theorem fT_r : ∀ i, i < 10 → Cond.stringRef (c_strs.getD i ("", 0, "")).1 (c_strs.getD i ("", 0, "")).2.1 (c_strs.getD i ("", 0, "")).2.2 ∈ tables_1 := by decide +kernel
theorem fT_f : ∀ q, q ∈ c_fn → Cond.fieldLinkNest q.1 q.2.1 q.2.2.1 q.2.2.2.1 q.2.2.2.2.1 q.2.2.2.2.2 ∈ tables_1 := by decide +kernel
theorem fT_m : ∀ q, q ∈ c_mn → Cond.methodLinkNest q.1 q.2.1 q.2.2.1 q.2.2.2 ∈ tables_1 := by decide +kernel
theorem gE_start {p : Program} {s : State} {m : MethodId} {meth : Method} {c : Code} {b L : Nat} {xs : Nat → Int32} (C0 : lw_At p s m meth c b L xs) : ∃ adS : Nat → Nat, ∀ G : vG, gS G = adS → (gA G = fun q : Nat => s.heap.size ≤ q) → gE G s s.heap := by
  obtain ⟨-, -, -, -, -, hts, -, -, -, hgv⟩ := C0
  have hs : ∀ w ∈ flS, w.before #[Value.ref b] s = true := flat_of_before _ hgv
  have ht : ∀ w ∈ tables_1, w.before #[Value.ref b] s = true := fun w h => hts w (gd_t h)
  have hg : ∀ w ∈ lw_gd, w.before #[Value.ref b] s = true := fun w h => hts w (gd_in w h)
  have hA : ∀ a : Nat, a < s.heap.size → ¬ (fun q : Nat => s.heap.size ≤ q) a := fun a h => Nat.not_le.mpr h
  obtain ⟨adK, adV, hK, hR⟩ := vk_Sof (N := 10) (tm := tmS) (len := c_len) (byt := c_byt) fS_ln (fun i hi => hs _ (fS_ex i hi)) (fun i hi => hs _ (fS_co i hi)) (fun i hi => hs _ (fS_ar i hi)) (fun i hi => hs _ (fS_le i hi)) (fun i hi j hj => hs _ (fS_el i hi j hj)) (fun i j hi hj hn => (fS_ne i hi j hj hn).imp (hs _) (hs _)) hA
  obtain ⟨tA, hA1, hA2⟩ := va_Tof (tm := .static "CrumbsHome" "ABOVE" "[I") (ty := .int) (N := 7) (f := fun k => .int (c_ABOVE k)) (by decide) (hs _ fA_0.1) (va_eqt (hs _ fA_0.2)) (fun j hj => va_eqt (hs _ (fA_e j hj))) hA
  obtain ⟨tB, hB1, hB2⟩ := va_Tof (tm := .static "CrumbsHome" "BODIES" "[I") (ty := .int) (N := 28) (f := fun k => .int (c_BODIES k)) (by decide) (hs _ fB_0.1) (va_eqt (hs _ fB_0.2)) (fun j hj => va_eqt (hs _ (fB_e j hj))) hA
  refine ⟨adK, fun G hS hGA => ?_⟩
  have hini : (Cond.initialized "CrumbsHome").before #[Value.ref b] s = true := hg _ ww_1_1
  have hini2 : (Cond.initialized "java/lang/String").before #[Value.ref b] s = true := hg _ ww_1_11
  unfold gE
  rw [hGA, hS]
  refine ⟨⟨tA, va_Zof (ht _ fT_s.1) hini hA1 hA, hA2⟩, ⟨tB, va_Zof (ht _ fT_s.2.1) hini hB1 hA, hB2⟩, ⟨adV, hK⟩, ?_, va_Zof (ht _ fT_s.2.2) hini2 (va_eqi (hs _ fC_0)) hA, ?_, ?_⟩
  · intro i q hq
    have hi : i < 10 := (List.getElem?_eq_some_iff.mp hq).1
    have hq2 : c_strs.getD i ("", 0, "") = q := by rw [List.getD_eq_getElem?_getD, hq]; rfl
    have h1 := ht _ (fT_r i hi)
    have h2 := hR i hi
    rw [tmS, hq2] at h2
    rw [hq2] at h1
    exact vk_R.of h1 h2
  · intro i q hq
    exact va_Nw.of rfl (ht _ (fT_f q (List.mem_of_getElem? hq)))
  · intro i q hq
    exact va_Nw.of rfl (ht _ (fT_m q (List.mem_of_getElem? hq)))
theorem vK_start {p : Program} {s : State} {m : MethodId} {meth : Method} {c : Code} {b L : Nat} {xs : Nat → Int32} (C0 : lw_At p s m meth c b L xs) : ∃ (D : va_G) (cA : ClassId), va_K D vwCl [(cA, .int)] s := by
  obtain ⟨-, -, -, -, -, hts, -, -, -, -⟩ := C0
  have hg : ∀ w ∈ lw_gd, w.before #[Value.ref b] s = true := fun w h => hts w (gd_in w h)
  obtain ⟨c0, i0, k0⟩ := u_known (C := RX0) (T := TX0) (N := 8) (n := 8) hg uX0 (hg _ ww_1_65)
  obtain ⟨c1, i1, k1⟩ := u_known (C := RX1) (T := TX1) (N := 5) (n := 5) hg uX1 (hg _ ww_1_107)
  obtain ⟨c2, i2, k2⟩ := u_known (C := RX2) (T := TX2) (N := 7) (n := 7) hg uX2 (hg _ ww_1_177)
  obtain ⟨c3, i3, k3⟩ := u_known (C := RX3) (T := TX3) (N := 2) (n := 2) hg uX3 (hg _ ww_1_32)
  obtain ⟨c4, i4, k4⟩ := u_known (C := RX4) (T := TX4) (N := 3) (n := 3) hg uX4 (hg _ ww_1_208)
  obtain ⟨c5, i5, k5⟩ := u_known (C := RX5) (T := TX5) (N := 9) (n := 9) hg uX5 (hg _ ww_1_26)
  obtain ⟨c6, i6, k6⟩ := u_known (C := RX6) (T := TX6) (N := 12) (n := 12) hg uX6 (hg _ ww_1_18)
  obtain ⟨c7, i7, k7⟩ := u_known (C := RX7) (T := TX7) (N := 23) (n := 23) hg uX7 (hg _ ww_4_46)
  obtain ⟨cA, kA, comp, h1, h2, h3⟩ := Cond.arrayClass_spec (hg _ ww_1_63)
  refine ⟨(fun k => if k = 0 then c0 else if k = 1 then c1 else if k = 2 then c2 else if k = 3 then c3 else if k = 4 then c4 else if k = 5 then c5 else if k = 6 then c6 else c7, fun k => if k = 0 then i0 else if k = 1 then i1 else if k = 2 then i2 else if k = 3 then i3 else if k = 4 then i4 else if k = 5 then i5 else if k = 6 then i6 else i7), cA, ?_, ?_⟩
  · intro k q hq
    match k, hq with
    | 0, hq => cases hq; exact k0
    | 1, hq => cases hq; exact k1
    | 2, hq => cases hq; exact k2
    | 3, hq => cases hq; exact k3
    | 4, hq => cases hq; exact k4
    | 5, hq => cases hq; exact k5
    | 6, hq => cases hq; exact k6
    | 7, hq => cases hq; exact k7
    | k + 8, hq => simp [vwCl] at hq
  · intro k q hq
    match k, hq with
    | 0, hq => cases hq; exact ⟨fun n z => ⟨fun k h => (by cases h), kA, h2, comp, h3⟩, h1⟩
    | k + 1, hq => simp at hq
theorem mw_addr {G : vG} {μ : vM} {k : Nat} {q : Nat × va_E} (h : (mw G μ)[k]? = some q) : k < gN G ∧ q.1 = ga G k := by
  have hl : k < gN G := by
    have := (List.getElem?_eq_some_iff.mp h).1
    simpa [mw] using this
  rw [mw_get hl] at h
  cases h
  exact ⟨hl, rfl⟩
theorem isX6_tl {D : va_G} {cA : ClassId} {ad adS : Nat → Nat} {A : Nat → Prop} : isX6 (gk D cA ad adS tl6 A) := by
  simp only [isX6, isX5, isX0, isX1, isX2, isX3, isX4]
  refine ⟨rfl, ⟨rfl, ⟨rfl, rfl, rfl, Nat.le_of_ble_eq_true rfl⟩, ⟨rfl, rfl, rfl, rfl, rfl, rfl, rfl, Nat.le_of_ble_eq_true rfl⟩, ⟨rfl, rfl, rfl, Nat.le_of_ble_eq_true rfl⟩, ⟨rfl, rfl, rfl, Nat.le_of_ble_eq_true rfl⟩, rfl, rfl, Nat.le_of_ble_eq_true rfl⟩, ⟨rfl, ⟨rfl, rfl, rfl, Nat.le_of_ble_eq_true rfl⟩, ⟨rfl, rfl, rfl, rfl, rfl, rfl, rfl, Nat.le_of_ble_eq_true rfl⟩, ⟨rfl, rfl, rfl, Nat.le_of_ble_eq_true rfl⟩, ⟨rfl, rfl, rfl, Nat.le_of_ble_eq_true rfl⟩, rfl, rfl, Nat.le_of_ble_eq_true rfl⟩, ⟨rfl, rfl, rfl, rfl, rfl, rfl, rfl, Nat.le_of_ble_eq_true rfl⟩, ⟨rfl, rfl, rfl, Nat.le_of_ble_eq_true rfl⟩, rfl, ⟨rfl, rfl, rfl, Nat.le_of_ble_eq_true rfl⟩, ⟨rfl, rfl, rfl, rfl, Nat.le_of_ble_eq_true rfl⟩, rfl, rfl, Nat.le_of_ble_eq_true rfl⟩
theorem isX7_tl {D : va_G} {cA : ClassId} {ad adS : Nat → Nat} {A : Nat → Prop} : isX7 (gk D cA ad adS tl7 A) := by
  simp only [isX7]
  exact ⟨rfl, rfl, rfl, rfl, rfl, rfl, rfl, rfl, rfl, rfl, rfl, rfl, rfl, rfl, rfl, Nat.le_of_ble_eq_true rfl⟩
set_option maxRecDepth 100000 in
set_option maxHeartbeats 4000000 in
theorem start_of {Rl : vM → vM → Prop} (hsm : sm Rl) (hini : wp_X3_measure 0 (fun ν1 => wp_X3_measure 0 (fun ν2 => wp_X3_measure 0 (fun ν3 => Rl (m0_X6 (m0_X5 ν1) (m0_X5 ν2) ν3) m0_X7) m0_X3) m0_X3) m0_X3) {p : Program} {e : Env} {s : State} {m : MethodId} {below : List Frame} {meth : Method} {c : Code} (l : Launch) {b L : Nat} {xs : Nat → Int32} (hL : L ≤ 3072) (C0 : lw_At p s m meth c b L xs) : W p l e room_1 s m #[Value.ref b] below meth c s.heap [] 0 0 (lw_Z below #[Value.ref b] s) (entryFrame m ([Value.ref b] : List Value).toArray 4) := by
  obtain ⟨adS, hEs⟩ := gE_start C0
  obtain ⟨D, cA, hK⟩ := vK_start C0
  obtain ⟨hx, hb, hr, hml, hown, hts, hX, hbl, hlocks, hgv⟩ := id C0
  have hg : ∀ w ∈ lw_gd, w.before #[Value.ref b] s = true := fun w h => hts w (gd_in w h)
  have X : ctx_i (gk D cA (fun _ => 0) adS [] (fun q : Nat => s.heap.size ≤ q)) D cA (fun q : Nat => s.heap.size ≤ q) p s m #[Value.ref b] meth c cL_law 4 RL := ⟨hx, hb, hml, hown, hg, hK, hEs _ rfl rfl, fun _ h => h, fun _ h => h⟩
  have h : ib (fun q : Nat => s.heap.size ≤ q) D s [] s.heap [] := ⟨fun k q h => by simp at h, ⟨fun i j p q h => by simp at h, fun k q h => by simp at h⟩, va_S.rf⟩
  have hl := lv_entry ([.ref b]) (n := 4) (Nat.le_of_ble_eq_true rfl)
  rw [lg_entry_eq]
  generalize (lg_sl ([.ref b]) ++ List.replicate (4 - (lg_sl ([.ref b])).length) Slot.unset).toArray = ls at hl ⊢
  have hl : lv_has ls 4 [(0, .ref b)] := hl
  refine i_new (ci := 6) (fs := [.null, .null, .int 0, .null, .null, .null, .null, .null, .null, .null, .int 0, .int 0]) X h rfl uX6 tyX6 tyX6_ok ww_1_17 ww_1_18 ww_1_1 (fun j hj => by rcases (show j = 0 ∨ j = 1 ∨ j = 2 ∨ j = 3 ∨ j = 4 ∨ j = 5 ∨ j = 6 ∨ j = 7 ∨ j = 8 ∨ j = 9 ∨ j = 10 ∨ j = 11 by omega) with rfl | rfl | rfl | rfl | rfl | rfl | rfl | rfl | rfl | rfl | rfl | rfl <;> rfl) (Nat.le_of_ble_eq_true rfl) (Nat.le_of_ble_eq_true rfl) dL_law_0 (fun q0 H h => ?_)
  refine W.widen (k := 1) (n := 12) (Nat.le_of_ble_eq_true rfl) (Nat.le_of_ble_eq_true rfl) ?_
  refine lv_dup hx hb dL_law_3 rfl ?_
  refine i_call (wr := []) (as := []) (rest := [.ref q0]) X hl.1 h rfl (ci_X6 l (gk D cA (fun _ => 0) adS [] (fun q : Nat => s.heap.size ≤ q)) D cA q0 H.size (fun r hr => i_free h (wr := []) rfl (fun _ h => h) r hr) (fun μC => Rl μC m0_X7) hini) ww_1_21 rfl rfl ww_1_1 ww_1_19 ww_1_20 rfl ⟨by decide, by decide, by show _ = some 0; decide +kernel⟩ ⟨Nat.le_of_ble_eq_true rfl, Nat.le_of_ble_eq_true rfl⟩ rfl (Nat.le_of_ble_eq_true rfl) dL_law_4 ⟨Nat.le_of_ble_eq_true rfl, Nat.le_of_ble_eq_true rfl⟩ (fun adC μC H1 locs1 e0 hR hn => ?_)
  subst e0
  refine W.widen (k := 59) (n := 1469) (Nat.le_of_ble_eq_true rfl) (Nat.le_of_ble_eq_true rfl) ?_
  refine lv_astore_n (lv' := [(1, .ref (adC 0)), (0, .ref b)]) hx hb dL_law_7 rfl hl (by decide) rfl (fun ls hl => ?_)
  refine i_new (ci := 7) (fs := [.null, .null, .null, .int 0, .null, .null, .null, .null, .null, .int 0, .null, .null, .null, .null, .int 0, .int 0, .int 0, .int 0, .int 0, .null, .null, .int 0, .int 0]) X hn rfl uX7 tyX7 tyX7_ok ww_4_45 ww_4_46 ww_1_9 (fun j hj => by rcases (show j = 0 ∨ j = 1 ∨ j = 2 ∨ j = 3 ∨ j = 4 ∨ j = 5 ∨ j = 6 ∨ j = 7 ∨ j = 8 ∨ j = 9 ∨ j = 10 ∨ j = 11 ∨ j = 12 ∨ j = 13 ∨ j = 14 ∨ j = 15 ∨ j = 16 ∨ j = 17 ∨ j = 18 ∨ j = 19 ∨ j = 20 ∨ j = 21 ∨ j = 22 by omega) with rfl | rfl | rfl | rfl | rfl | rfl | rfl | rfl | rfl | rfl | rfl | rfl | rfl | rfl | rfl | rfl | rfl | rfl | rfl | rfl | rfl | rfl | rfl <;> rfl) (Nat.le_of_ble_eq_true rfl) (Nat.le_of_ble_eq_true rfl) dL_law_8 (fun q1 H2 h2 => ?_)
  refine W.widen (k := 60) (n := 1492) (Nat.le_of_ble_eq_true rfl) (Nat.le_of_ble_eq_true rfl) ?_
  refine lv_dup hx hb dL_law_11 rfl ?_
  refine i_call (as := []) (rest := [.ref q1]) X hl.1 h2 rfl (ci_X7 l (gk D cA (fun _ => 0) adS [] (fun q : Nat => s.heap.size ≤ q)) D cA q1 H2.size (fun r hr => i_free h2 rfl (fun _ h => h) r hr) (fun μR => μR = m0_X7) rfl) ww_4_49 rfl rfl ww_1_9 ww_4_47 ww_4_48 rfl ⟨by decide, by decide, by show _ = some 0; decide +kernel⟩ ⟨Nat.le_of_ble_eq_true rfl, Nat.le_of_ble_eq_true rfl⟩ rfl (Nat.le_of_ble_eq_true rfl) dL_law_12 ⟨Nat.le_of_ble_eq_true rfl, Nat.le_of_ble_eq_true rfl⟩ (fun adR μR H3 locs3 e1 hR7 h3 => ?_)
  subst e1
  subst hR7
  refine W.widen (k := 600000) (n := 7302249) (Nat.le_of_ble_eq_true rfl) (Nat.le_of_ble_eq_true rfl) ?_
  refine lv_astore_n (lv' := [(2, .ref (adR 0)), (1, .ref (adC 0)), (0, .ref b)]) hx hb dL_law_15 rfl hl (by decide) rfl (fun ls hl => ?_)
  refine lv_iconst (v := 0) hx hb dL_law_16 (by decide) ?_
  refine lv_istore_n (lv' := [(3, .int 0), (2, .ref (adR 0)), (1, .ref (adC 0)), (0, .ref b)]) hx hb dL_law_17 rfl hl (by decide) rfl (fun ls hl => ?_)
  obtain ⟨hP, hD, hS⟩ := h3
  have hP : va_P D vwCl (([] : va_W) ++ mw (gk D cA adC adS tl6 (fun _ => True)) μC ++ mw (gk D cA adR adS tl7 (fun _ => True)) m0_X7) H3 := hP
  have hD : va_D (fun q : Nat => s.heap.size ≤ q) (([] : va_W) ++ mw (gk D cA adC adS tl6 (fun _ => True)) μC ++ mw (gk D cA adR adS tl7 (fun _ => True)) m0_X7) := hD
  have len : (mw (gk D cA adC adS tl6 (fun _ => True)) μC).length = 59 := by simp [mw]; rfl
  generalize hTC : (fun q : Nat => ∃ j, j < 59 ∧ q = adC j) = TC
  generalize hTR : (fun q : Nat => ∃ j, j < 15 ∧ q = adR j) = TR
  have hPC : va_P D vwCl (mw (gk D cA adC adS tl6 TC) μC) H3 := by
    rw [gk_at (B := fun _ => True)]
    intro k q hk
    exact hP k q (by rw [List.nil_append, List.getElem?_append_left (List.getElem?_eq_some_iff.mp hk).1]; exact hk)
  have hPR : va_P D vwCl (mw (gk D cA adR adS tl7 TR) m0_X7) H3 := by
    rw [gk_at (B := fun _ => True)]
    intro k q hk
    exact hP (59 + k) q (by rw [List.nil_append, List.getElem?_append_right (by rw [len]; exact Nat.le_add_right _ _), len, Nat.add_sub_cancel_left]; exact hk)
  have atC : ∀ j, j < 59 → ∃ en, (([] : va_W) ++ mw (gk D cA adC adS tl6 (fun _ => True)) μC ++ mw (gk D cA adR adS tl7 (fun _ => True)) m0_X7)[j]? = some (adC j, en) := by
    intro j hj
    refine ⟨me (gk D cA adC adS tl6 (fun _ => True)) (gt (gk D cA adC adS tl6 (fun _ => True)) j) (μC j), ?_⟩
    rw [List.nil_append, List.getElem?_append_left (by rw [len]; exact hj)]
    exact mw_get (G := gk D cA adC adS tl6 (fun _ => True)) hj
  have atR : ∀ j, j < 15 → ∃ en, (([] : va_W) ++ mw (gk D cA adC adS tl6 (fun _ => True)) μC ++ mw (gk D cA adR adS tl7 (fun _ => True)) m0_X7)[59 + j]? = some (adR j, en) := by
    intro j hj
    refine ⟨me (gk D cA adR adS tl7 (fun _ => True)) (gt (gk D cA adR adS tl7 (fun _ => True)) j) (m0_X7 j), ?_⟩
    rw [List.nil_append, List.getElem?_append_right (by rw [len]; exact Nat.le_add_right _ _), len, Nat.add_sub_cancel_left]
    exact mw_get (G := gk D cA adR adS tl7 (fun _ => True)) hj
  have injC : ∀ i j, i < 59 → j < 59 → adC i = adC j → i = j := by
    intro i j hi hj he
    obtain ⟨e1, h1⟩ := atC i hi
    obtain ⟨e2, h2⟩ := atC j hj
    exact hD.1 i j _ _ h1 h2 he
  have injR : ∀ i j, i < 15 → j < 15 → adR i = adR j → i = j := by
    intro i j hi hj he
    obtain ⟨e1, h1⟩ := atR i hi
    obtain ⟨e2, h2⟩ := atR j hj
    have := hD.1 (59 + i) (59 + j) _ _ h1 h2 he
    omega
  have apart : ∀ i j, i < 59 → j < 15 → adC i ≠ adR j := by
    intro i j hi hj he
    obtain ⟨e1, h1⟩ := atC i hi
    obtain ⟨e2, h2⟩ := atR j hj
    have := hD.1 i (59 + j) _ _ h1 h2 he
    omega
  have inC : ∀ j, j < 59 → s.heap.size ≤ adC j := by
    intro j hj
    obtain ⟨e1, h1⟩ := atC j hj
    exact hD.2 j _ h1
  have inR : ∀ j, j < 15 → s.heap.size ≤ adR j := by
    intro j hj
    obtain ⟨e1, h1⟩ := atR j hj
    exact hD.2 _ _ h1
  have AC : ∀ q, TC q → s.heap.size ≤ q := by
    subst hTC; rintro q ⟨j, hj, rfl⟩; exact inC j hj
  have AR : ∀ q, TR q → s.heap.size ≤ q := by
    subst hTR; rintro q ⟨j, hj, rfl⟩; exact inR j hj
  have LX : lx (gk D cA adC adS tl6 TC) (gk D cA adR adS tl7 TR) p s m meth c b L xs := by
    refine ⟨hx, hb, hml, hown, hg, hr, hlocks, hX, hbl, hL, ⟨hK, hK, ⟨injC, ?_⟩, ⟨injR, ?_⟩, ?_, ?_, isX6_tl, isX7_tl⟩, AC, AR, ?_, ?_⟩
    · intro j hj; subst hTC; exact ⟨j, hj, rfl⟩
    · intro j hj; subst hTR; exact ⟨j, hj, rfl⟩
    · exact gE_nar (G := gk D cA (fun _ => 0) adS [] (fun q : Nat => s.heap.size ≤ q)) rfl AC (hEs _ rfl rfl)
    · exact gE_nar (G := gk D cA (fun _ => 0) adS [] (fun q : Nat => s.heap.size ≤ q)) rfl AR (hEs _ rfl rfl)
    · intro j hj hq
      subst hTR
      obtain ⟨i, hi, he⟩ := hq
      exact apart j i hj hi he
    · intro j hj hq
      subst hTC
      obtain ⟨i, hi, he⟩ := hq
      exact apart i j hi hj he.symm
  exact law_loop LX hsm (L + 7) 0 (by omega) (by omega) ls 0 μC m0_X7 H3 locs3 nI_0.symm ⟨hPC, hPR, hS⟩ (lv_sub hl [3, 2, 1, 0] rfl) hR
