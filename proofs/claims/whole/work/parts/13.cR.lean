def wp_X2_signsOf (a0 : Int32) (Q : Int32 → vM → Prop) (μ : vM) : Prop := if a0 = (0 : Int32) then Q (3 : Int32) μ else if a0 = (1 : Int32) then Q (4 : Int32) μ else if a0 = (2 : Int32) then Q (5 : Int32) μ else if a0 = (3 : Int32) then Q (6 : Int32) μ else Q (7 : Int32) μ
set_option maxRecDepth 100000 in
set_option maxHeartbeats 4000000 in
theorem c_X2_signsOf (l : Launch) (G : vG) (hG : gO G) (a0 : Int32)  (Q : Int32 → vM → Prop) (μ : vM) (hw : wp_X2_signsOf a0 Q μ) : mt l G yX2_signsOf vX2_signsOf { frames := 0, cells := 0, slots := 0, locals := 0 } [.int a0] μ (qS G Q) := by
  refine met_of (cc := cX2_signsOf) (maxL := 1) (ret := (some (.object "java/lang/String"))) RX2 (by decide) rfl rfl hG (Nat.le_of_ble_eq_true rfl) ?_
  intro p e s m below meth c X h ls hl
  have hl : lv_has ls 1 [(0, .int a0)] := hl
  have hx := X.1
  have hb := X.2.1
  unfold wp_X2_signsOf at hw
  refine lv_iload_n hx hb dX2_signsOf_0 rfl (lv_at hl 0 rfl) ?_
  by_cases hc0 : a0 = (0 : Int32)
  · rw [if_pos hc0] at hw
    refine lv_tableIn (off := 31) (tgt := 32) hx hb dX2_signsOf_1 (by rw [hc0]; decide) (by rw [hc0]; decide) (by rw [hc0]; rfl) (by decide) ?_
    refine r_ldcV (v := (3 : Int32)) (i := 3) X (by decide) rfl dX2_signsOf_32 ?_
    exact r_sret X h hw dX2_signsOf_34
  · rw [if_neg hc0] at hw
    by_cases hc1 : a0 = (1 : Int32)
    · rw [if_pos hc1] at hw
      refine lv_tableIn (off := 34) (tgt := 35) hx hb dX2_signsOf_1 (by rw [hc1]; decide) (by rw [hc1]; decide) (by rw [hc1]; rfl) (by decide) ?_
      refine r_ldcV (v := (4 : Int32)) (i := 4) X (by decide) rfl dX2_signsOf_35 ?_
      exact r_sret X h hw dX2_signsOf_37
    · rw [if_neg hc1] at hw
      by_cases hc2 : a0 = (2 : Int32)
      · rw [if_pos hc2] at hw
        refine lv_tableIn (off := 37) (tgt := 38) hx hb dX2_signsOf_1 (by rw [hc2]; decide) (by rw [hc2]; decide) (by rw [hc2]; rfl) (by decide) ?_
        refine r_ldcV (v := (5 : Int32)) (i := 5) X (by decide) rfl dX2_signsOf_38 ?_
        exact r_sret X h hw dX2_signsOf_40
      · rw [if_neg hc2] at hw
        by_cases hc3 : a0 = (3 : Int32)
        · rw [if_pos hc3] at hw
          refine lv_tableIn (off := 40) (tgt := 41) hx hb dX2_signsOf_1 (by rw [hc3]; decide) (by rw [hc3]; decide) (by rw [hc3]; rfl) (by decide) ?_
          refine r_ldcV (v := (6 : Int32)) (i := 6) X (by decide) rfl dX2_signsOf_41 ?_
          exact r_sret X h hw dX2_signsOf_43
        · rw [if_neg hc3] at hw
          refine lv_tableOut (tgt := 44) hx hb dX2_signsOf_1 (by have q0 := lv_neT hc0 (a := 0) (by decide); have q1 := lv_neT hc1 (a := 1) (by decide); have q2 := lv_neT hc2 (a := 2) (by decide); have q3 := lv_neT hc3 (a := 3) (by decide); omega) (by decide) ?_
          refine r_ldcV (v := (7 : Int32)) (i := 7) X (by decide) rfl dX2_signsOf_44 ?_
          exact r_sret X h hw dX2_signsOf_46
def wp_X2_isNextOf_32 (j : Nat) (a1 : Int32) (Q : Int32 → vM → Prop)  (μ : vM) : Prop := Q (0 : Int32) μ
def wp_X2_isNextOf (j : Nat) (a1 : Int32) (Q : Int32 → vM → Prop) (μ : vM) : Prop := if (μ j 3) ≤ (μ j 5) then wp_X2_isNextOf_32 j a1 Q μ else vp_in (μ j 5) 60 ∧ ∃ r22 : Int32, r22 = c_ix a1 (((μ (j + 2) (μ j 5).toNatClampNeg).toUInt32 % 65536).toInt32) ∧ (0 ≤ a1 ∧ a1 < 10) ∧ if r22 < 0 then wp_X2_isNextOf_32 j a1 Q μ else Q (1 : Int32) μ
set_option maxRecDepth 100000 in
set_option maxHeartbeats 4000000 in
theorem c_X2_isNextOf (l : Launch) (G : vG) (hG : gO G) (j : Nat) (a1 : Int32) (h0 : isX2 G j) (Q : Int32 → vM → Prop) (μ : vM) (hw : wp_X2_isNextOf j a1 Q μ) : mt l G yX2_isNextOf vX2_isNextOf { frames := 20, cells := 0, slots := 0, locals := 600 } [.ref (ga G j), .ref (gS G (a1).toNatClampNeg)] μ (qI G Q) := by
  refine met_of (cc := cX2_isNextOf) (maxL := 2) (ret := (some .boolean)) RX2 (by decide) rfl rfl hG (Nat.le_of_ble_eq_true rfl) ?_
  intro p e s m below meth c X h ls hl
  have hl : lv_has ls 2 [(0, .ref (ga G j)), (1, .ref (gS G (a1).toNatClampNeg))] := hl
  have hx := X.1
  have hb := X.2.1
  unfold wp_X2_isNextOf at hw
  refine lv_aload_n hx hb dX2_isNextOf_0 rfl (lv_at hl 0 rfl) ?_
  refine r_getI X h (X2_o h0) rfl uX2 5 (by decide) lf_1_190 rfl dX2_isNextOf_1 ?_
  refine lv_aload_n hx hb dX2_isNextOf_4 rfl (lv_at hl 0 rfl) ?_
  refine r_getI X h (X2_o h0) rfl uX2 3 (by decide) lf_1_188 rfl dX2_isNextOf_5 ?_
  have s32 : ∀  (μ : vM), ∀ (H : Heap) (locs : List Loc) (ls : Array Slot), bw G s μ H locs → lv_has ls 2 [] → wp_X2_isNextOf_32 j a1 Q μ → W p l e ({ frames := 20, cells := 0, slots := 0, locals := 600 } : Room) s m ([.ref (ga G j), .ref (gS G (a1).toNatClampNeg)] : List Value).toArray below meth c H locs 0 0 (MQ below (qI G Q) ([.ref (ga G j), .ref (gS G (a1).toNatClampNeg)] : List Value).toArray s 0 0 (gA G)) (F0 m 32 ls []) := by
    intro  μ H locs ls h hl hw
    unfold wp_X2_isNextOf_32 at hw
    refine lv_iconst (v := (0 : Int32)) hx hb dX2_isNextOf_32 (by decide) ?_
    exact r_zret X h (Or.inl rfl) hw dX2_isNextOf_33
  refine lv_icmp_ge (tgt := 32) hx hb dX2_isNextOf_8 (by decide) (fun hc => ?_) (fun hc => ?_)
  · rw [if_pos hc] at hw
    exact s32 μ _ _ _ h (lv_sub hl [] rfl) hw
  · rw [if_neg hc] at hw
    refine lv_aload_n hx hb dX2_isNextOf_11 rfl (lv_at hl 1 rfl) ?_
    refine lv_aload_n hx hb dX2_isNextOf_12 rfl (lv_at hl 0 rfl) ?_
    refine r_getR (q := (j + 2)) X h (X2_o h0) rfl uX2 2 (by decide) lf_1_187 rfl dX2_isNextOf_13 ?_
    refine lv_aload_n hx hb dX2_isNextOf_16 rfl (lv_at hl 0 rfl) ?_
    refine r_getI X h (X2_o h0) rfl uX2 5 (by decide) lf_1_190 rfl dX2_isNextOf_17 ?_
    obtain ⟨hi, hw⟩ := hw
    refine r_ald X h (X2_tape h0) hi dX2_isNextOf_20 ?_
    refine lv_i2c hx hb dX2_isNextOf_21 rfl ?_
    obtain ⟨r22, er22, hs, hw⟩ := hw
    refine r_ix X h hl.1 er22 hs ww_2_183 dX2_isNextOf_22 (Nat.le_of_ble_eq_true rfl) (Nat.le_of_ble_eq_true rfl) (Nat.le_of_ble_eq_true rfl) (Nat.le_of_ble_eq_true rfl) (Nat.le_of_ble_eq_true rfl) (fun H locs h => ?_)
    refine lv_if_lt (tgt := 32) hx hb dX2_isNextOf_25 (by decide) (fun hc => ?_) (fun hc => ?_)
    · rw [if_pos hc] at hw
      exact s32 μ _ _ _ h (lv_sub hl [] rfl) hw
    · rw [if_neg hc] at hw
      refine lv_iconst (v := (1 : Int32)) hx hb dX2_isNextOf_28 (by decide) ?_
      refine lv_goto (tgt := 33) hx hb dX2_isNextOf_29 (by decide) ?_
      exact r_zret X h (Or.inr rfl) hw dX2_isNextOf_33
def wp_X2_write (j : Nat) (a1 : Int32) (Q : vM → Prop) (μ : vM) : Prop := if (60 : Int32) ≤ (μ j 1) then Q μ else vp_in (μ j 1) 60 ∧ ∃ μ21 : vM, μ21 = st μ (j + 1) (μ j 1).toNatClampNeg a1 ∧ ∃ μ29 : vM, μ29 = st μ21 j 1 ((μ21 j 1) + (1 : Int32)) ∧ Q μ29
set_option maxRecDepth 100000 in
set_option maxHeartbeats 4000000 in
theorem c_X2_write (l : Launch) (G : vG) (hG : gO G) (j : Nat) (a1 : Int32) (h0 : isX2 G j) (Q : vM → Prop) (μ : vM) (hw : wp_X2_write j a1 Q μ) : mt l G yX2_write vX2_write { frames := 0, cells := 0, slots := 0, locals := 0 } [.ref (ga G j), .int a1] μ (qV G Q) := by
  refine met_of (cc := cX2_write) (maxL := 2) (ret := none) RX2 (by decide) rfl rfl hG (Nat.le_of_ble_eq_true rfl) ?_
  intro p e s m below meth c X h ls hl
  have hl : lv_has ls 2 [(0, .ref (ga G j)), (1, .int a1)] := hl
  have hx := X.1
  have hb := X.2.1
  unfold wp_X2_write at hw
  refine lv_aload_n hx hb dX2_write_0 rfl (lv_at hl 0 rfl) ?_
  refine r_getI X h (X2_o h0) rfl uX2 1 (by decide) lf_1_185 rfl dX2_write_1 ?_
  refine lv_aload_n hx hb dX2_write_4 rfl (lv_at hl 0 rfl) ?_
  refine r_getR (q := (j + 1)) X h (X2_o h0) rfl uX2 0 (by decide) lf_1_183 rfl dX2_write_5 ?_
  refine r_alen X h (X2_code h0) (v := (60 : Int32)) (by decide) dX2_write_8 ?_
  refine lv_icmp_ge (tgt := 32) hx hb dX2_write_9 (by decide) (fun hc => ?_) (fun hc => ?_)
  · rw [if_pos hc] at hw
    exact r_vret X h hw dX2_write_32
  · rw [if_neg hc] at hw
    refine lv_aload_n hx hb dX2_write_12 rfl (lv_at hl 0 rfl) ?_
    refine r_getR (q := (j + 1)) X h (X2_o h0) rfl uX2 0 (by decide) lf_1_183 rfl dX2_write_13 ?_
    refine lv_aload_n hx hb dX2_write_16 rfl (lv_at hl 0 rfl) ?_
    refine r_getI X h (X2_o h0) rfl uX2 1 (by decide) lf_1_185 rfl dX2_write_17 ?_
    refine lv_iload_n hx hb dX2_write_20 rfl (lv_at hl 1 rfl) ?_
    obtain ⟨hi, μ21, eμ21, hw⟩ := hw
    refine r_ast X h (X2_code h0) hi eμ21 dX2_write_21 (fun H locs h => ?_)
    refine lv_aload_n hx hb dX2_write_22 rfl (lv_at hl 0 rfl) ?_
    refine lv_dup hx hb dX2_write_23 rfl ?_
    refine r_getI X h (X2_o h0) rfl uX2 1 (by decide) lf_1_185 rfl dX2_write_24 ?_
    refine lv_iconst (v := (1 : Int32)) hx hb dX2_write_27 (by decide) ?_
    refine lv_iadd hx hb dX2_write_28 ?_
    obtain ⟨μ29, eμ29, hw⟩ := hw
    refine r_putI X h (X2_o h0) rfl uX2 tyX2 tyX2_ok nmX2 1 (by decide) lf_1_185 rfl rfl rfl  eμ29 dX2_write_29 (fun H locs h => ?_)
    exact r_vret X h hw dX2_write_32
def wp_X2_readJoined_29 (rec : Nat → Int32 → Int32 → (vM → Prop) → vM → Prop) (j : Nat) (a1 : Int32) (a2 : Int32) (Q : vM → Prop) : Nat → Int32 → Int32 → Int32 → vM → Prop
  | 0, _, _, _, _ => False
  | n29 + 1, x3, x4, x5, μ => if x4 ≤ x5 then Q μ else if (μ j 6) = 0 then wp_X2_isNextOf j x3 (fun r45 μ45 => if r45 = 0 then Q μ45 else vp_in (μ45 j 5) 60 ∧ ∃ x6_60 : Int32, x6_60 = μ45 (j + 2) (μ45 j 5).toNatClampNeg ∧ ∃ μ69 : vM, μ69 = st μ45 j 5 ((μ45 j 5) + (1 : Int32)) ∧ rec 0 (a1 + (1 : Int32)) a2 (fun μ77 => wp_X2_write j ((20000 : Int32) + x6_60) (fun μ87 => ∃ x5_90 : Int32, x5_90 = x5 + (1 : Int32) ∧ wp_X2_readJoined_29 rec j a1 a2 Q n29 x3 x4 x5_90 μ87) μ77) μ69) μ else Q μ
def wp_X2_readJoined_24 (rec : Nat → Int32 → Int32 → (vM → Prop) → vM → Prop) (j : Nat) (a1 : Int32) (a2 : Int32) (Q : vM → Prop) (x3 : Int32) (t0 : Int32) (μ : vM) : Prop := ∃ n29, wp_X2_readJoined_29 rec j a1 a2 Q n29 x3 t0 (0 : Int32) μ
def wp_X2_readJoined (rec : Nat → Int32 → Int32 → (vM → Prop) → vM → Prop) (j : Nat) (a1 : Int32) (a2 : Int32) (Q : vM → Prop) (μ : vM) : Prop := rec 0 (a1 + (1 : Int32)) a2 (fun μ5 => wp_X2_signsOf a1 (fun r9 μ9 => wp_X2_readJoined_24 rec j a1 a2 Q r9 (if a1 = (2 : Int32) then (1 : Int32) else (60 : Int32)) μ9) μ5) μ
set_option maxRecDepth 100000 in
set_option maxHeartbeats 4000000 in
theorem cb_X2_readJoined (l : Launch) (G : vG) (hG : gO G) (n : Nat) (rec : Nat → Int32 → Int32 → (vM → Prop) → vM → Prop) (j : Nat) (a1 : Int32) (a2 : Int32) (h0 : isX2 G j) (hrec_readRank : ∀ (b0 b1 : Int32) (Q : vM → Prop) (μ : vM), rec 0 b0 b1 Q μ → mt l G yX2_readRank vX2_readRank { frames := n * 2 + 30, cells := 0, slots := 0, locals := n * 64 + 800 } [.ref (ga G j), .int b0, .int b1] μ (qV G Q)) (hrec_readJoined : ∀ (b0 b1 : Int32) (Q : vM → Prop) (μ : vM), rec 1 b0 b1 Q μ → mt l G yX2_readJoined vX2_readJoined { frames := n * 2 + 30, cells := 0, slots := 0, locals := n * 64 + 800 } [.ref (ga G j), .int b0, .int b1] μ (qV G Q)) (hrec_readOne : ∀ (b0 : Int32) (Q : vM → Prop) (μ : vM), rec 2 b0 0 Q μ → mt l G yX2_readOne vX2_readOne { frames := n * 2 + 30, cells := 0, slots := 0, locals := n * 64 + 800 } [.ref (ga G j), .int b0] μ (qV G Q)) (hrec_readOpened : ∀ (b0 : Int32) (Q : vM → Prop) (μ : vM), rec 3 b0 0 Q μ → mt l G yX2_readOpened vX2_readOpened { frames := n * 2 + 30, cells := 0, slots := 0, locals := n * 64 + 800 } [.ref (ga G j), .int b0] μ (qV G Q)) (Q : vM → Prop) (μ : vM) (hw : wp_X2_readJoined rec j a1 a2 Q μ) : mt l G yX2_readJoined vX2_readJoined { frames := n * 2 + 32, cells := 0, slots := 0, locals := n * 64 + 864 } [.ref (ga G j), .int a1, .int a2] μ (qV G Q) := by
  refine met_of (cc := cX2_readJoined) (maxL := 7) (ret := none) RX2 (by decide) rfl rfl hG (Nat.le_of_ble_eq_true rfl) ?_
  intro p e s m below meth c X h ls hl
  have hl : lv_has ls 7 [(0, .ref (ga G j)), (1, .int a1), (2, .int a2)] := hl
  have hx := X.1
  have hb := X.2.1
  unfold wp_X2_readJoined at hw
  refine lv_aload_n hx hb dX2_readJoined_0 rfl (lv_at hl 0 rfl) ?_
  refine lv_iload_n hx hb dX2_readJoined_1 rfl (lv_at hl 1 rfl) ?_
  refine lv_iconst (v := (1 : Int32)) hx hb dX2_readJoined_2 (by decide) ?_
  refine lv_iadd hx hb dX2_readJoined_3 ?_
  refine lv_iload_n hx hb dX2_readJoined_4 rfl (lv_at hl 2 rfl) ?_
  refine k_v h (n_V (rest := []) (As := [.int (a1 + (1 : Int32)), .int a2]) X h hl.1 (hrec_readRank (a1 + (1 : Int32)) a2 _ _ hw) gk_X2_44 rfl hd_X2_readRank ⟨rfl, rfl⟩ ⟨by show _ ≤ _; simp only []; omega, by show _ ≤ _; simp only []; omega⟩ (X2_o h0) rfl rfl (Nat.le_of_ble_eq_true rfl) dX2_readJoined_5 ⟨Nat.zero_le _, Nat.zero_le _⟩) (fun μ5 H locs hw h => ?_)
  refine lv_iload_n hx hb dX2_readJoined_8 rfl (lv_at hl 1 rfl) ?_
  refine k_s h (n_T (rest := []) (As := [.int a1]) X h hl.1 (c_X2_signsOf l G hG a1 _ _ hw) gk_X2_65 rfl hd_X2_signsOf ⟨rfl, rfl⟩ ⟨by show _ ≤ _; simp only []; omega, by show _ ≤ _; simp only []; omega⟩ rfl (Nat.le_of_ble_eq_true rfl) dX2_readJoined_9 ⟨Nat.zero_le _, Nat.zero_le _⟩) (fun r9 μ9 H locs hw h => ?_)
  refine lv_astore_n (lv' := [(3, .ref (gS G (r9).toNatClampNeg)), (0, .ref (ga G j)), (1, .int a1), (2, .int a2)]) hx hb dX2_readJoined_12 rfl hl (by decide) rfl (fun ls hl => ?_)
  refine lv_iload_n hx hb dX2_readJoined_13 rfl (lv_at hl 2 rfl) ?_
  refine lv_iconst (v := (2 : Int32)) hx hb dX2_readJoined_14 (by decide) ?_
  have s24 : ∀ (x3 : Int32) (t0 : Int32) (μ : vM), ∀ (H : Heap) (locs : List Loc) (ls : Array Slot), bw G s μ H locs → lv_has ls 7 [(0, .ref (ga G j)), (1, .int a1), (2, .int a2), (3, .ref (gS G (x3).toNatClampNeg))] → wp_X2_readJoined_24 rec j a1 a2 Q x3 t0 μ → W p l e ({ frames := n * 2 + 32, cells := 0, slots := 0, locals := n * 64 + 864 } : Room) s m ([.ref (ga G j), .int a1, .int a2] : List Value).toArray below meth c H locs 0 0 (MQ below (qV G Q) ([.ref (ga G j), .int a1, .int a2] : List Value).toArray s 0 0 (gA G)) (F0 m 24 ls [.int t0]) := by
    intro x3 t0 μ H locs ls h hl hw
    unfold wp_X2_readJoined_24 at hw
    refine lv_istore (lv' := [(4, .int t0), (0, .ref (ga G j)), (1, .int a1), (2, .int a2), (3, .ref (gS G (x3).toNatClampNeg))]) hx hb dX2_readJoined_24 hl (by decide) rfl (fun ls hl => ?_)
    refine lv_iconst (v := (0 : Int32)) hx hb dX2_readJoined_26 (by decide) ?_
    refine lv_istore (lv' := [(5, .int (0 : Int32)), (4, .int t0), (0, .ref (ga G j)), (1, .int a1), (2, .int a2), (3, .ref (gS G (x3).toNatClampNeg))]) hx hb dX2_readJoined_27 hl (by decide) rfl (fun ls hl => ?_)
    have s29 : ∀ (n29 : Nat) (x3 : Int32) (x4 : Int32) (x5 : Int32) (μ : vM), ∀ (H : Heap) (locs : List Loc) (ls : Array Slot), bw G s μ H locs → lv_has ls 7 [(0, .ref (ga G j)), (1, .int a1), (2, .int a2), (3, .ref (gS G (x3).toNatClampNeg)), (4, .int x4), (5, .int x5)] → wp_X2_readJoined_29 rec j a1 a2 Q n29 x3 x4 x5 μ → W p l e ({ frames := n * 2 + 32, cells := 0, slots := 0, locals := n * 64 + 864 } : Room) s m ([.ref (ga G j), .int a1, .int a2] : List Value).toArray below meth c H locs 0 0 (MQ below (qV G Q) ([.ref (ga G j), .int a1, .int a2] : List Value).toArray s 0 0 (gA G)) (F0 m 29 ls []) := by
      intro n29
      induction n29 with
      | zero => intro x3 x4 x5 μ H locs ls h hl hw; exact absurd hw (by unfold wp_X2_readJoined_29; exact id)
      | succ n29 ih29 =>
        intro x3 x4 x5 μ H locs ls h hl hw
        unfold wp_X2_readJoined_29 at hw
        refine lv_iload hx hb dX2_readJoined_29 (lv_at hl 5 rfl) ?_
        refine lv_iload hx hb dX2_readJoined_31 (lv_at hl 4 rfl) ?_
        refine lv_icmp_ge (tgt := 96) hx hb dX2_readJoined_33 (by decide) (fun hc => ?_) (fun hc => ?_)
        · rw [if_pos hc] at hw
          exact r_vret X h hw dX2_readJoined_96
        · rw [if_neg hc] at hw
          refine lv_aload_n hx hb dX2_readJoined_36 rfl (lv_at hl 0 rfl) ?_
          refine r_getI X h (X2_o h0) rfl uX2 6 (by decide) lf_1_191 rfl dX2_readJoined_37 ?_
          refine lv_if_ne (tgt := 96) hx hb dX2_readJoined_40 (by decide) (fun hc => ?_) (fun hc => ?_)
          · rw [if_neg hc] at hw
            exact r_vret X h hw dX2_readJoined_96
          · rw [if_pos hc] at hw
            refine lv_aload_n hx hb dX2_readJoined_43 rfl (lv_at hl 0 rfl) ?_
            refine lv_aload_n hx hb dX2_readJoined_44 rfl (lv_at hl 3 rfl) ?_
            refine k_i h (n_V (rest := []) (As := [.ref (gS G (x3).toNatClampNeg)]) X h hl.1 (c_X2_isNextOf l G hG j x3 h0 _ _ hw) gk_X2_69 rfl hd_X2_isNextOf ⟨rfl, rfl⟩ ⟨by show _ ≤ _; simp only []; omega, by show _ ≤ _; simp only []; omega⟩ (X2_o h0) rfl rfl (Nat.le_of_ble_eq_true rfl) dX2_readJoined_45 ⟨Nat.zero_le _, Nat.zero_le _⟩) (fun r45 μ45 H locs hw h => ?_)
            refine lv_if_eq (tgt := 96) hx hb dX2_readJoined_48 (by decide) (fun hc => ?_) (fun hc => ?_)
            · rw [if_pos hc] at hw
              exact r_vret X h hw dX2_readJoined_96
            · rw [if_neg hc] at hw
              refine lv_aload_n hx hb dX2_readJoined_51 rfl (lv_at hl 0 rfl) ?_
              refine r_getR (q := (j + 2)) X h (X2_o h0) rfl uX2 2 (by decide) lf_1_187 rfl dX2_readJoined_52 ?_
              refine lv_aload_n hx hb dX2_readJoined_55 rfl (lv_at hl 0 rfl) ?_
              refine r_getI X h (X2_o h0) rfl uX2 5 (by decide) lf_1_190 rfl dX2_readJoined_56 ?_
              obtain ⟨hi, hw⟩ := hw
              refine r_ald X h (X2_tape h0) hi dX2_readJoined_59 ?_
              obtain ⟨x6_60, ex6_60, hw⟩ := hw
              refine topE ex6_60 ?_
              refine lv_istore (lv' := [(6, .int x6_60), (0, .ref (ga G j)), (1, .int a1), (2, .int a2), (3, .ref (gS G (x3).toNatClampNeg)), (4, .int x4), (5, .int x5)]) hx hb dX2_readJoined_60 hl (by decide) rfl (fun ls hl => ?_)
              refine lv_aload_n hx hb dX2_readJoined_62 rfl (lv_at hl 1 rfl) ?_
              refine lv_dup hx hb dX2_readJoined_63 rfl ?_
              refine r_getI X h (X2_o h0) rfl uX2 5 (by decide) lf_1_190 rfl dX2_readJoined_64 ?_
              refine lv_iconst (v := (1 : Int32)) hx hb dX2_readJoined_67 (by decide) ?_
              refine lv_iadd hx hb dX2_readJoined_68 ?_
              obtain ⟨μ69, eμ69, hw⟩ := hw
              refine r_putI X h (X2_o h0) rfl uX2 tyX2 tyX2_ok nmX2 5 (by decide) lf_1_190 rfl rfl rfl  eμ69 dX2_readJoined_69 (fun H locs h => ?_)
              refine lv_aload_n hx hb dX2_readJoined_72 rfl (lv_at hl 1 rfl) ?_
              refine lv_iload_n hx hb dX2_readJoined_73 rfl (lv_at hl 2 rfl) ?_
              refine lv_iconst (v := (1 : Int32)) hx hb dX2_readJoined_74 (by decide) ?_
              refine lv_iadd hx hb dX2_readJoined_75 ?_
              refine lv_iload_n hx hb dX2_readJoined_76 rfl (lv_at hl 3 rfl) ?_
              refine k_v h (n_V (rest := []) (As := [.int (a1 + (1 : Int32)), .int a2]) X h hl.1 (hrec_readRank (a1 + (1 : Int32)) a2 _ _ hw) gk_X2_44 rfl hd_X2_readRank ⟨rfl, rfl⟩ ⟨by show _ ≤ _; simp only []; omega, by show _ ≤ _; simp only []; omega⟩ (X2_o h0) rfl rfl (Nat.le_of_ble_eq_true rfl) dX2_readJoined_77 ⟨Nat.zero_le _, Nat.zero_le _⟩) (fun μ77 H locs hw h => ?_)
              refine lv_aload_n hx hb dX2_readJoined_80 rfl (lv_at hl 1 rfl) ?_
              refine lv_sipush (v := (20000 : Int32)) hx hb dX2_readJoined_81 (by decide) ?_
              refine lv_iload hx hb dX2_readJoined_84 (lv_at hl 0 rfl) ?_
              refine lv_iadd hx hb dX2_readJoined_86 ?_
              refine k_v h (n_V (rest := []) (As := [.int ((20000 : Int32) + x6_60)]) X h hl.1 (c_X2_write l G hG j ((20000 : Int32) + x6_60) h0 _ _ hw) gk_X2_75 rfl hd_X2_write ⟨rfl, rfl⟩ ⟨by show _ ≤ _; simp only []; omega, by show _ ≤ _; simp only []; omega⟩ (X2_o h0) rfl rfl (Nat.le_of_ble_eq_true rfl) dX2_readJoined_87 ⟨Nat.zero_le _, Nat.zero_le _⟩) (fun μ87 H locs hw h => ?_)
              obtain ⟨x5_90, ex5_90, hw⟩ := hw
              refine lv_iinc (v := x5_90) (lv' := [(5, .int x5_90), (6, .int x6_60), (0, .ref (ga G j)), (1, .int a1), (2, .int a2), (3, .ref (gS G (x3).toNatClampNeg)), (4, .int x4)]) hx hb dX2_readJoined_90 hl (k := 6) rfl (by rw [ex5_90]; rfl) (by decide) rfl (fun ls hl => ?_)
              refine lv_goto (tgt := 29) hx hb dX2_readJoined_93 (by decide) ?_
              exact ih29 x3 x4 x5_90 μ87 _ _ _ h (lv_sub hl [2, 3, 4, 5, 6, 0] rfl) hw
    obtain ⟨n, hw⟩ := hw
    exact s29 n x3 t0 (0 : Int32) μ _ _ _ h (lv_sub hl [2, 3, 4, 5, 1, 0] rfl) hw
  refine lv_icmp_ne (tgt := 22) hx hb dX2_readJoined_15 (by decide) (fun hc => ?_) (fun hc => ?_)
  · rw [if_neg hc] at hw
    refine lv_bipush (v := (60 : Int32)) hx hb dX2_readJoined_22 (by decide) ?_
    exact s24 r9 (60 : Int32) μ9 _ _ _ h (lv_sub hl [1, 2, 3, 0] rfl) hw
  · rw [if_pos hc] at hw
    refine lv_iconst (v := (1 : Int32)) hx hb dX2_readJoined_18 (by decide) ?_
    refine lv_goto (tgt := 24) hx hb dX2_readJoined_19 (by decide) ?_
    exact s24 r9 (1 : Int32) μ9 _ _ _ h (lv_sub hl [1, 2, 3, 0] rfl) hw
def wp_X2_readOpened_91 (rec : Nat → Int32 → Int32 → (vM → Prop) → vM → Prop) (j : Nat) (a1 : Int32) (Q : vM → Prop)  (μ : vM) : Prop := bz (1 : Int32) ∧ ∃ μ93 : vM, μ93 = st μ j 6 (1 : Int32) ∧ Q μ93
def wp_X2_readOpened (rec : Nat → Int32 → Int32 → (vM → Prop) → vM → Prop) (j : Nat) (a1 : Int32) (Q : vM → Prop) (μ : vM) : Prop := if a1 < (5 : Int32) then vp_in (μ j 5) 60 ∧ ∃ x2_20 : Int32, x2_20 = μ (j + 2) (μ j 5).toNatClampNeg ∧ ∃ μ28 : vM, μ28 = st μ j 5 ((μ j 5) + (1 : Int32)) ∧ if x2_20 = (33 : Int32) then rec 2 (a1 + (1 : Int32)) 0 (fun μ41 => wp_X2_write j ((20000 : Int32) + x2_20) (fun μ50 => Q μ50) μ41) μ28 else rec 0 (0 : Int32) (a1 + (1 : Int32)) (fun μ59 => if (μ59 j 6) = 0 then wp_X2_isNextOf j (9 : Int32) (fun r72 μ72 => if r72 = 0 then wp_X2_readOpened_91 rec j a1 Q μ72 else ∃ μ85 : vM, μ85 = st μ72 j 5 ((μ72 j 5) + (1 : Int32)) ∧ Q μ85) μ59 else wp_X2_readOpened_91 rec j a1 Q μ59) μ28 else bz (1 : Int32) ∧ ∃ μ7 : vM, μ7 = st μ j 6 (1 : Int32) ∧ Q μ7
set_option maxRecDepth 100000 in
set_option maxHeartbeats 4000000 in
theorem cb_X2_readOpened (l : Launch) (G : vG) (hG : gO G) (n : Nat) (rec : Nat → Int32 → Int32 → (vM → Prop) → vM → Prop) (j : Nat) (a1 : Int32) (h0 : isX2 G j) (hrec_readRank : ∀ (b0 b1 : Int32) (Q : vM → Prop) (μ : vM), rec 0 b0 b1 Q μ → mt l G yX2_readRank vX2_readRank { frames := n * 2 + 30, cells := 0, slots := 0, locals := n * 64 + 800 } [.ref (ga G j), .int b0, .int b1] μ (qV G Q)) (hrec_readJoined : ∀ (b0 b1 : Int32) (Q : vM → Prop) (μ : vM), rec 1 b0 b1 Q μ → mt l G yX2_readJoined vX2_readJoined { frames := n * 2 + 30, cells := 0, slots := 0, locals := n * 64 + 800 } [.ref (ga G j), .int b0, .int b1] μ (qV G Q)) (hrec_readOne : ∀ (b0 : Int32) (Q : vM → Prop) (μ : vM), rec 2 b0 0 Q μ → mt l G yX2_readOne vX2_readOne { frames := n * 2 + 30, cells := 0, slots := 0, locals := n * 64 + 800 } [.ref (ga G j), .int b0] μ (qV G Q)) (hrec_readOpened : ∀ (b0 : Int32) (Q : vM → Prop) (μ : vM), rec 3 b0 0 Q μ → mt l G yX2_readOpened vX2_readOpened { frames := n * 2 + 30, cells := 0, slots := 0, locals := n * 64 + 800 } [.ref (ga G j), .int b0] μ (qV G Q)) (Q : vM → Prop) (μ : vM) (hw : wp_X2_readOpened rec j a1 Q μ) : mt l G yX2_readOpened vX2_readOpened { frames := n * 2 + 32, cells := 0, slots := 0, locals := n * 64 + 864 } [.ref (ga G j), .int a1] μ (qV G Q) := by
  refine met_of (cc := cX2_readOpened) (maxL := 3) (ret := none) RX2 (by decide) rfl rfl hG (Nat.le_of_ble_eq_true rfl) ?_
  intro p e s m below meth c X h ls hl
  have hl : lv_has ls 3 [(0, .ref (ga G j)), (1, .int a1)] := hl
  have hx := X.1
  have hb := X.2.1
  unfold wp_X2_readOpened at hw
  refine lv_iload_n hx hb dX2_readOpened_0 rfl (lv_at hl 1 rfl) ?_
  refine lv_iconst (v := (5 : Int32)) hx hb dX2_readOpened_1 (by decide) ?_
  refine lv_icmp_lt (tgt := 11) hx hb dX2_readOpened_2 (by decide) (fun hc => ?_) (fun hc => ?_)
  · rw [if_pos hc] at hw
    refine lv_aload_n hx hb dX2_readOpened_11 rfl (lv_at hl 0 rfl) ?_
    refine r_getR (q := (j + 2)) X h (X2_o h0) rfl uX2 2 (by decide) lf_1_187 rfl dX2_readOpened_12 ?_
    refine lv_aload_n hx hb dX2_readOpened_15 rfl (lv_at hl 0 rfl) ?_
    refine r_getI X h (X2_o h0) rfl uX2 5 (by decide) lf_1_190 rfl dX2_readOpened_16 ?_
    obtain ⟨hi, hw⟩ := hw
    refine r_ald X h (X2_tape h0) hi dX2_readOpened_19 ?_
    obtain ⟨x2_20, ex2_20, hw⟩ := hw
    refine topE ex2_20 ?_
    refine lv_istore_n (lv' := [(2, .int x2_20), (0, .ref (ga G j)), (1, .int a1)]) hx hb dX2_readOpened_20 rfl hl (by decide) rfl (fun ls hl => ?_)
    refine lv_aload_n hx hb dX2_readOpened_21 rfl (lv_at hl 1 rfl) ?_
    refine lv_dup hx hb dX2_readOpened_22 rfl ?_
    refine r_getI X h (X2_o h0) rfl uX2 5 (by decide) lf_1_190 rfl dX2_readOpened_23 ?_
    refine lv_iconst (v := (1 : Int32)) hx hb dX2_readOpened_26 (by decide) ?_
    refine lv_iadd hx hb dX2_readOpened_27 ?_
    obtain ⟨μ28, eμ28, hw⟩ := hw
    refine r_putI X h (X2_o h0) rfl uX2 tyX2 tyX2_ok nmX2 5 (by decide) lf_1_190 rfl rfl rfl  eμ28 dX2_readOpened_28 (fun H locs h => ?_)
    refine lv_iload_n hx hb dX2_readOpened_31 rfl (lv_at hl 0 rfl) ?_
    refine lv_bipush (v := (33 : Int32)) hx hb dX2_readOpened_32 (by decide) ?_
    refine lv_icmp_ne (tgt := 54) hx hb dX2_readOpened_34 (by decide) (fun hc => ?_) (fun hc => ?_)
    · rw [if_neg hc] at hw
      refine lv_aload_n hx hb dX2_readOpened_54 rfl (lv_at hl 1 rfl) ?_
      refine lv_iconst (v := (0 : Int32)) hx hb dX2_readOpened_55 (by decide) ?_
      refine lv_iload_n hx hb dX2_readOpened_56 rfl (lv_at hl 2 rfl) ?_
      refine lv_iconst (v := (1 : Int32)) hx hb dX2_readOpened_57 (by decide) ?_
      refine lv_iadd hx hb dX2_readOpened_58 ?_
      refine k_v h (n_V (rest := []) (As := [.int (0 : Int32), .int (a1 + (1 : Int32))]) X h hl.1 (hrec_readRank (0 : Int32) (a1 + (1 : Int32)) _ _ hw) gk_X2_44 rfl hd_X2_readRank ⟨rfl, rfl⟩ ⟨by show _ ≤ _; simp only []; omega, by show _ ≤ _; simp only []; omega⟩ (X2_o h0) rfl rfl (Nat.le_of_ble_eq_true rfl) dX2_readOpened_59 ⟨Nat.zero_le _, Nat.zero_le _⟩) (fun μ59 H locs hw h => ?_)
      refine lv_aload_n hx hb dX2_readOpened_62 rfl (lv_at hl 1 rfl) ?_
      refine r_getI X h (X2_o h0) rfl uX2 6 (by decide) lf_1_191 rfl dX2_readOpened_63 ?_
      have s91 : ∀  (μ : vM), ∀ (H : Heap) (locs : List Loc) (ls : Array Slot), bw G s μ H locs → lv_has ls 3 [(0, .ref (ga G j))] → wp_X2_readOpened_91 rec j a1 Q μ → W p l e ({ frames := n * 2 + 32, cells := 0, slots := 0, locals := n * 64 + 864 } : Room) s m ([.ref (ga G j), .int a1] : List Value).toArray below meth c H locs 0 0 (MQ below (qV G Q) ([.ref (ga G j), .int a1] : List Value).toArray s 0 0 (gA G)) (F0 m 91 ls []) := by
        intro  μ H locs ls h hl hw
        unfold wp_X2_readOpened_91 at hw
        refine lv_aload_n hx hb dX2_readOpened_91 rfl (lv_at hl 0 rfl) ?_
        refine lv_iconst (v := (1 : Int32)) hx hb dX2_readOpened_92 (by decide) ?_
        obtain ⟨hz, hw⟩ := hw
        obtain ⟨μ93, eμ93, hw⟩ := hw
        refine r_putZ X h (X2_o h0) rfl uX2 tyX2 tyX2_ok nmX2 6 (by decide) lf_1_191 rfl rfl rfl  hz eμ93 dX2_readOpened_93 (fun H locs h => ?_)
        exact r_vret X h hw dX2_readOpened_96
      refine lv_if_ne (tgt := 91) hx hb dX2_readOpened_66 (by decide) (fun hc => ?_) (fun hc => ?_)
      · rw [if_neg hc] at hw
        exact s91 μ59 _ _ _ h (lv_sub hl [1] rfl) hw
      · rw [if_pos hc] at hw
        refine lv_aload_n hx hb dX2_readOpened_69 rfl (lv_at hl 1 rfl) ?_
        refine r_ldcV (v := (9 : Int32)) (i := 9) X (by decide) rfl dX2_readOpened_70 ?_
        refine k_i h (n_V (rest := []) (As := [.ref (gS G ((9 : Int32)).toNatClampNeg)]) X h hl.1 (c_X2_isNextOf l G hG j (9 : Int32) h0 _ _ hw) gk_X2_69 rfl hd_X2_isNextOf ⟨rfl, rfl⟩ ⟨by show _ ≤ _; simp only []; omega, by show _ ≤ _; simp only []; omega⟩ (X2_o h0) rfl rfl (Nat.le_of_ble_eq_true rfl) dX2_readOpened_72 ⟨Nat.zero_le _, Nat.zero_le _⟩) (fun r72 μ72 H locs hw h => ?_)
        refine lv_if_eq (tgt := 91) hx hb dX2_readOpened_75 (by decide) (fun hc => ?_) (fun hc => ?_)
        · rw [if_pos hc] at hw
          exact s91 μ72 _ _ _ h (lv_sub hl [1] rfl) hw
        · rw [if_neg hc] at hw
          refine lv_aload_n hx hb dX2_readOpened_78 rfl (lv_at hl 1 rfl) ?_
          refine lv_dup hx hb dX2_readOpened_79 rfl ?_
          refine r_getI X h (X2_o h0) rfl uX2 5 (by decide) lf_1_190 rfl dX2_readOpened_80 ?_
          refine lv_iconst (v := (1 : Int32)) hx hb dX2_readOpened_83 (by decide) ?_
          refine lv_iadd hx hb dX2_readOpened_84 ?_
          obtain ⟨μ85, eμ85, hw⟩ := hw
          refine r_putI X h (X2_o h0) rfl uX2 tyX2 tyX2_ok nmX2 5 (by decide) lf_1_190 rfl rfl rfl  eμ85 dX2_readOpened_85 (fun H locs h => ?_)
          refine lv_goto (tgt := 96) hx hb dX2_readOpened_88 (by decide) ?_
          exact r_vret X h hw dX2_readOpened_96
    · rw [if_pos hc] at hw
      refine lv_aload_n hx hb dX2_readOpened_37 rfl (lv_at hl 1 rfl) ?_
      refine lv_iload_n hx hb dX2_readOpened_38 rfl (lv_at hl 2 rfl) ?_
      refine lv_iconst (v := (1 : Int32)) hx hb dX2_readOpened_39 (by decide) ?_
      refine lv_iadd hx hb dX2_readOpened_40 ?_
      refine k_v h (n_V (rest := []) (As := [.int (a1 + (1 : Int32))]) X h hl.1 (hrec_readOne (a1 + (1 : Int32)) _ _ hw) gk_X2_61 rfl hd_X2_readOne ⟨rfl, rfl⟩ ⟨by show _ ≤ _; simp only []; omega, by show _ ≤ _; simp only []; omega⟩ (X2_o h0) rfl rfl (Nat.le_of_ble_eq_true rfl) dX2_readOpened_41 ⟨Nat.zero_le _, Nat.zero_le _⟩) (fun μ41 H locs hw h => ?_)
      refine lv_aload_n hx hb dX2_readOpened_44 rfl (lv_at hl 1 rfl) ?_
      refine lv_sipush (v := (20000 : Int32)) hx hb dX2_readOpened_45 (by decide) ?_
      refine lv_iload_n hx hb dX2_readOpened_48 rfl (lv_at hl 0 rfl) ?_
      refine lv_iadd hx hb dX2_readOpened_49 ?_
      refine k_v h (n_V (rest := []) (As := [.int ((20000 : Int32) + x2_20)]) X h hl.1 (c_X2_write l G hG j ((20000 : Int32) + x2_20) h0 _ _ hw) gk_X2_75 rfl hd_X2_write ⟨rfl, rfl⟩ ⟨by show _ ≤ _; simp only []; omega, by show _ ≤ _; simp only []; omega⟩ (X2_o h0) rfl rfl (Nat.le_of_ble_eq_true rfl) dX2_readOpened_50 ⟨Nat.zero_le _, Nat.zero_le _⟩) (fun μ50 H locs hw h => ?_)
      exact r_vret X h hw dX2_readOpened_53
  · rw [if_neg hc] at hw
    refine lv_aload_n hx hb dX2_readOpened_5 rfl (lv_at hl 0 rfl) ?_
    refine lv_iconst (v := (1 : Int32)) hx hb dX2_readOpened_6 (by decide) ?_
    obtain ⟨hz, hw⟩ := hw
    obtain ⟨μ7, eμ7, hw⟩ := hw
    refine r_putZ X h (X2_o h0) rfl uX2 tyX2 tyX2_ok nmX2 6 (by decide) lf_1_191 rfl rfl rfl  hz eμ7 dX2_readOpened_7 (fun H locs h => ?_)
    exact r_vret X h hw dX2_readOpened_10
def wp_X2_isNextDigit_43 (j : Nat) (Q : Int32 → vM → Prop)  (μ : vM) : Prop := Q (0 : Int32) μ
def wp_X2_isNextDigit (j : Nat) (Q : Int32 → vM → Prop) (μ : vM) : Prop := if (μ j 3) ≤ (μ j 5) then wp_X2_isNextDigit_43 j Q μ else vp_in (μ j 5) 60 ∧ if (μ (j + 2) (μ j 5).toNatClampNeg) < (48 : Int32) then wp_X2_isNextDigit_43 j Q μ else vp_in (μ j 5) 60 ∧ if (57 : Int32) < (μ (j + 2) (μ j 5).toNatClampNeg) then wp_X2_isNextDigit_43 j Q μ else Q (1 : Int32) μ
set_option maxRecDepth 100000 in
set_option maxHeartbeats 4000000 in
theorem c_X2_isNextDigit (l : Launch) (G : vG) (hG : gO G) (j : Nat) (h0 : isX2 G j) (Q : Int32 → vM → Prop) (μ : vM) (hw : wp_X2_isNextDigit j Q μ) : mt l G yX2_isNextDigit vX2_isNextDigit { frames := 0, cells := 0, slots := 0, locals := 0 } [.ref (ga G j)] μ (qI G Q) := by
  refine met_of (cc := cX2_isNextDigit) (maxL := 1) (ret := (some .boolean)) RX2 (by decide) rfl rfl hG (Nat.le_of_ble_eq_true rfl) ?_
  intro p e s m below meth c X h ls hl
  have hl : lv_has ls 1 [(0, .ref (ga G j))] := hl
  have hx := X.1
  have hb := X.2.1
  unfold wp_X2_isNextDigit at hw
  refine lv_aload_n hx hb dX2_isNextDigit_0 rfl (lv_at hl 0 rfl) ?_
  refine r_getI X h (X2_o h0) rfl uX2 5 (by decide) lf_1_190 rfl dX2_isNextDigit_1 ?_
  refine lv_aload_n hx hb dX2_isNextDigit_4 rfl (lv_at hl 0 rfl) ?_
  refine r_getI X h (X2_o h0) rfl uX2 3 (by decide) lf_1_188 rfl dX2_isNextDigit_5 ?_
  have s43 : ∀  (μ : vM), ∀ (H : Heap) (locs : List Loc) (ls : Array Slot), bw G s μ H locs → lv_has ls 1 [] → wp_X2_isNextDigit_43 j Q μ → W p l e ({ frames := 0, cells := 0, slots := 0, locals := 0 } : Room) s m ([.ref (ga G j)] : List Value).toArray below meth c H locs 0 0 (MQ below (qI G Q) ([.ref (ga G j)] : List Value).toArray s 0 0 (gA G)) (F0 m 43 ls []) := by
    intro  μ H locs ls h hl hw
    unfold wp_X2_isNextDigit_43 at hw
    refine lv_iconst (v := (0 : Int32)) hx hb dX2_isNextDigit_43 (by decide) ?_
    exact r_zret X h (Or.inl rfl) hw dX2_isNextDigit_44
  refine lv_icmp_ge (tgt := 43) hx hb dX2_isNextDigit_8 (by decide) (fun hc => ?_) (fun hc => ?_)
  · rw [if_pos hc] at hw
    exact s43 μ _ _ _ h (lv_sub hl [] rfl) hw
  · rw [if_neg hc] at hw
    refine lv_aload_n hx hb dX2_isNextDigit_11 rfl (lv_at hl 0 rfl) ?_
    refine r_getR (q := (j + 2)) X h (X2_o h0) rfl uX2 2 (by decide) lf_1_187 rfl dX2_isNextDigit_12 ?_
    refine lv_aload_n hx hb dX2_isNextDigit_15 rfl (lv_at hl 0 rfl) ?_
    refine r_getI X h (X2_o h0) rfl uX2 5 (by decide) lf_1_190 rfl dX2_isNextDigit_16 ?_
    obtain ⟨hi, hw⟩ := hw
    refine r_ald X h (X2_tape h0) hi dX2_isNextDigit_19 ?_
    refine lv_bipush (v := (48 : Int32)) hx hb dX2_isNextDigit_20 (by decide) ?_
    refine lv_icmp_lt (tgt := 43) hx hb dX2_isNextDigit_22 (by decide) (fun hc => ?_) (fun hc => ?_)
    · rw [if_pos hc] at hw
      exact s43 μ _ _ _ h (lv_sub hl [] rfl) hw
    · rw [if_neg hc] at hw
      refine lv_aload_n hx hb dX2_isNextDigit_25 rfl (lv_at hl 0 rfl) ?_
      refine r_getR (q := (j + 2)) X h (X2_o h0) rfl uX2 2 (by decide) lf_1_187 rfl dX2_isNextDigit_26 ?_
      refine lv_aload_n hx hb dX2_isNextDigit_29 rfl (lv_at hl 0 rfl) ?_
      refine r_getI X h (X2_o h0) rfl uX2 5 (by decide) lf_1_190 rfl dX2_isNextDigit_30 ?_
      obtain ⟨hi, hw⟩ := hw
      refine r_ald X h (X2_tape h0) hi dX2_isNextDigit_33 ?_
      refine lv_bipush (v := (57 : Int32)) hx hb dX2_isNextDigit_34 (by decide) ?_
      refine lv_icmp_gt (tgt := 43) hx hb dX2_isNextDigit_36 (by decide) (fun hc => ?_) (fun hc => ?_)
      · rw [if_pos hc] at hw
        exact s43 μ _ _ _ h (lv_sub hl [] rfl) hw
      · rw [if_neg hc] at hw
        refine lv_iconst (v := (1 : Int32)) hx hb dX2_isNextDigit_39 (by decide) ?_
        refine lv_goto (tgt := 44) hx hb dX2_isNextDigit_40 (by decide) ?_
        exact r_zret X h (Or.inr rfl) hw dX2_isNextDigit_44
def wp_X2_readNumber_50 (j : Nat) (Q : vM → Prop) (x1 : Int32) (μ : vM) : Prop := wp_X2_write j x1 (fun μ52 => Q μ52) μ
def wp_X2_readNumber_4 (j : Nat) (Q : vM → Prop) : Nat → Int32 → Int32 → vM → Prop
  | 0, _, _, _ => False
  | n4 + 1, x1, x2, μ => if (4 : Int32) ≤ x2 then wp_X2_readNumber_50 j Q x1 μ else wp_X2_isNextDigit j (fun r10 μ10 => if r10 = 0 then wp_X2_readNumber_50 j Q x1 μ10 else vp_in (μ10 j 5) 60 ∧ ∃ x1_33 : Int32, x1_33 = (((10 : Int32) * x1) + (μ10 (j + 2) (μ10 j 5).toNatClampNeg)) - (48 : Int32) ∧ ∃ μ41 : vM, μ41 = st μ10 j 5 ((μ10 j 5) + (1 : Int32)) ∧ ∃ x2_44 : Int32, x2_44 = x2 + (1 : Int32) ∧ wp_X2_readNumber_4 j Q n4 x1_33 x2_44 μ41) μ
def wp_X2_readNumber (j : Nat) (Q : vM → Prop) (μ : vM) : Prop := ∃ n4, wp_X2_readNumber_4 j Q n4 (0 : Int32) (0 : Int32) μ
set_option maxRecDepth 100000 in
set_option maxHeartbeats 4000000 in
theorem c_X2_readNumber (l : Launch) (G : vG) (hG : gO G) (j : Nat) (h0 : isX2 G j) (Q : vM → Prop) (μ : vM) (hw : wp_X2_readNumber j Q μ) : mt l G yX2_readNumber vX2_readNumber { frames := 1, cells := 0, slots := 0, locals := 21 } [.ref (ga G j)] μ (qV G Q) := by
  refine met_of (cc := cX2_readNumber) (maxL := 3) (ret := none) RX2 (by decide) rfl rfl hG (Nat.le_of_ble_eq_true rfl) ?_
  intro p e s m below meth c X h ls hl
  have hl : lv_has ls 3 [(0, .ref (ga G j))] := hl
  have hx := X.1
  have hb := X.2.1
  unfold wp_X2_readNumber at hw
  refine lv_iconst (v := (0 : Int32)) hx hb dX2_readNumber_0 (by decide) ?_
  refine lv_istore_n (lv' := [(1, .int (0 : Int32)), (0, .ref (ga G j))]) hx hb dX2_readNumber_1 rfl hl (by decide) rfl (fun ls hl => ?_)
  refine lv_iconst (v := (0 : Int32)) hx hb dX2_readNumber_2 (by decide) ?_
  refine lv_istore_n (lv' := [(2, .int (0 : Int32)), (1, .int (0 : Int32)), (0, .ref (ga G j))]) hx hb dX2_readNumber_3 rfl hl (by decide) rfl (fun ls hl => ?_)
  have s4 : ∀ (n4 : Nat) (x1 : Int32) (x2 : Int32) (μ : vM), ∀ (H : Heap) (locs : List Loc) (ls : Array Slot), bw G s μ H locs → lv_has ls 3 [(0, .ref (ga G j)), (1, .int x1), (2, .int x2)] → wp_X2_readNumber_4 j Q n4 x1 x2 μ → W p l e ({ frames := 1, cells := 0, slots := 0, locals := 21 } : Room) s m ([.ref (ga G j)] : List Value).toArray below meth c H locs 0 0 (MQ below (qV G Q) ([.ref (ga G j)] : List Value).toArray s 0 0 (gA G)) (F0 m 4 ls []) := by
    intro n4
    induction n4 with
    | zero => intro x1 x2 μ H locs ls h hl hw; exact absurd hw (by unfold wp_X2_readNumber_4; exact id)
    | succ n4 ih4 =>
      intro x1 x2 μ H locs ls h hl hw
      unfold wp_X2_readNumber_4 at hw
      refine lv_iload_n hx hb dX2_readNumber_4 rfl (lv_at hl 2 rfl) ?_
      refine lv_iconst (v := (4 : Int32)) hx hb dX2_readNumber_5 (by decide) ?_
      have s50 : ∀ (x1 : Int32) (μ : vM), ∀ (H : Heap) (locs : List Loc) (ls : Array Slot), bw G s μ H locs → lv_has ls 3 [(0, .ref (ga G j)), (1, .int x1)] → wp_X2_readNumber_50 j Q x1 μ → W p l e ({ frames := 1, cells := 0, slots := 0, locals := 21 } : Room) s m ([.ref (ga G j)] : List Value).toArray below meth c H locs 0 0 (MQ below (qV G Q) ([.ref (ga G j)] : List Value).toArray s 0 0 (gA G)) (F0 m 50 ls []) := by
        intro x1 μ H locs ls h hl hw
        unfold wp_X2_readNumber_50 at hw
        refine lv_aload_n hx hb dX2_readNumber_50 rfl (lv_at hl 0 rfl) ?_
        refine lv_iload_n hx hb dX2_readNumber_51 rfl (lv_at hl 1 rfl) ?_
        refine k_v h (n_V (rest := []) (As := [.int x1]) X h hl.1 (c_X2_write l G hG j x1 h0 _ _ hw) gk_X2_75 rfl hd_X2_write ⟨rfl, rfl⟩ ⟨Nat.le_of_ble_eq_true rfl, Nat.le_of_ble_eq_true rfl⟩ (X2_o h0) rfl rfl (Nat.le_of_ble_eq_true rfl) dX2_readNumber_52 ⟨Nat.zero_le _, Nat.zero_le _⟩) (fun μ52 H locs hw h => ?_)
        exact r_vret X h hw dX2_readNumber_55
      refine lv_icmp_ge (tgt := 50) hx hb dX2_readNumber_6 (by decide) (fun hc => ?_) (fun hc => ?_)
      · rw [if_pos hc] at hw
        exact s50 x1 μ _ _ _ h (lv_sub hl [0, 1] rfl) hw
      · rw [if_neg hc] at hw
        refine lv_aload_n hx hb dX2_readNumber_9 rfl (lv_at hl 0 rfl) ?_
        refine k_i h (n_V (rest := []) (As := []) X h hl.1 (c_X2_isNextDigit l G hG j h0 _ _ hw) gk_X2_89 rfl hd_X2_isNextDigit ⟨rfl, rfl⟩ ⟨Nat.le_of_ble_eq_true rfl, Nat.le_of_ble_eq_true rfl⟩ (X2_o h0) rfl rfl (Nat.le_of_ble_eq_true rfl) dX2_readNumber_10 ⟨Nat.zero_le _, Nat.zero_le _⟩) (fun r10 μ10 H locs hw h => ?_)
        refine lv_if_eq (tgt := 50) hx hb dX2_readNumber_13 (by decide) (fun hc => ?_) (fun hc => ?_)
        · rw [if_pos hc] at hw
          exact s50 x1 μ10 _ _ _ h (lv_sub hl [0, 1] rfl) hw
        · rw [if_neg hc] at hw
          refine lv_bipush (v := (10 : Int32)) hx hb dX2_readNumber_16 (by decide) ?_
          refine lv_iload_n hx hb dX2_readNumber_18 rfl (lv_at hl 1 rfl) ?_
          refine lv_imul hx hb dX2_readNumber_19 ?_
          refine lv_aload_n hx hb dX2_readNumber_20 rfl (lv_at hl 0 rfl) ?_
          refine r_getR (q := (j + 2)) X h (X2_o h0) rfl uX2 2 (by decide) lf_1_187 rfl dX2_readNumber_21 ?_
          refine lv_aload_n hx hb dX2_readNumber_24 rfl (lv_at hl 0 rfl) ?_
          refine r_getI X h (X2_o h0) rfl uX2 5 (by decide) lf_1_190 rfl dX2_readNumber_25 ?_
          obtain ⟨hi, hw⟩ := hw
          refine r_ald X h (X2_tape h0) hi dX2_readNumber_28 ?_
          refine lv_iadd hx hb dX2_readNumber_29 ?_
          refine lv_bipush (v := (48 : Int32)) hx hb dX2_readNumber_30 (by decide) ?_
          refine lv_isub hx hb dX2_readNumber_32 ?_
          obtain ⟨x1_33, ex1_33, hw⟩ := hw
          refine topE ex1_33 ?_
          refine lv_istore_n (lv' := [(1, .int x1_33), (0, .ref (ga G j)), (2, .int x2)]) hx hb dX2_readNumber_33 rfl hl (by decide) rfl (fun ls hl => ?_)
          refine lv_aload_n hx hb dX2_readNumber_34 rfl (lv_at hl 1 rfl) ?_
          refine lv_dup hx hb dX2_readNumber_35 rfl ?_
          refine r_getI X h (X2_o h0) rfl uX2 5 (by decide) lf_1_190 rfl dX2_readNumber_36 ?_
          refine lv_iconst (v := (1 : Int32)) hx hb dX2_readNumber_39 (by decide) ?_
          refine lv_iadd hx hb dX2_readNumber_40 ?_
          obtain ⟨μ41, eμ41, hw⟩ := hw
          refine r_putI X h (X2_o h0) rfl uX2 tyX2 tyX2_ok nmX2 5 (by decide) lf_1_190 rfl rfl rfl  eμ41 dX2_readNumber_41 (fun H locs h => ?_)
          obtain ⟨x2_44, ex2_44, hw⟩ := hw
          refine lv_iinc (v := x2_44) (lv' := [(2, .int x2_44), (1, .int x1_33), (0, .ref (ga G j))]) hx hb dX2_readNumber_44 hl (k := 2) rfl (by rw [ex2_44]; rfl) (by decide) rfl (fun ls hl => ?_)
          refine lv_goto (tgt := 4) hx hb dX2_readNumber_47 (by decide) ?_
          exact ih4 x1_33 x2_44 μ41 _ _ _ h (lv_sub hl [2, 1, 0] rfl) hw
  obtain ⟨n, hw⟩ := hw
  exact s4 n (0 : Int32) (0 : Int32) μ _ _ _ h (lv_sub hl [2, 1, 0] rfl) hw
def wp_X2_readOne (rec : Nat → Int32 → Int32 → (vM → Prop) → vM → Prop) (j : Nat) (a1 : Int32) (Q : vM → Prop) (μ : vM) : Prop := wp_X2_isNextOf j (8 : Int32) (fun r3 μ3 => if r3 = 0 then wp_X2_isNextOf j (μ3 j 4) (fun r22 μ22 => if r22 = 0 then wp_X2_isNextDigit j (fun r67 μ67 => if r67 = 0 then bz (1 : Int32) ∧ ∃ μ82 : vM, μ82 = st μ67 j 6 (1 : Int32) ∧ Q μ82 else wp_X2_readNumber j (fun μ74 => Q μ74) μ67) μ22 else vp_in (μ22 j 5) 60 ∧ ∃ r46 : Int32, r46 = c_ix (μ22 j 4) (((μ22 (j + 2) (μ22 j 5).toNatClampNeg).toUInt32 % 65536).toInt32) ∧ (0 ≤ μ22 j 4 ∧ (μ22 j 4) < 10) ∧ wp_X2_write j ((10000 : Int32) + r46) (fun μ50 => ∃ μ60 : vM, μ60 = st μ50 j 5 ((μ50 j 5) + (1 : Int32)) ∧ Q μ60) μ22) μ3 else rec 3 a1 0 (fun μ11 => Q μ11) μ3) μ
set_option maxRecDepth 100000 in
set_option maxHeartbeats 4000000 in
theorem cb_X2_readOne (l : Launch) (G : vG) (hG : gO G) (n : Nat) (rec : Nat → Int32 → Int32 → (vM → Prop) → vM → Prop) (j : Nat) (a1 : Int32) (h0 : isX2 G j) (hrec_readRank : ∀ (b0 b1 : Int32) (Q : vM → Prop) (μ : vM), rec 0 b0 b1 Q μ → mt l G yX2_readRank vX2_readRank { frames := n * 2 + 30, cells := 0, slots := 0, locals := n * 64 + 800 } [.ref (ga G j), .int b0, .int b1] μ (qV G Q)) (hrec_readJoined : ∀ (b0 b1 : Int32) (Q : vM → Prop) (μ : vM), rec 1 b0 b1 Q μ → mt l G yX2_readJoined vX2_readJoined { frames := n * 2 + 30, cells := 0, slots := 0, locals := n * 64 + 800 } [.ref (ga G j), .int b0, .int b1] μ (qV G Q)) (hrec_readOne : ∀ (b0 : Int32) (Q : vM → Prop) (μ : vM), rec 2 b0 0 Q μ → mt l G yX2_readOne vX2_readOne { frames := n * 2 + 30, cells := 0, slots := 0, locals := n * 64 + 800 } [.ref (ga G j), .int b0] μ (qV G Q)) (hrec_readOpened : ∀ (b0 : Int32) (Q : vM → Prop) (μ : vM), rec 3 b0 0 Q μ → mt l G yX2_readOpened vX2_readOpened { frames := n * 2 + 30, cells := 0, slots := 0, locals := n * 64 + 800 } [.ref (ga G j), .int b0] μ (qV G Q)) (Q : vM → Prop) (μ : vM) (hw : wp_X2_readOne rec j a1 Q μ) : mt l G yX2_readOne vX2_readOne { frames := n * 2 + 32, cells := 0, slots := 0, locals := n * 64 + 864 } [.ref (ga G j), .int a1] μ (qV G Q) := by
  refine met_of (cc := cX2_readOne) (maxL := 2) (ret := none) RX2 (by decide) rfl rfl hG (Nat.le_of_ble_eq_true rfl) ?_
  intro p e s m below meth c X h ls hl
  have hl : lv_has ls 2 [(0, .ref (ga G j)), (1, .int a1)] := hl
  have hx := X.1
  have hb := X.2.1
  unfold wp_X2_readOne at hw
  refine lv_aload_n hx hb dX2_readOne_0 rfl (lv_at hl 0 rfl) ?_
  refine r_ldcV (v := (8 : Int32)) (i := 8) X (by decide) rfl dX2_readOne_1 ?_
  refine k_i h (n_V (rest := []) (As := [.ref (gS G ((8 : Int32)).toNatClampNeg)]) X h hl.1 (c_X2_isNextOf l G hG j (8 : Int32) h0 _ _ hw) gk_X2_69 rfl hd_X2_isNextOf ⟨rfl, rfl⟩ ⟨by show _ ≤ _; simp only []; omega, by show _ ≤ _; simp only []; omega⟩ (X2_o h0) rfl rfl (Nat.le_of_ble_eq_true rfl) dX2_readOne_3 ⟨Nat.zero_le _, Nat.zero_le _⟩) (fun r3 μ3 H locs hw h => ?_)
  refine lv_if_eq (tgt := 17) hx hb dX2_readOne_6 (by decide) (fun hc => ?_) (fun hc => ?_)
  · rw [if_pos hc] at hw
    refine lv_aload_n hx hb dX2_readOne_17 rfl (lv_at hl 0 rfl) ?_
    refine lv_aload_n hx hb dX2_readOne_18 rfl (lv_at hl 0 rfl) ?_
    refine r_getS X h (X2_o h0) rfl uX2 4 (by decide) lf_1_189 rfl dX2_readOne_19 ?_
    refine k_i h (n_V (rest := []) (As := [.ref (gS G (μ3 j 4).toNatClampNeg)]) X h hl.1 (c_X2_isNextOf l G hG j (μ3 j 4) h0 _ _ hw) gk_X2_69 rfl hd_X2_isNextOf ⟨rfl, rfl⟩ ⟨by show _ ≤ _; simp only []; omega, by show _ ≤ _; simp only []; omega⟩ (X2_o h0) rfl rfl (Nat.le_of_ble_eq_true rfl) dX2_readOne_22 ⟨Nat.zero_le _, Nat.zero_le _⟩) (fun r22 μ22 H locs hw h => ?_)
    refine lv_if_eq (tgt := 66) hx hb dX2_readOne_25 (by decide) (fun hc => ?_) (fun hc => ?_)
    · rw [if_pos hc] at hw
      refine lv_aload_n hx hb dX2_readOne_66 rfl (lv_at hl 0 rfl) ?_
      refine k_i h (n_V (rest := []) (As := []) X h hl.1 (c_X2_isNextDigit l G hG j h0 _ _ hw) gk_X2_89 rfl hd_X2_isNextDigit ⟨rfl, rfl⟩ ⟨by show _ ≤ _; simp only []; omega, by show _ ≤ _; simp only []; omega⟩ (X2_o h0) rfl rfl (Nat.le_of_ble_eq_true rfl) dX2_readOne_67 ⟨Nat.zero_le _, Nat.zero_le _⟩) (fun r67 μ67 H locs hw h => ?_)
      refine lv_if_eq (tgt := 80) hx hb dX2_readOne_70 (by decide) (fun hc => ?_) (fun hc => ?_)
      · rw [if_pos hc] at hw
        refine lv_aload_n hx hb dX2_readOne_80 rfl (lv_at hl 0 rfl) ?_
        refine lv_iconst (v := (1 : Int32)) hx hb dX2_readOne_81 (by decide) ?_
        obtain ⟨hz, hw⟩ := hw
        obtain ⟨μ82, eμ82, hw⟩ := hw
        refine r_putZ X h (X2_o h0) rfl uX2 tyX2 tyX2_ok nmX2 6 (by decide) lf_1_191 rfl rfl rfl  hz eμ82 dX2_readOne_82 (fun H locs h => ?_)
        exact r_vret X h hw dX2_readOne_85
      · rw [if_neg hc] at hw
        refine lv_aload_n hx hb dX2_readOne_73 rfl (lv_at hl 0 rfl) ?_
        refine k_v h (n_V (rest := []) (As := []) X h hl.1 (c_X2_readNumber l G hG j h0 _ _ hw) gk_X2_93 rfl hd_X2_readNumber ⟨rfl, rfl⟩ ⟨by show _ ≤ _; simp only []; omega, by show _ ≤ _; simp only []; omega⟩ (X2_o h0) rfl rfl (Nat.le_of_ble_eq_true rfl) dX2_readOne_74 ⟨Nat.zero_le _, Nat.zero_le _⟩) (fun μ74 H locs hw h => ?_)
        refine lv_goto (tgt := 85) hx hb dX2_readOne_77 (by decide) ?_
        exact r_vret X h hw dX2_readOne_85
    · rw [if_neg hc] at hw
      refine lv_aload_n hx hb dX2_readOne_28 rfl (lv_at hl 0 rfl) ?_
      refine lv_sipush (v := (10000 : Int32)) hx hb dX2_readOne_29 (by decide) ?_
      refine lv_aload_n hx hb dX2_readOne_32 rfl (lv_at hl 0 rfl) ?_
      refine r_getS X h (X2_o h0) rfl uX2 4 (by decide) lf_1_189 rfl dX2_readOne_33 ?_
      refine lv_aload_n hx hb dX2_readOne_36 rfl (lv_at hl 0 rfl) ?_
      refine r_getR (q := (j + 2)) X h (X2_o h0) rfl uX2 2 (by decide) lf_1_187 rfl dX2_readOne_37 ?_
      refine lv_aload_n hx hb dX2_readOne_40 rfl (lv_at hl 0 rfl) ?_
      refine r_getI X h (X2_o h0) rfl uX2 5 (by decide) lf_1_190 rfl dX2_readOne_41 ?_
      obtain ⟨hi, hw⟩ := hw
      refine r_ald X h (X2_tape h0) hi dX2_readOne_44 ?_
      refine lv_i2c hx hb dX2_readOne_45 rfl ?_
      obtain ⟨r46, er46, hs, hw⟩ := hw
      refine r_ix X h hl.1 er46 hs ww_2_183 dX2_readOne_46 (Nat.le_of_ble_eq_true rfl) (Nat.le_of_ble_eq_true rfl) (Nat.le_of_ble_eq_true rfl) (Nat.le_of_ble_eq_true rfl) (Nat.le_of_ble_eq_true rfl) (fun H locs h => ?_)
      refine lv_iadd hx hb dX2_readOne_49 ?_
      refine k_v h (n_V (rest := []) (As := [.int ((10000 : Int32) + r46)]) X h hl.1 (c_X2_write l G hG j ((10000 : Int32) + r46) h0 _ _ hw) gk_X2_75 rfl hd_X2_write ⟨rfl, rfl⟩ ⟨by show _ ≤ _; simp only []; omega, by show _ ≤ _; simp only []; omega⟩ (X2_o h0) rfl rfl (Nat.le_of_ble_eq_true rfl) dX2_readOne_50 ⟨Nat.zero_le _, Nat.zero_le _⟩) (fun μ50 H locs hw h => ?_)
      refine lv_aload_n hx hb dX2_readOne_53 rfl (lv_at hl 0 rfl) ?_
      refine lv_dup hx hb dX2_readOne_54 rfl ?_
      refine r_getI X h (X2_o h0) rfl uX2 5 (by decide) lf_1_190 rfl dX2_readOne_55 ?_
      refine lv_iconst (v := (1 : Int32)) hx hb dX2_readOne_58 (by decide) ?_
      refine lv_iadd hx hb dX2_readOne_59 ?_
      obtain ⟨μ60, eμ60, hw⟩ := hw
      refine r_putI X h (X2_o h0) rfl uX2 tyX2 tyX2_ok nmX2 5 (by decide) lf_1_190 rfl rfl rfl  eμ60 dX2_readOne_60 (fun H locs h => ?_)
      refine lv_goto (tgt := 85) hx hb dX2_readOne_63 (by decide) ?_
      exact r_vret X h hw dX2_readOne_85
  · rw [if_neg hc] at hw
    refine lv_aload_n hx hb dX2_readOne_9 rfl (lv_at hl 0 rfl) ?_
    refine lv_iload_n hx hb dX2_readOne_10 rfl (lv_at hl 1 rfl) ?_
    refine k_v h (n_V (rest := []) (As := [.int a1]) X h hl.1 (hrec_readOpened a1 _ _ hw) gk_X2_80 rfl hd_X2_readOpened ⟨rfl, rfl⟩ ⟨by show _ ≤ _; simp only []; omega, by show _ ≤ _; simp only []; omega⟩ (X2_o h0) rfl rfl (Nat.le_of_ble_eq_true rfl) dX2_readOne_11 ⟨Nat.zero_le _, Nat.zero_le _⟩) (fun μ11 H locs hw h => ?_)
    refine lv_goto (tgt := 85) hx hb dX2_readOne_14 (by decide) ?_
    exact r_vret X h hw dX2_readOne_85
def wp_X2_readRank (rec : Nat → Int32 → Int32 → (vM → Prop) → vM → Prop) (j : Nat) (a1 : Int32) (a2 : Int32) (Q : vM → Prop) (μ : vM) : Prop := if (5 : Int32) ≤ a1 then rec 2 a2 0 (fun μ16 => Q μ16) μ else rec 1 a1 a2 (fun μ8 => Q μ8) μ
set_option maxRecDepth 100000 in
set_option maxHeartbeats 4000000 in
theorem cb_X2_readRank (l : Launch) (G : vG) (hG : gO G) (n : Nat) (rec : Nat → Int32 → Int32 → (vM → Prop) → vM → Prop) (j : Nat) (a1 : Int32) (a2 : Int32) (h0 : isX2 G j) (hrec_readRank : ∀ (b0 b1 : Int32) (Q : vM → Prop) (μ : vM), rec 0 b0 b1 Q μ → mt l G yX2_readRank vX2_readRank { frames := n * 2 + 30, cells := 0, slots := 0, locals := n * 64 + 800 } [.ref (ga G j), .int b0, .int b1] μ (qV G Q)) (hrec_readJoined : ∀ (b0 b1 : Int32) (Q : vM → Prop) (μ : vM), rec 1 b0 b1 Q μ → mt l G yX2_readJoined vX2_readJoined { frames := n * 2 + 30, cells := 0, slots := 0, locals := n * 64 + 800 } [.ref (ga G j), .int b0, .int b1] μ (qV G Q)) (hrec_readOne : ∀ (b0 : Int32) (Q : vM → Prop) (μ : vM), rec 2 b0 0 Q μ → mt l G yX2_readOne vX2_readOne { frames := n * 2 + 30, cells := 0, slots := 0, locals := n * 64 + 800 } [.ref (ga G j), .int b0] μ (qV G Q)) (hrec_readOpened : ∀ (b0 : Int32) (Q : vM → Prop) (μ : vM), rec 3 b0 0 Q μ → mt l G yX2_readOpened vX2_readOpened { frames := n * 2 + 30, cells := 0, slots := 0, locals := n * 64 + 800 } [.ref (ga G j), .int b0] μ (qV G Q)) (Q : vM → Prop) (μ : vM) (hw : wp_X2_readRank rec j a1 a2 Q μ) : mt l G yX2_readRank vX2_readRank { frames := n * 2 + 32, cells := 0, slots := 0, locals := n * 64 + 864 } [.ref (ga G j), .int a1, .int a2] μ (qV G Q) := by
  refine met_of (cc := cX2_readRank) (maxL := 3) (ret := none) RX2 (by decide) rfl rfl hG (Nat.le_of_ble_eq_true rfl) ?_
  intro p e s m below meth c X h ls hl
  have hl : lv_has ls 3 [(0, .ref (ga G j)), (1, .int a1), (2, .int a2)] := hl
  have hx := X.1
  have hb := X.2.1
  unfold wp_X2_readRank at hw
  refine lv_iload_n hx hb dX2_readRank_0 rfl (lv_at hl 1 rfl) ?_
  refine lv_iconst (v := (5 : Int32)) hx hb dX2_readRank_1 (by decide) ?_
  refine lv_icmp_ge (tgt := 14) hx hb dX2_readRank_2 (by decide) (fun hc => ?_) (fun hc => ?_)
  · rw [if_pos hc] at hw
    refine lv_aload_n hx hb dX2_readRank_14 rfl (lv_at hl 0 rfl) ?_
    refine lv_iload_n hx hb dX2_readRank_15 rfl (lv_at hl 2 rfl) ?_
    refine k_v h (n_V (rest := []) (As := [.int a2]) X h hl.1 (hrec_readOne a2 _ _ hw) gk_X2_61 rfl hd_X2_readOne ⟨rfl, rfl⟩ ⟨by show _ ≤ _; simp only []; omega, by show _ ≤ _; simp only []; omega⟩ (X2_o h0) rfl rfl (Nat.le_of_ble_eq_true rfl) dX2_readRank_16 ⟨Nat.zero_le _, Nat.zero_le _⟩) (fun μ16 H locs hw h => ?_)
    exact r_vret X h hw dX2_readRank_19
  · rw [if_neg hc] at hw
    refine lv_aload_n hx hb dX2_readRank_5 rfl (lv_at hl 0 rfl) ?_
    refine lv_iload_n hx hb dX2_readRank_6 rfl (lv_at hl 1 rfl) ?_
    refine lv_iload_n hx hb dX2_readRank_7 rfl (lv_at hl 2 rfl) ?_
    refine k_v h (n_V (rest := []) (As := [.int a1, .int a2]) X h hl.1 (hrec_readJoined a1 a2 _ _ hw) gk_X2_58 rfl hd_X2_readJoined ⟨rfl, rfl⟩ ⟨by show _ ≤ _; simp only []; omega, by show _ ≤ _; simp only []; omega⟩ (X2_o h0) rfl rfl (Nat.le_of_ble_eq_true rfl) dX2_readRank_8 ⟨Nat.zero_le _, Nat.zero_le _⟩) (fun μ8 H locs hw h => ?_)
    refine lv_goto (tgt := 19) hx hb dX2_readRank_11 (by decide) ?_
    exact r_vret X h hw dX2_readRank_19
def wg_rd (j : Nat) : Nat → Nat → Int32 → Int32 → (vM → Prop) → vM → Prop
  | 0 => fun _ _ _ _ _ => False
  | n + 1 => fun w a1 a2 Q μ => if w = 0 then wp_X2_readRank (wg_rd j n) j a1 a2 Q μ else if w = 1 then wp_X2_readJoined (wg_rd j n) j a1 a2 Q μ else if w = 2 then wp_X2_readOne (wg_rd j n) j a1 Q μ else if w = 3 then wp_X2_readOpened (wg_rd j n) j a1 Q μ else False
theorem cg_rd (l : Launch) (G : vG) (hG : gO G) (j : Nat) (h0 : isX2 G j) : ∀ n : Nat, (∀ (a1 a2 : Int32) (Q : vM → Prop) (μ : vM), wg_rd j n 0 a1 a2 Q μ → mt l G yX2_readRank vX2_readRank { frames := n * 2 + 30, cells := 0, slots := 0, locals := n * 64 + 800 } [.ref (ga G j), .int a1, .int a2] μ (qV G Q)) ∧ (∀ (a1 a2 : Int32) (Q : vM → Prop) (μ : vM), wg_rd j n 1 a1 a2 Q μ → mt l G yX2_readJoined vX2_readJoined { frames := n * 2 + 30, cells := 0, slots := 0, locals := n * 64 + 800 } [.ref (ga G j), .int a1, .int a2] μ (qV G Q)) ∧ (∀ (a1 : Int32) (Q : vM → Prop) (μ : vM), wg_rd j n 2 a1 0 Q μ → mt l G yX2_readOne vX2_readOne { frames := n * 2 + 30, cells := 0, slots := 0, locals := n * 64 + 800 } [.ref (ga G j), .int a1] μ (qV G Q)) ∧ (∀ (a1 : Int32) (Q : vM → Prop) (μ : vM), wg_rd j n 3 a1 0 Q μ → mt l G yX2_readOpened vX2_readOpened { frames := n * 2 + 30, cells := 0, slots := 0, locals := n * 64 + 800 } [.ref (ga G j), .int a1] μ (qV G Q)) := by
  intro n
  induction n with
  | zero => exact ⟨fun a1 a2 Q μ hw => hw.elim, fun a1 a2 Q μ hw => hw.elim, fun a1 Q μ hw => hw.elim, fun a1 Q μ hw => hw.elim⟩
  | succ n ih =>
    obtain ⟨i0, i1, i2, i3⟩ := ih
    have e1 : ∀ a b : Nat, (n + 1) * a + b = n * a + (b + a) := fun a b => by rw [Nat.add_mul]; omega
    simp only [e1]
    exact ⟨fun a1 a2 Q μ hw => cb_X2_readRank l G hG n (wg_rd j n) j a1 a2 h0 i0 i1 i2 i3 Q μ hw, fun a1 a2 Q μ hw => cb_X2_readJoined l G hG n (wg_rd j n) j a1 a2 h0 i0 i1 i2 i3 Q μ hw, fun a1 Q μ hw => cb_X2_readOne l G hG n (wg_rd j n) j a1 h0 i0 i1 i2 i3 Q μ hw, fun a1 Q μ hw => cb_X2_readOpened l G hG n (wg_rd j n) j a1 h0 i0 i1 i2 i3 Q μ hw⟩
theorem c_X2_readRank (l : Launch) (G : vG) (hG : gO G) (n : Nat) (j : Nat) (a1 a2 : Int32) (h0 : isX2 G j) (Q : vM → Prop) (μ : vM) (hw : wg_rd j n 0 a1 a2 Q μ) : mt l G yX2_readRank vX2_readRank { frames := n * 2 + 30, cells := 0, slots := 0, locals := n * 64 + 800 } [.ref (ga G j), .int a1, .int a2] μ (qV G Q) := (cg_rd l G hG j h0 n).1 a1 a2 Q μ hw
theorem c_X2_readJoined (l : Launch) (G : vG) (hG : gO G) (n : Nat) (j : Nat) (a1 a2 : Int32) (h0 : isX2 G j) (Q : vM → Prop) (μ : vM) (hw : wg_rd j n 1 a1 a2 Q μ) : mt l G yX2_readJoined vX2_readJoined { frames := n * 2 + 30, cells := 0, slots := 0, locals := n * 64 + 800 } [.ref (ga G j), .int a1, .int a2] μ (qV G Q) := (cg_rd l G hG j h0 n).2.1 a1 a2 Q μ hw
theorem c_X2_readOne (l : Launch) (G : vG) (hG : gO G) (n : Nat) (j : Nat) (a1 : Int32) (h0 : isX2 G j) (Q : vM → Prop) (μ : vM) (hw : wg_rd j n 2 a1 0 Q μ) : mt l G yX2_readOne vX2_readOne { frames := n * 2 + 30, cells := 0, slots := 0, locals := n * 64 + 800 } [.ref (ga G j), .int a1] μ (qV G Q) := (cg_rd l G hG j h0 n).2.2.1 a1 Q μ hw
theorem c_X2_readOpened (l : Launch) (G : vG) (hG : gO G) (n : Nat) (j : Nat) (a1 : Int32) (h0 : isX2 G j) (Q : vM → Prop) (μ : vM) (hw : wg_rd j n 3 a1 0 Q μ) : mt l G yX2_readOpened vX2_readOpened { frames := n * 2 + 30, cells := 0, slots := 0, locals := n * 64 + 800 } [.ref (ga G j), .int a1] μ (qV G Q) := (cg_rd l G hG j h0 n).2.2.2 a1 Q μ hw
def wp_X2_reads (j : Nat) (p1 n1 : Nat) (a2 : Int32) (a3 : Int32) (Q : Int32 → vM → Prop) (μ : vM) : Prop := ¬ (0 : Int32) < 0 ∧ ¬ (0 : Int32) < 0 ∧ ¬ a2 < 0 ∧ (0 : Int32).toNatClampNeg + a2.toNatClampNeg ≤ n1 ∧ (0 : Int32).toNatClampNeg + a2.toNatClampNeg ≤ 60 ∧ ∃ μ8 : vM, μ8 = sa μ (j + 2) (va_cpy (μ p1) (μ (j + 2)) (0 : Int32).toNatClampNeg (0 : Int32).toNatClampNeg a2.toNatClampNeg) ∧ ∃ μ13 : vM, μ13 = st μ8 j 3 a2 ∧ ∃ μ18 : vM, μ18 = st μ13 j 4 a3 ∧ ∃ μ23 : vM, μ23 = st μ18 j 5 (0 : Int32) ∧ ∃ μ28 : vM, μ28 = st μ23 j 1 (0 : Int32) ∧ bz (0 : Int32) ∧ ∃ μ33 : vM, μ33 = st μ28 j 6 (0 : Int32) ∧ wg_rd j 110 0 (0 : Int32) (0 : Int32) (fun μ39 => if (μ39 j 6) = 0 then if (μ39 j 5) = (μ39 j 3) then Q (-1 : Int32) μ39 else Q (μ39 j 5) μ39 else Q (μ39 j 5) μ39) μ33
set_option maxRecDepth 100000 in
set_option maxHeartbeats 4000000 in
theorem c_X2_reads (l : Launch) (G : vG) (hG : gO G) (j : Nat) (p1 n1 : Nat) (a2 : Int32) (a3 : Int32) (h0 : isX2 G j) (h1 : gt G p1 = .inl n1 ∧ p1 < gN G) (Q : Int32 → vM → Prop) (μ : vM) (hw : wp_X2_reads j p1 n1 a2 a3 Q μ) : mt l G yX2_reads vX2_reads { frames := 251, cells := 0, slots := 0, locals := 7862 } [.ref (ga G j), .ref (ga G p1), .int a2, .ref (gS G (a3).toNatClampNeg)] μ (qI G Q) := by
  refine met_of (cc := cX2_reads) (maxL := 4) (ret := (some .int)) RX2 (by decide) rfl rfl hG (Nat.le_of_ble_eq_true rfl) ?_
  intro p e s m below meth c X h ls hl
  have hl : lv_has ls 4 [(0, .ref (ga G j)), (1, .ref (ga G p1)), (2, .int a2), (3, .ref (gS G (a3).toNatClampNeg))] := hl
  have hx := X.1
  have hb := X.2.1
  unfold wp_X2_reads at hw
  refine lv_aload_n hx hb dX2_reads_0 rfl (lv_at hl 1 rfl) ?_
  refine lv_iconst (v := (0 : Int32)) hx hb dX2_reads_1 (by decide) ?_
  refine lv_aload_n hx hb dX2_reads_2 rfl (lv_at hl 0 rfl) ?_
  refine r_getR (q := (j + 2)) X h (X2_o h0) rfl uX2 2 (by decide) lf_1_187 rfl dX2_reads_3 ?_
  refine lv_iconst (v := (0 : Int32)) hx hb dX2_reads_6 (by decide) ?_
  refine lv_iload_n hx hb dX2_reads_7 rfl (lv_at hl 2 rfl) ?_
  obtain ⟨g1, g2, g3, g4, g5, μ8, eμ8, hw⟩ := hw
  refine r_copy X hl.1 h ww_2_160 ww_2_162 ww_2_161 ww_1_10 h1 (X2_tape h0) g1 g2 g3 g4 g5 (Nat.le_of_ble_eq_true rfl) (Nat.le_of_ble_eq_true rfl) eμ8 dX2_reads_8 (fun H locs h => ?_)
  refine lv_aload_n hx hb dX2_reads_11 rfl (lv_at hl 0 rfl) ?_
  refine lv_iload_n hx hb dX2_reads_12 rfl (lv_at hl 2 rfl) ?_
  obtain ⟨μ13, eμ13, hw⟩ := hw
  refine r_putI X h (X2_o h0) rfl uX2 tyX2 tyX2_ok nmX2 3 (by decide) lf_1_188 rfl rfl rfl  eμ13 dX2_reads_13 (fun H locs h => ?_)
  refine lv_aload_n hx hb dX2_reads_16 rfl (lv_at hl 0 rfl) ?_
  refine lv_aload_n hx hb dX2_reads_17 rfl (lv_at hl 3 rfl) ?_
  obtain ⟨μ18, eμ18, hw⟩ := hw
  refine r_putS X h (X2_o h0) rfl uX2 tyX2 tyX2_ok nmX2 4 (by decide) lf_1_189 rfl rfl rfl  eμ18 dX2_reads_18 (fun H locs h => ?_)
  refine lv_aload_n hx hb dX2_reads_21 rfl (lv_at hl 0 rfl) ?_
  refine lv_iconst (v := (0 : Int32)) hx hb dX2_reads_22 (by decide) ?_
  obtain ⟨μ23, eμ23, hw⟩ := hw
  refine r_putI X h (X2_o h0) rfl uX2 tyX2 tyX2_ok nmX2 5 (by decide) lf_1_190 rfl rfl rfl  eμ23 dX2_reads_23 (fun H locs h => ?_)
  refine lv_aload_n hx hb dX2_reads_26 rfl (lv_at hl 0 rfl) ?_
  refine lv_iconst (v := (0 : Int32)) hx hb dX2_reads_27 (by decide) ?_
  obtain ⟨μ28, eμ28, hw⟩ := hw
  refine r_putI X h (X2_o h0) rfl uX2 tyX2 tyX2_ok nmX2 1 (by decide) lf_1_185 rfl rfl rfl  eμ28 dX2_reads_28 (fun H locs h => ?_)
  refine lv_aload_n hx hb dX2_reads_31 rfl (lv_at hl 0 rfl) ?_
  refine lv_iconst (v := (0 : Int32)) hx hb dX2_reads_32 (by decide) ?_
  obtain ⟨hz, hw⟩ := hw
  obtain ⟨μ33, eμ33, hw⟩ := hw
  refine r_putZ X h (X2_o h0) rfl uX2 tyX2 tyX2_ok nmX2 6 (by decide) lf_1_191 rfl rfl rfl  hz eμ33 dX2_reads_33 (fun H locs h => ?_)
  refine lv_aload_n hx hb dX2_reads_36 rfl (lv_at hl 0 rfl) ?_
  refine lv_iconst (v := (0 : Int32)) hx hb dX2_reads_37 (by decide) ?_
  refine lv_iconst (v := (0 : Int32)) hx hb dX2_reads_38 (by decide) ?_
  refine k_v h (n_V (rest := []) (As := [.int (0 : Int32), .int (0 : Int32)]) X h hl.1 (c_X2_readRank l G hG 110 j (0 : Int32) (0 : Int32) h0 _ _ hw) gk_X2_44 rfl hd_X2_readRank ⟨rfl, rfl⟩ ⟨Nat.le_of_ble_eq_true rfl, Nat.le_of_ble_eq_true rfl⟩ (X2_o h0) rfl rfl (Nat.le_of_ble_eq_true rfl) dX2_reads_39 ⟨Nat.zero_le _, Nat.zero_le _⟩) (fun μ39 H locs hw h => ?_)
  refine lv_aload_n hx hb dX2_reads_42 rfl (lv_at hl 0 rfl) ?_
  refine r_getI X h (X2_o h0) rfl uX2 6 (by decide) lf_1_191 rfl dX2_reads_43 ?_
  refine lv_if_ne (tgt := 62) hx hb dX2_reads_46 (by decide) (fun hc => ?_) (fun hc => ?_)
  · rw [if_neg hc] at hw
    refine lv_aload_n hx hb dX2_reads_62 rfl (lv_at hl 0 rfl) ?_
    refine r_getI X h (X2_o h0) rfl uX2 5 (by decide) lf_1_190 rfl dX2_reads_63 ?_
    exact r_iret X h hw dX2_reads_66
  · rw [if_pos hc] at hw
    refine lv_aload_n hx hb dX2_reads_49 rfl (lv_at hl 0 rfl) ?_
    refine r_getI X h (X2_o h0) rfl uX2 5 (by decide) lf_1_190 rfl dX2_reads_50 ?_
    refine lv_aload_n hx hb dX2_reads_53 rfl (lv_at hl 0 rfl) ?_
    refine r_getI X h (X2_o h0) rfl uX2 3 (by decide) lf_1_188 rfl dX2_reads_54 ?_
    refine lv_icmp_ne (tgt := 62) hx hb dX2_reads_57 (by decide) (fun hc => ?_) (fun hc => ?_)
    · rw [if_neg hc] at hw
      refine lv_aload_n hx hb dX2_reads_62 rfl (lv_at hl 0 rfl) ?_
      refine r_getI X h (X2_o h0) rfl uX2 5 (by decide) lf_1_190 rfl dX2_reads_63 ?_
      exact r_iret X h hw dX2_reads_66
    · rw [if_pos hc] at hw
      refine lv_iconst (v := (-1 : Int32)) hx hb dX2_reads_60 (by decide) ?_
      exact r_iret X h hw dX2_reads_61
