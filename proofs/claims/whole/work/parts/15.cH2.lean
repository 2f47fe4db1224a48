def wp_X6_think (a1 : Int32) (Q : vM → Prop) (μ : vM) : Prop := wp_X0_copy 39 5 (fun μ11 => wp_X6_passDays 39 2 a1 (fun μ27 => Q μ27) μ11) μ
set_option maxRecDepth 100000 in
set_option maxHeartbeats 4000000 in
theorem c_X6_think (l : Launch) (G : vG) (hG : gO G) (a1 : Int32) (h0 : isX6 G) (Q : vM → Prop) (μ : vM) (hw : wp_X6_think a1 Q μ) : mt l G yX6_think vX6_think { frames := 6, cells := 0, slots := 0, locals := 147 } [.ref (ga G 0), .int a1] μ (qV G Q) := by
  refine met_of (cc := cX6_think) (maxL := 2) (ret := none) RX6 (by decide) rfl rfl hG (Nat.le_of_ble_eq_true rfl) ?_
  intro p e s m below meth c X h ls hl
  have hl : lv_has ls 2 [(0, .ref (ga G 0)), (1, .int a1)] := hl
  have hx := X.1
  have hb := X.2.1
  unfold wp_X6_think at hw
  refine lv_aload_n hx hb dX6_think_0 rfl (lv_at hl 0 rfl) ?_
  refine r_getR (q := 39) X h (X6_o h0) rfl uX6 3 (by decide) lf_1_228 rfl dX6_think_1 ?_
  refine lv_aload_n hx hb dX6_think_4 rfl (lv_at hl 0 rfl) ?_
  refine r_getR (q := 1) X h (X6_o h0) rfl uX6 0 (by decide) lf_1_225 rfl dX6_think_5 ?_
  refine r_getR (q := 5) X h (X5_o (X6_now h0)) rfl uX5 1 (by decide) fn_16 rfl dX6_think_8 ?_
  refine k_v h (n_V (rest := []) (As := [.ref (ga G 5)]) X h hl.1 (c_X0_copy l G hG 39 5 (X6_thought h0) (X5_harvest (X6_now h0)) _ _ hw) gk_X6_212 rfl hd_X0_copy ⟨rfl, rfl⟩ ⟨Nat.le_of_ble_eq_true rfl, Nat.le_of_ble_eq_true rfl⟩ (X0_o (X6_thought h0)) rfl rfl (Nat.le_of_ble_eq_true rfl) dX6_think_11 ⟨Nat.zero_le _, Nat.zero_le _⟩) (fun μ11 H locs hw h => ?_)
  refine lv_aload_n hx hb dX6_think_14 rfl (lv_at hl 0 rfl) ?_
  refine lv_aload_n hx hb dX6_think_15 rfl (lv_at hl 0 rfl) ?_
  refine r_getR (q := 39) X h (X6_o h0) rfl uX6 3 (by decide) lf_1_228 rfl dX6_think_16 ?_
  refine lv_aload_n hx hb dX6_think_19 rfl (lv_at hl 0 rfl) ?_
  refine r_getR (q := 1) X h (X6_o h0) rfl uX6 0 (by decide) lf_1_225 rfl dX6_think_20 ?_
  refine r_getR (q := 2) X h (X5_o (X6_now h0)) rfl uX5 0 (by decide) fn_15 rfl dX6_think_23 ?_
  refine lv_iload_n hx hb dX6_think_26 rfl (lv_at hl 1 rfl) ?_
  refine k_v h (n_V (rest := []) (As := [.ref (ga G 39), .ref (ga G 2), .int a1]) X h hl.1 (c_X6_passDays l G hG 39 2 a1 h0 (X6_thought h0) (X5_roads (X6_now h0)) _ _ hw) gk_X6_190 rfl hd_X6_passDays ⟨rfl, rfl⟩ ⟨Nat.le_of_ble_eq_true rfl, Nat.le_of_ble_eq_true rfl⟩ (X6_o h0) rfl rfl (Nat.le_of_ble_eq_true rfl) dX6_think_27 ⟨Nat.zero_le _, Nat.zero_le _⟩) (fun μ27 H locs hw h => ?_)
  exact r_vret X h hw dX6_think_30
def wp_X6_then (a1 : Int32) (a2 : Int32) (Q : Int32 → vM → Prop) (μ : vM) : Prop := wp_X6_isBit a1 (fun r2 μ2 => if r2 = 0 then wp_X6_error (1 : Int32) (fun r20 μ20 => Q r20 μ20) μ2 else if a2 < 0 then wp_X6_error (1 : Int32) (fun r20 μ20 => Q r20 μ20) μ2 else if a2 ≤ (60 : Int32) then wp_X6_think a2 (fun μ26 => vp_in a1 8 ∧ Q (μ26 43 a1.toNatClampNeg) μ26) μ2 else wp_X6_error (1 : Int32) (fun r20 μ20 => Q r20 μ20) μ2) μ
set_option maxRecDepth 100000 in
set_option maxHeartbeats 4000000 in
theorem c_X6_then (l : Launch) (G : vG) (hG : gO G) (a1 : Int32) (a2 : Int32) (h0 : isX6 G) (Q : Int32 → vM → Prop) (μ : vM) (hw : wp_X6_then a1 a2 Q μ) : mt l G yX6_then vX6_then { frames := 7, cells := 0, slots := 0, locals := 168 } [.ref (ga G 0), .int a1, .int a2] μ (qI G Q) := by
  refine met_of (cc := cX6_then) (maxL := 3) (ret := (some .int)) RX6 (by decide) rfl rfl hG (Nat.le_of_ble_eq_true rfl) ?_
  intro p e s m below meth c X h ls hl
  have hl : lv_has ls 3 [(0, .ref (ga G 0)), (1, .int a1), (2, .int a2)] := hl
  have hx := X.1
  have hb := X.2.1
  unfold wp_X6_then at hw
  refine lv_aload_n hx hb dX6_then_0 rfl (lv_at hl 0 rfl) ?_
  refine lv_iload_n hx hb dX6_then_1 rfl (lv_at hl 1 rfl) ?_
  refine k_i h (n_V (rest := []) (As := [.int a1]) X h hl.1 (c_X6_isBit l G hG a1 h0 _ _ hw) gk_X6_116 rfl hd_X6_isBit ⟨rfl, rfl⟩ ⟨Nat.le_of_ble_eq_true rfl, Nat.le_of_ble_eq_true rfl⟩ (X6_o h0) rfl rfl (Nat.le_of_ble_eq_true rfl) dX6_then_2 ⟨Nat.zero_le _, Nat.zero_le _⟩) (fun r2 μ2 H locs hw h => ?_)
  refine lv_if_eq (tgt := 18) hx hb dX6_then_5 (by decide) (fun hc => ?_) (fun hc => ?_)
  · rw [if_pos hc] at hw
    refine lv_aload_n hx hb dX6_then_18 rfl (lv_at hl 0 rfl) ?_
    refine lv_iconst (v := (1 : Int32)) hx hb dX6_then_19 (by decide) ?_
    refine k_i h (n_V (rest := []) (As := [.int (1 : Int32)]) X h hl.1 (c_X6_error l G hG (1 : Int32) h0 _ _ hw) gk_X6_72 rfl hd_X6_error ⟨rfl, rfl⟩ ⟨Nat.le_of_ble_eq_true rfl, Nat.le_of_ble_eq_true rfl⟩ (X6_o h0) rfl rfl (Nat.le_of_ble_eq_true rfl) dX6_then_20 ⟨Nat.zero_le _, Nat.zero_le _⟩) (fun r20 μ20 H locs hw h => ?_)
    exact r_iret X h hw dX6_then_23
  · rw [if_neg hc] at hw
    refine lv_iload_n hx hb dX6_then_8 rfl (lv_at hl 2 rfl) ?_
    refine lv_if_lt (tgt := 18) hx hb dX6_then_9 (by decide) (fun hc => ?_) (fun hc => ?_)
    · rw [if_pos hc] at hw
      refine lv_aload_n hx hb dX6_then_18 rfl (lv_at hl 0 rfl) ?_
      refine lv_iconst (v := (1 : Int32)) hx hb dX6_then_19 (by decide) ?_
      refine k_i h (n_V (rest := []) (As := [.int (1 : Int32)]) X h hl.1 (c_X6_error l G hG (1 : Int32) h0 _ _ hw) gk_X6_72 rfl hd_X6_error ⟨rfl, rfl⟩ ⟨Nat.le_of_ble_eq_true rfl, Nat.le_of_ble_eq_true rfl⟩ (X6_o h0) rfl rfl (Nat.le_of_ble_eq_true rfl) dX6_then_20 ⟨Nat.zero_le _, Nat.zero_le _⟩) (fun r20 μ20 H locs hw h => ?_)
      exact r_iret X h hw dX6_then_23
    · rw [if_neg hc] at hw
      refine lv_iload_n hx hb dX6_then_12 rfl (lv_at hl 2 rfl) ?_
      refine lv_bipush (v := (60 : Int32)) hx hb dX6_then_13 (by decide) ?_
      refine lv_icmp_le (tgt := 24) hx hb dX6_then_15 (by decide) (fun hc => ?_) (fun hc => ?_)
      · rw [if_pos hc] at hw
        refine lv_aload_n hx hb dX6_then_24 rfl (lv_at hl 0 rfl) ?_
        refine lv_iload_n hx hb dX6_then_25 rfl (lv_at hl 2 rfl) ?_
        refine k_v h (n_V (rest := []) (As := [.int a2]) X h hl.1 (c_X6_think l G hG a2 h0 _ _ hw) gk_X6_208 rfl hd_X6_think ⟨rfl, rfl⟩ ⟨Nat.le_of_ble_eq_true rfl, Nat.le_of_ble_eq_true rfl⟩ (X6_o h0) rfl rfl (Nat.le_of_ble_eq_true rfl) dX6_then_26 ⟨Nat.zero_le _, Nat.zero_le _⟩) (fun μ26 H locs hw h => ?_)
        refine lv_aload_n hx hb dX6_then_29 rfl (lv_at hl 0 rfl) ?_
        refine r_getR (q := 39) X h (X6_o h0) rfl uX6 3 (by decide) lf_1_228 rfl dX6_then_30 ?_
        refine r_getR (q := 43) X h (X0_o (X6_thought h0)) rfl uX0 5 (by decide) fn_7 rfl dX6_then_33 ?_
        refine lv_iload_n hx hb dX6_then_36 rfl (lv_at hl 1 rfl) ?_
        obtain ⟨hi, hw⟩ := hw
        refine r_ald X h (X0_at (X6_thought h0)) hi dX6_then_37 ?_
        exact r_iret X h hw dX6_then_38
      · rw [if_neg hc] at hw
        refine lv_aload_n hx hb dX6_then_18 rfl (lv_at hl 0 rfl) ?_
        refine lv_iconst (v := (1 : Int32)) hx hb dX6_then_19 (by decide) ?_
        refine k_i h (n_V (rest := []) (As := [.int (1 : Int32)]) X h hl.1 (c_X6_error l G hG (1 : Int32) h0 _ _ hw) gk_X6_72 rfl hd_X6_error ⟨rfl, rfl⟩ ⟨Nat.le_of_ble_eq_true rfl, Nat.le_of_ble_eq_true rfl⟩ (X6_o h0) rfl rfl (Nat.le_of_ble_eq_true rfl) dX6_then_20 ⟨Nat.zero_le _, Nat.zero_le _⟩) (fun r20 μ20 H locs hw h => ?_)
        exact r_iret X h hw dX6_then_23
def wp_X6_soonest_30 (a1 : Int32) (Q : Int32 → vM → Prop) : Nat → Int32 → vM → Prop
  | 0, _, _ => False
  | n30 + 1, x2, μ => if (60 : Int32) < x2 then wp_X6_error (2 : Int32) (fun r73 μ73 => Q r73 μ73) μ else wp_X0_isHome 39 a1 (fun r41 μ41 => if r41 = 0 then wp_X6_passDay 39 2 (fun r61 μ61 => ∃ x2_65 : Int32, x2_65 = x2 + (1 : Int32) ∧ wp_X6_soonest_30 a1 Q n30 x2_65 μ61) μ41 else Q x2 μ41) μ
def wp_X6_soonest (a1 : Int32) (Q : Int32 → vM → Prop) (μ : vM) : Prop := wp_X6_isBit a1 (fun r2 μ2 => if r2 = 0 then wp_X6_error (1 : Int32) (fun r10 μ10 => Q r10 μ10) μ2 else wp_X0_copy 39 5 (fun μ25 => ∃ n30, wp_X6_soonest_30 a1 Q n30 (0 : Int32) μ25) μ2) μ
set_option maxRecDepth 100000 in
set_option maxHeartbeats 4000000 in
theorem c_X6_soonest (l : Launch) (G : vG) (hG : gO G) (a1 : Int32) (h0 : isX6 G) (Q : Int32 → vM → Prop) (μ : vM) (hw : wp_X6_soonest a1 Q μ) : mt l G yX6_soonest vX6_soonest { frames := 5, cells := 0, slots := 0, locals := 122 } [.ref (ga G 0), .int a1] μ (qI G Q) := by
  refine met_of (cc := cX6_soonest) (maxL := 3) (ret := (some .int)) RX6 (by decide) rfl rfl hG (Nat.le_of_ble_eq_true rfl) ?_
  intro p e s m below meth c X h ls hl
  have hl : lv_has ls 3 [(0, .ref (ga G 0)), (1, .int a1)] := hl
  have hx := X.1
  have hb := X.2.1
  unfold wp_X6_soonest at hw
  refine lv_aload_n hx hb dX6_soonest_0 rfl (lv_at hl 0 rfl) ?_
  refine lv_iload_n hx hb dX6_soonest_1 rfl (lv_at hl 1 rfl) ?_
  refine k_i h (n_V (rest := []) (As := [.int a1]) X h hl.1 (c_X6_isBit l G hG a1 h0 _ _ hw) gk_X6_116 rfl hd_X6_isBit ⟨rfl, rfl⟩ ⟨Nat.le_of_ble_eq_true rfl, Nat.le_of_ble_eq_true rfl⟩ (X6_o h0) rfl rfl (Nat.le_of_ble_eq_true rfl) dX6_soonest_2 ⟨Nat.zero_le _, Nat.zero_le _⟩) (fun r2 μ2 H locs hw h => ?_)
  refine lv_if_ne (tgt := 14) hx hb dX6_soonest_5 (by decide) (fun hc => ?_) (fun hc => ?_)
  · rw [if_neg hc] at hw
    refine lv_aload_n hx hb dX6_soonest_14 rfl (lv_at hl 0 rfl) ?_
    refine r_getR (q := 39) X h (X6_o h0) rfl uX6 3 (by decide) lf_1_228 rfl dX6_soonest_15 ?_
    refine lv_aload_n hx hb dX6_soonest_18 rfl (lv_at hl 0 rfl) ?_
    refine r_getR (q := 1) X h (X6_o h0) rfl uX6 0 (by decide) lf_1_225 rfl dX6_soonest_19 ?_
    refine r_getR (q := 5) X h (X5_o (X6_now h0)) rfl uX5 1 (by decide) fn_16 rfl dX6_soonest_22 ?_
    refine k_v h (n_V (rest := []) (As := [.ref (ga G 5)]) X h hl.1 (c_X0_copy l G hG 39 5 (X6_thought h0) (X5_harvest (X6_now h0)) _ _ hw) gk_X6_212 rfl hd_X0_copy ⟨rfl, rfl⟩ ⟨Nat.le_of_ble_eq_true rfl, Nat.le_of_ble_eq_true rfl⟩ (X0_o (X6_thought h0)) rfl rfl (Nat.le_of_ble_eq_true rfl) dX6_soonest_25 ⟨Nat.zero_le _, Nat.zero_le _⟩) (fun μ25 H locs hw h => ?_)
    refine lv_iconst (v := (0 : Int32)) hx hb dX6_soonest_28 (by decide) ?_
    refine lv_istore_n (lv' := [(2, .int (0 : Int32)), (0, .ref (ga G 0)), (1, .int a1)]) hx hb dX6_soonest_29 rfl hl (by decide) rfl (fun ls hl => ?_)
    have s30 : ∀ (n30 : Nat) (x2 : Int32) (μ : vM), ∀ (H : Heap) (locs : List Loc) (ls : Array Slot), bw G s μ H locs → lv_has ls 3 [(0, .ref (ga G 0)), (1, .int a1), (2, .int x2)] → wp_X6_soonest_30 a1 Q n30 x2 μ → W p l e ({ frames := 5, cells := 0, slots := 0, locals := 122 } : Room) s m ([.ref (ga G 0), .int a1] : List Value).toArray below meth c H locs 0 0 (MQ below (qI G Q) ([.ref (ga G 0), .int a1] : List Value).toArray s 0 0 (gA G)) (F0 m 30 ls []) := by
      intro n30
      induction n30 with
      | zero => intro x2 μ H locs ls h hl hw; exact absurd hw (by unfold wp_X6_soonest_30; exact id)
      | succ n30 ih30 =>
        intro x2 μ H locs ls h hl hw
        unfold wp_X6_soonest_30 at hw
        refine lv_iload_n hx hb dX6_soonest_30 rfl (lv_at hl 2 rfl) ?_
        refine lv_bipush (v := (60 : Int32)) hx hb dX6_soonest_31 (by decide) ?_
        refine lv_icmp_gt (tgt := 71) hx hb dX6_soonest_33 (by decide) (fun hc => ?_) (fun hc => ?_)
        · rw [if_pos hc] at hw
          refine lv_aload_n hx hb dX6_soonest_71 rfl (lv_at hl 0 rfl) ?_
          refine lv_iconst (v := (2 : Int32)) hx hb dX6_soonest_72 (by decide) ?_
          refine k_i h (n_V (rest := []) (As := [.int (2 : Int32)]) X h hl.1 (c_X6_error l G hG (2 : Int32) h0 _ _ hw) gk_X6_72 rfl hd_X6_error ⟨rfl, rfl⟩ ⟨Nat.le_of_ble_eq_true rfl, Nat.le_of_ble_eq_true rfl⟩ (X6_o h0) rfl rfl (Nat.le_of_ble_eq_true rfl) dX6_soonest_73 ⟨Nat.zero_le _, Nat.zero_le _⟩) (fun r73 μ73 H locs hw h => ?_)
          exact r_iret X h hw dX6_soonest_76
        · rw [if_neg hc] at hw
          refine lv_aload_n hx hb dX6_soonest_36 rfl (lv_at hl 0 rfl) ?_
          refine r_getR (q := 39) X h (X6_o h0) rfl uX6 3 (by decide) lf_1_228 rfl dX6_soonest_37 ?_
          refine lv_iload_n hx hb dX6_soonest_40 rfl (lv_at hl 1 rfl) ?_
          refine k_i h (n_V (rest := []) (As := [.int a1]) X h hl.1 (c_X0_isHome l G hG 39 a1 (X6_thought h0) _ _ hw) gk_X6_216 rfl hd_X0_isHome ⟨rfl, rfl⟩ ⟨Nat.le_of_ble_eq_true rfl, Nat.le_of_ble_eq_true rfl⟩ (X0_o (X6_thought h0)) rfl rfl (Nat.le_of_ble_eq_true rfl) dX6_soonest_41 ⟨Nat.zero_le _, Nat.zero_le _⟩) (fun r41 μ41 H locs hw h => ?_)
          refine lv_if_eq (tgt := 49) hx hb dX6_soonest_44 (by decide) (fun hc => ?_) (fun hc => ?_)
          · rw [if_pos hc] at hw
            refine lv_aload_n hx hb dX6_soonest_49 rfl (lv_at hl 0 rfl) ?_
            refine lv_aload_n hx hb dX6_soonest_50 rfl (lv_at hl 0 rfl) ?_
            refine r_getR (q := 39) X h (X6_o h0) rfl uX6 3 (by decide) lf_1_228 rfl dX6_soonest_51 ?_
            refine lv_aload_n hx hb dX6_soonest_54 rfl (lv_at hl 0 rfl) ?_
            refine r_getR (q := 1) X h (X6_o h0) rfl uX6 0 (by decide) lf_1_225 rfl dX6_soonest_55 ?_
            refine r_getR (q := 2) X h (X5_o (X6_now h0)) rfl uX5 0 (by decide) fn_15 rfl dX6_soonest_58 ?_
            refine k_i h (n_V (rest := []) (As := [.ref (ga G 39), .ref (ga G 2)]) X h hl.1 (c_X6_passDay l G hG 39 2 h0 (X6_thought h0) (X5_roads (X6_now h0)) _ _ hw) gk_X6_201 rfl hd_X6_passDay ⟨rfl, rfl⟩ ⟨Nat.le_of_ble_eq_true rfl, Nat.le_of_ble_eq_true rfl⟩ (X6_o h0) rfl rfl (Nat.le_of_ble_eq_true rfl) dX6_soonest_61 ⟨Nat.zero_le _, Nat.zero_le _⟩) (fun r61 μ61 H locs hw h => ?_)
            refine lv_pop hx hb dX6_soonest_64 rfl ?_
            obtain ⟨x2_65, ex2_65, hw⟩ := hw
            refine lv_iinc (v := x2_65) (lv' := [(2, .int x2_65), (0, .ref (ga G 0)), (1, .int a1)]) hx hb dX6_soonest_65 hl (k := 2) rfl (by rw [ex2_65]; rfl) (by decide) rfl (fun ls hl => ?_)
            refine lv_goto (tgt := 30) hx hb dX6_soonest_68 (by decide) ?_
            exact ih30 x2_65 μ61 _ _ _ h (lv_sub hl [1, 2, 0] rfl) hw
          · rw [if_neg hc] at hw
            refine lv_iload_n hx hb dX6_soonest_47 rfl (lv_at hl 2 rfl) ?_
            exact r_iret X h hw dX6_soonest_48
    obtain ⟨n, hw⟩ := hw
    exact s30 n (0 : Int32) μ25 _ _ _ h (lv_sub hl [1, 2, 0] rfl) hw
  · rw [if_pos hc] at hw
    refine lv_aload_n hx hb dX6_soonest_8 rfl (lv_at hl 0 rfl) ?_
    refine lv_iconst (v := (1 : Int32)) hx hb dX6_soonest_9 (by decide) ?_
    refine k_i h (n_V (rest := []) (As := [.int (1 : Int32)]) X h hl.1 (c_X6_error l G hG (1 : Int32) h0 _ _ hw) gk_X6_72 rfl hd_X6_error ⟨rfl, rfl⟩ ⟨Nat.le_of_ble_eq_true rfl, Nat.le_of_ble_eq_true rfl⟩ (X6_o h0) rfl rfl (Nat.le_of_ble_eq_true rfl) dX6_soonest_10 ⟨Nat.zero_le _, Nat.zero_le _⟩) (fun r10 μ10 H locs hw h => ?_)
    exact r_iret X h hw dX6_soonest_13
def wp_X6_worthAtHome_44 (p1 : Nat) (a2 : Int32) (Q : Int32 → vM → Prop) (k5 : Int32 → Int32 → vM → Prop) (x3 : Int32) (x4 : Int32) (μ : vM) : Prop := ∃ x4_44 : Int32, x4_44 = x4 + (1 : Int32) ∧ k5 x3 x4_44 μ
def wp_X6_worthAtHome_5 (p1 : Nat) (a2 : Int32) (Q : Int32 → vM → Prop) : Nat → Int32 → Int32 → vM → Prop
  | 0, _, _, _ => False
  | n5 + 1, x3, x4, μ => if (μ p1 0) ≤ x4 then Q x3 μ else vp_in x4 8 ∧ if (μ (p1 + 3) x4.toNatClampNeg) = a2 then wp_X0_isHome p1 x4 (fun r28 μ28 => if r28 = 0 then wp_X6_worthAtHome_44 p1 a2 Q (fun x3 x4 μ => wp_X6_worthAtHome_5 p1 a2 Q n5 x3 x4 μ) x3 x4 μ28 else wp_X6_worthOf p1 x4 (fun r39 μ39 => ∃ x3_43 : Int32, x3_43 = x3 + r39 ∧ wp_X6_worthAtHome_44 p1 a2 Q (fun x3 x4 μ => wp_X6_worthAtHome_5 p1 a2 Q n5 x3 x4 μ) x3_43 x4 μ39) μ28) μ else wp_X6_worthAtHome_44 p1 a2 Q (fun x3 x4 μ => wp_X6_worthAtHome_5 p1 a2 Q n5 x3 x4 μ) x3 x4 μ
def wp_X6_worthAtHome (p1 : Nat) (a2 : Int32) (Q : Int32 → vM → Prop) (μ : vM) : Prop := ∃ n5, wp_X6_worthAtHome_5 p1 a2 Q n5 (0 : Int32) (0 : Int32) μ
set_option maxRecDepth 100000 in
set_option maxHeartbeats 4000000 in
theorem c_X6_worthAtHome (l : Launch) (G : vG) (hG : gO G) (p1 : Nat) (a2 : Int32) (h0 : isX6 G) (h1 : isX0 G p1) (Q : Int32 → vM → Prop) (μ : vM) (hw : wp_X6_worthAtHome p1 a2 Q μ) : mt l G yX6_worthAtHome vX6_worthAtHome { frames := 4, cells := 0, slots := 0, locals := 94 } [.ref (ga G 0), .ref (ga G p1), .int a2] μ (qI G Q) := by
  refine met_of (cc := cX6_worthAtHome) (maxL := 5) (ret := (some .int)) RX6 (by decide) rfl rfl hG (Nat.le_of_ble_eq_true rfl) ?_
  intro p e s m below meth c X h ls hl
  have hl : lv_has ls 5 [(0, .ref (ga G 0)), (1, .ref (ga G p1)), (2, .int a2)] := hl
  have hx := X.1
  have hb := X.2.1
  unfold wp_X6_worthAtHome at hw
  refine lv_iconst (v := (0 : Int32)) hx hb dX6_worthAtHome_0 (by decide) ?_
  refine lv_istore_n (lv' := [(3, .int (0 : Int32)), (0, .ref (ga G 0)), (1, .ref (ga G p1)), (2, .int a2)]) hx hb dX6_worthAtHome_1 rfl hl (by decide) rfl (fun ls hl => ?_)
  refine lv_iconst (v := (0 : Int32)) hx hb dX6_worthAtHome_2 (by decide) ?_
  refine lv_istore (lv' := [(4, .int (0 : Int32)), (3, .int (0 : Int32)), (0, .ref (ga G 0)), (1, .ref (ga G p1)), (2, .int a2)]) hx hb dX6_worthAtHome_3 hl (by decide) rfl (fun ls hl => ?_)
  have s5 : ∀ (n5 : Nat) (x3 : Int32) (x4 : Int32) (μ : vM), ∀ (H : Heap) (locs : List Loc) (ls : Array Slot), bw G s μ H locs → lv_has ls 5 [(0, .ref (ga G 0)), (1, .ref (ga G p1)), (2, .int a2), (3, .int x3), (4, .int x4)] → wp_X6_worthAtHome_5 p1 a2 Q n5 x3 x4 μ → W p l e ({ frames := 4, cells := 0, slots := 0, locals := 94 } : Room) s m ([.ref (ga G 0), .ref (ga G p1), .int a2] : List Value).toArray below meth c H locs 0 0 (MQ below (qI G Q) ([.ref (ga G 0), .ref (ga G p1), .int a2] : List Value).toArray s 0 0 (gA G)) (F0 m 5 ls []) := by
    intro n5
    induction n5 with
    | zero => intro x3 x4 μ H locs ls h hl hw; exact absurd hw (by unfold wp_X6_worthAtHome_5; exact id)
    | succ n5 ih5 =>
      intro x3 x4 μ H locs ls h hl hw
      unfold wp_X6_worthAtHome_5 at hw
      refine lv_iload hx hb dX6_worthAtHome_5 (lv_at hl 4 rfl) ?_
      refine lv_aload_n hx hb dX6_worthAtHome_7 rfl (lv_at hl 1 rfl) ?_
      refine r_getI X h (X0_o h1) rfl uX0 0 (by decide) fn_1 rfl dX6_worthAtHome_8 ?_
      refine lv_icmp_ge (tgt := 50) hx hb dX6_worthAtHome_11 (by decide) (fun hc => ?_) (fun hc => ?_)
      · rw [if_pos hc] at hw
        refine lv_iload_n hx hb dX6_worthAtHome_50 rfl (lv_at hl 3 rfl) ?_
        exact r_iret X h hw dX6_worthAtHome_51
      · rw [if_neg hc] at hw
        refine lv_aload_n hx hb dX6_worthAtHome_14 rfl (lv_at hl 1 rfl) ?_
        refine r_getR (q := (p1 + 3)) X h (X0_o h1) rfl uX0 4 (by decide) fn_5 rfl dX6_worthAtHome_15 ?_
        refine lv_iload hx hb dX6_worthAtHome_18 (lv_at hl 4 rfl) ?_
        obtain ⟨hi, hw⟩ := hw
        refine r_ald X h (X0_of h1) hi dX6_worthAtHome_20 ?_
        refine lv_iload_n hx hb dX6_worthAtHome_21 rfl (lv_at hl 2 rfl) ?_
        have s44 : ∀ (x3 : Int32) (x4 : Int32) (μ : vM), ∀ (H : Heap) (locs : List Loc) (ls : Array Slot), bw G s μ H locs → lv_has ls 5 [(0, .ref (ga G 0)), (1, .ref (ga G p1)), (2, .int a2), (3, .int x3), (4, .int x4)] → wp_X6_worthAtHome_44 p1 a2 Q (fun x3 x4 μ => wp_X6_worthAtHome_5 p1 a2 Q n5 x3 x4 μ) x3 x4 μ → W p l e ({ frames := 4, cells := 0, slots := 0, locals := 94 } : Room) s m ([.ref (ga G 0), .ref (ga G p1), .int a2] : List Value).toArray below meth c H locs 0 0 (MQ below (qI G Q) ([.ref (ga G 0), .ref (ga G p1), .int a2] : List Value).toArray s 0 0 (gA G)) (F0 m 44 ls []) := by
          intro x3 x4 μ H locs ls h hl hw
          unfold wp_X6_worthAtHome_44 at hw
          obtain ⟨x4_44, ex4_44, hw⟩ := hw
          refine lv_iinc (v := x4_44) (lv' := [(4, .int x4_44), (0, .ref (ga G 0)), (1, .ref (ga G p1)), (2, .int a2), (3, .int x3)]) hx hb dX6_worthAtHome_44 hl (k := 4) rfl (by rw [ex4_44]; rfl) (by decide) rfl (fun ls hl => ?_)
          refine lv_goto (tgt := 5) hx hb dX6_worthAtHome_47 (by decide) ?_
          exact ih5 x3 x4_44 μ _ _ _ h (lv_sub hl [1, 2, 3, 4, 0] rfl) hw
        refine lv_icmp_ne (tgt := 44) hx hb dX6_worthAtHome_22 (by decide) (fun hc => ?_) (fun hc => ?_)
        · rw [if_neg hc] at hw
          exact s44 x3 x4 μ _ _ _ h (lv_sub hl [0, 1, 2, 3, 4] rfl) hw
        · rw [if_pos hc] at hw
          refine lv_aload_n hx hb dX6_worthAtHome_25 rfl (lv_at hl 1 rfl) ?_
          refine lv_iload hx hb dX6_worthAtHome_26 (lv_at hl 4 rfl) ?_
          refine k_i h (n_V (rest := []) (As := [.int x4]) X h hl.1 (c_X0_isHome l G hG p1 x4 h1 _ _ hw) gk_X6_216 rfl hd_X0_isHome ⟨rfl, rfl⟩ ⟨Nat.le_of_ble_eq_true rfl, Nat.le_of_ble_eq_true rfl⟩ (X0_o h1) rfl rfl (Nat.le_of_ble_eq_true rfl) dX6_worthAtHome_28 ⟨Nat.zero_le _, Nat.zero_le _⟩) (fun r28 μ28 H locs hw h => ?_)
          refine lv_if_eq (tgt := 44) hx hb dX6_worthAtHome_31 (by decide) (fun hc => ?_) (fun hc => ?_)
          · rw [if_pos hc] at hw
            exact s44 x3 x4 μ28 _ _ _ h (lv_sub hl [0, 1, 2, 3, 4] rfl) hw
          · rw [if_neg hc] at hw
            refine lv_iload_n hx hb dX6_worthAtHome_34 rfl (lv_at hl 3 rfl) ?_
            refine lv_aload_n hx hb dX6_worthAtHome_35 rfl (lv_at hl 0 rfl) ?_
            refine lv_aload_n hx hb dX6_worthAtHome_36 rfl (lv_at hl 1 rfl) ?_
            refine lv_iload hx hb dX6_worthAtHome_37 (lv_at hl 4 rfl) ?_
            refine k_i h (n_V (rest := [.int x3]) (As := [.ref (ga G p1), .int x4]) X h hl.1 (c_X6_worthOf l G hG p1 x4 h0 h1 _ _ hw) gk_X6_138 rfl hd_X6_worthOf ⟨rfl, rfl⟩ ⟨Nat.le_of_ble_eq_true rfl, Nat.le_of_ble_eq_true rfl⟩ (X6_o h0) rfl rfl (Nat.le_of_ble_eq_true rfl) dX6_worthAtHome_39 ⟨Nat.zero_le _, Nat.zero_le _⟩) (fun r39 μ39 H locs hw h => ?_)
            refine lv_iadd hx hb dX6_worthAtHome_42 ?_
            obtain ⟨x3_43, ex3_43, hw⟩ := hw
            refine topE ex3_43 ?_
            refine lv_istore_n (lv' := [(3, .int x3_43), (0, .ref (ga G 0)), (1, .ref (ga G p1)), (2, .int a2), (4, .int x4)]) hx hb dX6_worthAtHome_43 rfl hl (by decide) rfl (fun ls hl => ?_)
            exact s44 x3_43 x4 μ39 _ _ _ h (lv_sub hl [1, 2, 3, 0, 4] rfl) hw
  obtain ⟨n, hw⟩ := hw
  exact s5 n (0 : Int32) (0 : Int32) μ _ _ _ h (lv_sub hl [2, 3, 4, 1, 0] rfl) hw
def wp_X6_gets (a1 : Int32) (a2 : Int32) (Q : Int32 → vM → Prop) (μ : vM) : Prop := wp_X6_isField a1 (fun r1 μ1 => if r1 = 0 then wp_X6_error (1 : Int32) (fun r19 μ19 => Q r19 μ19) μ1 else if a2 < 0 then wp_X6_error (1 : Int32) (fun r19 μ19 => Q r19 μ19) μ1 else if a2 ≤ (60 : Int32) then wp_X6_think a2 (fun μ25 => wp_X6_worthAtHome 39 a1 (fun r34 μ34 => Q r34 μ34) μ25) μ1 else wp_X6_error (1 : Int32) (fun r19 μ19 => Q r19 μ19) μ1) μ
set_option maxRecDepth 100000 in
set_option maxHeartbeats 4000000 in
theorem c_X6_gets (l : Launch) (G : vG) (hG : gO G) (a1 : Int32) (a2 : Int32) (h0 : isX6 G) (Q : Int32 → vM → Prop) (μ : vM) (hw : wp_X6_gets a1 a2 Q μ) : mt l G yX6_gets vX6_gets { frames := 7, cells := 0, slots := 0, locals := 168 } [.ref (ga G 0), .int a1, .int a2] μ (qI G Q) := by
  refine met_of (cc := cX6_gets) (maxL := 3) (ret := (some .int)) RX6 (by decide) rfl rfl hG (Nat.le_of_ble_eq_true rfl) ?_
  intro p e s m below meth c X h ls hl
  have hl : lv_has ls 3 [(0, .ref (ga G 0)), (1, .int a1), (2, .int a2)] := hl
  have hx := X.1
  have hb := X.2.1
  unfold wp_X6_gets at hw
  refine lv_iload_n hx hb dX6_gets_0 rfl (lv_at hl 1 rfl) ?_
  refine k_i h (n_T (rest := []) (As := [.int a1]) X h hl.1 (c_X6_isField l G hG a1 _ _ hw) gk_X6_90 rfl hd_X6_isField ⟨rfl, rfl⟩ ⟨Nat.le_of_ble_eq_true rfl, Nat.le_of_ble_eq_true rfl⟩ rfl (Nat.le_of_ble_eq_true rfl) dX6_gets_1 ⟨Nat.zero_le _, Nat.zero_le _⟩) (fun r1 μ1 H locs hw h => ?_)
  refine lv_if_eq (tgt := 17) hx hb dX6_gets_4 (by decide) (fun hc => ?_) (fun hc => ?_)
  · rw [if_pos hc] at hw
    refine lv_aload_n hx hb dX6_gets_17 rfl (lv_at hl 0 rfl) ?_
    refine lv_iconst (v := (1 : Int32)) hx hb dX6_gets_18 (by decide) ?_
    refine k_i h (n_V (rest := []) (As := [.int (1 : Int32)]) X h hl.1 (c_X6_error l G hG (1 : Int32) h0 _ _ hw) gk_X6_72 rfl hd_X6_error ⟨rfl, rfl⟩ ⟨Nat.le_of_ble_eq_true rfl, Nat.le_of_ble_eq_true rfl⟩ (X6_o h0) rfl rfl (Nat.le_of_ble_eq_true rfl) dX6_gets_19 ⟨Nat.zero_le _, Nat.zero_le _⟩) (fun r19 μ19 H locs hw h => ?_)
    exact r_iret X h hw dX6_gets_22
  · rw [if_neg hc] at hw
    refine lv_iload_n hx hb dX6_gets_7 rfl (lv_at hl 2 rfl) ?_
    refine lv_if_lt (tgt := 17) hx hb dX6_gets_8 (by decide) (fun hc => ?_) (fun hc => ?_)
    · rw [if_pos hc] at hw
      refine lv_aload_n hx hb dX6_gets_17 rfl (lv_at hl 0 rfl) ?_
      refine lv_iconst (v := (1 : Int32)) hx hb dX6_gets_18 (by decide) ?_
      refine k_i h (n_V (rest := []) (As := [.int (1 : Int32)]) X h hl.1 (c_X6_error l G hG (1 : Int32) h0 _ _ hw) gk_X6_72 rfl hd_X6_error ⟨rfl, rfl⟩ ⟨Nat.le_of_ble_eq_true rfl, Nat.le_of_ble_eq_true rfl⟩ (X6_o h0) rfl rfl (Nat.le_of_ble_eq_true rfl) dX6_gets_19 ⟨Nat.zero_le _, Nat.zero_le _⟩) (fun r19 μ19 H locs hw h => ?_)
      exact r_iret X h hw dX6_gets_22
    · rw [if_neg hc] at hw
      refine lv_iload_n hx hb dX6_gets_11 rfl (lv_at hl 2 rfl) ?_
      refine lv_bipush (v := (60 : Int32)) hx hb dX6_gets_12 (by decide) ?_
      refine lv_icmp_le (tgt := 23) hx hb dX6_gets_14 (by decide) (fun hc => ?_) (fun hc => ?_)
      · rw [if_pos hc] at hw
        refine lv_aload_n hx hb dX6_gets_23 rfl (lv_at hl 0 rfl) ?_
        refine lv_iload_n hx hb dX6_gets_24 rfl (lv_at hl 2 rfl) ?_
        refine k_v h (n_V (rest := []) (As := [.int a2]) X h hl.1 (c_X6_think l G hG a2 h0 _ _ hw) gk_X6_208 rfl hd_X6_think ⟨rfl, rfl⟩ ⟨Nat.le_of_ble_eq_true rfl, Nat.le_of_ble_eq_true rfl⟩ (X6_o h0) rfl rfl (Nat.le_of_ble_eq_true rfl) dX6_gets_25 ⟨Nat.zero_le _, Nat.zero_le _⟩) (fun μ25 H locs hw h => ?_)
        refine lv_aload_n hx hb dX6_gets_28 rfl (lv_at hl 0 rfl) ?_
        refine lv_aload_n hx hb dX6_gets_29 rfl (lv_at hl 0 rfl) ?_
        refine r_getR (q := 39) X h (X6_o h0) rfl uX6 3 (by decide) lf_1_228 rfl dX6_gets_30 ?_
        refine lv_iload_n hx hb dX6_gets_33 rfl (lv_at hl 1 rfl) ?_
        refine k_i h (n_V (rest := []) (As := [.ref (ga G 39), .int a1]) X h hl.1 (c_X6_worthAtHome l G hG 39 a1 h0 (X6_thought h0) _ _ hw) gk_X6_219 rfl hd_X6_worthAtHome ⟨rfl, rfl⟩ ⟨Nat.le_of_ble_eq_true rfl, Nat.le_of_ble_eq_true rfl⟩ (X6_o h0) rfl rfl (Nat.le_of_ble_eq_true rfl) dX6_gets_34 ⟨Nat.zero_le _, Nat.zero_le _⟩) (fun r34 μ34 H locs hw h => ?_)
        exact r_iret X h hw dX6_gets_37
      · rw [if_neg hc] at hw
        refine lv_aload_n hx hb dX6_gets_17 rfl (lv_at hl 0 rfl) ?_
        refine lv_iconst (v := (1 : Int32)) hx hb dX6_gets_18 (by decide) ?_
        refine k_i h (n_V (rest := []) (As := [.int (1 : Int32)]) X h hl.1 (c_X6_error l G hG (1 : Int32) h0 _ _ hw) gk_X6_72 rfl hd_X6_error ⟨rfl, rfl⟩ ⟨Nat.le_of_ble_eq_true rfl, Nat.le_of_ble_eq_true rfl⟩ (X6_o h0) rfl rfl (Nat.le_of_ble_eq_true rfl) dX6_gets_19 ⟨Nat.zero_le _, Nat.zero_le _⟩) (fun r19 μ19 H locs hw h => ?_)
        exact r_iret X h hw dX6_gets_22
def wp_X6_getsWith_58 (a1 : Int32) (a2 : Int32) (a3 : Int32) (Q : Int32 → vM → Prop) (k17 : Int32 → vM → Prop) (x4 : Int32) (μ : vM) : Prop := ∃ x4_58 : Int32, x4_58 = x4 + (1 : Int32) ∧ k17 x4_58 μ
def wp_X6_getsWith_17 (a1 : Int32) (a2 : Int32) (a3 : Int32) (Q : Int32 → vM → Prop) : Nat → Int32 → vM → Prop
  | 0, _, _ => False
  | n17 + 1, x4, μ => if (μ 39 0) ≤ x4 then wp_X6_passDays 39 2 a3 (fun μ77 => wp_X6_worthAtHome 39 a1 (fun r86 μ86 => Q r86 μ86) μ77) μ else if ((a2 >>> (x4 &&& 31)) &&& (1 : Int32)) = (1 : Int32) then wp_X0_goal 39 x4 (fun r54 μ54 => vp_in x4 8 ∧ ∃ μ57 : vM, μ57 = st μ54 43 x4.toNatClampNeg r54 ∧ wp_X6_getsWith_58 a1 a2 a3 Q (fun x4 μ => wp_X6_getsWith_17 a1 a2 a3 Q n17 x4 μ) x4 μ57) μ else wp_X6_getsWith_58 a1 a2 a3 Q (fun x4 μ => wp_X6_getsWith_17 a1 a2 a3 Q n17 x4 μ) x4 μ
def wp_X6_getsWith (a1 : Int32) (a2 : Int32) (a3 : Int32) (Q : Int32 → vM → Prop) (μ : vM) : Prop := wp_X0_copy 39 5 (fun μ11 => ∃ n17, wp_X6_getsWith_17 a1 a2 a3 Q n17 (0 : Int32) μ11) μ
set_option maxRecDepth 100000 in
set_option maxHeartbeats 4000000 in
theorem c_X6_getsWith (l : Launch) (G : vG) (hG : gO G) (a1 : Int32) (a2 : Int32) (a3 : Int32) (h0 : isX6 G) (Q : Int32 → vM → Prop) (μ : vM) (hw : wp_X6_getsWith a1 a2 a3 Q μ) : mt l G yX6_getsWith vX6_getsWith { frames := 6, cells := 0, slots := 0, locals := 147 } [.ref (ga G 0), .int a1, .int a2, .int a3] μ (qI G Q) := by
  refine met_of (cc := cX6_getsWith) (maxL := 5) (ret := (some .int)) RX6 (by decide) rfl rfl hG (Nat.le_of_ble_eq_true rfl) ?_
  intro p e s m below meth c X h ls hl
  have hl : lv_has ls 5 [(0, .ref (ga G 0)), (1, .int a1), (2, .int a2), (3, .int a3)] := hl
  have hx := X.1
  have hb := X.2.1
  unfold wp_X6_getsWith at hw
  refine lv_aload_n hx hb dX6_getsWith_0 rfl (lv_at hl 0 rfl) ?_
  refine r_getR (q := 39) X h (X6_o h0) rfl uX6 3 (by decide) lf_1_228 rfl dX6_getsWith_1 ?_
  refine lv_aload_n hx hb dX6_getsWith_4 rfl (lv_at hl 0 rfl) ?_
  refine r_getR (q := 1) X h (X6_o h0) rfl uX6 0 (by decide) lf_1_225 rfl dX6_getsWith_5 ?_
  refine r_getR (q := 5) X h (X5_o (X6_now h0)) rfl uX5 1 (by decide) fn_16 rfl dX6_getsWith_8 ?_
  refine k_v h (n_V (rest := []) (As := [.ref (ga G 5)]) X h hl.1 (c_X0_copy l G hG 39 5 (X6_thought h0) (X5_harvest (X6_now h0)) _ _ hw) gk_X6_212 rfl hd_X0_copy ⟨rfl, rfl⟩ ⟨Nat.le_of_ble_eq_true rfl, Nat.le_of_ble_eq_true rfl⟩ (X0_o (X6_thought h0)) rfl rfl (Nat.le_of_ble_eq_true rfl) dX6_getsWith_11 ⟨Nat.zero_le _, Nat.zero_le _⟩) (fun μ11 H locs hw h => ?_)
  refine lv_iconst (v := (0 : Int32)) hx hb dX6_getsWith_14 (by decide) ?_
  refine lv_istore (lv' := [(4, .int (0 : Int32)), (0, .ref (ga G 0)), (1, .int a1), (2, .int a2), (3, .int a3)]) hx hb dX6_getsWith_15 hl (by decide) rfl (fun ls hl => ?_)
  have s17 : ∀ (n17 : Nat) (x4 : Int32) (μ : vM), ∀ (H : Heap) (locs : List Loc) (ls : Array Slot), bw G s μ H locs → lv_has ls 5 [(0, .ref (ga G 0)), (1, .int a1), (2, .int a2), (3, .int a3), (4, .int x4)] → wp_X6_getsWith_17 a1 a2 a3 Q n17 x4 μ → W p l e ({ frames := 6, cells := 0, slots := 0, locals := 147 } : Room) s m ([.ref (ga G 0), .int a1, .int a2, .int a3] : List Value).toArray below meth c H locs 0 0 (MQ below (qI G Q) ([.ref (ga G 0), .int a1, .int a2, .int a3] : List Value).toArray s 0 0 (gA G)) (F0 m 17 ls []) := by
    intro n17
    induction n17 with
    | zero => intro x4 μ H locs ls h hl hw; exact absurd hw (by unfold wp_X6_getsWith_17; exact id)
    | succ n17 ih17 =>
      intro x4 μ H locs ls h hl hw
      unfold wp_X6_getsWith_17 at hw
      refine lv_iload hx hb dX6_getsWith_17 (lv_at hl 4 rfl) ?_
      refine lv_aload_n hx hb dX6_getsWith_19 rfl (lv_at hl 0 rfl) ?_
      refine r_getR (q := 39) X h (X6_o h0) rfl uX6 3 (by decide) lf_1_228 rfl dX6_getsWith_20 ?_
      refine r_getI X h (X0_o (X6_thought h0)) rfl uX0 0 (by decide) fn_1 rfl dX6_getsWith_23 ?_
      refine lv_icmp_ge (tgt := 64) hx hb dX6_getsWith_26 (by decide) (fun hc => ?_) (fun hc => ?_)
      · rw [if_pos hc] at hw
        refine lv_aload_n hx hb dX6_getsWith_64 rfl (lv_at hl 0 rfl) ?_
        refine lv_aload_n hx hb dX6_getsWith_65 rfl (lv_at hl 0 rfl) ?_
        refine r_getR (q := 39) X h (X6_o h0) rfl uX6 3 (by decide) lf_1_228 rfl dX6_getsWith_66 ?_
        refine lv_aload_n hx hb dX6_getsWith_69 rfl (lv_at hl 0 rfl) ?_
        refine r_getR (q := 1) X h (X6_o h0) rfl uX6 0 (by decide) lf_1_225 rfl dX6_getsWith_70 ?_
        refine r_getR (q := 2) X h (X5_o (X6_now h0)) rfl uX5 0 (by decide) fn_15 rfl dX6_getsWith_73 ?_
        refine lv_iload_n hx hb dX6_getsWith_76 rfl (lv_at hl 3 rfl) ?_
        refine k_v h (n_V (rest := []) (As := [.ref (ga G 39), .ref (ga G 2), .int a3]) X h hl.1 (c_X6_passDays l G hG 39 2 a3 h0 (X6_thought h0) (X5_roads (X6_now h0)) _ _ hw) gk_X6_190 rfl hd_X6_passDays ⟨rfl, rfl⟩ ⟨Nat.le_of_ble_eq_true rfl, Nat.le_of_ble_eq_true rfl⟩ (X6_o h0) rfl rfl (Nat.le_of_ble_eq_true rfl) dX6_getsWith_77 ⟨Nat.zero_le _, Nat.zero_le _⟩) (fun μ77 H locs hw h => ?_)
        refine lv_aload_n hx hb dX6_getsWith_80 rfl (lv_at hl 0 rfl) ?_
        refine lv_aload_n hx hb dX6_getsWith_81 rfl (lv_at hl 0 rfl) ?_
        refine r_getR (q := 39) X h (X6_o h0) rfl uX6 3 (by decide) lf_1_228 rfl dX6_getsWith_82 ?_
        refine lv_iload_n hx hb dX6_getsWith_85 rfl (lv_at hl 1 rfl) ?_
        refine k_i h (n_V (rest := []) (As := [.ref (ga G 39), .int a1]) X h hl.1 (c_X6_worthAtHome l G hG 39 a1 h0 (X6_thought h0) _ _ hw) gk_X6_219 rfl hd_X6_worthAtHome ⟨rfl, rfl⟩ ⟨Nat.le_of_ble_eq_true rfl, Nat.le_of_ble_eq_true rfl⟩ (X6_o h0) rfl rfl (Nat.le_of_ble_eq_true rfl) dX6_getsWith_86 ⟨Nat.zero_le _, Nat.zero_le _⟩) (fun r86 μ86 H locs hw h => ?_)
        exact r_iret X h hw dX6_getsWith_89
      · rw [if_neg hc] at hw
        refine lv_iload_n hx hb dX6_getsWith_29 rfl (lv_at hl 2 rfl) ?_
        refine lv_iload hx hb dX6_getsWith_30 (lv_at hl 4 rfl) ?_
        refine lv_ishr hx hb dX6_getsWith_32 ?_
        refine lv_iconst (v := (1 : Int32)) hx hb dX6_getsWith_33 (by decide) ?_
        refine lv_iand hx hb dX6_getsWith_34 ?_
        refine lv_iconst (v := (1 : Int32)) hx hb dX6_getsWith_35 (by decide) ?_
        have s58 : ∀ (x4 : Int32) (μ : vM), ∀ (H : Heap) (locs : List Loc) (ls : Array Slot), bw G s μ H locs → lv_has ls 5 [(0, .ref (ga G 0)), (1, .int a1), (2, .int a2), (3, .int a3), (4, .int x4)] → wp_X6_getsWith_58 a1 a2 a3 Q (fun x4 μ => wp_X6_getsWith_17 a1 a2 a3 Q n17 x4 μ) x4 μ → W p l e ({ frames := 6, cells := 0, slots := 0, locals := 147 } : Room) s m ([.ref (ga G 0), .int a1, .int a2, .int a3] : List Value).toArray below meth c H locs 0 0 (MQ below (qI G Q) ([.ref (ga G 0), .int a1, .int a2, .int a3] : List Value).toArray s 0 0 (gA G)) (F0 m 58 ls []) := by
          intro x4 μ H locs ls h hl hw
          unfold wp_X6_getsWith_58 at hw
          obtain ⟨x4_58, ex4_58, hw⟩ := hw
          refine lv_iinc (v := x4_58) (lv' := [(4, .int x4_58), (0, .ref (ga G 0)), (1, .int a1), (2, .int a2), (3, .int a3)]) hx hb dX6_getsWith_58 hl (k := 4) rfl (by rw [ex4_58]; rfl) (by decide) rfl (fun ls hl => ?_)
          refine lv_goto (tgt := 17) hx hb dX6_getsWith_61 (by decide) ?_
          exact ih17 x4_58 μ _ _ _ h (lv_sub hl [1, 2, 3, 4, 0] rfl) hw
        refine lv_icmp_ne (tgt := 58) hx hb dX6_getsWith_36 (by decide) (fun hc => ?_) (fun hc => ?_)
        · rw [if_neg hc] at hw
          exact s58 x4 μ _ _ _ h (lv_sub hl [0, 1, 2, 3, 4] rfl) hw
        · rw [if_pos hc] at hw
          refine lv_aload_n hx hb dX6_getsWith_39 rfl (lv_at hl 0 rfl) ?_
          refine r_getR (q := 39) X h (X6_o h0) rfl uX6 3 (by decide) lf_1_228 rfl dX6_getsWith_40 ?_
          refine r_getR (q := 43) X h (X0_o (X6_thought h0)) rfl uX0 5 (by decide) fn_7 rfl dX6_getsWith_43 ?_
          refine lv_iload hx hb dX6_getsWith_46 (lv_at hl 4 rfl) ?_
          refine lv_aload_n hx hb dX6_getsWith_48 rfl (lv_at hl 0 rfl) ?_
          refine r_getR (q := 39) X h (X6_o h0) rfl uX6 3 (by decide) lf_1_228 rfl dX6_getsWith_49 ?_
          refine lv_iload hx hb dX6_getsWith_52 (lv_at hl 4 rfl) ?_
          refine k_i h (n_V (rest := [.int x4, .ref (ga G 43)]) (As := [.int x4]) X h hl.1 (c_X0_goal l G hG 39 x4 (X6_thought h0) _ _ hw) gk_X6_300 rfl hd_X0_goal ⟨rfl, rfl⟩ ⟨Nat.le_of_ble_eq_true rfl, Nat.le_of_ble_eq_true rfl⟩ (X0_o (X6_thought h0)) rfl rfl (Nat.le_of_ble_eq_true rfl) dX6_getsWith_54 ⟨Nat.zero_le _, Nat.zero_le _⟩) (fun r54 μ54 H locs hw h => ?_)
          obtain ⟨hi, μ57, eμ57, hw⟩ := hw
          refine r_ast X h (X0_at (X6_thought h0)) hi eμ57 dX6_getsWith_57 (fun H locs h => ?_)
          exact s58 x4 μ57 _ _ _ h (lv_sub hl [0, 1, 2, 3, 4] rfl) hw
  obtain ⟨n, hw⟩ := hw
  exact s17 n (0 : Int32) μ11 _ _ _ h (lv_sub hl [1, 2, 3, 4, 0] rfl) hw
def wp_X6_carry_135 (a1 : Int32) (a2 : Int32) (a3 : Int32) (Q : Int32 → vM → Prop) (k81 : Int32 → Int32 → Int32 → vM → Prop) (x4 : Int32) (x5 : Int32) (x6 : Int32) (μ : vM) : Prop := ∃ x6_135 : Int32, x6_135 = x6 + (1 : Int32) ∧ k81 x4 x5 x6_135 μ
def wp_X6_carry_113 (a1 : Int32) (a2 : Int32) (a3 : Int32) (Q : Int32 → vM → Prop) (k81 : Int32 → Int32 → Int32 → vM → Prop) (x4 : Int32) (x5 : Int32) (x6 : Int32) (t0 : Int32) (μ : vM) : Prop := if t0 = 0 then wp_X6_carry_135 a1 a2 a3 Q k81 x4 x5 x6 μ else wp_X6_getsWith a1 x6 a3 (fun r125 μ125 => if r125 < a2 then wp_X6_carry_135 a1 a2 a3 Q k81 x4 x5 x6 μ125 else Q x6 μ125) μ
def wp_X6_carry_112 (a1 : Int32) (a2 : Int32) (a3 : Int32) (Q : Int32 → vM → Prop) (k81 : Int32 → Int32 → Int32 → vM → Prop) (x4 : Int32) (x5 : Int32) (x6 : Int32) (μ : vM) : Prop := wp_X6_carry_113 a1 a2 a3 Q k81 x4 x5 x6 (0 : Int32) μ
def wp_X6_carry_81 (a1 : Int32) (a2 : Int32) (a3 : Int32) (Q : Int32 → vM → Prop) (k68 : Int32 → Int32 → vM → Prop) : Nat → Int32 → Int32 → Int32 → vM → Prop
  | 0, _, _, _, _ => False
  | n81 + 1, x4, x5, x6, μ => if x4 ≤ x6 then ∃ x5_141 : Int32, x5_141 = x5 + (1 : Int32) ∧ k68 x4 x5_141 μ else if (x6 &&& (x4 ^^^ (-1 : Int32))) = 0 then wp_J6_bitCount_0f7a4 x6 (fun r100 μ100 => if r100 = x5 then wp_X6_carry_113 a1 a2 a3 Q (fun x4 x5 x6 μ => wp_X6_carry_81 a1 a2 a3 Q k68 n81 x4 x5 x6 μ) x4 x5 x6 (1 : Int32) μ100 else wp_X6_carry_112 a1 a2 a3 Q (fun x4 x5 x6 μ => wp_X6_carry_81 a1 a2 a3 Q k68 n81 x4 x5 x6 μ) x4 x5 x6 μ100) μ else wp_X6_carry_112 a1 a2 a3 Q (fun x4 x5 x6 μ => wp_X6_carry_81 a1 a2 a3 Q k68 n81 x4 x5 x6 μ) x4 x5 x6 μ
def wp_X6_carry_68 (a1 : Int32) (a2 : Int32) (a3 : Int32) (Q : Int32 → vM → Prop) : Nat → Int32 → Int32 → vM → Prop
  | 0, _, _, _ => False
  | n68 + 1, x4, x5, μ => wp_J6_bitCount_0f7a4 x4 (fun r72 μ72 => if r72 ≤ x5 then Q x4 μ72 else ∃ n81, wp_X6_carry_81 a1 a2 a3 Q (fun x4 x5 μ => wp_X6_carry_68 a1 a2 a3 Q n68 x4 x5 μ) n81 x4 x5 (0 : Int32) μ72) μ
def wp_X6_carry (a1 : Int32) (a2 : Int32) (a3 : Int32) (Q : Int32 → vM → Prop) (μ : vM) : Prop := wp_X6_isField a1 (fun r1 μ1 => if r1 = 0 then wp_X6_error (1 : Int32) (fun r30 μ30 => Q r30 μ30) μ1 else if a2 < 0 then wp_X6_error (1 : Int32) (fun r30 μ30 => Q r30 μ30) μ1 else if (999 : Int32) < a2 then wp_X6_error (1 : Int32) (fun r30 μ30 => Q r30 μ30) μ1 else if a3 < 0 then wp_X6_error (1 : Int32) (fun r30 μ30 => Q r30 μ30) μ1 else if a3 ≤ (30 : Int32) then wp_X0_awaySet 5 a1 (fun r42 μ42 => wp_X6_getsWith a1 r42 a3 (fun r52 μ52 => if a2 ≤ r52 then ∃ n68, wp_X6_carry_68 a1 a2 a3 Q n68 r42 (0 : Int32) μ52 else wp_X6_error (2 : Int32) (fun r61 μ61 => Q r61 μ61) μ52) μ42) μ1 else wp_X6_error (1 : Int32) (fun r30 μ30 => Q r30 μ30) μ1) μ
set_option maxRecDepth 100000 in
set_option maxHeartbeats 4000000 in
theorem c_X6_carry (l : Launch) (G : vG) (hG : gO G) (a1 : Int32) (a2 : Int32) (a3 : Int32) (h0 : isX6 G) (Q : Int32 → vM → Prop) (μ : vM) (hw : wp_X6_carry a1 a2 a3 Q μ) : mt l G yX6_carry vX6_carry { frames := 7, cells := 0, slots := 0, locals := 171 } [.ref (ga G 0), .int a1, .int a2, .int a3] μ (qI G Q) := by
  refine met_of (cc := cX6_carry) (maxL := 8) (ret := (some .int)) RX6 (by decide) rfl rfl hG (Nat.le_of_ble_eq_true rfl) ?_
  intro p e s m below meth c X h ls hl
  have hl : lv_has ls 8 [(0, .ref (ga G 0)), (1, .int a1), (2, .int a2), (3, .int a3)] := hl
  have hx := X.1
  have hb := X.2.1
  unfold wp_X6_carry at hw
  refine lv_iload_n hx hb dX6_carry_0 rfl (lv_at hl 1 rfl) ?_
  refine k_i h (n_T (rest := []) (As := [.int a1]) X h hl.1 (c_X6_isField l G hG a1 _ _ hw) gk_X6_90 rfl hd_X6_isField ⟨rfl, rfl⟩ ⟨Nat.le_of_ble_eq_true rfl, Nat.le_of_ble_eq_true rfl⟩ rfl (Nat.le_of_ble_eq_true rfl) dX6_carry_1 ⟨Nat.zero_le _, Nat.zero_le _⟩) (fun r1 μ1 H locs hw h => ?_)
  refine lv_if_eq (tgt := 28) hx hb dX6_carry_4 (by decide) (fun hc => ?_) (fun hc => ?_)
  · rw [if_pos hc] at hw
    refine lv_aload_n hx hb dX6_carry_28 rfl (lv_at hl 0 rfl) ?_
    refine lv_iconst (v := (1 : Int32)) hx hb dX6_carry_29 (by decide) ?_
    refine k_i h (n_V (rest := []) (As := [.int (1 : Int32)]) X h hl.1 (c_X6_error l G hG (1 : Int32) h0 _ _ hw) gk_X6_72 rfl hd_X6_error ⟨rfl, rfl⟩ ⟨Nat.le_of_ble_eq_true rfl, Nat.le_of_ble_eq_true rfl⟩ (X6_o h0) rfl rfl (Nat.le_of_ble_eq_true rfl) dX6_carry_30 ⟨Nat.zero_le _, Nat.zero_le _⟩) (fun r30 μ30 H locs hw h => ?_)
    exact r_iret X h hw dX6_carry_33
  · rw [if_neg hc] at hw
    refine lv_iload_n hx hb dX6_carry_7 rfl (lv_at hl 2 rfl) ?_
    refine lv_if_lt (tgt := 28) hx hb dX6_carry_8 (by decide) (fun hc => ?_) (fun hc => ?_)
    · rw [if_pos hc] at hw
      refine lv_aload_n hx hb dX6_carry_28 rfl (lv_at hl 0 rfl) ?_
      refine lv_iconst (v := (1 : Int32)) hx hb dX6_carry_29 (by decide) ?_
      refine k_i h (n_V (rest := []) (As := [.int (1 : Int32)]) X h hl.1 (c_X6_error l G hG (1 : Int32) h0 _ _ hw) gk_X6_72 rfl hd_X6_error ⟨rfl, rfl⟩ ⟨Nat.le_of_ble_eq_true rfl, Nat.le_of_ble_eq_true rfl⟩ (X6_o h0) rfl rfl (Nat.le_of_ble_eq_true rfl) dX6_carry_30 ⟨Nat.zero_le _, Nat.zero_le _⟩) (fun r30 μ30 H locs hw h => ?_)
      exact r_iret X h hw dX6_carry_33
    · rw [if_neg hc] at hw
      refine lv_iload_n hx hb dX6_carry_11 rfl (lv_at hl 2 rfl) ?_
      refine lv_sipush (v := (999 : Int32)) hx hb dX6_carry_12 (by decide) ?_
      refine lv_icmp_gt (tgt := 28) hx hb dX6_carry_15 (by decide) (fun hc => ?_) (fun hc => ?_)
      · rw [if_pos hc] at hw
        refine lv_aload_n hx hb dX6_carry_28 rfl (lv_at hl 0 rfl) ?_
        refine lv_iconst (v := (1 : Int32)) hx hb dX6_carry_29 (by decide) ?_
        refine k_i h (n_V (rest := []) (As := [.int (1 : Int32)]) X h hl.1 (c_X6_error l G hG (1 : Int32) h0 _ _ hw) gk_X6_72 rfl hd_X6_error ⟨rfl, rfl⟩ ⟨Nat.le_of_ble_eq_true rfl, Nat.le_of_ble_eq_true rfl⟩ (X6_o h0) rfl rfl (Nat.le_of_ble_eq_true rfl) dX6_carry_30 ⟨Nat.zero_le _, Nat.zero_le _⟩) (fun r30 μ30 H locs hw h => ?_)
        exact r_iret X h hw dX6_carry_33
      · rw [if_neg hc] at hw
        refine lv_iload_n hx hb dX6_carry_18 rfl (lv_at hl 3 rfl) ?_
        refine lv_if_lt (tgt := 28) hx hb dX6_carry_19 (by decide) (fun hc => ?_) (fun hc => ?_)
        · rw [if_pos hc] at hw
          refine lv_aload_n hx hb dX6_carry_28 rfl (lv_at hl 0 rfl) ?_
          refine lv_iconst (v := (1 : Int32)) hx hb dX6_carry_29 (by decide) ?_
          refine k_i h (n_V (rest := []) (As := [.int (1 : Int32)]) X h hl.1 (c_X6_error l G hG (1 : Int32) h0 _ _ hw) gk_X6_72 rfl hd_X6_error ⟨rfl, rfl⟩ ⟨Nat.le_of_ble_eq_true rfl, Nat.le_of_ble_eq_true rfl⟩ (X6_o h0) rfl rfl (Nat.le_of_ble_eq_true rfl) dX6_carry_30 ⟨Nat.zero_le _, Nat.zero_le _⟩) (fun r30 μ30 H locs hw h => ?_)
          exact r_iret X h hw dX6_carry_33
        · rw [if_neg hc] at hw
          refine lv_iload_n hx hb dX6_carry_22 rfl (lv_at hl 3 rfl) ?_
          refine lv_bipush (v := (30 : Int32)) hx hb dX6_carry_23 (by decide) ?_
          refine lv_icmp_le (tgt := 34) hx hb dX6_carry_25 (by decide) (fun hc => ?_) (fun hc => ?_)
          · rw [if_pos hc] at hw
            refine lv_aload_n hx hb dX6_carry_34 rfl (lv_at hl 0 rfl) ?_
            refine r_getR (q := 1) X h (X6_o h0) rfl uX6 0 (by decide) lf_1_225 rfl dX6_carry_35 ?_
            refine r_getR (q := 5) X h (X5_o (X6_now h0)) rfl uX5 1 (by decide) fn_16 rfl dX6_carry_38 ?_
            refine lv_iload_n hx hb dX6_carry_41 rfl (lv_at hl 1 rfl) ?_
            refine k_i h (n_V (rest := []) (As := [.int a1]) X h hl.1 (c_X0_awaySet l G hG 5 a1 (X5_harvest (X6_now h0)) _ _ hw) gk_X6_222 rfl hd_X0_awaySet ⟨rfl, rfl⟩ ⟨Nat.le_of_ble_eq_true rfl, Nat.le_of_ble_eq_true rfl⟩ (X0_o (X5_harvest (X6_now h0))) rfl rfl (Nat.le_of_ble_eq_true rfl) dX6_carry_42 ⟨Nat.zero_le _, Nat.zero_le _⟩) (fun r42 μ42 H locs hw h => ?_)
            refine lv_istore (lv' := [(4, .int r42), (0, .ref (ga G 0)), (1, .int a1), (2, .int a2), (3, .int a3)]) hx hb dX6_carry_45 hl (by decide) rfl (fun ls hl => ?_)
            refine lv_aload_n hx hb dX6_carry_47 rfl (lv_at hl 1 rfl) ?_
            refine lv_iload_n hx hb dX6_carry_48 rfl (lv_at hl 2 rfl) ?_
            refine lv_iload hx hb dX6_carry_49 (lv_at hl 0 rfl) ?_
            refine lv_iload_n hx hb dX6_carry_51 rfl (lv_at hl 4 rfl) ?_
            refine k_i h (n_V (rest := []) (As := [.int a1, .int r42, .int a3]) X h hl.1 (c_X6_getsWith l G hG a1 r42 a3 h0 _ _ hw) gk_X6_225 rfl hd_X6_getsWith ⟨rfl, rfl⟩ ⟨Nat.le_of_ble_eq_true rfl, Nat.le_of_ble_eq_true rfl⟩ (X6_o h0) rfl rfl (Nat.le_of_ble_eq_true rfl) dX6_carry_52 ⟨Nat.zero_le _, Nat.zero_le _⟩) (fun r52 μ52 H locs hw h => ?_)
            refine lv_iload_n hx hb dX6_carry_55 rfl (lv_at hl 3 rfl) ?_
            refine lv_icmp_ge (tgt := 65) hx hb dX6_carry_56 (by decide) (fun hc => ?_) (fun hc => ?_)
            · rw [if_pos hc] at hw
              refine lv_iconst (v := (0 : Int32)) hx hb dX6_carry_65 (by decide) ?_
              refine lv_istore (lv' := [(5, .int (0 : Int32)), (4, .int r42), (0, .ref (ga G 0)), (1, .int a1), (2, .int a2), (3, .int a3)]) hx hb dX6_carry_66 hl (by decide) rfl (fun ls hl => ?_)
              have s68 : ∀ (n68 : Nat) (x4 : Int32) (x5 : Int32) (μ : vM), ∀ (H : Heap) (locs : List Loc) (ls : Array Slot), bw G s μ H locs → lv_has ls 8 [(0, .ref (ga G 0)), (1, .int a1), (2, .int a2), (3, .int a3), (4, .int x4), (5, .int x5)] → wp_X6_carry_68 a1 a2 a3 Q n68 x4 x5 μ → W p l e ({ frames := 7, cells := 0, slots := 0, locals := 171 } : Room) s m ([.ref (ga G 0), .int a1, .int a2, .int a3] : List Value).toArray below meth c H locs 0 0 (MQ below (qI G Q) ([.ref (ga G 0), .int a1, .int a2, .int a3] : List Value).toArray s 0 0 (gA G)) (F0 m 68 ls []) := by
                intro n68
                induction n68 with
                | zero => intro x4 x5 μ H locs ls h hl hw; exact absurd hw (by unfold wp_X6_carry_68; exact id)
                | succ n68 ih68 =>
                  intro x4 x5 μ H locs ls h hl hw
                  unfold wp_X6_carry_68 at hw
                  refine lv_iload hx hb dX6_carry_68 (lv_at hl 5 rfl) ?_
                  refine lv_iload hx hb dX6_carry_70 (lv_at hl 4 rfl) ?_
                  refine k_i h (n_T (rest := [.int x5]) (As := [.int x4]) X h hl.1 (c_J6_bitCount_0f7a4 l G hG x4 _ _ hw) gk_X6_228 rfl hd_J6_bitCount_0f7a4 ⟨rfl, rfl⟩ ⟨Nat.le_of_ble_eq_true rfl, Nat.le_of_ble_eq_true rfl⟩ rfl (Nat.le_of_ble_eq_true rfl) dX6_carry_72 ⟨Nat.zero_le _, Nat.zero_le _⟩) (fun r72 μ72 H locs hw h => ?_)
                  refine lv_icmp_ge (tgt := 147) hx hb dX6_carry_75 (by decide) (fun hc => ?_) (fun hc => ?_)
                  · rw [if_pos hc] at hw
                    refine lv_iload hx hb dX6_carry_147 (lv_at hl 4 rfl) ?_
                    exact r_iret X h hw dX6_carry_149
                  · rw [if_neg hc] at hw
                    refine lv_iconst (v := (0 : Int32)) hx hb dX6_carry_78 (by decide) ?_
                    refine lv_istore (lv' := [(6, .int (0 : Int32)), (0, .ref (ga G 0)), (1, .int a1), (2, .int a2), (3, .int a3), (4, .int x4), (5, .int x5)]) hx hb dX6_carry_79 hl (by decide) rfl (fun ls hl => ?_)
                    have s81 : ∀ (n81 : Nat) (x4 : Int32) (x5 : Int32) (x6 : Int32) (μ : vM), ∀ (H : Heap) (locs : List Loc) (ls : Array Slot), bw G s μ H locs → lv_has ls 8 [(0, .ref (ga G 0)), (1, .int a1), (2, .int a2), (3, .int a3), (4, .int x4), (5, .int x5), (6, .int x6)] → wp_X6_carry_81 a1 a2 a3 Q (fun x4 x5 μ => wp_X6_carry_68 a1 a2 a3 Q n68 x4 x5 μ) n81 x4 x5 x6 μ → W p l e ({ frames := 7, cells := 0, slots := 0, locals := 171 } : Room) s m ([.ref (ga G 0), .int a1, .int a2, .int a3] : List Value).toArray below meth c H locs 0 0 (MQ below (qI G Q) ([.ref (ga G 0), .int a1, .int a2, .int a3] : List Value).toArray s 0 0 (gA G)) (F0 m 81 ls []) := by
                      intro n81
                      induction n81 with
                      | zero => intro x4 x5 x6 μ H locs ls h hl hw; exact absurd hw (by unfold wp_X6_carry_81; exact id)
                      | succ n81 ih81 =>
                        intro x4 x5 x6 μ H locs ls h hl hw
                        unfold wp_X6_carry_81 at hw
                        refine lv_iload hx hb dX6_carry_81 (lv_at hl 6 rfl) ?_
                        refine lv_iload hx hb dX6_carry_83 (lv_at hl 4 rfl) ?_
                        refine lv_icmp_ge (tgt := 141) hx hb dX6_carry_85 (by decide) (fun hc => ?_) (fun hc => ?_)
                        · rw [if_pos hc] at hw
                          obtain ⟨x5_141, ex5_141, hw⟩ := hw
                          refine lv_iinc (v := x5_141) (lv' := [(5, .int x5_141), (0, .ref (ga G 0)), (1, .int a1), (2, .int a2), (3, .int a3), (4, .int x4), (6, .int x6)]) hx hb dX6_carry_141 hl (k := 5) rfl (by rw [ex5_141]; rfl) (by decide) rfl (fun ls hl => ?_)
                          refine lv_goto (tgt := 68) hx hb dX6_carry_144 (by decide) ?_
                          exact ih68 x4 x5_141 μ _ _ _ h (lv_sub hl [1, 2, 3, 4, 5, 0] rfl) hw
                        · rw [if_neg hc] at hw
                          refine lv_iload hx hb dX6_carry_88 (lv_at hl 6 rfl) ?_
                          refine lv_iload hx hb dX6_carry_90 (lv_at hl 4 rfl) ?_
                          refine lv_iconst (v := (-1 : Int32)) hx hb dX6_carry_92 (by decide) ?_
                          refine lv_ixor hx hb dX6_carry_93 ?_
                          refine lv_iand hx hb dX6_carry_94 ?_
                          have s113 : ∀ (x4 : Int32) (x5 : Int32) (x6 : Int32) (t0 : Int32) (μ : vM), ∀ (H : Heap) (locs : List Loc) (ls : Array Slot), bw G s μ H locs → lv_has ls 8 [(0, .ref (ga G 0)), (1, .int a1), (2, .int a2), (3, .int a3), (4, .int x4), (5, .int x5), (6, .int x6)] → wp_X6_carry_113 a1 a2 a3 Q (fun x4 x5 x6 μ => wp_X6_carry_81 a1 a2 a3 Q (fun x4 x5 μ => wp_X6_carry_68 a1 a2 a3 Q n68 x4 x5 μ) n81 x4 x5 x6 μ) x4 x5 x6 t0 μ → W p l e ({ frames := 7, cells := 0, slots := 0, locals := 171 } : Room) s m ([.ref (ga G 0), .int a1, .int a2, .int a3] : List Value).toArray below meth c H locs 0 0 (MQ below (qI G Q) ([.ref (ga G 0), .int a1, .int a2, .int a3] : List Value).toArray s 0 0 (gA G)) (F0 m 113 ls [.int t0]) := by
                            intro x4 x5 x6 t0 μ H locs ls h hl hw
                            unfold wp_X6_carry_113 at hw
                            refine lv_istore (lv' := [(7, .int t0), (0, .ref (ga G 0)), (1, .int a1), (2, .int a2), (3, .int a3), (4, .int x4), (5, .int x5), (6, .int x6)]) hx hb dX6_carry_113 hl (by decide) rfl (fun ls hl => ?_)
                            refine lv_iload hx hb dX6_carry_115 (lv_at hl 0 rfl) ?_
                            have s135 : ∀ (x4 : Int32) (x5 : Int32) (x6 : Int32) (μ : vM), ∀ (H : Heap) (locs : List Loc) (ls : Array Slot), bw G s μ H locs → lv_has ls 8 [(0, .ref (ga G 0)), (1, .int a1), (2, .int a2), (3, .int a3), (4, .int x4), (5, .int x5), (6, .int x6)] → wp_X6_carry_135 a1 a2 a3 Q (fun x4 x5 x6 μ => wp_X6_carry_81 a1 a2 a3 Q (fun x4 x5 μ => wp_X6_carry_68 a1 a2 a3 Q n68 x4 x5 μ) n81 x4 x5 x6 μ) x4 x5 x6 μ → W p l e ({ frames := 7, cells := 0, slots := 0, locals := 171 } : Room) s m ([.ref (ga G 0), .int a1, .int a2, .int a3] : List Value).toArray below meth c H locs 0 0 (MQ below (qI G Q) ([.ref (ga G 0), .int a1, .int a2, .int a3] : List Value).toArray s 0 0 (gA G)) (F0 m 135 ls []) := by
                              intro x4 x5 x6 μ H locs ls h hl hw
                              unfold wp_X6_carry_135 at hw
                              obtain ⟨x6_135, ex6_135, hw⟩ := hw
                              refine lv_iinc (v := x6_135) (lv' := [(6, .int x6_135), (0, .ref (ga G 0)), (1, .int a1), (2, .int a2), (3, .int a3), (4, .int x4), (5, .int x5)]) hx hb dX6_carry_135 hl (k := 6) rfl (by rw [ex6_135]; rfl) (by decide) rfl (fun ls hl => ?_)
                              refine lv_goto (tgt := 81) hx hb dX6_carry_138 (by decide) ?_
                              exact ih81 x4 x5 x6_135 μ _ _ _ h (lv_sub hl [1, 2, 3, 4, 5, 6, 0] rfl) hw
                            refine lv_if_eq (tgt := 135) hx hb dX6_carry_117 (by decide) (fun hc => ?_) (fun hc => ?_)
                            · rw [if_pos hc] at hw
                              exact s135 x4 x5 x6 μ _ _ _ h (lv_sub hl [1, 2, 3, 4, 5, 6, 7] rfl) hw
                            · rw [if_neg hc] at hw
                              refine lv_aload_n hx hb dX6_carry_120 rfl (lv_at hl 1 rfl) ?_
                              refine lv_iload_n hx hb dX6_carry_121 rfl (lv_at hl 2 rfl) ?_
                              refine lv_iload hx hb dX6_carry_122 (lv_at hl 7 rfl) ?_
                              refine lv_iload_n hx hb dX6_carry_124 rfl (lv_at hl 4 rfl) ?_
                              refine k_i h (n_V (rest := []) (As := [.int a1, .int x6, .int a3]) X h hl.1 (c_X6_getsWith l G hG a1 x6 a3 h0 _ _ hw) gk_X6_225 rfl hd_X6_getsWith ⟨rfl, rfl⟩ ⟨Nat.le_of_ble_eq_true rfl, Nat.le_of_ble_eq_true rfl⟩ (X6_o h0) rfl rfl (Nat.le_of_ble_eq_true rfl) dX6_carry_125 ⟨Nat.zero_le _, Nat.zero_le _⟩) (fun r125 μ125 H locs hw h => ?_)
                              refine lv_iload_n hx hb dX6_carry_128 rfl (lv_at hl 3 rfl) ?_
                              refine lv_icmp_lt (tgt := 135) hx hb dX6_carry_129 (by decide) (fun hc => ?_) (fun hc => ?_)
                              · rw [if_pos hc] at hw
                                exact s135 x4 x5 x6 μ125 _ _ _ h (lv_sub hl [1, 2, 3, 4, 5, 6, 7] rfl) hw
                              · rw [if_neg hc] at hw
                                refine lv_iload hx hb dX6_carry_132 (lv_at hl 7 rfl) ?_
                                exact r_iret X h hw dX6_carry_134
                          have s112 : ∀ (x4 : Int32) (x5 : Int32) (x6 : Int32) (μ : vM), ∀ (H : Heap) (locs : List Loc) (ls : Array Slot), bw G s μ H locs → lv_has ls 8 [(0, .ref (ga G 0)), (1, .int a1), (2, .int a2), (3, .int a3), (4, .int x4), (5, .int x5), (6, .int x6)] → wp_X6_carry_112 a1 a2 a3 Q (fun x4 x5 x6 μ => wp_X6_carry_81 a1 a2 a3 Q (fun x4 x5 μ => wp_X6_carry_68 a1 a2 a3 Q n68 x4 x5 μ) n81 x4 x5 x6 μ) x4 x5 x6 μ → W p l e ({ frames := 7, cells := 0, slots := 0, locals := 171 } : Room) s m ([.ref (ga G 0), .int a1, .int a2, .int a3] : List Value).toArray below meth c H locs 0 0 (MQ below (qI G Q) ([.ref (ga G 0), .int a1, .int a2, .int a3] : List Value).toArray s 0 0 (gA G)) (F0 m 112 ls []) := by
                            intro x4 x5 x6 μ H locs ls h hl hw
                            unfold wp_X6_carry_112 at hw
                            refine lv_iconst (v := (0 : Int32)) hx hb dX6_carry_112 (by decide) ?_
                            exact s113 x4 x5 x6 (0 : Int32) μ _ _ _ h (lv_sub hl [0, 1, 2, 3, 4, 5, 6] rfl) hw
                          refine lv_if_ne (tgt := 112) hx hb dX6_carry_95 (by decide) (fun hc => ?_) (fun hc => ?_)
                          · rw [if_neg hc] at hw
                            exact s112 x4 x5 x6 μ _ _ _ h (lv_sub hl [0, 1, 2, 3, 4, 5, 6] rfl) hw
                          · rw [if_pos hc] at hw
                            refine lv_iload hx hb dX6_carry_98 (lv_at hl 6 rfl) ?_
                            refine k_i h (n_T (rest := []) (As := [.int x6]) X h hl.1 (c_J6_bitCount_0f7a4 l G hG x6 _ _ hw) gk_X6_228 rfl hd_J6_bitCount_0f7a4 ⟨rfl, rfl⟩ ⟨Nat.le_of_ble_eq_true rfl, Nat.le_of_ble_eq_true rfl⟩ rfl (Nat.le_of_ble_eq_true rfl) dX6_carry_100 ⟨Nat.zero_le _, Nat.zero_le _⟩) (fun r100 μ100 H locs hw h => ?_)
                            refine lv_iload hx hb dX6_carry_103 (lv_at hl 5 rfl) ?_
                            refine lv_icmp_ne (tgt := 112) hx hb dX6_carry_105 (by decide) (fun hc => ?_) (fun hc => ?_)
                            · rw [if_neg hc] at hw
                              exact s112 x4 x5 x6 μ100 _ _ _ h (lv_sub hl [0, 1, 2, 3, 4, 5, 6] rfl) hw
                            · rw [if_pos hc] at hw
                              refine lv_iconst (v := (1 : Int32)) hx hb dX6_carry_108 (by decide) ?_
                              refine lv_goto (tgt := 113) hx hb dX6_carry_109 (by decide) ?_
                              exact s113 x4 x5 x6 (1 : Int32) μ100 _ _ _ h (lv_sub hl [0, 1, 2, 3, 4, 5, 6] rfl) hw
                    obtain ⟨n, hw⟩ := hw
                    exact s81 n x4 x5 (0 : Int32) μ72 _ _ _ h (lv_sub hl [1, 2, 3, 4, 5, 6, 0] rfl) hw
              obtain ⟨n, hw⟩ := hw
              exact s68 n r42 (0 : Int32) μ52 _ _ _ h (lv_sub hl [2, 3, 4, 5, 1, 0] rfl) hw
            · rw [if_neg hc] at hw
              refine lv_aload_n hx hb dX6_carry_59 rfl (lv_at hl 1 rfl) ?_
              refine lv_iconst (v := (2 : Int32)) hx hb dX6_carry_60 (by decide) ?_
              refine k_i h (n_V (rest := []) (As := [.int (2 : Int32)]) X h hl.1 (c_X6_error l G hG (2 : Int32) h0 _ _ hw) gk_X6_72 rfl hd_X6_error ⟨rfl, rfl⟩ ⟨Nat.le_of_ble_eq_true rfl, Nat.le_of_ble_eq_true rfl⟩ (X6_o h0) rfl rfl (Nat.le_of_ble_eq_true rfl) dX6_carry_61 ⟨Nat.zero_le _, Nat.zero_le _⟩) (fun r61 μ61 H locs hw h => ?_)
              exact r_iret X h hw dX6_carry_64
          · rw [if_neg hc] at hw
            refine lv_aload_n hx hb dX6_carry_28 rfl (lv_at hl 0 rfl) ?_
            refine lv_iconst (v := (1 : Int32)) hx hb dX6_carry_29 (by decide) ?_
            refine k_i h (n_V (rest := []) (As := [.int (1 : Int32)]) X h hl.1 (c_X6_error l G hG (1 : Int32) h0 _ _ hw) gk_X6_72 rfl hd_X6_error ⟨rfl, rfl⟩ ⟨Nat.le_of_ble_eq_true rfl, Nat.le_of_ble_eq_true rfl⟩ (X6_o h0) rfl rfl (Nat.le_of_ble_eq_true rfl) dX6_carry_30 ⟨Nat.zero_le _, Nat.zero_le _⟩) (fun r30 μ30 H locs hw h => ?_)
            exact r_iret X h hw dX6_carry_33
def wp_X6_homeWithWay (a1 : Int32) (a2 : Int32) (a3 : Int32) (Q : Int32 → vM → Prop) (μ : vM) : Prop := wp_X3_copy 46 2 (fun μ11 => wp_X3_join 46 a1 a2 (fun μ20 => wp_X0_copy 39 5 (fun μ34 => wp_X6_passDays 39 46 a3 (fun μ47 => wp_X0_homeSet 39 (fun r54 μ54 => wp_J6_bitCount_0f7a4 r54 (fun r57 μ57 => Q r57 μ57) μ54) μ47) μ34) μ20) μ11) μ
set_option maxRecDepth 100000 in
set_option maxHeartbeats 4000000 in
theorem c_X6_homeWithWay (l : Launch) (G : vG) (hG : gO G) (a1 : Int32) (a2 : Int32) (a3 : Int32) (h0 : isX6 G) (Q : Int32 → vM → Prop) (μ : vM) (hw : wp_X6_homeWithWay a1 a2 a3 Q μ) : mt l G yX6_homeWithWay vX6_homeWithWay { frames := 6, cells := 0, slots := 0, locals := 147 } [.ref (ga G 0), .int a1, .int a2, .int a3] μ (qI G Q) := by
  refine met_of (cc := cX6_homeWithWay) (maxL := 4) (ret := (some .int)) RX6 (by decide) rfl rfl hG (Nat.le_of_ble_eq_true rfl) ?_
  intro p e s m below meth c X h ls hl
  have hl : lv_has ls 4 [(0, .ref (ga G 0)), (1, .int a1), (2, .int a2), (3, .int a3)] := hl
  have hx := X.1
  have hb := X.2.1
  unfold wp_X6_homeWithWay at hw
  refine lv_aload_n hx hb dX6_homeWithWay_0 rfl (lv_at hl 0 rfl) ?_
  refine r_getR (q := 46) X h (X6_o h0) rfl uX6 4 (by decide) lf_1_229 rfl dX6_homeWithWay_1 ?_
  refine lv_aload_n hx hb dX6_homeWithWay_4 rfl (lv_at hl 0 rfl) ?_
  refine r_getR (q := 1) X h (X6_o h0) rfl uX6 0 (by decide) lf_1_225 rfl dX6_homeWithWay_5 ?_
  refine r_getR (q := 2) X h (X5_o (X6_now h0)) rfl uX5 0 (by decide) fn_15 rfl dX6_homeWithWay_8 ?_
  refine k_v h (n_V (rest := []) (As := [.ref (ga G 2)]) X h hl.1 (c_X3_copy l G hG 46 2 (X6_trial h0) (X5_roads (X6_now h0)) _ _ hw) gk_X6_312 rfl hd_X3_copy ⟨rfl, rfl⟩ ⟨Nat.le_of_ble_eq_true rfl, Nat.le_of_ble_eq_true rfl⟩ (X3_o (X6_trial h0)) rfl rfl (Nat.le_of_ble_eq_true rfl) dX6_homeWithWay_11 ⟨Nat.zero_le _, Nat.zero_le _⟩) (fun μ11 H locs hw h => ?_)
  refine lv_aload_n hx hb dX6_homeWithWay_14 rfl (lv_at hl 0 rfl) ?_
  refine r_getR (q := 46) X h (X6_o h0) rfl uX6 4 (by decide) lf_1_229 rfl dX6_homeWithWay_15 ?_
  refine lv_iload_n hx hb dX6_homeWithWay_18 rfl (lv_at hl 1 rfl) ?_
  refine lv_iload_n hx hb dX6_homeWithWay_19 rfl (lv_at hl 2 rfl) ?_
  refine k_v h (n_V (rest := []) (As := [.int a1, .int a2]) X h hl.1 (c_X3_join l G hG 46 a1 a2 (X6_trial h0) _ _ hw) gk_X6_83 rfl hd_X3_join ⟨rfl, rfl⟩ ⟨Nat.le_of_ble_eq_true rfl, Nat.le_of_ble_eq_true rfl⟩ (X3_o (X6_trial h0)) rfl rfl (Nat.le_of_ble_eq_true rfl) dX6_homeWithWay_20 ⟨Nat.zero_le _, Nat.zero_le _⟩) (fun μ20 H locs hw h => ?_)
  refine lv_aload_n hx hb dX6_homeWithWay_23 rfl (lv_at hl 0 rfl) ?_
  refine r_getR (q := 39) X h (X6_o h0) rfl uX6 3 (by decide) lf_1_228 rfl dX6_homeWithWay_24 ?_
  refine lv_aload_n hx hb dX6_homeWithWay_27 rfl (lv_at hl 0 rfl) ?_
  refine r_getR (q := 1) X h (X6_o h0) rfl uX6 0 (by decide) lf_1_225 rfl dX6_homeWithWay_28 ?_
  refine r_getR (q := 5) X h (X5_o (X6_now h0)) rfl uX5 1 (by decide) fn_16 rfl dX6_homeWithWay_31 ?_
  refine k_v h (n_V (rest := []) (As := [.ref (ga G 5)]) X h hl.1 (c_X0_copy l G hG 39 5 (X6_thought h0) (X5_harvest (X6_now h0)) _ _ hw) gk_X6_212 rfl hd_X0_copy ⟨rfl, rfl⟩ ⟨Nat.le_of_ble_eq_true rfl, Nat.le_of_ble_eq_true rfl⟩ (X0_o (X6_thought h0)) rfl rfl (Nat.le_of_ble_eq_true rfl) dX6_homeWithWay_34 ⟨Nat.zero_le _, Nat.zero_le _⟩) (fun μ34 H locs hw h => ?_)
  refine lv_aload_n hx hb dX6_homeWithWay_37 rfl (lv_at hl 0 rfl) ?_
  refine lv_aload_n hx hb dX6_homeWithWay_38 rfl (lv_at hl 0 rfl) ?_
  refine r_getR (q := 39) X h (X6_o h0) rfl uX6 3 (by decide) lf_1_228 rfl dX6_homeWithWay_39 ?_
  refine lv_aload_n hx hb dX6_homeWithWay_42 rfl (lv_at hl 0 rfl) ?_
  refine r_getR (q := 46) X h (X6_o h0) rfl uX6 4 (by decide) lf_1_229 rfl dX6_homeWithWay_43 ?_
  refine lv_iload_n hx hb dX6_homeWithWay_46 rfl (lv_at hl 3 rfl) ?_
  refine k_v h (n_V (rest := []) (As := [.ref (ga G 39), .ref (ga G 46), .int a3]) X h hl.1 (c_X6_passDays l G hG 39 46 a3 h0 (X6_thought h0) (X6_trial h0) _ _ hw) gk_X6_190 rfl hd_X6_passDays ⟨rfl, rfl⟩ ⟨Nat.le_of_ble_eq_true rfl, Nat.le_of_ble_eq_true rfl⟩ (X6_o h0) rfl rfl (Nat.le_of_ble_eq_true rfl) dX6_homeWithWay_47 ⟨Nat.zero_le _, Nat.zero_le _⟩) (fun μ47 H locs hw h => ?_)
  refine lv_aload_n hx hb dX6_homeWithWay_50 rfl (lv_at hl 0 rfl) ?_
  refine r_getR (q := 39) X h (X6_o h0) rfl uX6 3 (by decide) lf_1_228 rfl dX6_homeWithWay_51 ?_
  refine k_i h (n_V (rest := []) (As := []) X h hl.1 (c_X0_homeSet l G hG 39 (X6_thought h0) _ _ hw) gk_X6_194 rfl hd_X0_homeSet ⟨rfl, rfl⟩ ⟨Nat.le_of_ble_eq_true rfl, Nat.le_of_ble_eq_true rfl⟩ (X0_o (X6_thought h0)) rfl rfl (Nat.le_of_ble_eq_true rfl) dX6_homeWithWay_54 ⟨Nat.zero_le _, Nat.zero_le _⟩) (fun r54 μ54 H locs hw h => ?_)
  refine k_i h (n_T (rest := []) (As := [.int r54]) X h hl.1 (c_J6_bitCount_0f7a4 l G hG r54 _ _ hw) gk_X6_228 rfl hd_J6_bitCount_0f7a4 ⟨rfl, rfl⟩ ⟨Nat.le_of_ble_eq_true rfl, Nat.le_of_ble_eq_true rfl⟩ rfl (Nat.le_of_ble_eq_true rfl) dX6_homeWithWay_57 ⟨Nat.zero_le _, Nat.zero_le _⟩) (fun r57 μ57 H locs hw h => ?_)
  exact r_iret X h hw dX6_homeWithWay_60
def wp_X6_way_119 (a1 : Int32) (a2 : Int32) (Q : Int32 → vM → Prop) (k46 : Int32 → Int32 → Int32 → Int32 → vM → Prop) (x3 : Int32) (x4 : Int32) (x5 : Int32) (x6 : Int32) (μ : vM) : Prop := ∃ x6_119 : Int32, x6_119 = x6 + (1 : Int32) ∧ k46 x3 x4 x5 x6_119 μ
def wp_X6_way_46 (a1 : Int32) (a2 : Int32) (Q : Int32 → vM → Prop) (k33 : Int32 → Int32 → Int32 → vM → Prop) : Nat → Int32 → Int32 → Int32 → Int32 → vM → Prop
  | 0, _, _, _, _, _ => False
  | n46 + 1, x3, x4, x5, x6, μ => if (10 : Int32) ≤ x6 then ∃ x5_125 : Int32, x5_125 = x5 + (1 : Int32) ∧ k33 x3 x4 x5_125 μ else if x4 = (μ 5 0) then wp_X6_way_119 a1 a2 Q (fun x3 x4 x5 x6 μ => wp_X6_way_46 a1 a2 Q k33 n46 x3 x4 x5 x6 μ) x3 x4 x5 x6 μ else wp_X3_isOpen 2 x5 x6 (fun r79 μ79 => if r79 = 0 then wp_X6_homeWithWay x5 x6 a1 (fun r94 μ94 => if r94 ≤ x4 then wp_X6_way_119 a1 a2 Q (fun x3 x4 x5 x6 μ => wp_X6_way_46 a1 a2 Q k33 n46 x3 x4 x5 x6 μ) x3 x4 x5 x6 μ94 else ∃ x3_118 : Int32, x3_118 = ((10 : Int32) * x5) + x6 ∧ wp_X6_way_119 a1 a2 Q (fun x3 x4 x5 x6 μ => wp_X6_way_46 a1 a2 Q k33 n46 x3 x4 x5 x6 μ) x3_118 r94 x5 x6 μ94) μ79 else wp_X6_way_119 a1 a2 Q (fun x3 x4 x5 x6 μ => wp_X6_way_46 a1 a2 Q k33 n46 x3 x4 x5 x6 μ) x3 x4 x5 x6 μ79) μ
def wp_X6_way_33 (a1 : Int32) (a2 : Int32) (Q : Int32 → vM → Prop) : Nat → Int32 → Int32 → Int32 → vM → Prop
  | 0, _, _, _, _ => False
  | n33 + 1, x3, x4, x5, μ => if (10 : Int32) ≤ x5 then if 0 ≤ x3 then if a2 = 0 then Q x3 μ else Q x4 μ else wp_X6_error (2 : Int32) (fun r137 μ137 => Q r137 μ137) μ else ∃ x6_44 : Int32, x6_44 = x5 + (1 : Int32) ∧ ∃ n46, wp_X6_way_46 a1 a2 Q (fun x3 x4 x5 μ => wp_X6_way_33 a1 a2 Q n33 x3 x4 x5 μ) n46 x3 x4 x5 x6_44 μ
def wp_X6_way (a1 : Int32) (a2 : Int32) (Q : Int32 → vM → Prop) (μ : vM) : Prop := if a1 < 0 then wp_X6_error (1 : Int32) (fun r21 μ21 => Q r21 μ21) μ else if (30 : Int32) < a1 then wp_X6_error (1 : Int32) (fun r21 μ21 => Q r21 μ21) μ else if a2 < 0 then wp_X6_error (1 : Int32) (fun r21 μ21 => Q r21 μ21) μ else if a2 ≤ (1 : Int32) then ∃ n33, wp_X6_way_33 a1 a2 Q n33 (-1 : Int32) (-1 : Int32) (0 : Int32) μ else wp_X6_error (1 : Int32) (fun r21 μ21 => Q r21 μ21) μ
set_option maxRecDepth 100000 in
set_option maxHeartbeats 4000000 in
theorem c_X6_way (l : Launch) (G : vG) (hG : gO G) (a1 : Int32) (a2 : Int32) (h0 : isX6 G) (Q : Int32 → vM → Prop) (μ : vM) (hw : wp_X6_way a1 a2 Q μ) : mt l G yX6_way vX6_way { frames := 7, cells := 0, slots := 0, locals := 170 } [.ref (ga G 0), .int a1, .int a2] μ (qI G Q) := by
  refine met_of (cc := cX6_way) (maxL := 8) (ret := (some .int)) RX6 (by decide) rfl rfl hG (Nat.le_of_ble_eq_true rfl) ?_
  intro p e s m below meth c X h ls hl
  have hl : lv_has ls 8 [(0, .ref (ga G 0)), (1, .int a1), (2, .int a2)] := hl
  have hx := X.1
  have hb := X.2.1
  unfold wp_X6_way at hw
  refine lv_iload_n hx hb dX6_way_0 rfl (lv_at hl 1 rfl) ?_
  refine lv_if_lt (tgt := 19) hx hb dX6_way_1 (by decide) (fun hc => ?_) (fun hc => ?_)
  · rw [if_pos hc] at hw
    refine lv_aload_n hx hb dX6_way_19 rfl (lv_at hl 0 rfl) ?_
    refine lv_iconst (v := (1 : Int32)) hx hb dX6_way_20 (by decide) ?_
    refine k_i h (n_V (rest := []) (As := [.int (1 : Int32)]) X h hl.1 (c_X6_error l G hG (1 : Int32) h0 _ _ hw) gk_X6_72 rfl hd_X6_error ⟨rfl, rfl⟩ ⟨Nat.le_of_ble_eq_true rfl, Nat.le_of_ble_eq_true rfl⟩ (X6_o h0) rfl rfl (Nat.le_of_ble_eq_true rfl) dX6_way_21 ⟨Nat.zero_le _, Nat.zero_le _⟩) (fun r21 μ21 H locs hw h => ?_)
    exact r_iret X h hw dX6_way_24
  · rw [if_neg hc] at hw
    refine lv_iload_n hx hb dX6_way_4 rfl (lv_at hl 1 rfl) ?_
    refine lv_bipush (v := (30 : Int32)) hx hb dX6_way_5 (by decide) ?_
    refine lv_icmp_gt (tgt := 19) hx hb dX6_way_7 (by decide) (fun hc => ?_) (fun hc => ?_)
    · rw [if_pos hc] at hw
      refine lv_aload_n hx hb dX6_way_19 rfl (lv_at hl 0 rfl) ?_
      refine lv_iconst (v := (1 : Int32)) hx hb dX6_way_20 (by decide) ?_
      refine k_i h (n_V (rest := []) (As := [.int (1 : Int32)]) X h hl.1 (c_X6_error l G hG (1 : Int32) h0 _ _ hw) gk_X6_72 rfl hd_X6_error ⟨rfl, rfl⟩ ⟨Nat.le_of_ble_eq_true rfl, Nat.le_of_ble_eq_true rfl⟩ (X6_o h0) rfl rfl (Nat.le_of_ble_eq_true rfl) dX6_way_21 ⟨Nat.zero_le _, Nat.zero_le _⟩) (fun r21 μ21 H locs hw h => ?_)
      exact r_iret X h hw dX6_way_24
    · rw [if_neg hc] at hw
      refine lv_iload_n hx hb dX6_way_10 rfl (lv_at hl 2 rfl) ?_
      refine lv_if_lt (tgt := 19) hx hb dX6_way_11 (by decide) (fun hc => ?_) (fun hc => ?_)
      · rw [if_pos hc] at hw
        refine lv_aload_n hx hb dX6_way_19 rfl (lv_at hl 0 rfl) ?_
        refine lv_iconst (v := (1 : Int32)) hx hb dX6_way_20 (by decide) ?_
        refine k_i h (n_V (rest := []) (As := [.int (1 : Int32)]) X h hl.1 (c_X6_error l G hG (1 : Int32) h0 _ _ hw) gk_X6_72 rfl hd_X6_error ⟨rfl, rfl⟩ ⟨Nat.le_of_ble_eq_true rfl, Nat.le_of_ble_eq_true rfl⟩ (X6_o h0) rfl rfl (Nat.le_of_ble_eq_true rfl) dX6_way_21 ⟨Nat.zero_le _, Nat.zero_le _⟩) (fun r21 μ21 H locs hw h => ?_)
        exact r_iret X h hw dX6_way_24
      · rw [if_neg hc] at hw
        refine lv_iload_n hx hb dX6_way_14 rfl (lv_at hl 2 rfl) ?_
        refine lv_iconst (v := (1 : Int32)) hx hb dX6_way_15 (by decide) ?_
        refine lv_icmp_le (tgt := 25) hx hb dX6_way_16 (by decide) (fun hc => ?_) (fun hc => ?_)
        · rw [if_pos hc] at hw
          refine lv_iconst (v := (-1 : Int32)) hx hb dX6_way_25 (by decide) ?_
          refine lv_istore_n (lv' := [(3, .int (-1 : Int32)), (0, .ref (ga G 0)), (1, .int a1), (2, .int a2)]) hx hb dX6_way_26 rfl hl (by decide) rfl (fun ls hl => ?_)
          refine lv_iconst (v := (-1 : Int32)) hx hb dX6_way_27 (by decide) ?_
          refine lv_istore (lv' := [(4, .int (-1 : Int32)), (3, .int (-1 : Int32)), (0, .ref (ga G 0)), (1, .int a1), (2, .int a2)]) hx hb dX6_way_28 hl (by decide) rfl (fun ls hl => ?_)
          refine lv_iconst (v := (0 : Int32)) hx hb dX6_way_30 (by decide) ?_
          refine lv_istore (lv' := [(5, .int (0 : Int32)), (4, .int (-1 : Int32)), (3, .int (-1 : Int32)), (0, .ref (ga G 0)), (1, .int a1), (2, .int a2)]) hx hb dX6_way_31 hl (by decide) rfl (fun ls hl => ?_)
          have s33 : ∀ (n33 : Nat) (x3 : Int32) (x4 : Int32) (x5 : Int32) (μ : vM), ∀ (H : Heap) (locs : List Loc) (ls : Array Slot), bw G s μ H locs → lv_has ls 8 [(0, .ref (ga G 0)), (1, .int a1), (2, .int a2), (3, .int x3), (4, .int x4), (5, .int x5)] → wp_X6_way_33 a1 a2 Q n33 x3 x4 x5 μ → W p l e ({ frames := 7, cells := 0, slots := 0, locals := 170 } : Room) s m ([.ref (ga G 0), .int a1, .int a2] : List Value).toArray below meth c H locs 0 0 (MQ below (qI G Q) ([.ref (ga G 0), .int a1, .int a2] : List Value).toArray s 0 0 (gA G)) (F0 m 33 ls []) := by
            intro n33
            induction n33 with
            | zero => intro x3 x4 x5 μ H locs ls h hl hw; exact absurd hw (by unfold wp_X6_way_33; exact id)
            | succ n33 ih33 =>
              intro x3 x4 x5 μ H locs ls h hl hw
              unfold wp_X6_way_33 at hw
              refine lv_iload hx hb dX6_way_33 (lv_at hl 5 rfl) ?_
              refine lv_bipush (v := (10 : Int32)) hx hb dX6_way_35 (by decide) ?_
              refine lv_icmp_ge (tgt := 131) hx hb dX6_way_37 (by decide) (fun hc => ?_) (fun hc => ?_)
              · rw [if_pos hc] at hw
                refine lv_iload_n hx hb dX6_way_131 rfl (lv_at hl 3 rfl) ?_
                refine lv_if_ge (tgt := 141) hx hb dX6_way_132 (by decide) (fun hc => ?_) (fun hc => ?_)
                · rw [if_pos hc] at hw
                  refine lv_iload_n hx hb dX6_way_141 rfl (lv_at hl 2 rfl) ?_
                  refine lv_if_ne (tgt := 149) hx hb dX6_way_142 (by decide) (fun hc => ?_) (fun hc => ?_)
                  · rw [if_neg hc] at hw
                    refine lv_iload hx hb dX6_way_149 (lv_at hl 4 rfl) ?_
                    exact r_iret X h hw dX6_way_151
                  · rw [if_pos hc] at hw
                    refine lv_iload_n hx hb dX6_way_145 rfl (lv_at hl 3 rfl) ?_
                    refine lv_goto (tgt := 151) hx hb dX6_way_146 (by decide) ?_
                    exact r_iret X h hw dX6_way_151
                · rw [if_neg hc] at hw
                  refine lv_aload_n hx hb dX6_way_135 rfl (lv_at hl 0 rfl) ?_
                  refine lv_iconst (v := (2 : Int32)) hx hb dX6_way_136 (by decide) ?_
                  refine k_i h (n_V (rest := []) (As := [.int (2 : Int32)]) X h hl.1 (c_X6_error l G hG (2 : Int32) h0 _ _ hw) gk_X6_72 rfl hd_X6_error ⟨rfl, rfl⟩ ⟨Nat.le_of_ble_eq_true rfl, Nat.le_of_ble_eq_true rfl⟩ (X6_o h0) rfl rfl (Nat.le_of_ble_eq_true rfl) dX6_way_137 ⟨Nat.zero_le _, Nat.zero_le _⟩) (fun r137 μ137 H locs hw h => ?_)
                  exact r_iret X h hw dX6_way_140
              · rw [if_neg hc] at hw
                refine lv_iload hx hb dX6_way_40 (lv_at hl 5 rfl) ?_
                refine lv_iconst (v := (1 : Int32)) hx hb dX6_way_42 (by decide) ?_
                refine lv_iadd hx hb dX6_way_43 ?_
                obtain ⟨x6_44, ex6_44, hw⟩ := hw
                refine topE ex6_44 ?_
                refine lv_istore (lv' := [(6, .int x6_44), (0, .ref (ga G 0)), (1, .int a1), (2, .int a2), (3, .int x3), (4, .int x4), (5, .int x5)]) hx hb dX6_way_44 hl (by decide) rfl (fun ls hl => ?_)
                have s46 : ∀ (n46 : Nat) (x3 : Int32) (x4 : Int32) (x5 : Int32) (x6 : Int32) (μ : vM), ∀ (H : Heap) (locs : List Loc) (ls : Array Slot), bw G s μ H locs → lv_has ls 8 [(0, .ref (ga G 0)), (1, .int a1), (2, .int a2), (3, .int x3), (4, .int x4), (5, .int x5), (6, .int x6)] → wp_X6_way_46 a1 a2 Q (fun x3 x4 x5 μ => wp_X6_way_33 a1 a2 Q n33 x3 x4 x5 μ) n46 x3 x4 x5 x6 μ → W p l e ({ frames := 7, cells := 0, slots := 0, locals := 170 } : Room) s m ([.ref (ga G 0), .int a1, .int a2] : List Value).toArray below meth c H locs 0 0 (MQ below (qI G Q) ([.ref (ga G 0), .int a1, .int a2] : List Value).toArray s 0 0 (gA G)) (F0 m 46 ls []) := by
                  intro n46
                  induction n46 with
                  | zero => intro x3 x4 x5 x6 μ H locs ls h hl hw; exact absurd hw (by unfold wp_X6_way_46; exact id)
                  | succ n46 ih46 =>
                    intro x3 x4 x5 x6 μ H locs ls h hl hw
                    unfold wp_X6_way_46 at hw
                    refine lv_iload hx hb dX6_way_46 (lv_at hl 6 rfl) ?_
                    refine lv_bipush (v := (10 : Int32)) hx hb dX6_way_48 (by decide) ?_
                    refine lv_icmp_ge (tgt := 125) hx hb dX6_way_50 (by decide) (fun hc => ?_) (fun hc => ?_)
                    · rw [if_pos hc] at hw
                      obtain ⟨x5_125, ex5_125, hw⟩ := hw
                      refine lv_iinc (v := x5_125) (lv' := [(5, .int x5_125), (0, .ref (ga G 0)), (1, .int a1), (2, .int a2), (3, .int x3), (4, .int x4), (6, .int x6)]) hx hb dX6_way_125 hl (k := 5) rfl (by rw [ex5_125]; rfl) (by decide) rfl (fun ls hl => ?_)
                      refine lv_goto (tgt := 33) hx hb dX6_way_128 (by decide) ?_
                      exact ih33 x3 x4 x5_125 μ _ _ _ h (lv_sub hl [1, 2, 3, 4, 5, 0] rfl) hw
                    · rw [if_neg hc] at hw
                      refine lv_iload hx hb dX6_way_53 (lv_at hl 4 rfl) ?_
                      refine lv_aload_n hx hb dX6_way_55 rfl (lv_at hl 0 rfl) ?_
                      refine r_getR (q := 1) X h (X6_o h0) rfl uX6 0 (by decide) lf_1_225 rfl dX6_way_56 ?_
                      refine r_getR (q := 5) X h (X5_o (X6_now h0)) rfl uX5 1 (by decide) fn_16 rfl dX6_way_59 ?_
                      refine r_getI X h (X0_o (X5_harvest (X6_now h0))) rfl uX0 0 (by decide) fn_1 rfl dX6_way_62 ?_
                      have s119 : ∀ (x3 : Int32) (x4 : Int32) (x5 : Int32) (x6 : Int32) (μ : vM), ∀ (H : Heap) (locs : List Loc) (ls : Array Slot), bw G s μ H locs → lv_has ls 8 [(0, .ref (ga G 0)), (1, .int a1), (2, .int a2), (3, .int x3), (4, .int x4), (5, .int x5), (6, .int x6)] → wp_X6_way_119 a1 a2 Q (fun x3 x4 x5 x6 μ => wp_X6_way_46 a1 a2 Q (fun x3 x4 x5 μ => wp_X6_way_33 a1 a2 Q n33 x3 x4 x5 μ) n46 x3 x4 x5 x6 μ) x3 x4 x5 x6 μ → W p l e ({ frames := 7, cells := 0, slots := 0, locals := 170 } : Room) s m ([.ref (ga G 0), .int a1, .int a2] : List Value).toArray below meth c H locs 0 0 (MQ below (qI G Q) ([.ref (ga G 0), .int a1, .int a2] : List Value).toArray s 0 0 (gA G)) (F0 m 119 ls []) := by
                        intro x3 x4 x5 x6 μ H locs ls h hl hw
                        unfold wp_X6_way_119 at hw
                        obtain ⟨x6_119, ex6_119, hw⟩ := hw
                        refine lv_iinc (v := x6_119) (lv' := [(6, .int x6_119), (0, .ref (ga G 0)), (1, .int a1), (2, .int a2), (3, .int x3), (4, .int x4), (5, .int x5)]) hx hb dX6_way_119 hl (k := 6) rfl (by rw [ex6_119]; rfl) (by decide) rfl (fun ls hl => ?_)
                        refine lv_goto (tgt := 46) hx hb dX6_way_122 (by decide) ?_
                        exact ih46 x3 x4 x5 x6_119 μ _ _ _ h (lv_sub hl [1, 2, 3, 4, 5, 6, 0] rfl) hw
                      refine lv_icmp_eq (tgt := 119) hx hb dX6_way_65 (by decide) (fun hc => ?_) (fun hc => ?_)
                      · rw [if_pos hc] at hw
                        exact s119 x3 x4 x5 x6 μ _ _ _ h (lv_sub hl [0, 1, 2, 3, 4, 5, 6] rfl) hw
                      · rw [if_neg hc] at hw
                        refine lv_aload_n hx hb dX6_way_68 rfl (lv_at hl 0 rfl) ?_
                        refine r_getR (q := 1) X h (X6_o h0) rfl uX6 0 (by decide) lf_1_225 rfl dX6_way_69 ?_
                        refine r_getR (q := 2) X h (X5_o (X6_now h0)) rfl uX5 0 (by decide) fn_15 rfl dX6_way_72 ?_
                        refine lv_iload hx hb dX6_way_75 (lv_at hl 5 rfl) ?_
                        refine lv_iload hx hb dX6_way_77 (lv_at hl 6 rfl) ?_
                        refine k_i h (n_V (rest := []) (As := [.int x5, .int x6]) X h hl.1 (c_X3_isOpen l G hG 2 x5 x6 (X5_roads (X6_now h0)) _ _ hw) gk_X6_79 rfl hd_X3_isOpen ⟨rfl, rfl⟩ ⟨Nat.le_of_ble_eq_true rfl, Nat.le_of_ble_eq_true rfl⟩ (X3_o (X5_roads (X6_now h0))) rfl rfl (Nat.le_of_ble_eq_true rfl) dX6_way_79 ⟨Nat.zero_le _, Nat.zero_le _⟩) (fun r79 μ79 H locs hw h => ?_)
                        refine lv_if_eq (tgt := 88) hx hb dX6_way_82 (by decide) (fun hc => ?_) (fun hc => ?_)
                        · rw [if_pos hc] at hw
                          refine lv_aload_n hx hb dX6_way_88 rfl (lv_at hl 0 rfl) ?_
                          refine lv_iload hx hb dX6_way_89 (lv_at hl 5 rfl) ?_
                          refine lv_iload hx hb dX6_way_91 (lv_at hl 6 rfl) ?_
                          refine lv_iload_n hx hb dX6_way_93 rfl (lv_at hl 1 rfl) ?_
                          refine k_i h (n_V (rest := []) (As := [.int x5, .int x6, .int a1]) X h hl.1 (c_X6_homeWithWay l G hG x5 x6 a1 h0 _ _ hw) gk_X6_233 rfl hd_X6_homeWithWay ⟨rfl, rfl⟩ ⟨Nat.le_of_ble_eq_true rfl, Nat.le_of_ble_eq_true rfl⟩ (X6_o h0) rfl rfl (Nat.le_of_ble_eq_true rfl) dX6_way_94 ⟨Nat.zero_le _, Nat.zero_le _⟩) (fun r94 μ94 H locs hw h => ?_)
                          refine lv_istore (lv' := [(7, .int r94), (0, .ref (ga G 0)), (1, .int a1), (2, .int a2), (3, .int x3), (4, .int x4), (5, .int x5), (6, .int x6)]) hx hb dX6_way_97 hl (by decide) rfl (fun ls hl => ?_)
                          refine lv_iload hx hb dX6_way_99 (lv_at hl 0 rfl) ?_
                          refine lv_iload hx hb dX6_way_101 (lv_at hl 5 rfl) ?_
                          refine lv_icmp_le (tgt := 119) hx hb dX6_way_103 (by decide) (fun hc => ?_) (fun hc => ?_)
                          · rw [if_pos hc] at hw
                            exact s119 x3 x4 x5 x6 μ94 _ _ _ h (lv_sub hl [1, 2, 3, 4, 5, 6, 7] rfl) hw
                          · rw [if_neg hc] at hw
                            refine lv_iload hx hb dX6_way_106 (lv_at hl 0 rfl) ?_
                            refine lv_istore (lv' := [(4, .int r94), (7, .int r94), (0, .ref (ga G 0)), (1, .int a1), (2, .int a2), (3, .int x3), (5, .int x5), (6, .int x6)]) hx hb dX6_way_108 hl (by decide) rfl (fun ls hl => ?_)
                            refine lv_bipush (v := (10 : Int32)) hx hb dX6_way_110 (by decide) ?_
                            refine lv_iload hx hb dX6_way_112 (lv_at hl 6 rfl) ?_
                            refine lv_imul hx hb dX6_way_114 ?_
                            refine lv_iload hx hb dX6_way_115 (lv_at hl 7 rfl) ?_
                            refine lv_iadd hx hb dX6_way_117 ?_
                            obtain ⟨x3_118, ex3_118, hw⟩ := hw
                            refine topE ex3_118 ?_
                            refine lv_istore_n (lv' := [(3, .int x3_118), (4, .int r94), (7, .int r94), (0, .ref (ga G 0)), (1, .int a1), (2, .int a2), (5, .int x5), (6, .int x6)]) hx hb dX6_way_118 rfl hl (by decide) rfl (fun ls hl => ?_)
                            exact s119 x3_118 r94 x5 x6 μ94 _ _ _ h (lv_sub hl [3, 4, 5, 0, 1, 6, 7] rfl) hw
                        · rw [if_neg hc] at hw
                          refine lv_goto (tgt := 119) hx hb dX6_way_85 (by decide) ?_
                          exact s119 x3 x4 x5 x6 μ79 _ _ _ h (lv_sub hl [0, 1, 2, 3, 4, 5, 6] rfl) hw
                obtain ⟨n, hw⟩ := hw
                exact s46 n x3 x4 x5 x6_44 μ _ _ _ h (lv_sub hl [1, 2, 3, 4, 5, 6, 0] rfl) hw
          obtain ⟨n, hw⟩ := hw
          exact s33 n (-1 : Int32) (-1 : Int32) (0 : Int32) μ _ _ _ h (lv_sub hl [3, 4, 5, 2, 1, 0] rfl) hw
        · rw [if_neg hc] at hw
          refine lv_aload_n hx hb dX6_way_19 rfl (lv_at hl 0 rfl) ?_
          refine lv_iconst (v := (1 : Int32)) hx hb dX6_way_20 (by decide) ?_
          refine k_i h (n_V (rest := []) (As := [.int (1 : Int32)]) X h hl.1 (c_X6_error l G hG (1 : Int32) h0 _ _ hw) gk_X6_72 rfl hd_X6_error ⟨rfl, rfl⟩ ⟨Nat.le_of_ble_eq_true rfl, Nat.le_of_ble_eq_true rfl⟩ (X6_o h0) rfl rfl (Nat.le_of_ble_eq_true rfl) dX6_way_21 ⟨Nat.zero_le _, Nat.zero_le _⟩) (fun r21 μ21 H locs hw h => ?_)
          exact r_iret X h hw dX6_way_24
def wp_X6_greatestDivisor_25 (a0 : Int32) (a1 : Int32) (Q : Int32 → vM → Prop) (k6 : Int32 → vM → Prop) (x2 : Int32) (μ : vM) : Prop := ∃ x2_25 : Int32, x2_25 = x2 + (-1 : Int32) ∧ k6 x2_25 μ
def wp_X6_greatestDivisor_6 (a0 : Int32) (a1 : Int32) (Q : Int32 → vM → Prop) : Nat → Int32 → vM → Prop
  | 0, _, _ => False
  | n6 + 1, x2, μ => if x2 ≤ (1 : Int32) then Q (1 : Int32) μ else ¬ x2 = 0 ∧ if (a0 % x2) = 0 then ¬ x2 = 0 ∧ if (a1 % x2) = 0 then Q x2 μ else wp_X6_greatestDivisor_25 a0 a1 Q (fun x2 μ => wp_X6_greatestDivisor_6 a0 a1 Q n6 x2 μ) x2 μ else wp_X6_greatestDivisor_25 a0 a1 Q (fun x2 μ => wp_X6_greatestDivisor_6 a0 a1 Q n6 x2 μ) x2 μ
def wp_X6_greatestDivisor (a0 : Int32) (a1 : Int32) (Q : Int32 → vM → Prop) (μ : vM) : Prop := ∃ x2_5 : Int32, x2_5 = (if a0 < a1 then a1 else a0) ∧ ∃ n6, wp_X6_greatestDivisor_6 a0 a1 Q n6 x2_5 μ
set_option maxRecDepth 100000 in
set_option maxHeartbeats 4000000 in
theorem c_X6_greatestDivisor (l : Launch) (G : vG) (hG : gO G) (a0 : Int32) (a1 : Int32)  (Q : Int32 → vM → Prop) (μ : vM) (hw : wp_X6_greatestDivisor a0 a1 Q μ) : mt l G yX6_greatestDivisor vX6_greatestDivisor { frames := 1, cells := 0, slots := 0, locals := 30 } [.int a0, .int a1] μ (qI G Q) := by
  refine met_of (cc := cX6_greatestDivisor) (maxL := 3) (ret := (some .int)) RX6 (by decide) rfl rfl hG (Nat.le_of_ble_eq_true rfl) ?_
  intro p e s m below meth c X h ls hl
  have hl : lv_has ls 3 [(0, .int a0), (1, .int a1)] := hl
  have hx := X.1
  have hb := X.2.1
  unfold wp_X6_greatestDivisor at hw
  refine lv_iload_n hx hb dX6_greatestDivisor_0 rfl (lv_at hl 0 rfl) ?_
  refine lv_iload_n hx hb dX6_greatestDivisor_1 rfl (lv_at hl 1 rfl) ?_
  refine r_max X hl.1 ww_3_174 ww_2_107 ww_1_4 ww_2_108 (Nat.le_of_ble_eq_true rfl) (Nat.le_of_ble_eq_true rfl) (Nat.le_of_ble_eq_true rfl) (Nat.le_of_ble_eq_true rfl) dX6_greatestDivisor_2 ?_
  obtain ⟨x2_5, ex2_5, hw⟩ := hw
  refine topE ex2_5 ?_
  refine lv_istore_n (lv' := [(2, .int x2_5), (0, .int a0), (1, .int a1)]) hx hb dX6_greatestDivisor_5 rfl hl (by decide) rfl (fun ls hl => ?_)
  have s6 : ∀ (n6 : Nat) (x2 : Int32) (μ : vM), ∀ (H : Heap) (locs : List Loc) (ls : Array Slot), bw G s μ H locs → lv_has ls 3 [(0, .int a0), (1, .int a1), (2, .int x2)] → wp_X6_greatestDivisor_6 a0 a1 Q n6 x2 μ → W p l e ({ frames := 1, cells := 0, slots := 0, locals := 30 } : Room) s m ([.int a0, .int a1] : List Value).toArray below meth c H locs 0 0 (MQ below (qI G Q) ([.int a0, .int a1] : List Value).toArray s 0 0 (gA G)) (F0 m 6 ls []) := by
    intro n6
    induction n6 with
    | zero => intro x2 μ H locs ls h hl hw; exact absurd hw (by unfold wp_X6_greatestDivisor_6; exact id)
    | succ n6 ih6 =>
      intro x2 μ H locs ls h hl hw
      unfold wp_X6_greatestDivisor_6 at hw
      refine lv_iload_n hx hb dX6_greatestDivisor_6 rfl (lv_at hl 2 rfl) ?_
      refine lv_iconst (v := (1 : Int32)) hx hb dX6_greatestDivisor_7 (by decide) ?_
      refine lv_icmp_le (tgt := 31) hx hb dX6_greatestDivisor_8 (by decide) (fun hc => ?_) (fun hc => ?_)
      · rw [if_pos hc] at hw
        refine lv_iconst (v := (1 : Int32)) hx hb dX6_greatestDivisor_31 (by decide) ?_
        exact r_iret X h hw dX6_greatestDivisor_32
      · rw [if_neg hc] at hw
        refine lv_iload_n hx hb dX6_greatestDivisor_11 rfl (lv_at hl 0 rfl) ?_
        refine lv_iload_n hx hb dX6_greatestDivisor_12 rfl (lv_at hl 2 rfl) ?_
        obtain ⟨hne, hw⟩ := hw
        refine r_irem hx hb dX6_greatestDivisor_13 hne ?_
        have s25 : ∀ (x2 : Int32) (μ : vM), ∀ (H : Heap) (locs : List Loc) (ls : Array Slot), bw G s μ H locs → lv_has ls 3 [(0, .int a0), (1, .int a1), (2, .int x2)] → wp_X6_greatestDivisor_25 a0 a1 Q (fun x2 μ => wp_X6_greatestDivisor_6 a0 a1 Q n6 x2 μ) x2 μ → W p l e ({ frames := 1, cells := 0, slots := 0, locals := 30 } : Room) s m ([.int a0, .int a1] : List Value).toArray below meth c H locs 0 0 (MQ below (qI G Q) ([.int a0, .int a1] : List Value).toArray s 0 0 (gA G)) (F0 m 25 ls []) := by
          intro x2 μ H locs ls h hl hw
          unfold wp_X6_greatestDivisor_25 at hw
          obtain ⟨x2_25, ex2_25, hw⟩ := hw
          refine lv_iinc (v := x2_25) (lv' := [(2, .int x2_25), (0, .int a0), (1, .int a1)]) hx hb dX6_greatestDivisor_25 hl (k := 2) rfl (by rw [ex2_25]; rfl) (by decide) rfl (fun ls hl => ?_)
          refine lv_goto (tgt := 6) hx hb dX6_greatestDivisor_28 (by decide) ?_
          exact ih6 x2_25 μ _ _ _ h (lv_sub hl [1, 2, 0] rfl) hw
        refine lv_if_ne (tgt := 25) hx hb dX6_greatestDivisor_14 (by decide) (fun hc => ?_) (fun hc => ?_)
        · rw [if_neg hc] at hw
          exact s25 x2 μ _ _ _ h (lv_sub hl [0, 1, 2] rfl) hw
        · rw [if_pos hc] at hw
          refine lv_iload_n hx hb dX6_greatestDivisor_17 rfl (lv_at hl 1 rfl) ?_
          refine lv_iload_n hx hb dX6_greatestDivisor_18 rfl (lv_at hl 2 rfl) ?_
          obtain ⟨hne, hw⟩ := hw
          refine r_irem hx hb dX6_greatestDivisor_19 hne ?_
          refine lv_if_ne (tgt := 25) hx hb dX6_greatestDivisor_20 (by decide) (fun hc => ?_) (fun hc => ?_)
          · rw [if_neg hc] at hw
            exact s25 x2 μ _ _ _ h (lv_sub hl [0, 1, 2] rfl) hw
          · rw [if_pos hc] at hw
            refine lv_iload_n hx hb dX6_greatestDivisor_23 rfl (lv_at hl 2 rfl) ?_
            exact r_iret X h hw dX6_greatestDivisor_24
  obtain ⟨n, hw⟩ := hw
  exact s6 n x2_5 μ _ _ _ h (lv_sub hl [1, 2, 0] rfl) hw
def wp_X6_odds (a1 : Int32) (a2 : Int32) (Q : Int32 → vM → Prop) (μ : vM) : Prop := if a1 < 0 then wp_X6_error (1 : Int32) (fun r21 μ21 => Q r21 μ21) μ else if (60 : Int32) < a1 then wp_X6_error (1 : Int32) (fun r21 μ21 => Q r21 μ21) μ else if a2 < 0 then wp_X6_error (1 : Int32) (fun r21 μ21 => Q r21 μ21) μ else if a2 ≤ (1 : Int32) then ∃ x3_35 : Int32, x3_35 = μ 5 0 ∧ if x3_35 = 0 then wp_X6_error (3 : Int32) (fun r42 μ42 => Q r42 μ42) μ else wp_X6_think a1 (fun μ48 => wp_X0_homeSet 39 (fun r55 μ55 => wp_J6_bitCount_0f7a4 r55 (fun r58 μ58 => wp_X6_greatestDivisor r58 x3_35 (fun r66 μ66 => if a2 = 0 then ¬ r66 = 0 ∧ Q (r58 / r66) μ66 else ¬ r66 = 0 ∧ Q (x3_35 / r66) μ66) μ58) μ55) μ48) μ else wp_X6_error (1 : Int32) (fun r21 μ21 => Q r21 μ21) μ
set_option maxRecDepth 100000 in
set_option maxHeartbeats 4000000 in
theorem c_X6_odds (l : Launch) (G : vG) (hG : gO G) (a1 : Int32) (a2 : Int32) (h0 : isX6 G) (Q : Int32 → vM → Prop) (μ : vM) (hw : wp_X6_odds a1 a2 Q μ) : mt l G yX6_odds vX6_odds { frames := 7, cells := 0, slots := 0, locals := 168 } [.ref (ga G 0), .int a1, .int a2] μ (qI G Q) := by
  refine met_of (cc := cX6_odds) (maxL := 6) (ret := (some .int)) RX6 (by decide) rfl rfl hG (Nat.le_of_ble_eq_true rfl) ?_
  intro p e s m below meth c X h ls hl
  have hl : lv_has ls 6 [(0, .ref (ga G 0)), (1, .int a1), (2, .int a2)] := hl
  have hx := X.1
  have hb := X.2.1
  unfold wp_X6_odds at hw
  refine lv_iload_n hx hb dX6_odds_0 rfl (lv_at hl 1 rfl) ?_
  refine lv_if_lt (tgt := 19) hx hb dX6_odds_1 (by decide) (fun hc => ?_) (fun hc => ?_)
  · rw [if_pos hc] at hw
    refine lv_aload_n hx hb dX6_odds_19 rfl (lv_at hl 0 rfl) ?_
    refine lv_iconst (v := (1 : Int32)) hx hb dX6_odds_20 (by decide) ?_
    refine k_i h (n_V (rest := []) (As := [.int (1 : Int32)]) X h hl.1 (c_X6_error l G hG (1 : Int32) h0 _ _ hw) gk_X6_72 rfl hd_X6_error ⟨rfl, rfl⟩ ⟨Nat.le_of_ble_eq_true rfl, Nat.le_of_ble_eq_true rfl⟩ (X6_o h0) rfl rfl (Nat.le_of_ble_eq_true rfl) dX6_odds_21 ⟨Nat.zero_le _, Nat.zero_le _⟩) (fun r21 μ21 H locs hw h => ?_)
    exact r_iret X h hw dX6_odds_24
  · rw [if_neg hc] at hw
    refine lv_iload_n hx hb dX6_odds_4 rfl (lv_at hl 1 rfl) ?_
    refine lv_bipush (v := (60 : Int32)) hx hb dX6_odds_5 (by decide) ?_
    refine lv_icmp_gt (tgt := 19) hx hb dX6_odds_7 (by decide) (fun hc => ?_) (fun hc => ?_)
    · rw [if_pos hc] at hw
      refine lv_aload_n hx hb dX6_odds_19 rfl (lv_at hl 0 rfl) ?_
      refine lv_iconst (v := (1 : Int32)) hx hb dX6_odds_20 (by decide) ?_
      refine k_i h (n_V (rest := []) (As := [.int (1 : Int32)]) X h hl.1 (c_X6_error l G hG (1 : Int32) h0 _ _ hw) gk_X6_72 rfl hd_X6_error ⟨rfl, rfl⟩ ⟨Nat.le_of_ble_eq_true rfl, Nat.le_of_ble_eq_true rfl⟩ (X6_o h0) rfl rfl (Nat.le_of_ble_eq_true rfl) dX6_odds_21 ⟨Nat.zero_le _, Nat.zero_le _⟩) (fun r21 μ21 H locs hw h => ?_)
      exact r_iret X h hw dX6_odds_24
    · rw [if_neg hc] at hw
      refine lv_iload_n hx hb dX6_odds_10 rfl (lv_at hl 2 rfl) ?_
      refine lv_if_lt (tgt := 19) hx hb dX6_odds_11 (by decide) (fun hc => ?_) (fun hc => ?_)
      · rw [if_pos hc] at hw
        refine lv_aload_n hx hb dX6_odds_19 rfl (lv_at hl 0 rfl) ?_
        refine lv_iconst (v := (1 : Int32)) hx hb dX6_odds_20 (by decide) ?_
        refine k_i h (n_V (rest := []) (As := [.int (1 : Int32)]) X h hl.1 (c_X6_error l G hG (1 : Int32) h0 _ _ hw) gk_X6_72 rfl hd_X6_error ⟨rfl, rfl⟩ ⟨Nat.le_of_ble_eq_true rfl, Nat.le_of_ble_eq_true rfl⟩ (X6_o h0) rfl rfl (Nat.le_of_ble_eq_true rfl) dX6_odds_21 ⟨Nat.zero_le _, Nat.zero_le _⟩) (fun r21 μ21 H locs hw h => ?_)
        exact r_iret X h hw dX6_odds_24
      · rw [if_neg hc] at hw
        refine lv_iload_n hx hb dX6_odds_14 rfl (lv_at hl 2 rfl) ?_
        refine lv_iconst (v := (1 : Int32)) hx hb dX6_odds_15 (by decide) ?_
        refine lv_icmp_le (tgt := 25) hx hb dX6_odds_16 (by decide) (fun hc => ?_) (fun hc => ?_)
        · rw [if_pos hc] at hw
          refine lv_aload_n hx hb dX6_odds_25 rfl (lv_at hl 0 rfl) ?_
          refine r_getR (q := 1) X h (X6_o h0) rfl uX6 0 (by decide) lf_1_225 rfl dX6_odds_26 ?_
          refine r_getR (q := 5) X h (X5_o (X6_now h0)) rfl uX5 1 (by decide) fn_16 rfl dX6_odds_29 ?_
          refine r_getI X h (X0_o (X5_harvest (X6_now h0))) rfl uX0 0 (by decide) fn_1 rfl dX6_odds_32 ?_
          obtain ⟨x3_35, ex3_35, hw⟩ := hw
          refine topE ex3_35 ?_
          refine lv_istore_n (lv' := [(3, .int x3_35), (0, .ref (ga G 0)), (1, .int a1), (2, .int a2)]) hx hb dX6_odds_35 rfl hl (by decide) rfl (fun ls hl => ?_)
          refine lv_iload_n hx hb dX6_odds_36 rfl (lv_at hl 0 rfl) ?_
          refine lv_if_ne (tgt := 46) hx hb dX6_odds_37 (by decide) (fun hc => ?_) (fun hc => ?_)
          · rw [if_neg hc] at hw
            refine lv_aload_n hx hb dX6_odds_46 rfl (lv_at hl 1 rfl) ?_
            refine lv_iload_n hx hb dX6_odds_47 rfl (lv_at hl 2 rfl) ?_
            refine k_v h (n_V (rest := []) (As := [.int a1]) X h hl.1 (c_X6_think l G hG a1 h0 _ _ hw) gk_X6_208 rfl hd_X6_think ⟨rfl, rfl⟩ ⟨Nat.le_of_ble_eq_true rfl, Nat.le_of_ble_eq_true rfl⟩ (X6_o h0) rfl rfl (Nat.le_of_ble_eq_true rfl) dX6_odds_48 ⟨Nat.zero_le _, Nat.zero_le _⟩) (fun μ48 H locs hw h => ?_)
            refine lv_aload_n hx hb dX6_odds_51 rfl (lv_at hl 1 rfl) ?_
            refine r_getR (q := 39) X h (X6_o h0) rfl uX6 3 (by decide) lf_1_228 rfl dX6_odds_52 ?_
            refine k_i h (n_V (rest := []) (As := []) X h hl.1 (c_X0_homeSet l G hG 39 (X6_thought h0) _ _ hw) gk_X6_194 rfl hd_X0_homeSet ⟨rfl, rfl⟩ ⟨Nat.le_of_ble_eq_true rfl, Nat.le_of_ble_eq_true rfl⟩ (X0_o (X6_thought h0)) rfl rfl (Nat.le_of_ble_eq_true rfl) dX6_odds_55 ⟨Nat.zero_le _, Nat.zero_le _⟩) (fun r55 μ55 H locs hw h => ?_)
            refine k_i h (n_T (rest := []) (As := [.int r55]) X h hl.1 (c_J6_bitCount_0f7a4 l G hG r55 _ _ hw) gk_X6_228 rfl hd_J6_bitCount_0f7a4 ⟨rfl, rfl⟩ ⟨Nat.le_of_ble_eq_true rfl, Nat.le_of_ble_eq_true rfl⟩ rfl (Nat.le_of_ble_eq_true rfl) dX6_odds_58 ⟨Nat.zero_le _, Nat.zero_le _⟩) (fun r58 μ58 H locs hw h => ?_)
            refine lv_istore (lv' := [(4, .int r58), (3, .int x3_35), (0, .ref (ga G 0)), (1, .int a1), (2, .int a2)]) hx hb dX6_odds_61 hl (by decide) rfl (fun ls hl => ?_)
            refine lv_iload hx hb dX6_odds_63 (lv_at hl 0 rfl) ?_
            refine lv_iload_n hx hb dX6_odds_65 rfl (lv_at hl 1 rfl) ?_
            refine k_i h (n_T (rest := []) (As := [.int r58, .int x3_35]) X h hl.1 (c_X6_greatestDivisor l G hG r58 x3_35 _ _ hw) gk_X6_236 rfl hd_X6_greatestDivisor ⟨rfl, rfl⟩ ⟨Nat.le_of_ble_eq_true rfl, Nat.le_of_ble_eq_true rfl⟩ rfl (Nat.le_of_ble_eq_true rfl) dX6_odds_66 ⟨Nat.zero_le _, Nat.zero_le _⟩) (fun r66 μ66 H locs hw h => ?_)
            refine lv_istore (lv' := [(5, .int r66), (4, .int r58), (3, .int x3_35), (0, .ref (ga G 0)), (1, .int a1), (2, .int a2)]) hx hb dX6_odds_69 hl (by decide) rfl (fun ls hl => ?_)
            refine lv_iload_n hx hb dX6_odds_71 rfl (lv_at hl 5 rfl) ?_
            refine lv_if_ne (tgt := 80) hx hb dX6_odds_72 (by decide) (fun hc => ?_) (fun hc => ?_)
            · rw [if_neg hc] at hw
              refine lv_iload_n hx hb dX6_odds_80 rfl (lv_at hl 2 rfl) ?_
              refine lv_iload hx hb dX6_odds_81 (lv_at hl 0 rfl) ?_
              obtain ⟨hne, hw⟩ := hw
              refine lv_idiv hx hb dX6_odds_83 hne ?_
              exact r_iret X h hw dX6_odds_84
            · rw [if_pos hc] at hw
              refine lv_iload hx hb dX6_odds_75 (lv_at hl 1 rfl) ?_
              refine lv_goto (tgt := 81) hx hb dX6_odds_77 (by decide) ?_
              refine lv_iload hx hb dX6_odds_81 (lv_at hl 0 rfl) ?_
              obtain ⟨hne, hw⟩ := hw
              refine lv_idiv hx hb dX6_odds_83 hne ?_
              exact r_iret X h hw dX6_odds_84
          · rw [if_pos hc] at hw
            refine lv_aload_n hx hb dX6_odds_40 rfl (lv_at hl 1 rfl) ?_
            refine lv_iconst (v := (3 : Int32)) hx hb dX6_odds_41 (by decide) ?_
            refine k_i h (n_V (rest := []) (As := [.int (3 : Int32)]) X h hl.1 (c_X6_error l G hG (3 : Int32) h0 _ _ hw) gk_X6_72 rfl hd_X6_error ⟨rfl, rfl⟩ ⟨Nat.le_of_ble_eq_true rfl, Nat.le_of_ble_eq_true rfl⟩ (X6_o h0) rfl rfl (Nat.le_of_ble_eq_true rfl) dX6_odds_42 ⟨Nat.zero_le _, Nat.zero_le _⟩) (fun r42 μ42 H locs hw h => ?_)
            exact r_iret X h hw dX6_odds_45
        · rw [if_neg hc] at hw
          refine lv_aload_n hx hb dX6_odds_19 rfl (lv_at hl 0 rfl) ?_
          refine lv_iconst (v := (1 : Int32)) hx hb dX6_odds_20 (by decide) ?_
          refine k_i h (n_V (rest := []) (As := [.int (1 : Int32)]) X h hl.1 (c_X6_error l G hG (1 : Int32) h0 _ _ hw) gk_X6_72 rfl hd_X6_error ⟨rfl, rfl⟩ ⟨Nat.le_of_ble_eq_true rfl, Nat.le_of_ble_eq_true rfl⟩ (X6_o h0) rfl rfl (Nat.le_of_ble_eq_true rfl) dX6_odds_21 ⟨Nat.zero_le _, Nat.zero_le _⟩) (fun r21 μ21 H locs hw h => ?_)
          exact r_iret X h hw dX6_odds_24
def wp_X6_isSheet_13 (a0 : Int32) (Q : Int32 → vM → Prop)  (μ : vM) : Prop := Q (0 : Int32) μ
def wp_X6_isSheet (a0 : Int32) (Q : Int32 → vM → Prop) (μ : vM) : Prop := if a0 < 0 then wp_X6_isSheet_13 a0 Q μ else if (4 : Int32) ≤ a0 then wp_X6_isSheet_13 a0 Q μ else Q (1 : Int32) μ
set_option maxRecDepth 100000 in
set_option maxHeartbeats 4000000 in
theorem c_X6_isSheet (l : Launch) (G : vG) (hG : gO G) (a0 : Int32)  (Q : Int32 → vM → Prop) (μ : vM) (hw : wp_X6_isSheet a0 Q μ) : mt l G yX6_isSheet vX6_isSheet { frames := 0, cells := 0, slots := 0, locals := 0 } [.int a0] μ (qI G Q) := by
  refine met_of (cc := cX6_isSheet) (maxL := 1) (ret := (some .boolean)) RX6 (by decide) rfl rfl hG (Nat.le_of_ble_eq_true rfl) ?_
  intro p e s m below meth c X h ls hl
  have hl : lv_has ls 1 [(0, .int a0)] := hl
  have hx := X.1
  have hb := X.2.1
  unfold wp_X6_isSheet at hw
  refine lv_iload_n hx hb dX6_isSheet_0 rfl (lv_at hl 0 rfl) ?_
  have s13 : ∀  (μ : vM), ∀ (H : Heap) (locs : List Loc) (ls : Array Slot), bw G s μ H locs → lv_has ls 1 [] → wp_X6_isSheet_13 a0 Q μ → W p l e ({ frames := 0, cells := 0, slots := 0, locals := 0 } : Room) s m ([.int a0] : List Value).toArray below meth c H locs 0 0 (MQ below (qI G Q) ([.int a0] : List Value).toArray s 0 0 (gA G)) (F0 m 13 ls []) := by
    intro  μ H locs ls h hl hw
    unfold wp_X6_isSheet_13 at hw
    refine lv_iconst (v := (0 : Int32)) hx hb dX6_isSheet_13 (by decide) ?_
    exact r_zret X h (Or.inl rfl) hw dX6_isSheet_14
  refine lv_if_lt (tgt := 13) hx hb dX6_isSheet_1 (by decide) (fun hc => ?_) (fun hc => ?_)
  · rw [if_pos hc] at hw
    exact s13 μ _ _ _ h (lv_sub hl [] rfl) hw
  · rw [if_neg hc] at hw
    refine lv_iload_n hx hb dX6_isSheet_4 rfl (lv_at hl 0 rfl) ?_
    refine lv_iconst (v := (4 : Int32)) hx hb dX6_isSheet_5 (by decide) ?_
    refine lv_icmp_ge (tgt := 13) hx hb dX6_isSheet_6 (by decide) (fun hc => ?_) (fun hc => ?_)
    · rw [if_pos hc] at hw
      exact s13 μ _ _ _ h (lv_sub hl [] rfl) hw
    · rw [if_neg hc] at hw
      refine lv_iconst (v := (1 : Int32)) hx hb dX6_isSheet_9 (by decide) ?_
      refine lv_goto (tgt := 14) hx hb dX6_isSheet_10 (by decide) ?_
      exact r_zret X h (Or.inr rfl) hw dX6_isSheet_14
def wp_X6_wouldWarmSo_27 (a1 : Int32) (a2 : Int32) (a3 : Int32) (Q : Int32 → vM → Prop) : Nat → Int32 → vM → Prop
  | 0, _, _ => False
  | n27 + 1, x4, μ => vp_in a1 4 ∧ if (μ 55 a1.toNatClampNeg) ≤ x4 then Q (1 : Int32) μ else wp_X4_number 53 a1 x4 (fun r48 μ48 => wp_X6_warmthOf 39 2 a2 (fun r63 μ63 => if r48 = r63 then wp_X6_passDay 39 2 (fun r83 μ83 => ∃ x4_87 : Int32, x4_87 = x4 + (1 : Int32) ∧ wp_X6_wouldWarmSo_27 a1 a2 a3 Q n27 x4_87 μ83) μ63 else Q (0 : Int32) μ63) μ48) μ
def wp_X6_wouldWarmSo (a1 : Int32) (a2 : Int32) (a3 : Int32) (Q : Int32 → vM → Prop) (μ : vM) : Prop := wp_X0_copy 39 5 (fun μ11 => vp_in a2 8 ∧ ∃ μ23 : vM, μ23 = st μ11 42 a2.toNatClampNeg a3 ∧ ∃ n27, wp_X6_wouldWarmSo_27 a1 a2 a3 Q n27 (0 : Int32) μ23) μ
set_option maxRecDepth 100000 in
set_option maxHeartbeats 4000000 in
theorem c_X6_wouldWarmSo (l : Launch) (G : vG) (hG : gO G) (a1 : Int32) (a2 : Int32) (a3 : Int32) (h0 : isX6 G) (Q : Int32 → vM → Prop) (μ : vM) (hw : wp_X6_wouldWarmSo a1 a2 a3 Q μ) : mt l G yX6_wouldWarmSo vX6_wouldWarmSo { frames := 5, cells := 0, slots := 0, locals := 122 } [.ref (ga G 0), .int a1, .int a2, .int a3] μ (qI G Q) := by
  refine met_of (cc := cX6_wouldWarmSo) (maxL := 5) (ret := (some .boolean)) RX6 (by decide) rfl rfl hG (Nat.le_of_ble_eq_true rfl) ?_
  intro p e s m below meth c X h ls hl
  have hl : lv_has ls 5 [(0, .ref (ga G 0)), (1, .int a1), (2, .int a2), (3, .int a3)] := hl
  have hx := X.1
  have hb := X.2.1
  unfold wp_X6_wouldWarmSo at hw
  refine lv_aload_n hx hb dX6_wouldWarmSo_0 rfl (lv_at hl 0 rfl) ?_
  refine r_getR (q := 39) X h (X6_o h0) rfl uX6 3 (by decide) lf_1_228 rfl dX6_wouldWarmSo_1 ?_
  refine lv_aload_n hx hb dX6_wouldWarmSo_4 rfl (lv_at hl 0 rfl) ?_
  refine r_getR (q := 1) X h (X6_o h0) rfl uX6 0 (by decide) lf_1_225 rfl dX6_wouldWarmSo_5 ?_
  refine r_getR (q := 5) X h (X5_o (X6_now h0)) rfl uX5 1 (by decide) fn_16 rfl dX6_wouldWarmSo_8 ?_
  refine k_v h (n_V (rest := []) (As := [.ref (ga G 5)]) X h hl.1 (c_X0_copy l G hG 39 5 (X6_thought h0) (X5_harvest (X6_now h0)) _ _ hw) gk_X6_212 rfl hd_X0_copy ⟨rfl, rfl⟩ ⟨Nat.le_of_ble_eq_true rfl, Nat.le_of_ble_eq_true rfl⟩ (X0_o (X6_thought h0)) rfl rfl (Nat.le_of_ble_eq_true rfl) dX6_wouldWarmSo_11 ⟨Nat.zero_le _, Nat.zero_le _⟩) (fun μ11 H locs hw h => ?_)
  refine lv_aload_n hx hb dX6_wouldWarmSo_14 rfl (lv_at hl 0 rfl) ?_
  refine r_getR (q := 39) X h (X6_o h0) rfl uX6 3 (by decide) lf_1_228 rfl dX6_wouldWarmSo_15 ?_
  refine r_getR (q := 42) X h (X0_o (X6_thought h0)) rfl uX0 4 (by decide) fn_5 rfl dX6_wouldWarmSo_18 ?_
  refine lv_iload_n hx hb dX6_wouldWarmSo_21 rfl (lv_at hl 2 rfl) ?_
  refine lv_iload_n hx hb dX6_wouldWarmSo_22 rfl (lv_at hl 3 rfl) ?_
  obtain ⟨hi, μ23, eμ23, hw⟩ := hw
  refine r_ast X h (X0_of (X6_thought h0)) hi eμ23 dX6_wouldWarmSo_23 (fun H locs h => ?_)
  refine lv_iconst (v := (0 : Int32)) hx hb dX6_wouldWarmSo_24 (by decide) ?_
  refine lv_istore (lv' := [(4, .int (0 : Int32)), (0, .ref (ga G 0)), (1, .int a1), (2, .int a2), (3, .int a3)]) hx hb dX6_wouldWarmSo_25 hl (by decide) rfl (fun ls hl => ?_)
  have s27 : ∀ (n27 : Nat) (x4 : Int32) (μ : vM), ∀ (H : Heap) (locs : List Loc) (ls : Array Slot), bw G s μ H locs → lv_has ls 5 [(0, .ref (ga G 0)), (1, .int a1), (2, .int a2), (4, .int x4)] → wp_X6_wouldWarmSo_27 a1 a2 a3 Q n27 x4 μ → W p l e ({ frames := 5, cells := 0, slots := 0, locals := 122 } : Room) s m ([.ref (ga G 0), .int a1, .int a2, .int a3] : List Value).toArray below meth c H locs 0 0 (MQ below (qI G Q) ([.ref (ga G 0), .int a1, .int a2, .int a3] : List Value).toArray s 0 0 (gA G)) (F0 m 27 ls []) := by
    intro n27
    induction n27 with
    | zero => intro x4 μ H locs ls h hl hw; exact absurd hw (by unfold wp_X6_wouldWarmSo_27; exact id)
    | succ n27 ih27 =>
      intro x4 μ H locs ls h hl hw
      unfold wp_X6_wouldWarmSo_27 at hw
      refine lv_iload hx hb dX6_wouldWarmSo_27 (lv_at hl 3 rfl) ?_
      refine lv_aload_n hx hb dX6_wouldWarmSo_29 rfl (lv_at hl 0 rfl) ?_
      refine r_getR (q := 53) X h (X6_o h0) rfl uX6 7 (by decide) lf_1_232 rfl dX6_wouldWarmSo_30 ?_
      refine r_getR (q := 55) X h (X4_o (X6_sheets h0)) rfl uX4 1 (by decide) fn_27 rfl dX6_wouldWarmSo_33 ?_
      refine lv_iload_n hx hb dX6_wouldWarmSo_36 rfl (lv_at hl 1 rfl) ?_
      obtain ⟨hi, hw⟩ := hw
      refine r_ald X h (X4_length (X6_sheets h0)) hi dX6_wouldWarmSo_37 ?_
      refine lv_icmp_ge (tgt := 93) hx hb dX6_wouldWarmSo_38 (by decide) (fun hc => ?_) (fun hc => ?_)
      · rw [if_pos hc] at hw
        refine lv_iconst (v := (1 : Int32)) hx hb dX6_wouldWarmSo_93 (by decide) ?_
        exact r_zret X h (Or.inr rfl) hw dX6_wouldWarmSo_94
      · rw [if_neg hc] at hw
        refine lv_aload_n hx hb dX6_wouldWarmSo_41 rfl (lv_at hl 0 rfl) ?_
        refine r_getR (q := 53) X h (X6_o h0) rfl uX6 7 (by decide) lf_1_232 rfl dX6_wouldWarmSo_42 ?_
        refine lv_iload_n hx hb dX6_wouldWarmSo_45 rfl (lv_at hl 1 rfl) ?_
        refine lv_iload hx hb dX6_wouldWarmSo_46 (lv_at hl 3 rfl) ?_
        refine k_i h (n_V (rest := []) (As := [.int a1, .int x4]) X h hl.1 (c_X4_number l G hG 53 a1 x4 (X6_sheets h0) _ _ hw) gk_X6_272 rfl hd_X4_number ⟨rfl, rfl⟩ ⟨Nat.le_of_ble_eq_true rfl, Nat.le_of_ble_eq_true rfl⟩ (X4_o (X6_sheets h0)) rfl rfl (Nat.le_of_ble_eq_true rfl) dX6_wouldWarmSo_48 ⟨Nat.zero_le _, Nat.zero_le _⟩) (fun r48 μ48 H locs hw h => ?_)
        refine lv_aload_n hx hb dX6_wouldWarmSo_51 rfl (lv_at hl 0 rfl) ?_
        refine r_getR (q := 39) X h (X6_o h0) rfl uX6 3 (by decide) lf_1_228 rfl dX6_wouldWarmSo_52 ?_
        refine lv_aload_n hx hb dX6_wouldWarmSo_55 rfl (lv_at hl 0 rfl) ?_
        refine r_getR (q := 1) X h (X6_o h0) rfl uX6 0 (by decide) lf_1_225 rfl dX6_wouldWarmSo_56 ?_
        refine r_getR (q := 2) X h (X5_o (X6_now h0)) rfl uX5 0 (by decide) fn_15 rfl dX6_wouldWarmSo_59 ?_
        refine lv_iload_n hx hb dX6_wouldWarmSo_62 rfl (lv_at hl 2 rfl) ?_
        refine k_i h (n_T (rest := [.int r48]) (As := [.ref (ga G 39), .ref (ga G 2), .int a2]) X h hl.1 (c_X6_warmthOf l G hG 39 2 a2 (X6_thought h0) (X5_roads (X6_now h0)) _ _ hw) gk_X6_142 rfl hd_X6_warmthOf ⟨rfl, rfl⟩ ⟨Nat.le_of_ble_eq_true rfl, Nat.le_of_ble_eq_true rfl⟩ rfl (Nat.le_of_ble_eq_true rfl) dX6_wouldWarmSo_63 ⟨Nat.zero_le _, Nat.zero_le _⟩) (fun r63 μ63 H locs hw h => ?_)
        refine lv_icmp_eq (tgt := 71) hx hb dX6_wouldWarmSo_66 (by decide) (fun hc => ?_) (fun hc => ?_)
        · rw [if_pos hc] at hw
          refine lv_aload_n hx hb dX6_wouldWarmSo_71 rfl (lv_at hl 0 rfl) ?_
          refine lv_aload_n hx hb dX6_wouldWarmSo_72 rfl (lv_at hl 0 rfl) ?_
          refine r_getR (q := 39) X h (X6_o h0) rfl uX6 3 (by decide) lf_1_228 rfl dX6_wouldWarmSo_73 ?_
          refine lv_aload_n hx hb dX6_wouldWarmSo_76 rfl (lv_at hl 0 rfl) ?_
          refine r_getR (q := 1) X h (X6_o h0) rfl uX6 0 (by decide) lf_1_225 rfl dX6_wouldWarmSo_77 ?_
          refine r_getR (q := 2) X h (X5_o (X6_now h0)) rfl uX5 0 (by decide) fn_15 rfl dX6_wouldWarmSo_80 ?_
          refine k_i h (n_V (rest := []) (As := [.ref (ga G 39), .ref (ga G 2)]) X h hl.1 (c_X6_passDay l G hG 39 2 h0 (X6_thought h0) (X5_roads (X6_now h0)) _ _ hw) gk_X6_201 rfl hd_X6_passDay ⟨rfl, rfl⟩ ⟨Nat.le_of_ble_eq_true rfl, Nat.le_of_ble_eq_true rfl⟩ (X6_o h0) rfl rfl (Nat.le_of_ble_eq_true rfl) dX6_wouldWarmSo_83 ⟨Nat.zero_le _, Nat.zero_le _⟩) (fun r83 μ83 H locs hw h => ?_)
          refine lv_pop hx hb dX6_wouldWarmSo_86 rfl ?_
          obtain ⟨x4_87, ex4_87, hw⟩ := hw
          refine lv_iinc (v := x4_87) (lv' := [(4, .int x4_87), (0, .ref (ga G 0)), (1, .int a1), (2, .int a2)]) hx hb dX6_wouldWarmSo_87 hl (k := 3) rfl (by rw [ex4_87]; rfl) (by decide) rfl (fun ls hl => ?_)
          refine lv_goto (tgt := 27) hx hb dX6_wouldWarmSo_90 (by decide) ?_
          exact ih27 x4_87 μ83 _ _ _ h (lv_sub hl [1, 2, 3, 0] rfl) hw
        · rw [if_neg hc] at hw
          refine lv_iconst (v := (0 : Int32)) hx hb dX6_wouldWarmSo_69 (by decide) ?_
          exact r_zret X h (Or.inl rfl) hw dX6_wouldWarmSo_70
  obtain ⟨n, hw⟩ := hw
  exact s27 n (0 : Int32) μ23 _ _ _ h (lv_sub hl [1, 2, 3, 0] rfl) hw
def wp_X6_whose_79 (a1 : Int32) (a2 : Int32) (a3 : Int32) (Q : Int32 → vM → Prop) (k53 : Int32 → Int32 → vM → Prop) (x4 : Int32) (x5 : Int32) (μ : vM) : Prop := ∃ x5_79 : Int32, x5_79 = x5 + (1 : Int32) ∧ k53 x4 x5_79 μ
def wp_X6_whose_53 (a1 : Int32) (a2 : Int32) (a3 : Int32) (Q : Int32 → vM → Prop) : Nat → Int32 → Int32 → vM → Prop
  | 0, _, _, _ => False
  | n53 + 1, x4, x5, μ => if (4 : Int32) ≤ x5 then if a3 = 0 then Q x4 μ else wp_J6_bitCount_0f7a4 x4 (fun r96 μ96 => Q r96 μ96) μ else wp_X6_wouldWarmSo a1 a2 x5 (fun r64 μ64 => if r64 = 0 then wp_X6_whose_79 a1 a2 a3 Q (fun x4 x5 μ => wp_X6_whose_53 a1 a2 a3 Q n53 x4 x5 μ) x4 x5 μ64 else ∃ x4_77 : Int32, x4_77 = x4 ||| ((1 : Int32) <<< (x5 &&& 31)) ∧ wp_X6_whose_79 a1 a2 a3 Q (fun x4 x5 μ => wp_X6_whose_53 a1 a2 a3 Q n53 x4 x5 μ) x4_77 x5 μ64) μ
def wp_X6_whose (a1 : Int32) (a2 : Int32) (a3 : Int32) (Q : Int32 → vM → Prop) (μ : vM) : Prop := wp_X6_isSheet a1 (fun r1 μ1 => if r1 = 0 then wp_X6_error (1 : Int32) (fun r26 μ26 => Q r26 μ26) μ1 else wp_X6_isBit a2 (fun r9 μ9 => if r9 = 0 then wp_X6_error (1 : Int32) (fun r26 μ26 => Q r26 μ26) μ9 else if a3 < 0 then wp_X6_error (1 : Int32) (fun r26 μ26 => Q r26 μ26) μ9 else if a3 ≤ (1 : Int32) then wp_X4_isMissing 53 a1 (fun r35 μ35 => if r35 = 0 then ∃ n53, wp_X6_whose_53 a1 a2 a3 Q n53 (0 : Int32) (0 : Int32) μ35 else wp_X6_error (2 : Int32) (fun r43 μ43 => Q r43 μ43) μ35) μ9 else wp_X6_error (1 : Int32) (fun r26 μ26 => Q r26 μ26) μ9) μ1) μ
set_option maxRecDepth 100000 in
set_option maxHeartbeats 4000000 in
theorem c_X6_whose (l : Launch) (G : vG) (hG : gO G) (a1 : Int32) (a2 : Int32) (a3 : Int32) (h0 : isX6 G) (Q : Int32 → vM → Prop) (μ : vM) (hw : wp_X6_whose a1 a2 a3 Q μ) : mt l G yX6_whose vX6_whose { frames := 6, cells := 0, slots := 0, locals := 146 } [.ref (ga G 0), .int a1, .int a2, .int a3] μ (qI G Q) := by
  refine met_of (cc := cX6_whose) (maxL := 6) (ret := (some .int)) RX6 (by decide) rfl rfl hG (Nat.le_of_ble_eq_true rfl) ?_
  intro p e s m below meth c X h ls hl
  have hl : lv_has ls 6 [(0, .ref (ga G 0)), (1, .int a1), (2, .int a2), (3, .int a3)] := hl
  have hx := X.1
  have hb := X.2.1
  unfold wp_X6_whose at hw
  refine lv_iload_n hx hb dX6_whose_0 rfl (lv_at hl 1 rfl) ?_
  refine k_i h (n_T (rest := []) (As := [.int a1]) X h hl.1 (c_X6_isSheet l G hG a1 _ _ hw) gk_X6_239 rfl hd_X6_isSheet ⟨rfl, rfl⟩ ⟨Nat.le_of_ble_eq_true rfl, Nat.le_of_ble_eq_true rfl⟩ rfl (Nat.le_of_ble_eq_true rfl) dX6_whose_1 ⟨Nat.zero_le _, Nat.zero_le _⟩) (fun r1 μ1 H locs hw h => ?_)
  refine lv_if_eq (tgt := 24) hx hb dX6_whose_4 (by decide) (fun hc => ?_) (fun hc => ?_)
  · rw [if_pos hc] at hw
    refine lv_aload_n hx hb dX6_whose_24 rfl (lv_at hl 0 rfl) ?_
    refine lv_iconst (v := (1 : Int32)) hx hb dX6_whose_25 (by decide) ?_
    refine k_i h (n_V (rest := []) (As := [.int (1 : Int32)]) X h hl.1 (c_X6_error l G hG (1 : Int32) h0 _ _ hw) gk_X6_72 rfl hd_X6_error ⟨rfl, rfl⟩ ⟨Nat.le_of_ble_eq_true rfl, Nat.le_of_ble_eq_true rfl⟩ (X6_o h0) rfl rfl (Nat.le_of_ble_eq_true rfl) dX6_whose_26 ⟨Nat.zero_le _, Nat.zero_le _⟩) (fun r26 μ26 H locs hw h => ?_)
    exact r_iret X h hw dX6_whose_29
  · rw [if_neg hc] at hw
    refine lv_aload_n hx hb dX6_whose_7 rfl (lv_at hl 0 rfl) ?_
    refine lv_iload_n hx hb dX6_whose_8 rfl (lv_at hl 2 rfl) ?_
    refine k_i h (n_V (rest := []) (As := [.int a2]) X h hl.1 (c_X6_isBit l G hG a2 h0 _ _ hw) gk_X6_116 rfl hd_X6_isBit ⟨rfl, rfl⟩ ⟨Nat.le_of_ble_eq_true rfl, Nat.le_of_ble_eq_true rfl⟩ (X6_o h0) rfl rfl (Nat.le_of_ble_eq_true rfl) dX6_whose_9 ⟨Nat.zero_le _, Nat.zero_le _⟩) (fun r9 μ9 H locs hw h => ?_)
    refine lv_if_eq (tgt := 24) hx hb dX6_whose_12 (by decide) (fun hc => ?_) (fun hc => ?_)
    · rw [if_pos hc] at hw
      refine lv_aload_n hx hb dX6_whose_24 rfl (lv_at hl 0 rfl) ?_
      refine lv_iconst (v := (1 : Int32)) hx hb dX6_whose_25 (by decide) ?_
      refine k_i h (n_V (rest := []) (As := [.int (1 : Int32)]) X h hl.1 (c_X6_error l G hG (1 : Int32) h0 _ _ hw) gk_X6_72 rfl hd_X6_error ⟨rfl, rfl⟩ ⟨Nat.le_of_ble_eq_true rfl, Nat.le_of_ble_eq_true rfl⟩ (X6_o h0) rfl rfl (Nat.le_of_ble_eq_true rfl) dX6_whose_26 ⟨Nat.zero_le _, Nat.zero_le _⟩) (fun r26 μ26 H locs hw h => ?_)
      exact r_iret X h hw dX6_whose_29
    · rw [if_neg hc] at hw
      refine lv_iload_n hx hb dX6_whose_15 rfl (lv_at hl 3 rfl) ?_
      refine lv_if_lt (tgt := 24) hx hb dX6_whose_16 (by decide) (fun hc => ?_) (fun hc => ?_)
      · rw [if_pos hc] at hw
        refine lv_aload_n hx hb dX6_whose_24 rfl (lv_at hl 0 rfl) ?_
        refine lv_iconst (v := (1 : Int32)) hx hb dX6_whose_25 (by decide) ?_
        refine k_i h (n_V (rest := []) (As := [.int (1 : Int32)]) X h hl.1 (c_X6_error l G hG (1 : Int32) h0 _ _ hw) gk_X6_72 rfl hd_X6_error ⟨rfl, rfl⟩ ⟨Nat.le_of_ble_eq_true rfl, Nat.le_of_ble_eq_true rfl⟩ (X6_o h0) rfl rfl (Nat.le_of_ble_eq_true rfl) dX6_whose_26 ⟨Nat.zero_le _, Nat.zero_le _⟩) (fun r26 μ26 H locs hw h => ?_)
        exact r_iret X h hw dX6_whose_29
      · rw [if_neg hc] at hw
        refine lv_iload_n hx hb dX6_whose_19 rfl (lv_at hl 3 rfl) ?_
        refine lv_iconst (v := (1 : Int32)) hx hb dX6_whose_20 (by decide) ?_
        refine lv_icmp_le (tgt := 30) hx hb dX6_whose_21 (by decide) (fun hc => ?_) (fun hc => ?_)
        · rw [if_pos hc] at hw
          refine lv_aload_n hx hb dX6_whose_30 rfl (lv_at hl 0 rfl) ?_
          refine r_getR (q := 53) X h (X6_o h0) rfl uX6 7 (by decide) lf_1_232 rfl dX6_whose_31 ?_
          refine lv_iload_n hx hb dX6_whose_34 rfl (lv_at hl 1 rfl) ?_
          refine k_i h (n_V (rest := []) (As := [.int a1]) X h hl.1 (c_X4_isMissing l G hG 53 a1 (X6_sheets h0) _ _ hw) gk_X6_242 rfl hd_X4_isMissing ⟨rfl, rfl⟩ ⟨Nat.le_of_ble_eq_true rfl, Nat.le_of_ble_eq_true rfl⟩ (X4_o (X6_sheets h0)) rfl rfl (Nat.le_of_ble_eq_true rfl) dX6_whose_35 ⟨Nat.zero_le _, Nat.zero_le _⟩) (fun r35 μ35 H locs hw h => ?_)
          refine lv_if_eq (tgt := 47) hx hb dX6_whose_38 (by decide) (fun hc => ?_) (fun hc => ?_)
          · rw [if_pos hc] at hw
            refine lv_iconst (v := (0 : Int32)) hx hb dX6_whose_47 (by decide) ?_
            refine lv_istore (lv' := [(4, .int (0 : Int32)), (0, .ref (ga G 0)), (1, .int a1), (2, .int a2), (3, .int a3)]) hx hb dX6_whose_48 hl (by decide) rfl (fun ls hl => ?_)
            refine lv_iconst (v := (0 : Int32)) hx hb dX6_whose_50 (by decide) ?_
            refine lv_istore (lv' := [(5, .int (0 : Int32)), (4, .int (0 : Int32)), (0, .ref (ga G 0)), (1, .int a1), (2, .int a2), (3, .int a3)]) hx hb dX6_whose_51 hl (by decide) rfl (fun ls hl => ?_)
            have s53 : ∀ (n53 : Nat) (x4 : Int32) (x5 : Int32) (μ : vM), ∀ (H : Heap) (locs : List Loc) (ls : Array Slot), bw G s μ H locs → lv_has ls 6 [(0, .ref (ga G 0)), (1, .int a1), (2, .int a2), (3, .int a3), (4, .int x4), (5, .int x5)] → wp_X6_whose_53 a1 a2 a3 Q n53 x4 x5 μ → W p l e ({ frames := 6, cells := 0, slots := 0, locals := 146 } : Room) s m ([.ref (ga G 0), .int a1, .int a2, .int a3] : List Value).toArray below meth c H locs 0 0 (MQ below (qI G Q) ([.ref (ga G 0), .int a1, .int a2, .int a3] : List Value).toArray s 0 0 (gA G)) (F0 m 53 ls []) := by
              intro n53
              induction n53 with
              | zero => intro x4 x5 μ H locs ls h hl hw; exact absurd hw (by unfold wp_X6_whose_53; exact id)
              | succ n53 ih53 =>
                intro x4 x5 μ H locs ls h hl hw
                unfold wp_X6_whose_53 at hw
                refine lv_iload hx hb dX6_whose_53 (lv_at hl 5 rfl) ?_
                refine lv_iconst (v := (4 : Int32)) hx hb dX6_whose_55 (by decide) ?_
                refine lv_icmp_ge (tgt := 85) hx hb dX6_whose_56 (by decide) (fun hc => ?_) (fun hc => ?_)
                · rw [if_pos hc] at hw
                  refine lv_iload_n hx hb dX6_whose_85 rfl (lv_at hl 3 rfl) ?_
                  refine lv_if_ne (tgt := 94) hx hb dX6_whose_86 (by decide) (fun hc => ?_) (fun hc => ?_)
                  · rw [if_neg hc] at hw
                    refine lv_iload hx hb dX6_whose_94 (lv_at hl 4 rfl) ?_
                    refine k_i h (n_T (rest := []) (As := [.int x4]) X h hl.1 (c_J6_bitCount_0f7a4 l G hG x4 _ _ hw) gk_X6_228 rfl hd_J6_bitCount_0f7a4 ⟨rfl, rfl⟩ ⟨Nat.le_of_ble_eq_true rfl, Nat.le_of_ble_eq_true rfl⟩ rfl (Nat.le_of_ble_eq_true rfl) dX6_whose_96 ⟨Nat.zero_le _, Nat.zero_le _⟩) (fun r96 μ96 H locs hw h => ?_)
                    exact r_iret X h hw dX6_whose_99
                  · rw [if_pos hc] at hw
                    refine lv_iload hx hb dX6_whose_89 (lv_at hl 4 rfl) ?_
                    refine lv_goto (tgt := 99) hx hb dX6_whose_91 (by decide) ?_
                    exact r_iret X h hw dX6_whose_99
                · rw [if_neg hc] at hw
                  refine lv_aload_n hx hb dX6_whose_59 rfl (lv_at hl 0 rfl) ?_
                  refine lv_iload_n hx hb dX6_whose_60 rfl (lv_at hl 1 rfl) ?_
                  refine lv_iload_n hx hb dX6_whose_61 rfl (lv_at hl 2 rfl) ?_
                  refine lv_iload hx hb dX6_whose_62 (lv_at hl 5 rfl) ?_
                  refine k_i h (n_V (rest := []) (As := [.int a1, .int a2, .int x5]) X h hl.1 (c_X6_wouldWarmSo l G hG a1 a2 x5 h0 _ _ hw) gk_X6_245 rfl hd_X6_wouldWarmSo ⟨rfl, rfl⟩ ⟨Nat.le_of_ble_eq_true rfl, Nat.le_of_ble_eq_true rfl⟩ (X6_o h0) rfl rfl (Nat.le_of_ble_eq_true rfl) dX6_whose_64 ⟨Nat.zero_le _, Nat.zero_le _⟩) (fun r64 μ64 H locs hw h => ?_)
                  have s79 : ∀ (x4 : Int32) (x5 : Int32) (μ : vM), ∀ (H : Heap) (locs : List Loc) (ls : Array Slot), bw G s μ H locs → lv_has ls 6 [(0, .ref (ga G 0)), (1, .int a1), (2, .int a2), (3, .int a3), (4, .int x4), (5, .int x5)] → wp_X6_whose_79 a1 a2 a3 Q (fun x4 x5 μ => wp_X6_whose_53 a1 a2 a3 Q n53 x4 x5 μ) x4 x5 μ → W p l e ({ frames := 6, cells := 0, slots := 0, locals := 146 } : Room) s m ([.ref (ga G 0), .int a1, .int a2, .int a3] : List Value).toArray below meth c H locs 0 0 (MQ below (qI G Q) ([.ref (ga G 0), .int a1, .int a2, .int a3] : List Value).toArray s 0 0 (gA G)) (F0 m 79 ls []) := by
                    intro x4 x5 μ H locs ls h hl hw
                    unfold wp_X6_whose_79 at hw
                    obtain ⟨x5_79, ex5_79, hw⟩ := hw
                    refine lv_iinc (v := x5_79) (lv' := [(5, .int x5_79), (0, .ref (ga G 0)), (1, .int a1), (2, .int a2), (3, .int a3), (4, .int x4)]) hx hb dX6_whose_79 hl (k := 5) rfl (by rw [ex5_79]; rfl) (by decide) rfl (fun ls hl => ?_)
                    refine lv_goto (tgt := 53) hx hb dX6_whose_82 (by decide) ?_
                    exact ih53 x4 x5_79 μ _ _ _ h (lv_sub hl [1, 2, 3, 4, 5, 0] rfl) hw
                  refine lv_if_eq (tgt := 79) hx hb dX6_whose_67 (by decide) (fun hc => ?_) (fun hc => ?_)
                  · rw [if_pos hc] at hw
                    exact s79 x4 x5 μ64 _ _ _ h (lv_sub hl [0, 1, 2, 3, 4, 5] rfl) hw
                  · rw [if_neg hc] at hw
                    refine lv_iload hx hb dX6_whose_70 (lv_at hl 4 rfl) ?_
                    refine lv_iconst (v := (1 : Int32)) hx hb dX6_whose_72 (by decide) ?_
                    refine lv_iload hx hb dX6_whose_73 (lv_at hl 5 rfl) ?_
                    refine lv_ishl hx hb dX6_whose_75 ?_
                    refine lv_ior hx hb dX6_whose_76 ?_
                    obtain ⟨x4_77, ex4_77, hw⟩ := hw
                    refine topE ex4_77 ?_
                    refine lv_istore (lv' := [(4, .int x4_77), (0, .ref (ga G 0)), (1, .int a1), (2, .int a2), (3, .int a3), (5, .int x5)]) hx hb dX6_whose_77 hl (by decide) rfl (fun ls hl => ?_)
                    exact s79 x4_77 x5 μ64 _ _ _ h (lv_sub hl [1, 2, 3, 4, 0, 5] rfl) hw
            obtain ⟨n, hw⟩ := hw
            exact s53 n (0 : Int32) (0 : Int32) μ35 _ _ _ h (lv_sub hl [2, 3, 4, 5, 1, 0] rfl) hw
          · rw [if_neg hc] at hw
            refine lv_aload_n hx hb dX6_whose_41 rfl (lv_at hl 0 rfl) ?_
            refine lv_iconst (v := (2 : Int32)) hx hb dX6_whose_42 (by decide) ?_
            refine k_i h (n_V (rest := []) (As := [.int (2 : Int32)]) X h hl.1 (c_X6_error l G hG (2 : Int32) h0 _ _ hw) gk_X6_72 rfl hd_X6_error ⟨rfl, rfl⟩ ⟨Nat.le_of_ble_eq_true rfl, Nat.le_of_ble_eq_true rfl⟩ (X6_o h0) rfl rfl (Nat.le_of_ble_eq_true rfl) dX6_whose_43 ⟨Nat.zero_le _, Nat.zero_le _⟩) (fun r43 μ43 H locs hw h => ?_)
            exact r_iret X h hw dX6_whose_46
        · rw [if_neg hc] at hw
          refine lv_aload_n hx hb dX6_whose_24 rfl (lv_at hl 0 rfl) ?_
          refine lv_iconst (v := (1 : Int32)) hx hb dX6_whose_25 (by decide) ?_
          refine k_i h (n_V (rest := []) (As := [.int (1 : Int32)]) X h hl.1 (c_X6_error l G hG (1 : Int32) h0 _ _ hw) gk_X6_72 rfl hd_X6_error ⟨rfl, rfl⟩ ⟨Nat.le_of_ble_eq_true rfl, Nat.le_of_ble_eq_true rfl⟩ (X6_o h0) rfl rfl (Nat.le_of_ble_eq_true rfl) dX6_whose_26 ⟨Nat.zero_le _, Nat.zero_le _⟩) (fun r26 μ26 H locs hw h => ?_)
          exact r_iret X h hw dX6_whose_29
def wp_X6_partsOf (a1 : Int32) (a2 : Int32) (Q : Int32 → vM → Prop) (μ : vM) : Prop := if a2 = 0 then bz (1 : Int32) ∧ ∃ μ6 : vM, μ6 = st μ 0 11 (1 : Int32) ∧ Q (0 : Int32) μ6 else ¬ a2 = 0 ∧ Q (a1 / a2) μ
set_option maxRecDepth 100000 in
set_option maxHeartbeats 4000000 in
theorem c_X6_partsOf (l : Launch) (G : vG) (hG : gO G) (a1 : Int32) (a2 : Int32) (h0 : isX6 G) (Q : Int32 → vM → Prop) (μ : vM) (hw : wp_X6_partsOf a1 a2 Q μ) : mt l G yX6_partsOf vX6_partsOf { frames := 0, cells := 0, slots := 0, locals := 0 } [.ref (ga G 0), .int a1, .int a2] μ (qI G Q) := by
  refine met_of (cc := cX6_partsOf) (maxL := 3) (ret := (some .int)) RX6 (by decide) rfl rfl hG (Nat.le_of_ble_eq_true rfl) ?_
  intro p e s m below meth c X h ls hl
  have hl : lv_has ls 3 [(0, .ref (ga G 0)), (1, .int a1), (2, .int a2)] := hl
  have hx := X.1
  have hb := X.2.1
  unfold wp_X6_partsOf at hw
  refine lv_iload_n hx hb dX6_partsOf_0 rfl (lv_at hl 2 rfl) ?_
  refine lv_if_ne (tgt := 11) hx hb dX6_partsOf_1 (by decide) (fun hc => ?_) (fun hc => ?_)
  · rw [if_neg hc] at hw
    refine lv_iload_n hx hb dX6_partsOf_11 rfl (lv_at hl 1 rfl) ?_
    refine lv_iload_n hx hb dX6_partsOf_12 rfl (lv_at hl 2 rfl) ?_
    obtain ⟨hne, hw⟩ := hw
    refine lv_idiv hx hb dX6_partsOf_13 hne ?_
    exact r_iret X h hw dX6_partsOf_14
  · rw [if_pos hc] at hw
    refine lv_aload_n hx hb dX6_partsOf_4 rfl (lv_at hl 0 rfl) ?_
    refine lv_iconst (v := (1 : Int32)) hx hb dX6_partsOf_5 (by decide) ?_
    obtain ⟨hz, hw⟩ := hw
    obtain ⟨μ6, eμ6, hw⟩ := hw
    refine r_putZ X h (X6_o h0) rfl uX6 tyX6 tyX6_ok nmX6 11 (by decide) lf_1_236 rfl rfl rfl  hz eμ6 dX6_partsOf_6 (fun H locs h => ?_)
    refine lv_iconst (v := (0 : Int32)) hx hb dX6_partsOf_9 (by decide) ?_
    exact r_iret X h hw dX6_partsOf_10
def wp_X6_sayBody (rec : Nat → Int32 → Int32 → Int32 → Int32 → Int32 → (Int32 → vM → Prop) → vM → Prop) (a1 : Int32) (a2 : Int32) (a3 : Int32) (a4 : Int32) (a5 : Int32) (Q : Int32 → vM → Prop) (μ : vM) : Prop := vp_in a2 8 ∧ ∃ x6_12 : Int32, x6_12 = μ 6 a2.toNatClampNeg ∧ vp_in a2 8 ∧ ∃ x7_26 : Int32, x7_26 = μ 7 a2.toNatClampNeg ∧ if a1 = (10 : Int32) then Q (a4 + a2) μ else if a1 = (11 : Int32) then rec 0 a2 (0 : Int32) x6_12 a4 a5 (fun r158 μ158 => Q (r158 * (2 : Int32)) μ158) μ else if a1 = (12 : Int32) then rec 0 a2 (1 : Int32) x6_12 a4 a5 (fun r173 μ173 => Q (r173 - x7_26) μ173) μ else if a1 = (13 : Int32) then wp_X6_partsOf a4 (x7_26 - a2) (fun r187 μ187 => Q r187 μ187) μ else if a1 = (20 : Int32) then rec 0 a2 (0 : Int32) a3 a4 a5 (fun r199 μ199 => Q (r199 - (4 : Int32)) μ199) μ else if a1 = (21 : Int32) then rec 0 a2 (3 : Int32) a3 a4 a5 (fun r213 μ213 => rec 0 a2 (1 : Int32) x6_12 (1 : Int32) a5 (fun r224 μ224 => Q (r213 + r224) μ224) μ213) μ else if a1 = (30 : Int32) then rec 0 a2 (1 : Int32) a3 a4 a5 (fun r238 μ238 => Q ((0 : Int32) - r238) μ238) μ else if a1 = (40 : Int32) then rec 0 a2 (2 : Int32) a3 (a4 / (2 : Int32)) a5 (fun r253 μ253 => Q r253 μ253) μ else if a1 = (50 : Int32) then rec 0 a2 (0 : Int32) a3 a4 a5 (fun r265 μ265 => Q (r265 * (3 : Int32)) μ265) μ else if a1 = (51 : Int32) then rec 0 a2 (2 : Int32) a3 a4 a5 (fun r279 μ279 => Q (r279 ^^^ a2) μ279) μ else if a1 = (60 : Int32) then rec 0 a2 (1 : Int32) a3 (a4 + (1 : Int32)) a5 (fun r295 μ295 => Q r295 μ295) μ else if a1 = (70 : Int32) then Q (9 : Int32) μ else if a1 = (71 : Int32) then rec 0 a2 (1 : Int32) a3 a4 a5 (fun r310 μ310 => Q (r310 + x7_26) μ310) μ else Q (0 : Int32) μ
set_option maxRecDepth 100000 in
set_option maxHeartbeats 4000000 in
theorem cb_X6_sayBody (l : Launch) (G : vG) (hG : gO G) (n : Nat) (rec : Nat → Int32 → Int32 → Int32 → Int32 → Int32 → (Int32 → vM → Prop) → vM → Prop) (a1 : Int32) (a2 : Int32) (a3 : Int32) (a4 : Int32) (a5 : Int32) (h0 : isX6 G) (hrec_say : ∀ (b0 b1 b2 b3 b4 : Int32) (Q : Int32 → vM → Prop) (μ : vM), rec 0 b0 b1 b2 b3 b4 Q μ → mt l G yX6_say vX6_say { frames := n * 2 + 10, cells := 0, slots := 0, locals := n * 64 + 300 } [.ref (ga G 0), .int b0, .int b1, .int b2, .int b3, .int b4] μ (qI G Q)) (hrec_sayBody : ∀ (b0 b1 b2 b3 b4 : Int32) (Q : Int32 → vM → Prop) (μ : vM), rec 1 b0 b1 b2 b3 b4 Q μ → mt l G yX6_sayBody vX6_sayBody { frames := n * 2 + 10, cells := 0, slots := 0, locals := n * 64 + 300 } [.ref (ga G 0), .int b0, .int b1, .int b2, .int b3, .int b4] μ (qI G Q)) (Q : Int32 → vM → Prop) (μ : vM) (hw : wp_X6_sayBody rec a1 a2 a3 a4 a5 Q μ) : mt l G yX6_sayBody vX6_sayBody { frames := n * 2 + 12, cells := 0, slots := 0, locals := n * 64 + 364 } [.ref (ga G 0), .int a1, .int a2, .int a3, .int a4, .int a5] μ (qI G Q) := by
  refine met_of (cc := cX6_sayBody) (maxL := 8) (ret := (some .int)) RX6 (by decide) rfl rfl hG (Nat.le_of_ble_eq_true rfl) ?_
  intro p e s m below meth c X h ls hl
  have hl : lv_has ls 8 [(0, .ref (ga G 0)), (1, .int a1), (2, .int a2), (3, .int a3), (4, .int a4), (5, .int a5)] := hl
  have hx := X.1
  have hb := X.2.1
  unfold wp_X6_sayBody at hw
  refine lv_aload_n hx hb dX6_sayBody_0 rfl (lv_at hl 0 rfl) ?_
  refine r_getR (q := 1) X h (X6_o h0) rfl uX6 0 (by decide) lf_1_225 rfl dX6_sayBody_1 ?_
  refine r_getR (q := 5) X h (X5_o (X6_now h0)) rfl uX5 1 (by decide) fn_16 rfl dX6_sayBody_4 ?_
  refine r_getR (q := 6) X h (X0_o (X5_harvest (X6_now h0))) rfl uX0 2 (by decide) fn_3 rfl dX6_sayBody_7 ?_
  refine lv_iload_n hx hb dX6_sayBody_10 rfl (lv_at hl 2 rfl) ?_
  obtain ⟨hi, hw⟩ := hw
  refine r_ald X h (X0_kind (X5_harvest (X6_now h0))) hi dX6_sayBody_11 ?_
  obtain ⟨x6_12, ex6_12, hw⟩ := hw
  refine topE ex6_12 ?_
  refine lv_istore (lv' := [(6, .int x6_12), (0, .ref (ga G 0)), (1, .int a1), (2, .int a2), (3, .int a3), (4, .int a4), (5, .int a5)]) hx hb dX6_sayBody_12 hl (by decide) rfl (fun ls hl => ?_)
  refine lv_aload_n hx hb dX6_sayBody_14 rfl (lv_at hl 1 rfl) ?_
  refine r_getR (q := 1) X h (X6_o h0) rfl uX6 0 (by decide) lf_1_225 rfl dX6_sayBody_15 ?_
  refine r_getR (q := 5) X h (X5_o (X6_now h0)) rfl uX5 1 (by decide) fn_16 rfl dX6_sayBody_18 ?_
  refine r_getR (q := 7) X h (X0_o (X5_harvest (X6_now h0))) rfl uX0 3 (by decide) fn_4 rfl dX6_sayBody_21 ?_
  refine lv_iload_n hx hb dX6_sayBody_24 rfl (lv_at hl 3 rfl) ?_
  obtain ⟨hi, hw⟩ := hw
  refine r_ald X h (X0_m (X5_harvest (X6_now h0))) hi dX6_sayBody_25 ?_
  obtain ⟨x7_26, ex7_26, hw⟩ := hw
  refine topE ex7_26 ?_
  refine lv_istore (lv' := [(7, .int x7_26), (6, .int x6_12), (0, .ref (ga G 0)), (1, .int a1), (2, .int a2), (3, .int a3), (4, .int a4), (5, .int a5)]) hx hb dX6_sayBody_26 hl (by decide) rfl (fun ls hl => ?_)
  refine lv_iload_n hx hb dX6_sayBody_28 rfl (lv_at hl 3 rfl) ?_
  by_cases hc10 : a1 = (10 : Int32)
  · rw [if_pos hc10] at hw
    refine lv_lookup (off := 115) (tgt := 144) hx hb dX6_sayBody_29 (by decide) (by rw [hc10]; decide) (by decide) ?_
    refine lv_iload hx hb dX6_sayBody_144 (lv_at hl 6 rfl) ?_
    refine lv_iload_n hx hb dX6_sayBody_146 rfl (lv_at hl 4 rfl) ?_
    refine lv_iadd hx hb dX6_sayBody_147 ?_
    exact r_iret X h hw dX6_sayBody_148
  · rw [if_neg hc10] at hw
    by_cases hc11 : a1 = (11 : Int32)
    · rw [if_pos hc11] at hw
      refine lv_lookup (off := 120) (tgt := 149) hx hb dX6_sayBody_29 (by decide) (by rw [hc11]; decide) (by decide) ?_
      refine lv_aload_n hx hb dX6_sayBody_149 rfl (lv_at hl 2 rfl) ?_
      refine lv_iload_n hx hb dX6_sayBody_150 rfl (lv_at hl 4 rfl) ?_
      refine lv_iconst (v := (0 : Int32)) hx hb dX6_sayBody_151 (by decide) ?_
      refine lv_iload hx hb dX6_sayBody_152 (lv_at hl 1 rfl) ?_
      refine lv_iload hx hb dX6_sayBody_154 (lv_at hl 6 rfl) ?_
      refine lv_iload hx hb dX6_sayBody_156 (lv_at hl 7 rfl) ?_
      refine k_i h (n_V (rest := []) (As := [.int a2, .int (0 : Int32), .int x6_12, .int a4, .int a5]) X h hl.1 (hrec_say a2 (0 : Int32) x6_12 a4 a5 _ _ hw) gk_X6_249 rfl hd_X6_say ⟨rfl, rfl⟩ ⟨by show _ ≤ _; simp only []; omega, by show _ ≤ _; simp only []; omega⟩ (X6_o h0) rfl rfl (Nat.le_of_ble_eq_true rfl) dX6_sayBody_158 ⟨Nat.zero_le _, Nat.zero_le _⟩) (fun r158 μ158 H locs hw h => ?_)
      refine lv_iconst (v := (2 : Int32)) hx hb dX6_sayBody_161 (by decide) ?_
      refine lv_imul hx hb dX6_sayBody_162 ?_
      exact r_iret X h hw dX6_sayBody_163
    · rw [if_neg hc11] at hw
      by_cases hc12 : a1 = (12 : Int32)
      · rw [if_pos hc12] at hw
        refine lv_lookup (off := 135) (tgt := 164) hx hb dX6_sayBody_29 (by decide) (by rw [hc12]; decide) (by decide) ?_
        refine lv_aload_n hx hb dX6_sayBody_164 rfl (lv_at hl 2 rfl) ?_
        refine lv_iload_n hx hb dX6_sayBody_165 rfl (lv_at hl 4 rfl) ?_
        refine lv_iconst (v := (1 : Int32)) hx hb dX6_sayBody_166 (by decide) ?_
        refine lv_iload hx hb dX6_sayBody_167 (lv_at hl 1 rfl) ?_
        refine lv_iload hx hb dX6_sayBody_169 (lv_at hl 6 rfl) ?_
        refine lv_iload hx hb dX6_sayBody_171 (lv_at hl 7 rfl) ?_
        refine k_i h (n_V (rest := []) (As := [.int a2, .int (1 : Int32), .int x6_12, .int a4, .int a5]) X h hl.1 (hrec_say a2 (1 : Int32) x6_12 a4 a5 _ _ hw) gk_X6_249 rfl hd_X6_say ⟨rfl, rfl⟩ ⟨by show _ ≤ _; simp only []; omega, by show _ ≤ _; simp only []; omega⟩ (X6_o h0) rfl rfl (Nat.le_of_ble_eq_true rfl) dX6_sayBody_173 ⟨Nat.zero_le _, Nat.zero_le _⟩) (fun r173 μ173 H locs hw h => ?_)
        refine lv_iload hx hb dX6_sayBody_176 (lv_at hl 0 rfl) ?_
        refine lv_isub hx hb dX6_sayBody_178 ?_
        exact r_iret X h hw dX6_sayBody_179
      · rw [if_neg hc12] at hw
        by_cases hc13 : a1 = (13 : Int32)
        · rw [if_pos hc13] at hw
          refine lv_lookup (off := 151) (tgt := 180) hx hb dX6_sayBody_29 (by decide) (by rw [hc13]; decide) (by decide) ?_
          refine lv_aload_n hx hb dX6_sayBody_180 rfl (lv_at hl 2 rfl) ?_
          refine lv_iload hx hb dX6_sayBody_181 (lv_at hl 6 rfl) ?_
          refine lv_iload hx hb dX6_sayBody_183 (lv_at hl 0 rfl) ?_
          refine lv_iload_n hx hb dX6_sayBody_185 rfl (lv_at hl 4 rfl) ?_
          refine lv_isub hx hb dX6_sayBody_186 ?_
          refine k_i h (n_V (rest := []) (As := [.int a4, .int (x7_26 - a2)]) X h hl.1 (c_X6_partsOf l G hG a4 (x7_26 - a2) h0 _ _ hw) gk_X6_321 rfl hd_X6_partsOf ⟨rfl, rfl⟩ ⟨by show _ ≤ _; simp only []; omega, by show _ ≤ _; simp only []; omega⟩ (X6_o h0) rfl rfl (Nat.le_of_ble_eq_true rfl) dX6_sayBody_187 ⟨Nat.zero_le _, Nat.zero_le _⟩) (fun r187 μ187 H locs hw h => ?_)
          exact r_iret X h hw dX6_sayBody_190
        · rw [if_neg hc13] at hw
          by_cases hc20 : a1 = (20 : Int32)
          · rw [if_pos hc20] at hw
            refine lv_lookup (off := 162) (tgt := 191) hx hb dX6_sayBody_29 (by decide) (by rw [hc20]; decide) (by decide) ?_
            refine lv_aload_n hx hb dX6_sayBody_191 rfl (lv_at hl 2 rfl) ?_
            refine lv_iload_n hx hb dX6_sayBody_192 rfl (lv_at hl 4 rfl) ?_
            refine lv_iconst (v := (0 : Int32)) hx hb dX6_sayBody_193 (by decide) ?_
            refine lv_iload_n hx hb dX6_sayBody_194 rfl (lv_at hl 5 rfl) ?_
            refine lv_iload hx hb dX6_sayBody_195 (lv_at hl 6 rfl) ?_
            refine lv_iload hx hb dX6_sayBody_197 (lv_at hl 7 rfl) ?_
            refine k_i h (n_V (rest := []) (As := [.int a2, .int (0 : Int32), .int a3, .int a4, .int a5]) X h hl.1 (hrec_say a2 (0 : Int32) a3 a4 a5 _ _ hw) gk_X6_249 rfl hd_X6_say ⟨rfl, rfl⟩ ⟨by show _ ≤ _; simp only []; omega, by show _ ≤ _; simp only []; omega⟩ (X6_o h0) rfl rfl (Nat.le_of_ble_eq_true rfl) dX6_sayBody_199 ⟨Nat.zero_le _, Nat.zero_le _⟩) (fun r199 μ199 H locs hw h => ?_)
            refine lv_iconst (v := (4 : Int32)) hx hb dX6_sayBody_202 (by decide) ?_
            refine lv_isub hx hb dX6_sayBody_203 ?_
            exact r_iret X h hw dX6_sayBody_204
          · rw [if_neg hc20] at hw
            by_cases hc21 : a1 = (21 : Int32)
            · rw [if_pos hc21] at hw
              refine lv_lookup (off := 176) (tgt := 205) hx hb dX6_sayBody_29 (by decide) (by rw [hc21]; decide) (by decide) ?_
              refine lv_aload_n hx hb dX6_sayBody_205 rfl (lv_at hl 2 rfl) ?_
              refine lv_iload_n hx hb dX6_sayBody_206 rfl (lv_at hl 4 rfl) ?_
              refine lv_iconst (v := (3 : Int32)) hx hb dX6_sayBody_207 (by decide) ?_
              refine lv_iload_n hx hb dX6_sayBody_208 rfl (lv_at hl 5 rfl) ?_
              refine lv_iload hx hb dX6_sayBody_209 (lv_at hl 6 rfl) ?_
              refine lv_iload hx hb dX6_sayBody_211 (lv_at hl 7 rfl) ?_
              refine k_i h (n_V (rest := []) (As := [.int a2, .int (3 : Int32), .int a3, .int a4, .int a5]) X h hl.1 (hrec_say a2 (3 : Int32) a3 a4 a5 _ _ hw) gk_X6_249 rfl hd_X6_say ⟨rfl, rfl⟩ ⟨by show _ ≤ _; simp only []; omega, by show _ ≤ _; simp only []; omega⟩ (X6_o h0) rfl rfl (Nat.le_of_ble_eq_true rfl) dX6_sayBody_213 ⟨Nat.zero_le _, Nat.zero_le _⟩) (fun r213 μ213 H locs hw h => ?_)
              refine lv_aload_n hx hb dX6_sayBody_216 rfl (lv_at hl 2 rfl) ?_
              refine lv_iload_n hx hb dX6_sayBody_217 rfl (lv_at hl 4 rfl) ?_
              refine lv_iconst (v := (1 : Int32)) hx hb dX6_sayBody_218 (by decide) ?_
              refine lv_iload hx hb dX6_sayBody_219 (lv_at hl 1 rfl) ?_
              refine lv_iconst (v := (1 : Int32)) hx hb dX6_sayBody_221 (by decide) ?_
              refine lv_iload hx hb dX6_sayBody_222 (lv_at hl 7 rfl) ?_
              refine k_i h (n_V (rest := [.int r213]) (As := [.int a2, .int (1 : Int32), .int x6_12, .int (1 : Int32), .int a5]) X h hl.1 (hrec_say a2 (1 : Int32) x6_12 (1 : Int32) a5 _ _ hw) gk_X6_249 rfl hd_X6_say ⟨rfl, rfl⟩ ⟨by show _ ≤ _; simp only []; omega, by show _ ≤ _; simp only []; omega⟩ (X6_o h0) rfl rfl (Nat.le_of_ble_eq_true rfl) dX6_sayBody_224 ⟨Nat.zero_le _, Nat.zero_le _⟩) (fun r224 μ224 H locs hw h => ?_)
              refine lv_iadd hx hb dX6_sayBody_227 ?_
              exact r_iret X h hw dX6_sayBody_228
            · rw [if_neg hc21] at hw
              by_cases hc30 : a1 = (30 : Int32)
              · rw [if_pos hc30] at hw
                refine lv_lookup (off := 200) (tgt := 229) hx hb dX6_sayBody_29 (by decide) (by rw [hc30]; decide) (by decide) ?_
                refine lv_iconst (v := (0 : Int32)) hx hb dX6_sayBody_229 (by decide) ?_
                refine lv_aload_n hx hb dX6_sayBody_230 rfl (lv_at hl 2 rfl) ?_
                refine lv_iload_n hx hb dX6_sayBody_231 rfl (lv_at hl 4 rfl) ?_
                refine lv_iconst (v := (1 : Int32)) hx hb dX6_sayBody_232 (by decide) ?_
                refine lv_iload_n hx hb dX6_sayBody_233 rfl (lv_at hl 5 rfl) ?_
                refine lv_iload hx hb dX6_sayBody_234 (lv_at hl 6 rfl) ?_
                refine lv_iload hx hb dX6_sayBody_236 (lv_at hl 7 rfl) ?_
                refine k_i h (n_V (rest := [.int (0 : Int32)]) (As := [.int a2, .int (1 : Int32), .int a3, .int a4, .int a5]) X h hl.1 (hrec_say a2 (1 : Int32) a3 a4 a5 _ _ hw) gk_X6_249 rfl hd_X6_say ⟨rfl, rfl⟩ ⟨by show _ ≤ _; simp only []; omega, by show _ ≤ _; simp only []; omega⟩ (X6_o h0) rfl rfl (Nat.le_of_ble_eq_true rfl) dX6_sayBody_238 ⟨Nat.zero_le _, Nat.zero_le _⟩) (fun r238 μ238 H locs hw h => ?_)
                refine lv_isub hx hb dX6_sayBody_241 ?_
                exact r_iret X h hw dX6_sayBody_242
              · rw [if_neg hc30] at hw
                by_cases hc40 : a1 = (40 : Int32)
                · rw [if_pos hc40] at hw
                  refine lv_lookup (off := 214) (tgt := 243) hx hb dX6_sayBody_29 (by decide) (by rw [hc40]; decide) (by decide) ?_
                  refine lv_aload_n hx hb dX6_sayBody_243 rfl (lv_at hl 2 rfl) ?_
                  refine lv_iload_n hx hb dX6_sayBody_244 rfl (lv_at hl 4 rfl) ?_
                  refine lv_iconst (v := (2 : Int32)) hx hb dX6_sayBody_245 (by decide) ?_
                  refine lv_iload_n hx hb dX6_sayBody_246 rfl (lv_at hl 5 rfl) ?_
                  refine lv_iload hx hb dX6_sayBody_247 (lv_at hl 6 rfl) ?_
                  refine lv_iconst (v := (2 : Int32)) hx hb dX6_sayBody_249 (by decide) ?_
                  refine lv_idiv hx hb dX6_sayBody_250 (by decide) ?_
                  refine lv_iload hx hb dX6_sayBody_251 (lv_at hl 7 rfl) ?_
                  refine k_i h (n_V (rest := []) (As := [.int a2, .int (2 : Int32), .int a3, .int (a4 / (2 : Int32)), .int a5]) X h hl.1 (hrec_say a2 (2 : Int32) a3 (a4 / (2 : Int32)) a5 _ _ hw) gk_X6_249 rfl hd_X6_say ⟨rfl, rfl⟩ ⟨by show _ ≤ _; simp only []; omega, by show _ ≤ _; simp only []; omega⟩ (X6_o h0) rfl rfl (Nat.le_of_ble_eq_true rfl) dX6_sayBody_253 ⟨Nat.zero_le _, Nat.zero_le _⟩) (fun r253 μ253 H locs hw h => ?_)
                  exact r_iret X h hw dX6_sayBody_256
                · rw [if_neg hc40] at hw
                  by_cases hc50 : a1 = (50 : Int32)
                  · rw [if_pos hc50] at hw
                    refine lv_lookup (off := 228) (tgt := 257) hx hb dX6_sayBody_29 (by decide) (by rw [hc50]; decide) (by decide) ?_
                    refine lv_aload_n hx hb dX6_sayBody_257 rfl (lv_at hl 2 rfl) ?_
                    refine lv_iload_n hx hb dX6_sayBody_258 rfl (lv_at hl 4 rfl) ?_
                    refine lv_iconst (v := (0 : Int32)) hx hb dX6_sayBody_259 (by decide) ?_
                    refine lv_iload_n hx hb dX6_sayBody_260 rfl (lv_at hl 5 rfl) ?_
                    refine lv_iload hx hb dX6_sayBody_261 (lv_at hl 6 rfl) ?_
                    refine lv_iload hx hb dX6_sayBody_263 (lv_at hl 7 rfl) ?_
                    refine k_i h (n_V (rest := []) (As := [.int a2, .int (0 : Int32), .int a3, .int a4, .int a5]) X h hl.1 (hrec_say a2 (0 : Int32) a3 a4 a5 _ _ hw) gk_X6_249 rfl hd_X6_say ⟨rfl, rfl⟩ ⟨by show _ ≤ _; simp only []; omega, by show _ ≤ _; simp only []; omega⟩ (X6_o h0) rfl rfl (Nat.le_of_ble_eq_true rfl) dX6_sayBody_265 ⟨Nat.zero_le _, Nat.zero_le _⟩) (fun r265 μ265 H locs hw h => ?_)
                    refine lv_iconst (v := (3 : Int32)) hx hb dX6_sayBody_268 (by decide) ?_
                    refine lv_imul hx hb dX6_sayBody_269 ?_
                    exact r_iret X h hw dX6_sayBody_270
                  · rw [if_neg hc50] at hw
                    by_cases hc51 : a1 = (51 : Int32)
                    · rw [if_pos hc51] at hw
                      refine lv_lookup (off := 242) (tgt := 271) hx hb dX6_sayBody_29 (by decide) (by rw [hc51]; decide) (by decide) ?_
                      refine lv_aload_n hx hb dX6_sayBody_271 rfl (lv_at hl 2 rfl) ?_
                      refine lv_iload_n hx hb dX6_sayBody_272 rfl (lv_at hl 4 rfl) ?_
                      refine lv_iconst (v := (2 : Int32)) hx hb dX6_sayBody_273 (by decide) ?_
                      refine lv_iload_n hx hb dX6_sayBody_274 rfl (lv_at hl 5 rfl) ?_
                      refine lv_iload hx hb dX6_sayBody_275 (lv_at hl 6 rfl) ?_
                      refine lv_iload hx hb dX6_sayBody_277 (lv_at hl 7 rfl) ?_
                      refine k_i h (n_V (rest := []) (As := [.int a2, .int (2 : Int32), .int a3, .int a4, .int a5]) X h hl.1 (hrec_say a2 (2 : Int32) a3 a4 a5 _ _ hw) gk_X6_249 rfl hd_X6_say ⟨rfl, rfl⟩ ⟨by show _ ≤ _; simp only []; omega, by show _ ≤ _; simp only []; omega⟩ (X6_o h0) rfl rfl (Nat.le_of_ble_eq_true rfl) dX6_sayBody_279 ⟨Nat.zero_le _, Nat.zero_le _⟩) (fun r279 μ279 H locs hw h => ?_)
                      refine lv_iload_n hx hb dX6_sayBody_282 rfl (lv_at hl 4 rfl) ?_
                      refine lv_ixor hx hb dX6_sayBody_283 ?_
                      exact r_iret X h hw dX6_sayBody_284
                    · rw [if_neg hc51] at hw
                      by_cases hc60 : a1 = (60 : Int32)
                      · rw [if_pos hc60] at hw
                        refine lv_lookup (off := 256) (tgt := 285) hx hb dX6_sayBody_29 (by decide) (by rw [hc60]; decide) (by decide) ?_
                        refine lv_aload_n hx hb dX6_sayBody_285 rfl (lv_at hl 2 rfl) ?_
                        refine lv_iload_n hx hb dX6_sayBody_286 rfl (lv_at hl 4 rfl) ?_
                        refine lv_iconst (v := (1 : Int32)) hx hb dX6_sayBody_287 (by decide) ?_
                        refine lv_iload_n hx hb dX6_sayBody_288 rfl (lv_at hl 5 rfl) ?_
                        refine lv_iload hx hb dX6_sayBody_289 (lv_at hl 6 rfl) ?_
                        refine lv_iconst (v := (1 : Int32)) hx hb dX6_sayBody_291 (by decide) ?_
                        refine lv_iadd hx hb dX6_sayBody_292 ?_
                        refine lv_iload hx hb dX6_sayBody_293 (lv_at hl 7 rfl) ?_
                        refine k_i h (n_V (rest := []) (As := [.int a2, .int (1 : Int32), .int a3, .int (a4 + (1 : Int32)), .int a5]) X h hl.1 (hrec_say a2 (1 : Int32) a3 (a4 + (1 : Int32)) a5 _ _ hw) gk_X6_249 rfl hd_X6_say ⟨rfl, rfl⟩ ⟨by show _ ≤ _; simp only []; omega, by show _ ≤ _; simp only []; omega⟩ (X6_o h0) rfl rfl (Nat.le_of_ble_eq_true rfl) dX6_sayBody_295 ⟨Nat.zero_le _, Nat.zero_le _⟩) (fun r295 μ295 H locs hw h => ?_)
                        exact r_iret X h hw dX6_sayBody_298
                      · rw [if_neg hc60] at hw
                        by_cases hc70 : a1 = (70 : Int32)
                        · rw [if_pos hc70] at hw
                          refine lv_lookup (off := 270) (tgt := 299) hx hb dX6_sayBody_29 (by decide) (by rw [hc70]; decide) (by decide) ?_
                          refine lv_bipush (v := (9 : Int32)) hx hb dX6_sayBody_299 (by decide) ?_
                          exact r_iret X h hw dX6_sayBody_301
                        · rw [if_neg hc70] at hw
                          by_cases hc71 : a1 = (71 : Int32)
                          · rw [if_pos hc71] at hw
                            refine lv_lookup (off := 273) (tgt := 302) hx hb dX6_sayBody_29 (by decide) (by rw [hc71]; decide) (by decide) ?_
                            refine lv_aload_n hx hb dX6_sayBody_302 rfl (lv_at hl 2 rfl) ?_
                            refine lv_iload_n hx hb dX6_sayBody_303 rfl (lv_at hl 4 rfl) ?_
                            refine lv_iconst (v := (1 : Int32)) hx hb dX6_sayBody_304 (by decide) ?_
                            refine lv_iload_n hx hb dX6_sayBody_305 rfl (lv_at hl 5 rfl) ?_
                            refine lv_iload hx hb dX6_sayBody_306 (lv_at hl 6 rfl) ?_
                            refine lv_iload hx hb dX6_sayBody_308 (lv_at hl 7 rfl) ?_
                            refine k_i h (n_V (rest := []) (As := [.int a2, .int (1 : Int32), .int a3, .int a4, .int a5]) X h hl.1 (hrec_say a2 (1 : Int32) a3 a4 a5 _ _ hw) gk_X6_249 rfl hd_X6_say ⟨rfl, rfl⟩ ⟨by show _ ≤ _; simp only []; omega, by show _ ≤ _; simp only []; omega⟩ (X6_o h0) rfl rfl (Nat.le_of_ble_eq_true rfl) dX6_sayBody_310 ⟨Nat.zero_le _, Nat.zero_le _⟩) (fun r310 μ310 H locs hw h => ?_)
                            refine lv_iload hx hb dX6_sayBody_313 (lv_at hl 0 rfl) ?_
                            refine lv_iadd hx hb dX6_sayBody_315 ?_
                            exact r_iret X h hw dX6_sayBody_316
                          · rw [if_neg hc71] at hw
                            refine lv_lookup (off := 288) (tgt := 317) hx hb dX6_sayBody_29 (by decide) ((lv_osw hc10 (by decide)).trans ((lv_osw hc11 (by decide)).trans ((lv_osw hc12 (by decide)).trans ((lv_osw hc13 (by decide)).trans ((lv_osw hc20 (by decide)).trans ((lv_osw hc21 (by decide)).trans ((lv_osw hc30 (by decide)).trans ((lv_osw hc40 (by decide)).trans ((lv_osw hc50 (by decide)).trans ((lv_osw hc51 (by decide)).trans ((lv_osw hc60 (by decide)).trans ((lv_osw hc70 (by decide)).trans ((lv_osw hc71 (by decide)).trans rfl))))))))))))) (by decide) ?_
                            refine lv_iconst (v := (0 : Int32)) hx hb dX6_sayBody_317 (by decide) ?_
                            exact r_iret X h hw dX6_sayBody_318
def wp_X6_say_107 (rec : Nat → Int32 → Int32 → Int32 → Int32 → Int32 → (Int32 → vM → Prop) → vM → Prop) (a1 : Int32) (a2 : Int32) (a3 : Int32) (a4 : Int32) (a5 : Int32) (Q : Int32 → vM → Prop) (x6 : Int32) (x7 : Int32) (μ : vM) : Prop := vp_in x6 7 ∧ rec 1 x7 a1 (c_ABOVE x6.toNatClampNeg) a4 (a5 + (1 : Int32)) (fun r123 μ123 => Q r123 μ123) μ
def wp_X6_say_54 (rec : Nat → Int32 → Int32 → Int32 → Int32 → Int32 → (Int32 → vM → Prop) → vM → Prop) (a1 : Int32) (a2 : Int32) (a3 : Int32) (a4 : Int32) (a5 : Int32) (Q : Int32 → vM → Prop) (x6 : Int32) (μ : vM) : Prop := if x6 < 0 then Q (0 : Int32) μ else if a5 ≤ (20 : Int32) then vp_in ((x6 * (4 : Int32)) + a2) 28 ∧ ∃ x7_78 : Int32, x7_78 = c_BODIES ((x6 * (4 : Int32)) + a2).toNatClampNeg ∧ if (30 : Int32) ≤ (μ 0 10) then wp_X6_say_107 rec a1 a2 a3 a4 a5 Q x6 x7_78 μ else ∃ μ101 : vM, μ101 = st μ 0 10 ((μ 0 10) + (1 : Int32)) ∧ vp_in (μ 0 10) 30 ∧ ∃ μ106 : vM, μ106 = st μ101 58 (μ 0 10).toNatClampNeg x7_78 ∧ wp_X6_say_107 rec a1 a2 a3 a4 a5 Q x6 x7_78 μ106 else Q (0 : Int32) μ
def wp_X6_say_15 (rec : Nat → Int32 → Int32 → Int32 → Int32 → Int32 → (Int32 → vM → Prop) → vM → Prop) (a1 : Int32) (a2 : Int32) (a3 : Int32) (a4 : Int32) (a5 : Int32) (Q : Int32 → vM → Prop) : Nat → Int32 → Int32 → vM → Prop
  | 0, _, _, _ => False
  | n15 + 1, x6, x7, μ => if (7 : Int32) ≤ x7 then wp_X6_say_54 rec a1 a2 a3 a4 a5 Q x6 μ else if x6 < 0 then wp_X6_say_54 rec a1 a2 a3 a4 a5 Q x6 μ else vp_in ((x6 * (4 : Int32)) + a2) 28 ∧ if (c_BODIES ((x6 * (4 : Int32)) + a2).toNatClampNeg) = 0 then vp_in x6 7 ∧ ∃ x6_46 : Int32, x6_46 = c_ABOVE x6.toNatClampNeg ∧ ∃ x7_48 : Int32, x7_48 = x7 + (1 : Int32) ∧ wp_X6_say_15 rec a1 a2 a3 a4 a5 Q n15 x6_46 x7_48 μ else wp_X6_say_54 rec a1 a2 a3 a4 a5 Q x6 μ
def wp_X6_say (rec : Nat → Int32 → Int32 → Int32 → Int32 → Int32 → (Int32 → vM → Prop) → vM → Prop) (a1 : Int32) (a2 : Int32) (a3 : Int32) (a4 : Int32) (a5 : Int32) (Q : Int32 → vM → Prop) (μ : vM) : Prop := if (μ 0 11) = 0 then ∃ n15, wp_X6_say_15 rec a1 a2 a3 a4 a5 Q n15 a3 (0 : Int32) μ else Q (0 : Int32) μ
set_option maxRecDepth 100000 in
set_option maxHeartbeats 4000000 in
theorem cb_X6_say (l : Launch) (G : vG) (hG : gO G) (n : Nat) (rec : Nat → Int32 → Int32 → Int32 → Int32 → Int32 → (Int32 → vM → Prop) → vM → Prop) (a1 : Int32) (a2 : Int32) (a3 : Int32) (a4 : Int32) (a5 : Int32) (h0 : isX6 G) (hrec_say : ∀ (b0 b1 b2 b3 b4 : Int32) (Q : Int32 → vM → Prop) (μ : vM), rec 0 b0 b1 b2 b3 b4 Q μ → mt l G yX6_say vX6_say { frames := n * 2 + 10, cells := 0, slots := 0, locals := n * 64 + 300 } [.ref (ga G 0), .int b0, .int b1, .int b2, .int b3, .int b4] μ (qI G Q)) (hrec_sayBody : ∀ (b0 b1 b2 b3 b4 : Int32) (Q : Int32 → vM → Prop) (μ : vM), rec 1 b0 b1 b2 b3 b4 Q μ → mt l G yX6_sayBody vX6_sayBody { frames := n * 2 + 10, cells := 0, slots := 0, locals := n * 64 + 300 } [.ref (ga G 0), .int b0, .int b1, .int b2, .int b3, .int b4] μ (qI G Q)) (Q : Int32 → vM → Prop) (μ : vM) (hw : wp_X6_say rec a1 a2 a3 a4 a5 Q μ) : mt l G yX6_say vX6_say { frames := n * 2 + 12, cells := 0, slots := 0, locals := n * 64 + 364 } [.ref (ga G 0), .int a1, .int a2, .int a3, .int a4, .int a5] μ (qI G Q) := by
  refine met_of (cc := cX6_say) (maxL := 8) (ret := (some .int)) RX6 (by decide) rfl rfl hG (Nat.le_of_ble_eq_true rfl) ?_
  intro p e s m below meth c X h ls hl
  have hl : lv_has ls 8 [(0, .ref (ga G 0)), (1, .int a1), (2, .int a2), (3, .int a3), (4, .int a4), (5, .int a5)] := hl
  have hx := X.1
  have hb := X.2.1
  obtain ⟨tABOVE, hZABOVE, hTABOVE⟩ := X.2.2.2.2.2.2.2.2.2.1
  obtain ⟨tBODIES, hZBODIES, hTBODIES⟩ := X.2.2.2.2.2.2.2.2.2.2.1
  unfold wp_X6_say at hw
  refine lv_aload_n hx hb dX6_say_0 rfl (lv_at hl 0 rfl) ?_
  refine r_getI X h (X6_o h0) rfl uX6 11 (by decide) lf_1_236 rfl dX6_say_1 ?_
  refine lv_if_eq (tgt := 9) hx hb dX6_say_4 (by decide) (fun hc => ?_) (fun hc => ?_)
  · rw [if_pos hc] at hw
    refine lv_iload_n hx hb dX6_say_9 rfl (lv_at hl 3 rfl) ?_
    refine lv_istore (lv' := [(6, .int a3), (0, .ref (ga G 0)), (1, .int a1), (2, .int a2), (3, .int a3), (4, .int a4), (5, .int a5)]) hx hb dX6_say_10 hl (by decide) rfl (fun ls hl => ?_)
    refine lv_iconst (v := (0 : Int32)) hx hb dX6_say_12 (by decide) ?_
    refine lv_istore (lv' := [(7, .int (0 : Int32)), (6, .int a3), (0, .ref (ga G 0)), (1, .int a1), (2, .int a2), (3, .int a3), (4, .int a4), (5, .int a5)]) hx hb dX6_say_13 hl (by decide) rfl (fun ls hl => ?_)
    have s15 : ∀ (n15 : Nat) (x6 : Int32) (x7 : Int32) (μ : vM), ∀ (H : Heap) (locs : List Loc) (ls : Array Slot), bw G s μ H locs → lv_has ls 8 [(0, .ref (ga G 0)), (1, .int a1), (2, .int a2), (4, .int a4), (5, .int a5), (6, .int x6), (7, .int x7)] → wp_X6_say_15 rec a1 a2 a3 a4 a5 Q n15 x6 x7 μ → W p l e ({ frames := n * 2 + 12, cells := 0, slots := 0, locals := n * 64 + 364 } : Room) s m ([.ref (ga G 0), .int a1, .int a2, .int a3, .int a4, .int a5] : List Value).toArray below meth c H locs 0 0 (MQ below (qI G Q) ([.ref (ga G 0), .int a1, .int a2, .int a3, .int a4, .int a5] : List Value).toArray s 0 0 (gA G)) (F0 m 15 ls []) := by
      intro n15
      induction n15 with
      | zero => intro x6 x7 μ H locs ls h hl hw; exact absurd hw (by unfold wp_X6_say_15; exact id)
      | succ n15 ih15 =>
        intro x6 x7 μ H locs ls h hl hw
        unfold wp_X6_say_15 at hw
        refine lv_iload hx hb dX6_say_15 (lv_at hl 6 rfl) ?_
        refine lv_bipush (v := (7 : Int32)) hx hb dX6_say_17 (by decide) ?_
        have s54 : ∀ (x6 : Int32) (μ : vM), ∀ (H : Heap) (locs : List Loc) (ls : Array Slot), bw G s μ H locs → lv_has ls 8 [(0, .ref (ga G 0)), (1, .int a1), (2, .int a2), (4, .int a4), (5, .int a5), (6, .int x6)] → wp_X6_say_54 rec a1 a2 a3 a4 a5 Q x6 μ → W p l e ({ frames := n * 2 + 12, cells := 0, slots := 0, locals := n * 64 + 364 } : Room) s m ([.ref (ga G 0), .int a1, .int a2, .int a3, .int a4, .int a5] : List Value).toArray below meth c H locs 0 0 (MQ below (qI G Q) ([.ref (ga G 0), .int a1, .int a2, .int a3, .int a4, .int a5] : List Value).toArray s 0 0 (gA G)) (F0 m 54 ls []) := by
          intro x6 μ H locs ls h hl hw
          unfold wp_X6_say_54 at hw
          refine lv_iload hx hb dX6_say_54 (lv_at hl 5 rfl) ?_
          refine lv_if_lt (tgt := 66) hx hb dX6_say_56 (by decide) (fun hc => ?_) (fun hc => ?_)
          · rw [if_pos hc] at hw
            refine lv_iconst (v := (0 : Int32)) hx hb dX6_say_66 (by decide) ?_
            exact r_iret X h hw dX6_say_67
          · rw [if_neg hc] at hw
            refine lv_iload hx hb dX6_say_59 (lv_at hl 4 rfl) ?_
            refine lv_bipush (v := (20 : Int32)) hx hb dX6_say_61 (by decide) ?_
            refine lv_icmp_le (tgt := 68) hx hb dX6_say_63 (by decide) (fun hc => ?_) (fun hc => ?_)
            · rw [if_pos hc] at hw
              refine r_gets X h hZBODIES ww_3_202 dX6_say_68 ?_
              refine lv_iload hx hb dX6_say_71 (lv_at hl 5 rfl) ?_
              refine lv_iconst (v := (4 : Int32)) hx hb dX6_say_73 (by decide) ?_
              refine lv_imul hx hb dX6_say_74 ?_
              refine lv_iload_n hx hb dX6_say_75 rfl (lv_at hl 2 rfl) ?_
              refine lv_iadd hx hb dX6_say_76 ?_
              obtain ⟨hi, hw⟩ := hw
              refine r_ti X h hTBODIES hi dX6_say_77 ?_
              obtain ⟨x7_78, ex7_78, hw⟩ := hw
              refine topE ex7_78 ?_
              refine lv_istore (lv' := [(7, .int x7_78), (0, .ref (ga G 0)), (1, .int a1), (2, .int a2), (4, .int a4), (5, .int a5), (6, .int x6)]) hx hb dX6_say_78 hl (by decide) rfl (fun ls hl => ?_)
              refine lv_aload_n hx hb dX6_say_80 rfl (lv_at hl 1 rfl) ?_
              refine r_getI X h (X6_o h0) rfl uX6 10 (by decide) lf_1_235 rfl dX6_say_81 ?_
              refine lv_bipush (v := (30 : Int32)) hx hb dX6_say_84 (by decide) ?_
              have s107 : ∀ (x6 : Int32) (x7 : Int32) (μ : vM), ∀ (H : Heap) (locs : List Loc) (ls : Array Slot), bw G s μ H locs → lv_has ls 8 [(0, .ref (ga G 0)), (1, .int a1), (4, .int a4), (5, .int a5), (6, .int x6), (7, .int x7)] → wp_X6_say_107 rec a1 a2 a3 a4 a5 Q x6 x7 μ → W p l e ({ frames := n * 2 + 12, cells := 0, slots := 0, locals := n * 64 + 364 } : Room) s m ([.ref (ga G 0), .int a1, .int a2, .int a3, .int a4, .int a5] : List Value).toArray below meth c H locs 0 0 (MQ below (qI G Q) ([.ref (ga G 0), .int a1, .int a2, .int a3, .int a4, .int a5] : List Value).toArray s 0 0 (gA G)) (F0 m 107 ls []) := by
                intro x6 x7 μ H locs ls h hl hw
                unfold wp_X6_say_107 at hw
                refine lv_aload_n hx hb dX6_say_107 rfl (lv_at hl 0 rfl) ?_
                refine lv_iload hx hb dX6_say_108 (lv_at hl 5 rfl) ?_
                refine lv_iload_n hx hb dX6_say_110 rfl (lv_at hl 1 rfl) ?_
                refine r_gets X h hZABOVE ww_2_131 dX6_say_111 ?_
                refine lv_iload hx hb dX6_say_114 (lv_at hl 4 rfl) ?_
                obtain ⟨hi, hw⟩ := hw
                refine r_ti X h hTABOVE hi dX6_say_116 ?_
                refine lv_iload hx hb dX6_say_117 (lv_at hl 2 rfl) ?_
                refine lv_iload hx hb dX6_say_119 (lv_at hl 3 rfl) ?_
                refine lv_iconst (v := (1 : Int32)) hx hb dX6_say_121 (by decide) ?_
                refine lv_iadd hx hb dX6_say_122 ?_
                refine k_i h (n_V (rest := []) (As := [.int x7, .int a1, .int (c_ABOVE x6.toNatClampNeg), .int a4, .int (a5 + (1 : Int32))]) X h hl.1 (hrec_sayBody x7 a1 (c_ABOVE x6.toNatClampNeg) a4 (a5 + (1 : Int32)) _ _ hw) gk_X6_318 rfl hd_X6_sayBody ⟨rfl, rfl⟩ ⟨by show _ ≤ _; simp only []; omega, by show _ ≤ _; simp only []; omega⟩ (X6_o h0) rfl rfl (Nat.le_of_ble_eq_true rfl) dX6_say_123 ⟨Nat.zero_le _, Nat.zero_le _⟩) (fun r123 μ123 H locs hw h => ?_)
                exact r_iret X h hw dX6_say_126
              refine lv_icmp_ge (tgt := 107) hx hb dX6_say_86 (by decide) (fun hc => ?_) (fun hc => ?_)
              · rw [if_pos hc] at hw
                exact s107 x6 x7_78 μ _ _ _ h (lv_sub hl [1, 2, 4, 5, 6, 0] rfl) hw
              · rw [if_neg hc] at hw
                refine lv_aload_n hx hb dX6_say_89 rfl (lv_at hl 1 rfl) ?_
                refine r_getR (q := 58) X h (X6_o h0) rfl uX6 9 (by decide) lf_1_234 rfl dX6_say_90 ?_
                refine lv_aload_n hx hb dX6_say_93 rfl (lv_at hl 1 rfl) ?_
                refine lv_dup hx hb dX6_say_94 rfl ?_
                refine r_getI X h (X6_o h0) rfl uX6 10 (by decide) lf_1_235 rfl dX6_say_95 ?_
                refine lv_dup_x1 hx hb dX6_say_98 rfl rfl ?_
                refine lv_iconst (v := (1 : Int32)) hx hb dX6_say_99 (by decide) ?_
                refine lv_iadd hx hb dX6_say_100 ?_
                obtain ⟨μ101, eμ101, hw⟩ := hw
                refine r_putI X h (X6_o h0) rfl uX6 tyX6 tyX6_ok nmX6 10 (by decide) lf_1_235 rfl rfl rfl  eμ101 dX6_say_101 (fun H locs h => ?_)
                refine lv_iload hx hb dX6_say_104 (lv_at hl 0 rfl) ?_
                obtain ⟨hi, μ106, eμ106, hw⟩ := hw
                refine r_ast X h (X6_trace h0) hi eμ106 dX6_say_106 (fun H locs h => ?_)
                exact s107 x6 x7_78 μ106 _ _ _ h (lv_sub hl [1, 2, 4, 5, 6, 0] rfl) hw
            · rw [if_neg hc] at hw
              refine lv_iconst (v := (0 : Int32)) hx hb dX6_say_66 (by decide) ?_
              exact r_iret X h hw dX6_say_67
        refine lv_icmp_ge (tgt := 54) hx hb dX6_say_19 (by decide) (fun hc => ?_) (fun hc => ?_)
        · rw [if_pos hc] at hw
          exact s54 x6 μ _ _ _ h (lv_sub hl [0, 1, 2, 3, 4, 5] rfl) hw
        · rw [if_neg hc] at hw
          refine lv_iload hx hb dX6_say_22 (lv_at hl 5 rfl) ?_
          refine lv_if_lt (tgt := 54) hx hb dX6_say_24 (by decide) (fun hc => ?_) (fun hc => ?_)
          · rw [if_pos hc] at hw
            exact s54 x6 μ _ _ _ h (lv_sub hl [0, 1, 2, 3, 4, 5] rfl) hw
          · rw [if_neg hc] at hw
            refine r_gets X h hZBODIES ww_3_202 dX6_say_27 ?_
            refine lv_iload hx hb dX6_say_30 (lv_at hl 5 rfl) ?_
            refine lv_iconst (v := (4 : Int32)) hx hb dX6_say_32 (by decide) ?_
            refine lv_imul hx hb dX6_say_33 ?_
            refine lv_iload_n hx hb dX6_say_34 rfl (lv_at hl 2 rfl) ?_
            refine lv_iadd hx hb dX6_say_35 ?_
            obtain ⟨hi, hw⟩ := hw
            refine r_ti X h hTBODIES hi dX6_say_36 ?_
            refine lv_if_ne (tgt := 54) hx hb dX6_say_37 (by decide) (fun hc => ?_) (fun hc => ?_)
            · rw [if_neg hc] at hw
              exact s54 x6 μ _ _ _ h (lv_sub hl [0, 1, 2, 3, 4, 5] rfl) hw
            · rw [if_pos hc] at hw
              refine r_gets X h hZABOVE ww_2_131 dX6_say_40 ?_
              refine lv_iload hx hb dX6_say_43 (lv_at hl 5 rfl) ?_
              obtain ⟨hi, hw⟩ := hw
              refine r_ti X h hTABOVE hi dX6_say_45 ?_
              obtain ⟨x6_46, ex6_46, hw⟩ := hw
              refine topE ex6_46 ?_
              refine lv_istore (lv' := [(6, .int x6_46), (0, .ref (ga G 0)), (1, .int a1), (2, .int a2), (4, .int a4), (5, .int a5), (7, .int x7)]) hx hb dX6_say_46 hl (by decide) rfl (fun ls hl => ?_)
              obtain ⟨x7_48, ex7_48, hw⟩ := hw
              refine lv_iinc (v := x7_48) (lv' := [(7, .int x7_48), (6, .int x6_46), (0, .ref (ga G 0)), (1, .int a1), (2, .int a2), (4, .int a4), (5, .int a5)]) hx hb dX6_say_48 hl (k := 6) rfl (by rw [ex7_48]; rfl) (by decide) rfl (fun ls hl => ?_)
              refine lv_goto (tgt := 15) hx hb dX6_say_51 (by decide) ?_
              exact ih15 x6_46 x7_48 μ _ _ _ h (lv_sub hl [2, 3, 4, 5, 6, 1, 0] rfl) hw
    obtain ⟨n, hw⟩ := hw
    exact s15 n a3 (0 : Int32) μ _ _ _ h (lv_sub hl [2, 3, 4, 6, 7, 1, 0] rfl) hw
  · rw [if_neg hc] at hw
    refine lv_iconst (v := (0 : Int32)) hx hb dX6_say_7 (by decide) ?_
    exact r_iret X h hw dX6_say_8
def wg_sy : Nat → Nat → Int32 → Int32 → Int32 → Int32 → Int32 → (Int32 → vM → Prop) → vM → Prop
  | 0 => fun _ _ _ _ _ _ _ _ => False
  | n + 1 => fun w a1 a2 a3 a4 a5 Q μ => if w = 0 then wp_X6_say (wg_sy n) a1 a2 a3 a4 a5 Q μ else if w = 1 then wp_X6_sayBody (wg_sy n) a1 a2 a3 a4 a5 Q μ else False
theorem cg_sy (l : Launch) (G : vG) (hG : gO G) (h0 : isX6 G) : ∀ n : Nat, (∀ (a1 a2 a3 a4 a5 : Int32) (Q : Int32 → vM → Prop) (μ : vM), wg_sy n 0 a1 a2 a3 a4 a5 Q μ → mt l G yX6_say vX6_say { frames := n * 2 + 10, cells := 0, slots := 0, locals := n * 64 + 300 } [.ref (ga G 0), .int a1, .int a2, .int a3, .int a4, .int a5] μ (qI G Q)) ∧ (∀ (a1 a2 a3 a4 a5 : Int32) (Q : Int32 → vM → Prop) (μ : vM), wg_sy n 1 a1 a2 a3 a4 a5 Q μ → mt l G yX6_sayBody vX6_sayBody { frames := n * 2 + 10, cells := 0, slots := 0, locals := n * 64 + 300 } [.ref (ga G 0), .int a1, .int a2, .int a3, .int a4, .int a5] μ (qI G Q)) := by
  intro n
  induction n with
  | zero => exact ⟨fun a1 a2 a3 a4 a5 Q μ hw => hw.elim, fun a1 a2 a3 a4 a5 Q μ hw => hw.elim⟩
  | succ n ih =>
    obtain ⟨i0, i1⟩ := ih
    have e1 : ∀ a b : Nat, (n + 1) * a + b = n * a + (b + a) := fun a b => by rw [Nat.add_mul]; omega
    simp only [e1]
    exact ⟨fun a1 a2 a3 a4 a5 Q μ hw => cb_X6_say l G hG n (wg_sy n) a1 a2 a3 a4 a5 h0 i0 i1 Q μ hw, fun a1 a2 a3 a4 a5 Q μ hw => cb_X6_sayBody l G hG n (wg_sy n) a1 a2 a3 a4 a5 h0 i0 i1 Q μ hw⟩
theorem c_X6_say (l : Launch) (G : vG) (hG : gO G) (n : Nat) (a1 a2 a3 a4 a5 : Int32) (h0 : isX6 G) (Q : Int32 → vM → Prop) (μ : vM) (hw : wg_sy n 0 a1 a2 a3 a4 a5 Q μ) : mt l G yX6_say vX6_say { frames := n * 2 + 10, cells := 0, slots := 0, locals := n * 64 + 300 } [.ref (ga G 0), .int a1, .int a2, .int a3, .int a4, .int a5] μ (qI G Q) := (cg_sy l G hG h0 n).1 a1 a2 a3 a4 a5 Q μ hw
theorem c_X6_sayBody (l : Launch) (G : vG) (hG : gO G) (n : Nat) (a1 a2 a3 a4 a5 : Int32) (h0 : isX6 G) (Q : Int32 → vM → Prop) (μ : vM) (hw : wg_sy n 1 a1 a2 a3 a4 a5 Q μ) : mt l G yX6_sayBody vX6_sayBody { frames := n * 2 + 10, cells := 0, slots := 0, locals := n * 64 + 300 } [.ref (ga G 0), .int a1, .int a2, .int a3, .int a4, .int a5] μ (qI G Q) := (cg_sy l G hG h0 n).2 a1 a2 a3 a4 a5 Q μ hw
def wp_X6_voice (a1 : Int32) (a2 : Int32) (a3 : Int32) (Q : Int32 → vM → Prop) (μ : vM) : Prop := wp_X6_isBit a1 (fun r2 μ2 => if r2 = 0 then wp_X6_error (1 : Int32) (fun r19 μ19 => Q r19 μ19) μ2 else if a2 < 0 then wp_X6_error (1 : Int32) (fun r19 μ19 => Q r19 μ19) μ2 else if a2 < (4 : Int32) then ∃ μ25 : vM, μ25 = st μ2 0 10 (0 : Int32) ∧ bz (0 : Int32) ∧ ∃ μ30 : vM, μ30 = st μ25 0 11 (0 : Int32) ∧ vp_in a1 8 ∧ wg_sy 60 0 a1 a2 (μ30 6 a1.toNatClampNeg) a3 (0 : Int32) (fun r50 μ50 => if (μ50 0 11) = 0 then Q r50 μ50 else wp_X6_error (6 : Int32) (fun r65 μ65 => Q r65 μ65) μ50) μ30 else wp_X6_error (1 : Int32) (fun r19 μ19 => Q r19 μ19) μ2) μ
set_option maxRecDepth 100000 in
set_option maxHeartbeats 4000000 in
theorem c_X6_voice (l : Launch) (G : vG) (hG : gO G) (a1 : Int32) (a2 : Int32) (a3 : Int32) (h0 : isX6 G) (Q : Int32 → vM → Prop) (μ : vM) (hw : wp_X6_voice a1 a2 a3 Q μ) : mt l G yX6_voice vX6_voice { frames := 131, cells := 0, slots := 0, locals := 4167 } [.ref (ga G 0), .int a1, .int a2, .int a3] μ (qI G Q) := by
  refine met_of (cc := cX6_voice) (maxL := 5) (ret := (some .int)) RX6 (by decide) rfl rfl hG (Nat.le_of_ble_eq_true rfl) ?_
  intro p e s m below meth c X h ls hl
  have hl : lv_has ls 5 [(0, .ref (ga G 0)), (1, .int a1), (2, .int a2), (3, .int a3)] := hl
  have hx := X.1
  have hb := X.2.1
  unfold wp_X6_voice at hw
  refine lv_aload_n hx hb dX6_voice_0 rfl (lv_at hl 0 rfl) ?_
  refine lv_iload_n hx hb dX6_voice_1 rfl (lv_at hl 1 rfl) ?_
  refine k_i h (n_V (rest := []) (As := [.int a1]) X h hl.1 (c_X6_isBit l G hG a1 h0 _ _ hw) gk_X6_116 rfl hd_X6_isBit ⟨rfl, rfl⟩ ⟨Nat.le_of_ble_eq_true rfl, Nat.le_of_ble_eq_true rfl⟩ (X6_o h0) rfl rfl (Nat.le_of_ble_eq_true rfl) dX6_voice_2 ⟨Nat.zero_le _, Nat.zero_le _⟩) (fun r2 μ2 H locs hw h => ?_)
  refine lv_if_eq (tgt := 17) hx hb dX6_voice_5 (by decide) (fun hc => ?_) (fun hc => ?_)
  · rw [if_pos hc] at hw
    refine lv_aload_n hx hb dX6_voice_17 rfl (lv_at hl 0 rfl) ?_
    refine lv_iconst (v := (1 : Int32)) hx hb dX6_voice_18 (by decide) ?_
    refine k_i h (n_V (rest := []) (As := [.int (1 : Int32)]) X h hl.1 (c_X6_error l G hG (1 : Int32) h0 _ _ hw) gk_X6_72 rfl hd_X6_error ⟨rfl, rfl⟩ ⟨Nat.le_of_ble_eq_true rfl, Nat.le_of_ble_eq_true rfl⟩ (X6_o h0) rfl rfl (Nat.le_of_ble_eq_true rfl) dX6_voice_19 ⟨Nat.zero_le _, Nat.zero_le _⟩) (fun r19 μ19 H locs hw h => ?_)
    exact r_iret X h hw dX6_voice_22
  · rw [if_neg hc] at hw
    refine lv_iload_n hx hb dX6_voice_8 rfl (lv_at hl 2 rfl) ?_
    refine lv_if_lt (tgt := 17) hx hb dX6_voice_9 (by decide) (fun hc => ?_) (fun hc => ?_)
    · rw [if_pos hc] at hw
      refine lv_aload_n hx hb dX6_voice_17 rfl (lv_at hl 0 rfl) ?_
      refine lv_iconst (v := (1 : Int32)) hx hb dX6_voice_18 (by decide) ?_
      refine k_i h (n_V (rest := []) (As := [.int (1 : Int32)]) X h hl.1 (c_X6_error l G hG (1 : Int32) h0 _ _ hw) gk_X6_72 rfl hd_X6_error ⟨rfl, rfl⟩ ⟨Nat.le_of_ble_eq_true rfl, Nat.le_of_ble_eq_true rfl⟩ (X6_o h0) rfl rfl (Nat.le_of_ble_eq_true rfl) dX6_voice_19 ⟨Nat.zero_le _, Nat.zero_le _⟩) (fun r19 μ19 H locs hw h => ?_)
      exact r_iret X h hw dX6_voice_22
    · rw [if_neg hc] at hw
      refine lv_iload_n hx hb dX6_voice_12 rfl (lv_at hl 2 rfl) ?_
      refine lv_iconst (v := (4 : Int32)) hx hb dX6_voice_13 (by decide) ?_
      refine lv_icmp_lt (tgt := 23) hx hb dX6_voice_14 (by decide) (fun hc => ?_) (fun hc => ?_)
      · rw [if_pos hc] at hw
        refine lv_aload_n hx hb dX6_voice_23 rfl (lv_at hl 0 rfl) ?_
        refine lv_iconst (v := (0 : Int32)) hx hb dX6_voice_24 (by decide) ?_
        obtain ⟨μ25, eμ25, hw⟩ := hw
        refine r_putI X h (X6_o h0) rfl uX6 tyX6 tyX6_ok nmX6 10 (by decide) lf_1_235 rfl rfl rfl  eμ25 dX6_voice_25 (fun H locs h => ?_)
        refine lv_aload_n hx hb dX6_voice_28 rfl (lv_at hl 0 rfl) ?_
        refine lv_iconst (v := (0 : Int32)) hx hb dX6_voice_29 (by decide) ?_
        obtain ⟨hz, hw⟩ := hw
        obtain ⟨μ30, eμ30, hw⟩ := hw
        refine r_putZ X h (X6_o h0) rfl uX6 tyX6 tyX6_ok nmX6 11 (by decide) lf_1_236 rfl rfl rfl  hz eμ30 dX6_voice_30 (fun H locs h => ?_)
        refine lv_aload_n hx hb dX6_voice_33 rfl (lv_at hl 0 rfl) ?_
        refine lv_iload_n hx hb dX6_voice_34 rfl (lv_at hl 1 rfl) ?_
        refine lv_iload_n hx hb dX6_voice_35 rfl (lv_at hl 2 rfl) ?_
        refine lv_aload_n hx hb dX6_voice_36 rfl (lv_at hl 0 rfl) ?_
        refine r_getR (q := 1) X h (X6_o h0) rfl uX6 0 (by decide) lf_1_225 rfl dX6_voice_37 ?_
        refine r_getR (q := 5) X h (X5_o (X6_now h0)) rfl uX5 1 (by decide) fn_16 rfl dX6_voice_40 ?_
        refine r_getR (q := 6) X h (X0_o (X5_harvest (X6_now h0))) rfl uX0 2 (by decide) fn_3 rfl dX6_voice_43 ?_
        refine lv_iload_n hx hb dX6_voice_46 rfl (lv_at hl 1 rfl) ?_
        obtain ⟨hi, hw⟩ := hw
        refine r_ald X h (X0_kind (X5_harvest (X6_now h0))) hi dX6_voice_47 ?_
        refine lv_iload_n hx hb dX6_voice_48 rfl (lv_at hl 3 rfl) ?_
        refine lv_iconst (v := (0 : Int32)) hx hb dX6_voice_49 (by decide) ?_
        refine k_i h (n_V (rest := []) (As := [.int a1, .int a2, .int (μ30 6 a1.toNatClampNeg), .int a3, .int (0 : Int32)]) X h hl.1 (c_X6_say l G hG 60 a1 a2 (μ30 6 a1.toNatClampNeg) a3 (0 : Int32) h0 _ _ hw) gk_X6_249 rfl hd_X6_say ⟨rfl, rfl⟩ ⟨Nat.le_of_ble_eq_true rfl, Nat.le_of_ble_eq_true rfl⟩ (X6_o h0) rfl rfl (Nat.le_of_ble_eq_true rfl) dX6_voice_50 ⟨Nat.zero_le _, Nat.zero_le _⟩) (fun r50 μ50 H locs hw h => ?_)
        refine lv_istore (lv' := [(4, .int r50), (0, .ref (ga G 0)), (1, .int a1), (2, .int a2), (3, .int a3)]) hx hb dX6_voice_53 hl (by decide) rfl (fun ls hl => ?_)
        refine lv_aload_n hx hb dX6_voice_55 rfl (lv_at hl 1 rfl) ?_
        refine r_getI X h (X6_o h0) rfl uX6 11 (by decide) lf_1_236 rfl dX6_voice_56 ?_
        refine lv_if_eq (tgt := 71) hx hb dX6_voice_59 (by decide) (fun hc => ?_) (fun hc => ?_)
        · rw [if_pos hc] at hw
          refine lv_iload hx hb dX6_voice_71 (lv_at hl 0 rfl) ?_
          exact r_iret X h hw dX6_voice_73
        · rw [if_neg hc] at hw
          refine lv_aload_n hx hb dX6_voice_62 rfl (lv_at hl 1 rfl) ?_
          refine lv_bipush (v := (6 : Int32)) hx hb dX6_voice_63 (by decide) ?_
          refine k_i h (n_V (rest := []) (As := [.int (6 : Int32)]) X h hl.1 (c_X6_error l G hG (6 : Int32) h0 _ _ hw) gk_X6_72 rfl hd_X6_error ⟨rfl, rfl⟩ ⟨Nat.le_of_ble_eq_true rfl, Nat.le_of_ble_eq_true rfl⟩ (X6_o h0) rfl rfl (Nat.le_of_ble_eq_true rfl) dX6_voice_65 ⟨Nat.zero_le _, Nat.zero_le _⟩) (fun r65 μ65 H locs hw h => ?_)
          refine lv_goto (tgt := 73) hx hb dX6_voice_68 (by decide) ?_
          exact r_iret X h hw dX6_voice_73
      · rw [if_neg hc] at hw
        refine lv_aload_n hx hb dX6_voice_17 rfl (lv_at hl 0 rfl) ?_
        refine lv_iconst (v := (1 : Int32)) hx hb dX6_voice_18 (by decide) ?_
        refine k_i h (n_V (rest := []) (As := [.int (1 : Int32)]) X h hl.1 (c_X6_error l G hG (1 : Int32) h0 _ _ hw) gk_X6_72 rfl hd_X6_error ⟨rfl, rfl⟩ ⟨Nat.le_of_ble_eq_true rfl, Nat.le_of_ble_eq_true rfl⟩ (X6_o h0) rfl rfl (Nat.le_of_ble_eq_true rfl) dX6_voice_19 ⟨Nat.zero_le _, Nat.zero_le _⟩) (fun r19 μ19 H locs hw h => ?_)
        exact r_iret X h hw dX6_voice_22
def wp_X6_body (a1 : Int32) (Q : Int32 → vM → Prop) (μ : vM) : Prop := if a1 < 0 then wp_X6_error (2 : Int32) (fun r14 μ14 => Q r14 μ14) μ else if a1 < (μ 0 10) then vp_in a1 30 ∧ Q (μ 58 a1.toNatClampNeg) μ else wp_X6_error (2 : Int32) (fun r14 μ14 => Q r14 μ14) μ
set_option maxRecDepth 100000 in
set_option maxHeartbeats 4000000 in
theorem c_X6_body (l : Launch) (G : vG) (hG : gO G) (a1 : Int32) (h0 : isX6 G) (Q : Int32 → vM → Prop) (μ : vM) (hw : wp_X6_body a1 Q μ) : mt l G yX6_body vX6_body { frames := 1, cells := 0, slots := 0, locals := 21 } [.ref (ga G 0), .int a1] μ (qI G Q) := by
  refine met_of (cc := cX6_body) (maxL := 2) (ret := (some .int)) RX6 (by decide) rfl rfl hG (Nat.le_of_ble_eq_true rfl) ?_
  intro p e s m below meth c X h ls hl
  have hl : lv_has ls 2 [(0, .ref (ga G 0)), (1, .int a1)] := hl
  have hx := X.1
  have hb := X.2.1
  unfold wp_X6_body at hw
  refine lv_iload_n hx hb dX6_body_0 rfl (lv_at hl 1 rfl) ?_
  refine lv_if_lt (tgt := 12) hx hb dX6_body_1 (by decide) (fun hc => ?_) (fun hc => ?_)
  · rw [if_pos hc] at hw
    refine lv_aload_n hx hb dX6_body_12 rfl (lv_at hl 0 rfl) ?_
    refine lv_iconst (v := (2 : Int32)) hx hb dX6_body_13 (by decide) ?_
    refine k_i h (n_V (rest := []) (As := [.int (2 : Int32)]) X h hl.1 (c_X6_error l G hG (2 : Int32) h0 _ _ hw) gk_X6_72 rfl hd_X6_error ⟨rfl, rfl⟩ ⟨Nat.le_of_ble_eq_true rfl, Nat.le_of_ble_eq_true rfl⟩ (X6_o h0) rfl rfl (Nat.le_of_ble_eq_true rfl) dX6_body_14 ⟨Nat.zero_le _, Nat.zero_le _⟩) (fun r14 μ14 H locs hw h => ?_)
    exact r_iret X h hw dX6_body_17
  · rw [if_neg hc] at hw
    refine lv_iload_n hx hb dX6_body_4 rfl (lv_at hl 1 rfl) ?_
    refine lv_aload_n hx hb dX6_body_5 rfl (lv_at hl 0 rfl) ?_
    refine r_getI X h (X6_o h0) rfl uX6 10 (by decide) lf_1_235 rfl dX6_body_6 ?_
    refine lv_icmp_lt (tgt := 18) hx hb dX6_body_9 (by decide) (fun hc => ?_) (fun hc => ?_)
    · rw [if_pos hc] at hw
      refine lv_aload_n hx hb dX6_body_18 rfl (lv_at hl 0 rfl) ?_
      refine r_getR (q := 58) X h (X6_o h0) rfl uX6 9 (by decide) lf_1_234 rfl dX6_body_19 ?_
      refine lv_iload_n hx hb dX6_body_22 rfl (lv_at hl 1 rfl) ?_
      obtain ⟨hi, hw⟩ := hw
      refine r_ald X h (X6_trace h0) hi dX6_body_23 ?_
      exact r_iret X h hw dX6_body_24
    · rw [if_neg hc] at hw
      refine lv_aload_n hx hb dX6_body_12 rfl (lv_at hl 0 rfl) ?_
      refine lv_iconst (v := (2 : Int32)) hx hb dX6_body_13 (by decide) ?_
      refine k_i h (n_V (rest := []) (As := [.int (2 : Int32)]) X h hl.1 (c_X6_error l G hG (2 : Int32) h0 _ _ hw) gk_X6_72 rfl hd_X6_error ⟨rfl, rfl⟩ ⟨Nat.le_of_ble_eq_true rfl, Nat.le_of_ble_eq_true rfl⟩ (X6_o h0) rfl rfl (Nat.le_of_ble_eq_true rfl) dX6_body_14 ⟨Nat.zero_le _, Nat.zero_le _⟩) (fun r14 μ14 H locs hw h => ?_)
      exact r_iret X h hw dX6_body_17
def wp_X6_sheet_92 (a1 : Int32) (a2 : Int32) (a3 : Int32) (Q : Int32 → vM → Prop) (t1 : Int32) (t2 : Int32) (t3 : Int32) (μ : vM) : Prop := wp_X4_make 53 t1 t2 t3 (fun μ92 => Q (1 : Int32) μ92) μ
def wp_X6_sheet_77 (a1 : Int32) (a2 : Int32) (a3 : Int32) (Q : Int32 → vM → Prop)  (μ : vM) : Prop := wp_X6_sheet_92 a1 a2 a3 Q a1 a2 (if a2 = 0 then (0 : Int32) else a3) μ
def wp_X6_sheet_61 (a1 : Int32) (a2 : Int32) (a3 : Int32) (Q : Int32 → vM → Prop)  (μ : vM) : Prop := if a2 = 0 then wp_X6_sheet_77 a1 a2 a3 Q μ else if a3 ≤ (24 : Int32) then wp_X6_sheet_77 a1 a2 a3 Q μ else wp_X6_error (1 : Int32) (fun r73 μ73 => Q r73 μ73) μ
def wp_X6_sheet_27 (a1 : Int32) (a2 : Int32) (a3 : Int32) (Q : Int32 → vM → Prop) (t0 : Int32) (μ : vM) : Prop := wp_X6_isSheet a1 (fun r30 μ30 => if r30 = 0 then wp_X6_error (1 : Int32) (fun r43 μ43 => Q r43 μ43) μ30 else if t0 = 0 then wp_X6_error (1 : Int32) (fun r43 μ43 => Q r43 μ43) μ30 else if a2 = 0 then wp_X6_sheet_61 a1 a2 a3 Q μ30 else if 0 ≤ a3 then wp_X6_sheet_61 a1 a2 a3 Q μ30 else wp_X6_error (3 : Int32) (fun r57 μ57 => Q r57 μ57) μ30) μ
def wp_X6_sheet_22 (a1 : Int32) (a2 : Int32) (a3 : Int32) (Q : Int32 → vM → Prop)  (μ : vM) : Prop := wp_X6_sheet_27 a1 a2 a3 Q (1 : Int32) μ
def wp_X6_sheet (a1 : Int32) (a2 : Int32) (a3 : Int32) (Q : Int32 → vM → Prop) (μ : vM) : Prop := if a2 = 0 then wp_X6_sheet_22 a1 a2 a3 Q μ else if a2 = (8 : Int32) then wp_X6_sheet_22 a1 a2 a3 Q μ else if a2 = (16 : Int32) then wp_X6_sheet_22 a1 a2 a3 Q μ else if a2 = (32 : Int32) then wp_X6_sheet_22 a1 a2 a3 Q μ else wp_X6_sheet_27 a1 a2 a3 Q (0 : Int32) μ
set_option maxRecDepth 100000 in
set_option maxHeartbeats 4000000 in
theorem c_X6_sheet (l : Launch) (G : vG) (hG : gO G) (a1 : Int32) (a2 : Int32) (a3 : Int32) (h0 : isX6 G) (Q : Int32 → vM → Prop) (μ : vM) (hw : wp_X6_sheet a1 a2 a3 Q μ) : mt l G yX6_sheet vX6_sheet { frames := 1, cells := 0, slots := 0, locals := 24 } [.ref (ga G 0), .int a1, .int a2, .int a3] μ (qI G Q) := by
  refine met_of (cc := cX6_sheet) (maxL := 5) (ret := (some .int)) RX6 (by decide) rfl rfl hG (Nat.le_of_ble_eq_true rfl) ?_
  intro p e s m below meth c X h ls hl
  have hl : lv_has ls 5 [(0, .ref (ga G 0)), (1, .int a1), (2, .int a2), (3, .int a3)] := hl
  have hx := X.1
  have hb := X.2.1
  unfold wp_X6_sheet at hw
  refine lv_iload_n hx hb dX6_sheet_0 rfl (lv_at hl 2 rfl) ?_
  have s27 : ∀ (t0 : Int32) (μ : vM), ∀ (H : Heap) (locs : List Loc) (ls : Array Slot), bw G s μ H locs → lv_has ls 5 [(0, .ref (ga G 0)), (1, .int a1), (2, .int a2), (3, .int a3)] → wp_X6_sheet_27 a1 a2 a3 Q t0 μ → W p l e ({ frames := 1, cells := 0, slots := 0, locals := 24 } : Room) s m ([.ref (ga G 0), .int a1, .int a2, .int a3] : List Value).toArray below meth c H locs 0 0 (MQ below (qI G Q) ([.ref (ga G 0), .int a1, .int a2, .int a3] : List Value).toArray s 0 0 (gA G)) (F0 m 27 ls [.int t0]) := by
    intro t0 μ H locs ls h hl hw
    unfold wp_X6_sheet_27 at hw
    refine lv_istore (lv' := [(4, .int t0), (0, .ref (ga G 0)), (1, .int a1), (2, .int a2), (3, .int a3)]) hx hb dX6_sheet_27 hl (by decide) rfl (fun ls hl => ?_)
    refine lv_iload_n hx hb dX6_sheet_29 rfl (lv_at hl 2 rfl) ?_
    refine k_i h (n_T (rest := []) (As := [.int a1]) X h hl.1 (c_X6_isSheet l G hG a1 _ _ hw) gk_X6_239 rfl hd_X6_isSheet ⟨rfl, rfl⟩ ⟨Nat.le_of_ble_eq_true rfl, Nat.le_of_ble_eq_true rfl⟩ rfl (Nat.le_of_ble_eq_true rfl) dX6_sheet_30 ⟨Nat.zero_le _, Nat.zero_le _⟩) (fun r30 μ30 H locs hw h => ?_)
    refine lv_if_eq (tgt := 41) hx hb dX6_sheet_33 (by decide) (fun hc => ?_) (fun hc => ?_)
    · rw [if_pos hc] at hw
      refine lv_aload_n hx hb dX6_sheet_41 rfl (lv_at hl 1 rfl) ?_
      refine lv_iconst (v := (1 : Int32)) hx hb dX6_sheet_42 (by decide) ?_
      refine k_i h (n_V (rest := []) (As := [.int (1 : Int32)]) X h hl.1 (c_X6_error l G hG (1 : Int32) h0 _ _ hw) gk_X6_72 rfl hd_X6_error ⟨rfl, rfl⟩ ⟨Nat.le_of_ble_eq_true rfl, Nat.le_of_ble_eq_true rfl⟩ (X6_o h0) rfl rfl (Nat.le_of_ble_eq_true rfl) dX6_sheet_43 ⟨Nat.zero_le _, Nat.zero_le _⟩) (fun r43 μ43 H locs hw h => ?_)
      exact r_iret X h hw dX6_sheet_46
    · rw [if_neg hc] at hw
      refine lv_iload hx hb dX6_sheet_36 (lv_at hl 0 rfl) ?_
      refine lv_if_ne (tgt := 47) hx hb dX6_sheet_38 (by decide) (fun hc => ?_) (fun hc => ?_)
      · rw [if_neg hc] at hw
        refine lv_iload_n hx hb dX6_sheet_47 rfl (lv_at hl 3 rfl) ?_
        have s61 : ∀  (μ : vM), ∀ (H : Heap) (locs : List Loc) (ls : Array Slot), bw G s μ H locs → lv_has ls 5 [(0, .ref (ga G 0)), (1, .int a1), (2, .int a2), (3, .int a3)] → wp_X6_sheet_61 a1 a2 a3 Q μ → W p l e ({ frames := 1, cells := 0, slots := 0, locals := 24 } : Room) s m ([.ref (ga G 0), .int a1, .int a2, .int a3] : List Value).toArray below meth c H locs 0 0 (MQ below (qI G Q) ([.ref (ga G 0), .int a1, .int a2, .int a3] : List Value).toArray s 0 0 (gA G)) (F0 m 61 ls []) := by
          intro  μ H locs ls h hl hw
          unfold wp_X6_sheet_61 at hw
          refine lv_iload_n hx hb dX6_sheet_61 rfl (lv_at hl 2 rfl) ?_
          have s77 : ∀  (μ : vM), ∀ (H : Heap) (locs : List Loc) (ls : Array Slot), bw G s μ H locs → lv_has ls 5 [(0, .ref (ga G 0)), (1, .int a1), (2, .int a2), (3, .int a3)] → wp_X6_sheet_77 a1 a2 a3 Q μ → W p l e ({ frames := 1, cells := 0, slots := 0, locals := 24 } : Room) s m ([.ref (ga G 0), .int a1, .int a2, .int a3] : List Value).toArray below meth c H locs 0 0 (MQ below (qI G Q) ([.ref (ga G 0), .int a1, .int a2, .int a3] : List Value).toArray s 0 0 (gA G)) (F0 m 77 ls []) := by
            intro  μ H locs ls h hl hw
            unfold wp_X6_sheet_77 at hw
            refine lv_aload_n hx hb dX6_sheet_77 rfl (lv_at hl 0 rfl) ?_
            refine r_getR (q := 53) X h (X6_o h0) rfl uX6 7 (by decide) lf_1_232 rfl dX6_sheet_78 ?_
            refine lv_iload_n hx hb dX6_sheet_81 rfl (lv_at hl 1 rfl) ?_
            refine lv_iload_n hx hb dX6_sheet_82 rfl (lv_at hl 2 rfl) ?_
            refine lv_iload_n hx hb dX6_sheet_83 rfl (lv_at hl 2 rfl) ?_
            have s92 : ∀ (t1 : Int32) (t2 : Int32) (t3 : Int32) (μ : vM), ∀ (H : Heap) (locs : List Loc) (ls : Array Slot), bw G s μ H locs → lv_has ls 5 [] → wp_X6_sheet_92 a1 a2 a3 Q t1 t2 t3 μ → W p l e ({ frames := 1, cells := 0, slots := 0, locals := 24 } : Room) s m ([.ref (ga G 0), .int a1, .int a2, .int a3] : List Value).toArray below meth c H locs 0 0 (MQ below (qI G Q) ([.ref (ga G 0), .int a1, .int a2, .int a3] : List Value).toArray s 0 0 (gA G)) (F0 m 92 ls [.int t3, .int t2, .int t1, .ref (ga G 53)]) := by
              intro t1 t2 t3 μ H locs ls h hl hw
              unfold wp_X6_sheet_92 at hw
              refine k_v h (n_V (rest := []) (As := [.int t1, .int t2, .int t3]) X h hl.1 (c_X4_make l G hG 53 t1 t2 t3 (X6_sheets h0) _ _ hw) gk_X6_253 rfl hd_X4_make ⟨rfl, rfl⟩ ⟨Nat.le_of_ble_eq_true rfl, Nat.le_of_ble_eq_true rfl⟩ (X4_o (X6_sheets h0)) rfl rfl (Nat.le_of_ble_eq_true rfl) dX6_sheet_92 ⟨Nat.zero_le _, Nat.zero_le _⟩) (fun μ92 H locs hw h => ?_)
              refine lv_iconst (v := (1 : Int32)) hx hb dX6_sheet_95 (by decide) ?_
              exact r_iret X h hw dX6_sheet_96
            refine lv_if_ne (tgt := 91) hx hb dX6_sheet_84 (by decide) (fun hc => ?_) (fun hc => ?_)
            · rw [if_neg hc] at hw
              refine lv_iload_n hx hb dX6_sheet_91 rfl (lv_at hl 3 rfl) ?_
              exact s92 a1 a2 a3 μ _ _ _ h (lv_sub hl [] rfl) hw
            · rw [if_pos hc] at hw
              refine lv_iconst (v := (0 : Int32)) hx hb dX6_sheet_87 (by decide) ?_
              refine lv_goto (tgt := 92) hx hb dX6_sheet_88 (by decide) ?_
              exact s92 a1 a2 (0 : Int32) μ _ _ _ h (lv_sub hl [] rfl) hw
          refine lv_if_eq (tgt := 77) hx hb dX6_sheet_62 (by decide) (fun hc => ?_) (fun hc => ?_)
          · rw [if_pos hc] at hw
            exact s77 μ _ _ _ h (lv_sub hl [0, 1, 2, 3] rfl) hw
          · rw [if_neg hc] at hw
            refine lv_iload_n hx hb dX6_sheet_65 rfl (lv_at hl 3 rfl) ?_
            refine lv_bipush (v := (24 : Int32)) hx hb dX6_sheet_66 (by decide) ?_
            refine lv_icmp_le (tgt := 77) hx hb dX6_sheet_68 (by decide) (fun hc => ?_) (fun hc => ?_)
            · rw [if_pos hc] at hw
              exact s77 μ _ _ _ h (lv_sub hl [0, 1, 2, 3] rfl) hw
            · rw [if_neg hc] at hw
              refine lv_aload_n hx hb dX6_sheet_71 rfl (lv_at hl 0 rfl) ?_
              refine lv_iconst (v := (1 : Int32)) hx hb dX6_sheet_72 (by decide) ?_
              refine k_i h (n_V (rest := []) (As := [.int (1 : Int32)]) X h hl.1 (c_X6_error l G hG (1 : Int32) h0 _ _ hw) gk_X6_72 rfl hd_X6_error ⟨rfl, rfl⟩ ⟨Nat.le_of_ble_eq_true rfl, Nat.le_of_ble_eq_true rfl⟩ (X6_o h0) rfl rfl (Nat.le_of_ble_eq_true rfl) dX6_sheet_73 ⟨Nat.zero_le _, Nat.zero_le _⟩) (fun r73 μ73 H locs hw h => ?_)
              exact r_iret X h hw dX6_sheet_76
        refine lv_if_eq (tgt := 61) hx hb dX6_sheet_48 (by decide) (fun hc => ?_) (fun hc => ?_)
        · rw [if_pos hc] at hw
          exact s61 μ30 _ _ _ h (lv_sub hl [1, 2, 3, 4] rfl) hw
        · rw [if_neg hc] at hw
          refine lv_iload_n hx hb dX6_sheet_51 rfl (lv_at hl 4 rfl) ?_
          refine lv_if_ge (tgt := 61) hx hb dX6_sheet_52 (by decide) (fun hc => ?_) (fun hc => ?_)
          · rw [if_pos hc] at hw
            exact s61 μ30 _ _ _ h (lv_sub hl [1, 2, 3, 4] rfl) hw
          · rw [if_neg hc] at hw
            refine lv_aload_n hx hb dX6_sheet_55 rfl (lv_at hl 1 rfl) ?_
            refine lv_iconst (v := (3 : Int32)) hx hb dX6_sheet_56 (by decide) ?_
            refine k_i h (n_V (rest := []) (As := [.int (3 : Int32)]) X h hl.1 (c_X6_error l G hG (3 : Int32) h0 _ _ hw) gk_X6_72 rfl hd_X6_error ⟨rfl, rfl⟩ ⟨Nat.le_of_ble_eq_true rfl, Nat.le_of_ble_eq_true rfl⟩ (X6_o h0) rfl rfl (Nat.le_of_ble_eq_true rfl) dX6_sheet_57 ⟨Nat.zero_le _, Nat.zero_le _⟩) (fun r57 μ57 H locs hw h => ?_)
            exact r_iret X h hw dX6_sheet_60
      · rw [if_pos hc] at hw
        refine lv_aload_n hx hb dX6_sheet_41 rfl (lv_at hl 1 rfl) ?_
        refine lv_iconst (v := (1 : Int32)) hx hb dX6_sheet_42 (by decide) ?_
        refine k_i h (n_V (rest := []) (As := [.int (1 : Int32)]) X h hl.1 (c_X6_error l G hG (1 : Int32) h0 _ _ hw) gk_X6_72 rfl hd_X6_error ⟨rfl, rfl⟩ ⟨Nat.le_of_ble_eq_true rfl, Nat.le_of_ble_eq_true rfl⟩ (X6_o h0) rfl rfl (Nat.le_of_ble_eq_true rfl) dX6_sheet_43 ⟨Nat.zero_le _, Nat.zero_le _⟩) (fun r43 μ43 H locs hw h => ?_)
        exact r_iret X h hw dX6_sheet_46
  have s22 : ∀  (μ : vM), ∀ (H : Heap) (locs : List Loc) (ls : Array Slot), bw G s μ H locs → lv_has ls 5 [(0, .ref (ga G 0)), (1, .int a1), (2, .int a2), (3, .int a3)] → wp_X6_sheet_22 a1 a2 a3 Q μ → W p l e ({ frames := 1, cells := 0, slots := 0, locals := 24 } : Room) s m ([.ref (ga G 0), .int a1, .int a2, .int a3] : List Value).toArray below meth c H locs 0 0 (MQ below (qI G Q) ([.ref (ga G 0), .int a1, .int a2, .int a3] : List Value).toArray s 0 0 (gA G)) (F0 m 22 ls []) := by
    intro  μ H locs ls h hl hw
    unfold wp_X6_sheet_22 at hw
    refine lv_iconst (v := (1 : Int32)) hx hb dX6_sheet_22 (by decide) ?_
    refine lv_goto (tgt := 27) hx hb dX6_sheet_23 (by decide) ?_
    exact s27 (1 : Int32) μ _ _ _ h (lv_sub hl [0, 1, 2, 3] rfl) hw
  refine lv_if_eq (tgt := 22) hx hb dX6_sheet_1 (by decide) (fun hc => ?_) (fun hc => ?_)
  · rw [if_pos hc] at hw
    exact s22 μ _ _ _ h (lv_sub hl [0, 1, 2, 3] rfl) hw
  · rw [if_neg hc] at hw
    refine lv_iload_n hx hb dX6_sheet_4 rfl (lv_at hl 2 rfl) ?_
    refine lv_bipush (v := (8 : Int32)) hx hb dX6_sheet_5 (by decide) ?_
    refine lv_icmp_eq (tgt := 22) hx hb dX6_sheet_7 (by decide) (fun hc => ?_) (fun hc => ?_)
    · rw [if_pos hc] at hw
      exact s22 μ _ _ _ h (lv_sub hl [0, 1, 2, 3] rfl) hw
    · rw [if_neg hc] at hw
      refine lv_iload_n hx hb dX6_sheet_10 rfl (lv_at hl 2 rfl) ?_
      refine lv_bipush (v := (16 : Int32)) hx hb dX6_sheet_11 (by decide) ?_
      refine lv_icmp_eq (tgt := 22) hx hb dX6_sheet_13 (by decide) (fun hc => ?_) (fun hc => ?_)
      · rw [if_pos hc] at hw
        exact s22 μ _ _ _ h (lv_sub hl [0, 1, 2, 3] rfl) hw
      · rw [if_neg hc] at hw
        refine lv_iload_n hx hb dX6_sheet_16 rfl (lv_at hl 2 rfl) ?_
        refine lv_bipush (v := (32 : Int32)) hx hb dX6_sheet_17 (by decide) ?_
        refine lv_icmp_ne (tgt := 26) hx hb dX6_sheet_19 (by decide) (fun hc => ?_) (fun hc => ?_)
        · rw [if_neg hc] at hw
          refine lv_iconst (v := (0 : Int32)) hx hb dX6_sheet_26 (by decide) ?_
          exact s27 (0 : Int32) μ _ _ _ h (lv_sub hl [0, 1, 2, 3] rfl) hw
        · rw [if_pos hc] at hw
          exact s22 μ _ _ _ h (lv_sub hl [0, 1, 2, 3] rfl) hw
def wp_X6_put (a1 : Int32) (a2 : Int32) (a3 : Int32) (Q : Int32 → vM → Prop) (μ : vM) : Prop := wp_X6_isSheet a1 (fun r1 μ1 => if r1 = 0 then wp_X6_error (1 : Int32) (fun r9 μ9 => Q r9 μ9) μ1 else wp_X4_isMissing 53 a1 (fun r18 μ18 => if r18 = 0 then if a2 < 0 then wp_X6_error (1 : Int32) (fun r49 μ49 => Q r49 μ49) μ18 else vp_in a1 4 ∧ if a2 < (μ18 55 a1.toNatClampNeg) then wp_X4_write 53 a1 a2 a3 (fun μ60 => Q (1 : Int32) μ60) μ18 else wp_X6_error (1 : Int32) (fun r49 μ49 => Q r49 μ49) μ18 else wp_X6_error (2 : Int32) (fun r26 μ26 => Q r26 μ26) μ18) μ1) μ
set_option maxRecDepth 100000 in
set_option maxHeartbeats 4000000 in
theorem c_X6_put (l : Launch) (G : vG) (hG : gO G) (a1 : Int32) (a2 : Int32) (a3 : Int32) (h0 : isX6 G) (Q : Int32 → vM → Prop) (μ : vM) (hw : wp_X6_put a1 a2 a3 Q μ) : mt l G yX6_put vX6_put { frames := 1, cells := 0, slots := 0, locals := 24 } [.ref (ga G 0), .int a1, .int a2, .int a3] μ (qI G Q) := by
  refine met_of (cc := cX6_put) (maxL := 4) (ret := (some .int)) RX6 (by decide) rfl rfl hG (Nat.le_of_ble_eq_true rfl) ?_
  intro p e s m below meth c X h ls hl
  have hl : lv_has ls 4 [(0, .ref (ga G 0)), (1, .int a1), (2, .int a2), (3, .int a3)] := hl
  have hx := X.1
  have hb := X.2.1
  unfold wp_X6_put at hw
  refine lv_iload_n hx hb dX6_put_0 rfl (lv_at hl 1 rfl) ?_
  refine k_i h (n_T (rest := []) (As := [.int a1]) X h hl.1 (c_X6_isSheet l G hG a1 _ _ hw) gk_X6_239 rfl hd_X6_isSheet ⟨rfl, rfl⟩ ⟨Nat.le_of_ble_eq_true rfl, Nat.le_of_ble_eq_true rfl⟩ rfl (Nat.le_of_ble_eq_true rfl) dX6_put_1 ⟨Nat.zero_le _, Nat.zero_le _⟩) (fun r1 μ1 H locs hw h => ?_)
  refine lv_if_ne (tgt := 13) hx hb dX6_put_4 (by decide) (fun hc => ?_) (fun hc => ?_)
  · rw [if_neg hc] at hw
    refine lv_aload_n hx hb dX6_put_13 rfl (lv_at hl 0 rfl) ?_
    refine r_getR (q := 53) X h (X6_o h0) rfl uX6 7 (by decide) lf_1_232 rfl dX6_put_14 ?_
    refine lv_iload_n hx hb dX6_put_17 rfl (lv_at hl 1 rfl) ?_
    refine k_i h (n_V (rest := []) (As := [.int a1]) X h hl.1 (c_X4_isMissing l G hG 53 a1 (X6_sheets h0) _ _ hw) gk_X6_242 rfl hd_X4_isMissing ⟨rfl, rfl⟩ ⟨Nat.le_of_ble_eq_true rfl, Nat.le_of_ble_eq_true rfl⟩ (X4_o (X6_sheets h0)) rfl rfl (Nat.le_of_ble_eq_true rfl) dX6_put_18 ⟨Nat.zero_le _, Nat.zero_le _⟩) (fun r18 μ18 H locs hw h => ?_)
    refine lv_if_eq (tgt := 30) hx hb dX6_put_21 (by decide) (fun hc => ?_) (fun hc => ?_)
    · rw [if_pos hc] at hw
      refine lv_iload_n hx hb dX6_put_30 rfl (lv_at hl 2 rfl) ?_
      refine lv_if_lt (tgt := 47) hx hb dX6_put_31 (by decide) (fun hc => ?_) (fun hc => ?_)
      · rw [if_pos hc] at hw
        refine lv_aload_n hx hb dX6_put_47 rfl (lv_at hl 0 rfl) ?_
        refine lv_iconst (v := (1 : Int32)) hx hb dX6_put_48 (by decide) ?_
        refine k_i h (n_V (rest := []) (As := [.int (1 : Int32)]) X h hl.1 (c_X6_error l G hG (1 : Int32) h0 _ _ hw) gk_X6_72 rfl hd_X6_error ⟨rfl, rfl⟩ ⟨Nat.le_of_ble_eq_true rfl, Nat.le_of_ble_eq_true rfl⟩ (X6_o h0) rfl rfl (Nat.le_of_ble_eq_true rfl) dX6_put_49 ⟨Nat.zero_le _, Nat.zero_le _⟩) (fun r49 μ49 H locs hw h => ?_)
        exact r_iret X h hw dX6_put_52
      · rw [if_neg hc] at hw
        refine lv_iload_n hx hb dX6_put_34 rfl (lv_at hl 2 rfl) ?_
        refine lv_aload_n hx hb dX6_put_35 rfl (lv_at hl 0 rfl) ?_
        refine r_getR (q := 53) X h (X6_o h0) rfl uX6 7 (by decide) lf_1_232 rfl dX6_put_36 ?_
        refine r_getR (q := 55) X h (X4_o (X6_sheets h0)) rfl uX4 1 (by decide) fn_27 rfl dX6_put_39 ?_
        refine lv_iload_n hx hb dX6_put_42 rfl (lv_at hl 1 rfl) ?_
        obtain ⟨hi, hw⟩ := hw
        refine r_ald X h (X4_length (X6_sheets h0)) hi dX6_put_43 ?_
        refine lv_icmp_lt (tgt := 53) hx hb dX6_put_44 (by decide) (fun hc => ?_) (fun hc => ?_)
        · rw [if_pos hc] at hw
          refine lv_aload_n hx hb dX6_put_53 rfl (lv_at hl 0 rfl) ?_
          refine r_getR (q := 53) X h (X6_o h0) rfl uX6 7 (by decide) lf_1_232 rfl dX6_put_54 ?_
          refine lv_iload_n hx hb dX6_put_57 rfl (lv_at hl 1 rfl) ?_
          refine lv_iload_n hx hb dX6_put_58 rfl (lv_at hl 2 rfl) ?_
          refine lv_iload_n hx hb dX6_put_59 rfl (lv_at hl 3 rfl) ?_
          refine k_v h (n_V (rest := []) (As := [.int a1, .int a2, .int a3]) X h hl.1 (c_X4_write l G hG 53 a1 a2 a3 (X6_sheets h0) _ _ hw) gk_X6_259 rfl hd_X4_write ⟨rfl, rfl⟩ ⟨Nat.le_of_ble_eq_true rfl, Nat.le_of_ble_eq_true rfl⟩ (X4_o (X6_sheets h0)) rfl rfl (Nat.le_of_ble_eq_true rfl) dX6_put_60 ⟨Nat.zero_le _, Nat.zero_le _⟩) (fun μ60 H locs hw h => ?_)
          refine lv_iconst (v := (1 : Int32)) hx hb dX6_put_63 (by decide) ?_
          exact r_iret X h hw dX6_put_64
        · rw [if_neg hc] at hw
          refine lv_aload_n hx hb dX6_put_47 rfl (lv_at hl 0 rfl) ?_
          refine lv_iconst (v := (1 : Int32)) hx hb dX6_put_48 (by decide) ?_
          refine k_i h (n_V (rest := []) (As := [.int (1 : Int32)]) X h hl.1 (c_X6_error l G hG (1 : Int32) h0 _ _ hw) gk_X6_72 rfl hd_X6_error ⟨rfl, rfl⟩ ⟨Nat.le_of_ble_eq_true rfl, Nat.le_of_ble_eq_true rfl⟩ (X6_o h0) rfl rfl (Nat.le_of_ble_eq_true rfl) dX6_put_49 ⟨Nat.zero_le _, Nat.zero_le _⟩) (fun r49 μ49 H locs hw h => ?_)
          exact r_iret X h hw dX6_put_52
    · rw [if_neg hc] at hw
      refine lv_aload_n hx hb dX6_put_24 rfl (lv_at hl 0 rfl) ?_
      refine lv_iconst (v := (2 : Int32)) hx hb dX6_put_25 (by decide) ?_
      refine k_i h (n_V (rest := []) (As := [.int (2 : Int32)]) X h hl.1 (c_X6_error l G hG (2 : Int32) h0 _ _ hw) gk_X6_72 rfl hd_X6_error ⟨rfl, rfl⟩ ⟨Nat.le_of_ble_eq_true rfl, Nat.le_of_ble_eq_true rfl⟩ (X6_o h0) rfl rfl (Nat.le_of_ble_eq_true rfl) dX6_put_26 ⟨Nat.zero_le _, Nat.zero_le _⟩) (fun r26 μ26 H locs hw h => ?_)
      exact r_iret X h hw dX6_put_29
  · rw [if_pos hc] at hw
    refine lv_aload_n hx hb dX6_put_7 rfl (lv_at hl 0 rfl) ?_
    refine lv_iconst (v := (1 : Int32)) hx hb dX6_put_8 (by decide) ?_
    refine k_i h (n_V (rest := []) (As := [.int (1 : Int32)]) X h hl.1 (c_X6_error l G hG (1 : Int32) h0 _ _ hw) gk_X6_72 rfl hd_X6_error ⟨rfl, rfl⟩ ⟨Nat.le_of_ble_eq_true rfl, Nat.le_of_ble_eq_true rfl⟩ (X6_o h0) rfl rfl (Nat.le_of_ble_eq_true rfl) dX6_put_9 ⟨Nat.zero_le _, Nat.zero_le _⟩) (fun r9 μ9 H locs hw h => ?_)
    exact r_iret X h hw dX6_put_12
def wp_X6_move (a1 : Int32) (a2 : Int32) (a3 : Int32) (a4 : Int32) (a5 : Int32) (Q : Int32 → vM → Prop) (μ : vM) : Prop := wp_X6_isSheet a1 (fun r1 μ1 => if r1 = 0 then wp_X6_error (1 : Int32) (fun r16 μ16 => Q r16 μ16) μ1 else wp_X6_isSheet a3 (fun r8 μ8 => if r8 = 0 then wp_X6_error (1 : Int32) (fun r16 μ16 => Q r16 μ16) μ8 else wp_X4_isMissing 53 a1 (fun r25 μ25 => if r25 = 0 then wp_X4_isMissing 53 a3 (fun r36 μ36 => if r36 = 0 then vp_in a1 4 ∧ vp_in a3 4 ∧ if (μ36 54 a1.toNatClampNeg) = (μ36 54 a3.toNatClampNeg) then wp_X4_stands 53 a1 a2 a5 (fun r83 μ83 => if r83 = 0 then wp_X6_error (1 : Int32) (fun r106 μ106 => Q r106 μ106) μ83 else wp_X4_stands 53 a3 a4 a5 (fun r98 μ98 => if r98 = 0 then wp_X6_error (1 : Int32) (fun r106 μ106 => Q r106 μ106) μ98 else wp_X4_shift 53 a1 a2 a3 a4 a5 (fun μ121 => Q a5 μ121) μ98) μ83) μ36 else wp_X6_error (5 : Int32) (fun r71 μ71 => Q r71 μ71) μ36 else wp_X6_error (2 : Int32) (fun r44 μ44 => Q r44 μ44) μ36) μ25 else wp_X6_error (2 : Int32) (fun r44 μ44 => Q r44 μ44) μ25) μ8) μ1) μ
set_option maxRecDepth 100000 in
set_option maxHeartbeats 4000000 in
theorem c_X6_move (l : Launch) (G : vG) (hG : gO G) (a1 : Int32) (a2 : Int32) (a3 : Int32) (a4 : Int32) (a5 : Int32) (h0 : isX6 G) (Q : Int32 → vM → Prop) (μ : vM) (hw : wp_X6_move a1 a2 a3 a4 a5 Q μ) : mt l G yX6_move vX6_move { frames := 2, cells := 0, slots := 0, locals := 85 } [.ref (ga G 0), .int a1, .int a2, .int a3, .int a4, .int a5] μ (qI G Q) := by
  refine met_of (cc := cX6_move) (maxL := 6) (ret := (some .int)) RX6 (by decide) rfl rfl hG (Nat.le_of_ble_eq_true rfl) ?_
  intro p e s m below meth c X h ls hl
  have hl : lv_has ls 6 [(0, .ref (ga G 0)), (1, .int a1), (2, .int a2), (3, .int a3), (4, .int a4), (5, .int a5)] := hl
  have hx := X.1
  have hb := X.2.1
  unfold wp_X6_move at hw
  refine lv_iload_n hx hb dX6_move_0 rfl (lv_at hl 1 rfl) ?_
  refine k_i h (n_T (rest := []) (As := [.int a1]) X h hl.1 (c_X6_isSheet l G hG a1 _ _ hw) gk_X6_239 rfl hd_X6_isSheet ⟨rfl, rfl⟩ ⟨Nat.le_of_ble_eq_true rfl, Nat.le_of_ble_eq_true rfl⟩ rfl (Nat.le_of_ble_eq_true rfl) dX6_move_1 ⟨Nat.zero_le _, Nat.zero_le _⟩) (fun r1 μ1 H locs hw h => ?_)
  refine lv_if_eq (tgt := 14) hx hb dX6_move_4 (by decide) (fun hc => ?_) (fun hc => ?_)
  · rw [if_pos hc] at hw
    refine lv_aload_n hx hb dX6_move_14 rfl (lv_at hl 0 rfl) ?_
    refine lv_iconst (v := (1 : Int32)) hx hb dX6_move_15 (by decide) ?_
    refine k_i h (n_V (rest := []) (As := [.int (1 : Int32)]) X h hl.1 (c_X6_error l G hG (1 : Int32) h0 _ _ hw) gk_X6_72 rfl hd_X6_error ⟨rfl, rfl⟩ ⟨Nat.le_of_ble_eq_true rfl, Nat.le_of_ble_eq_true rfl⟩ (X6_o h0) rfl rfl (Nat.le_of_ble_eq_true rfl) dX6_move_16 ⟨Nat.zero_le _, Nat.zero_le _⟩) (fun r16 μ16 H locs hw h => ?_)
    exact r_iret X h hw dX6_move_19
  · rw [if_neg hc] at hw
    refine lv_iload_n hx hb dX6_move_7 rfl (lv_at hl 3 rfl) ?_
    refine k_i h (n_T (rest := []) (As := [.int a3]) X h hl.1 (c_X6_isSheet l G hG a3 _ _ hw) gk_X6_239 rfl hd_X6_isSheet ⟨rfl, rfl⟩ ⟨Nat.le_of_ble_eq_true rfl, Nat.le_of_ble_eq_true rfl⟩ rfl (Nat.le_of_ble_eq_true rfl) dX6_move_8 ⟨Nat.zero_le _, Nat.zero_le _⟩) (fun r8 μ8 H locs hw h => ?_)
    refine lv_if_ne (tgt := 20) hx hb dX6_move_11 (by decide) (fun hc => ?_) (fun hc => ?_)
    · rw [if_neg hc] at hw
      refine lv_aload_n hx hb dX6_move_20 rfl (lv_at hl 0 rfl) ?_
      refine r_getR (q := 53) X h (X6_o h0) rfl uX6 7 (by decide) lf_1_232 rfl dX6_move_21 ?_
      refine lv_iload_n hx hb dX6_move_24 rfl (lv_at hl 1 rfl) ?_
      refine k_i h (n_V (rest := []) (As := [.int a1]) X h hl.1 (c_X4_isMissing l G hG 53 a1 (X6_sheets h0) _ _ hw) gk_X6_242 rfl hd_X4_isMissing ⟨rfl, rfl⟩ ⟨Nat.le_of_ble_eq_true rfl, Nat.le_of_ble_eq_true rfl⟩ (X4_o (X6_sheets h0)) rfl rfl (Nat.le_of_ble_eq_true rfl) dX6_move_25 ⟨Nat.zero_le _, Nat.zero_le _⟩) (fun r25 μ25 H locs hw h => ?_)
      refine lv_if_ne (tgt := 42) hx hb dX6_move_28 (by decide) (fun hc => ?_) (fun hc => ?_)
      · rw [if_neg hc] at hw
        refine lv_aload_n hx hb dX6_move_42 rfl (lv_at hl 0 rfl) ?_
        refine lv_iconst (v := (2 : Int32)) hx hb dX6_move_43 (by decide) ?_
        refine k_i h (n_V (rest := []) (As := [.int (2 : Int32)]) X h hl.1 (c_X6_error l G hG (2 : Int32) h0 _ _ hw) gk_X6_72 rfl hd_X6_error ⟨rfl, rfl⟩ ⟨Nat.le_of_ble_eq_true rfl, Nat.le_of_ble_eq_true rfl⟩ (X6_o h0) rfl rfl (Nat.le_of_ble_eq_true rfl) dX6_move_44 ⟨Nat.zero_le _, Nat.zero_le _⟩) (fun r44 μ44 H locs hw h => ?_)
        exact r_iret X h hw dX6_move_47
      · rw [if_pos hc] at hw
        refine lv_aload_n hx hb dX6_move_31 rfl (lv_at hl 0 rfl) ?_
        refine r_getR (q := 53) X h (X6_o h0) rfl uX6 7 (by decide) lf_1_232 rfl dX6_move_32 ?_
        refine lv_iload_n hx hb dX6_move_35 rfl (lv_at hl 3 rfl) ?_
        refine k_i h (n_V (rest := []) (As := [.int a3]) X h hl.1 (c_X4_isMissing l G hG 53 a3 (X6_sheets h0) _ _ hw) gk_X6_242 rfl hd_X4_isMissing ⟨rfl, rfl⟩ ⟨Nat.le_of_ble_eq_true rfl, Nat.le_of_ble_eq_true rfl⟩ (X4_o (X6_sheets h0)) rfl rfl (Nat.le_of_ble_eq_true rfl) dX6_move_36 ⟨Nat.zero_le _, Nat.zero_le _⟩) (fun r36 μ36 H locs hw h => ?_)
        refine lv_if_eq (tgt := 48) hx hb dX6_move_39 (by decide) (fun hc => ?_) (fun hc => ?_)
        · rw [if_pos hc] at hw
          refine lv_aload_n hx hb dX6_move_48 rfl (lv_at hl 0 rfl) ?_
          refine r_getR (q := 53) X h (X6_o h0) rfl uX6 7 (by decide) lf_1_232 rfl dX6_move_49 ?_
          refine r_getR (q := 54) X h (X4_o (X6_sheets h0)) rfl uX4 0 (by decide) fn_26 rfl dX6_move_52 ?_
          refine lv_iload_n hx hb dX6_move_55 rfl (lv_at hl 1 rfl) ?_
          obtain ⟨hi, hw⟩ := hw
          refine r_ald X h (X4_bits (X6_sheets h0)) hi dX6_move_56 ?_
          refine lv_aload_n hx hb dX6_move_57 rfl (lv_at hl 0 rfl) ?_
          refine r_getR (q := 53) X h (X6_o h0) rfl uX6 7 (by decide) lf_1_232 rfl dX6_move_58 ?_
          refine r_getR (q := 54) X h (X4_o (X6_sheets h0)) rfl uX4 0 (by decide) fn_26 rfl dX6_move_61 ?_
          refine lv_iload_n hx hb dX6_move_64 rfl (lv_at hl 3 rfl) ?_
          obtain ⟨hi, hw⟩ := hw
          refine r_ald X h (X4_bits (X6_sheets h0)) hi dX6_move_65 ?_
          refine lv_icmp_eq (tgt := 75) hx hb dX6_move_66 (by decide) (fun hc => ?_) (fun hc => ?_)
          · rw [if_pos hc] at hw
            refine lv_aload_n hx hb dX6_move_75 rfl (lv_at hl 0 rfl) ?_
            refine r_getR (q := 53) X h (X6_o h0) rfl uX6 7 (by decide) lf_1_232 rfl dX6_move_76 ?_
            refine lv_iload_n hx hb dX6_move_79 rfl (lv_at hl 1 rfl) ?_
            refine lv_iload_n hx hb dX6_move_80 rfl (lv_at hl 2 rfl) ?_
            refine lv_iload hx hb dX6_move_81 (lv_at hl 5 rfl) ?_
            refine k_i h (n_V (rest := []) (As := [.int a1, .int a2, .int a5]) X h hl.1 (c_X4_stands l G hG 53 a1 a2 a5 (X6_sheets h0) _ _ hw) gk_X6_265 rfl hd_X4_stands ⟨rfl, rfl⟩ ⟨Nat.le_of_ble_eq_true rfl, Nat.le_of_ble_eq_true rfl⟩ (X4_o (X6_sheets h0)) rfl rfl (Nat.le_of_ble_eq_true rfl) dX6_move_83 ⟨Nat.zero_le _, Nat.zero_le _⟩) (fun r83 μ83 H locs hw h => ?_)
            refine lv_if_eq (tgt := 104) hx hb dX6_move_86 (by decide) (fun hc => ?_) (fun hc => ?_)
            · rw [if_pos hc] at hw
              refine lv_aload_n hx hb dX6_move_104 rfl (lv_at hl 0 rfl) ?_
              refine lv_iconst (v := (1 : Int32)) hx hb dX6_move_105 (by decide) ?_
              refine k_i h (n_V (rest := []) (As := [.int (1 : Int32)]) X h hl.1 (c_X6_error l G hG (1 : Int32) h0 _ _ hw) gk_X6_72 rfl hd_X6_error ⟨rfl, rfl⟩ ⟨Nat.le_of_ble_eq_true rfl, Nat.le_of_ble_eq_true rfl⟩ (X6_o h0) rfl rfl (Nat.le_of_ble_eq_true rfl) dX6_move_106 ⟨Nat.zero_le _, Nat.zero_le _⟩) (fun r106 μ106 H locs hw h => ?_)
              exact r_iret X h hw dX6_move_109
            · rw [if_neg hc] at hw
              refine lv_aload_n hx hb dX6_move_89 rfl (lv_at hl 0 rfl) ?_
              refine r_getR (q := 53) X h (X6_o h0) rfl uX6 7 (by decide) lf_1_232 rfl dX6_move_90 ?_
              refine lv_iload_n hx hb dX6_move_93 rfl (lv_at hl 3 rfl) ?_
              refine lv_iload hx hb dX6_move_94 (lv_at hl 4 rfl) ?_
              refine lv_iload hx hb dX6_move_96 (lv_at hl 5 rfl) ?_
              refine k_i h (n_V (rest := []) (As := [.int a3, .int a4, .int a5]) X h hl.1 (c_X4_stands l G hG 53 a3 a4 a5 (X6_sheets h0) _ _ hw) gk_X6_265 rfl hd_X4_stands ⟨rfl, rfl⟩ ⟨Nat.le_of_ble_eq_true rfl, Nat.le_of_ble_eq_true rfl⟩ (X4_o (X6_sheets h0)) rfl rfl (Nat.le_of_ble_eq_true rfl) dX6_move_98 ⟨Nat.zero_le _, Nat.zero_le _⟩) (fun r98 μ98 H locs hw h => ?_)
              refine lv_if_ne (tgt := 110) hx hb dX6_move_101 (by decide) (fun hc => ?_) (fun hc => ?_)
              · rw [if_neg hc] at hw
                refine lv_aload_n hx hb dX6_move_110 rfl (lv_at hl 0 rfl) ?_
                refine r_getR (q := 53) X h (X6_o h0) rfl uX6 7 (by decide) lf_1_232 rfl dX6_move_111 ?_
                refine lv_iload_n hx hb dX6_move_114 rfl (lv_at hl 1 rfl) ?_
                refine lv_iload_n hx hb dX6_move_115 rfl (lv_at hl 2 rfl) ?_
                refine lv_iload_n hx hb dX6_move_116 rfl (lv_at hl 3 rfl) ?_
                refine lv_iload hx hb dX6_move_117 (lv_at hl 4 rfl) ?_
                refine lv_iload hx hb dX6_move_119 (lv_at hl 5 rfl) ?_
                refine k_v h (n_V (rest := []) (As := [.int a1, .int a2, .int a3, .int a4, .int a5]) X h hl.1 (c_X4_shift l G hG 53 a1 a2 a3 a4 a5 (X6_sheets h0) _ _ hw) gk_X6_268 rfl hd_X4_shift ⟨rfl, rfl⟩ ⟨Nat.le_of_ble_eq_true rfl, Nat.le_of_ble_eq_true rfl⟩ (X4_o (X6_sheets h0)) rfl rfl (Nat.le_of_ble_eq_true rfl) dX6_move_121 ⟨Nat.zero_le _, Nat.zero_le _⟩) (fun μ121 H locs hw h => ?_)
                refine lv_iload hx hb dX6_move_124 (lv_at hl 5 rfl) ?_
                exact r_iret X h hw dX6_move_126
              · rw [if_pos hc] at hw
                refine lv_aload_n hx hb dX6_move_104 rfl (lv_at hl 0 rfl) ?_
                refine lv_iconst (v := (1 : Int32)) hx hb dX6_move_105 (by decide) ?_
                refine k_i h (n_V (rest := []) (As := [.int (1 : Int32)]) X h hl.1 (c_X6_error l G hG (1 : Int32) h0 _ _ hw) gk_X6_72 rfl hd_X6_error ⟨rfl, rfl⟩ ⟨Nat.le_of_ble_eq_true rfl, Nat.le_of_ble_eq_true rfl⟩ (X6_o h0) rfl rfl (Nat.le_of_ble_eq_true rfl) dX6_move_106 ⟨Nat.zero_le _, Nat.zero_le _⟩) (fun r106 μ106 H locs hw h => ?_)
                exact r_iret X h hw dX6_move_109
          · rw [if_neg hc] at hw
            refine lv_aload_n hx hb dX6_move_69 rfl (lv_at hl 0 rfl) ?_
            refine lv_iconst (v := (5 : Int32)) hx hb dX6_move_70 (by decide) ?_
            refine k_i h (n_V (rest := []) (As := [.int (5 : Int32)]) X h hl.1 (c_X6_error l G hG (5 : Int32) h0 _ _ hw) gk_X6_72 rfl hd_X6_error ⟨rfl, rfl⟩ ⟨Nat.le_of_ble_eq_true rfl, Nat.le_of_ble_eq_true rfl⟩ (X6_o h0) rfl rfl (Nat.le_of_ble_eq_true rfl) dX6_move_71 ⟨Nat.zero_le _, Nat.zero_le _⟩) (fun r71 μ71 H locs hw h => ?_)
            exact r_iret X h hw dX6_move_74
        · rw [if_neg hc] at hw
          refine lv_aload_n hx hb dX6_move_42 rfl (lv_at hl 0 rfl) ?_
          refine lv_iconst (v := (2 : Int32)) hx hb dX6_move_43 (by decide) ?_
          refine k_i h (n_V (rest := []) (As := [.int (2 : Int32)]) X h hl.1 (c_X6_error l G hG (2 : Int32) h0 _ _ hw) gk_X6_72 rfl hd_X6_error ⟨rfl, rfl⟩ ⟨Nat.le_of_ble_eq_true rfl, Nat.le_of_ble_eq_true rfl⟩ (X6_o h0) rfl rfl (Nat.le_of_ble_eq_true rfl) dX6_move_44 ⟨Nat.zero_le _, Nat.zero_le _⟩) (fun r44 μ44 H locs hw h => ?_)
          exact r_iret X h hw dX6_move_47
    · rw [if_pos hc] at hw
      refine lv_aload_n hx hb dX6_move_14 rfl (lv_at hl 0 rfl) ?_
      refine lv_iconst (v := (1 : Int32)) hx hb dX6_move_15 (by decide) ?_
      refine k_i h (n_V (rest := []) (As := [.int (1 : Int32)]) X h hl.1 (c_X6_error l G hG (1 : Int32) h0 _ _ hw) gk_X6_72 rfl hd_X6_error ⟨rfl, rfl⟩ ⟨Nat.le_of_ble_eq_true rfl, Nat.le_of_ble_eq_true rfl⟩ (X6_o h0) rfl rfl (Nat.le_of_ble_eq_true rfl) dX6_move_16 ⟨Nat.zero_le _, Nat.zero_le _⟩) (fun r16 μ16 H locs hw h => ?_)
      exact r_iret X h hw dX6_move_19
def wp_X6_lays_32 (a1 : Int32) (Q : Int32 → vM → Prop) : Nat → Int32 → vM → Prop
  | 0, _, _ => False
  | n32 + 1, x2, μ => vp_in a1 4 ∧ if (μ 55 a1.toNatClampNeg) ≤ x2 then Q x2 μ else wp_X6_isBit x2 (fun r47 μ47 => if r47 = 0 then Q x2 μ47 else wp_X4_number 53 a1 x2 (fun r59 μ59 => wp_X6_isPlace r59 (fun r62 μ62 => if r62 = 0 then Q x2 μ62 else wp_X4_number 53 a1 x2 (fun r85 μ85 => vp_in x2 8 ∧ ∃ μ88 : vM, μ88 = st μ85 9 x2.toNatClampNeg r85 ∧ ∃ x2_89 : Int32, x2_89 = x2 + (1 : Int32) ∧ wp_X6_lays_32 a1 Q n32 x2_89 μ88) μ62) μ59) μ47) μ
def wp_X6_lays (a1 : Int32) (Q : Int32 → vM → Prop) (μ : vM) : Prop := wp_X6_isSheet a1 (fun r1 μ1 => if r1 = 0 then wp_X6_error (1 : Int32) (fun r9 μ9 => Q r9 μ9) μ1 else wp_X4_isMissing 53 a1 (fun r18 μ18 => if r18 = 0 then ∃ n32, wp_X6_lays_32 a1 Q n32 (0 : Int32) μ18 else wp_X6_error (2 : Int32) (fun r26 μ26 => Q r26 μ26) μ18) μ1) μ
set_option maxRecDepth 100000 in
set_option maxHeartbeats 4000000 in
theorem c_X6_lays (l : Launch) (G : vG) (hG : gO G) (a1 : Int32) (h0 : isX6 G) (Q : Int32 → vM → Prop) (μ : vM) (hw : wp_X6_lays a1 Q μ) : mt l G yX6_lays vX6_lays { frames := 1, cells := 0, slots := 0, locals := 22 } [.ref (ga G 0), .int a1] μ (qI G Q) := by
  refine met_of (cc := cX6_lays) (maxL := 3) (ret := (some .int)) RX6 (by decide) rfl rfl hG (Nat.le_of_ble_eq_true rfl) ?_
  intro p e s m below meth c X h ls hl
  have hl : lv_has ls 3 [(0, .ref (ga G 0)), (1, .int a1)] := hl
  have hx := X.1
  have hb := X.2.1
  unfold wp_X6_lays at hw
  refine lv_iload_n hx hb dX6_lays_0 rfl (lv_at hl 1 rfl) ?_
  refine k_i h (n_T (rest := []) (As := [.int a1]) X h hl.1 (c_X6_isSheet l G hG a1 _ _ hw) gk_X6_239 rfl hd_X6_isSheet ⟨rfl, rfl⟩ ⟨Nat.le_of_ble_eq_true rfl, Nat.le_of_ble_eq_true rfl⟩ rfl (Nat.le_of_ble_eq_true rfl) dX6_lays_1 ⟨Nat.zero_le _, Nat.zero_le _⟩) (fun r1 μ1 H locs hw h => ?_)
  refine lv_if_ne (tgt := 13) hx hb dX6_lays_4 (by decide) (fun hc => ?_) (fun hc => ?_)
  · rw [if_neg hc] at hw
    refine lv_aload_n hx hb dX6_lays_13 rfl (lv_at hl 0 rfl) ?_
    refine r_getR (q := 53) X h (X6_o h0) rfl uX6 7 (by decide) lf_1_232 rfl dX6_lays_14 ?_
    refine lv_iload_n hx hb dX6_lays_17 rfl (lv_at hl 1 rfl) ?_
    refine k_i h (n_V (rest := []) (As := [.int a1]) X h hl.1 (c_X4_isMissing l G hG 53 a1 (X6_sheets h0) _ _ hw) gk_X6_242 rfl hd_X4_isMissing ⟨rfl, rfl⟩ ⟨Nat.le_of_ble_eq_true rfl, Nat.le_of_ble_eq_true rfl⟩ (X4_o (X6_sheets h0)) rfl rfl (Nat.le_of_ble_eq_true rfl) dX6_lays_18 ⟨Nat.zero_le _, Nat.zero_le _⟩) (fun r18 μ18 H locs hw h => ?_)
    refine lv_if_eq (tgt := 30) hx hb dX6_lays_21 (by decide) (fun hc => ?_) (fun hc => ?_)
    · rw [if_pos hc] at hw
      refine lv_iconst (v := (0 : Int32)) hx hb dX6_lays_30 (by decide) ?_
      refine lv_istore_n (lv' := [(2, .int (0 : Int32)), (0, .ref (ga G 0)), (1, .int a1)]) hx hb dX6_lays_31 rfl hl (by decide) rfl (fun ls hl => ?_)
      have s32 : ∀ (n32 : Nat) (x2 : Int32) (μ : vM), ∀ (H : Heap) (locs : List Loc) (ls : Array Slot), bw G s μ H locs → lv_has ls 3 [(0, .ref (ga G 0)), (1, .int a1), (2, .int x2)] → wp_X6_lays_32 a1 Q n32 x2 μ → W p l e ({ frames := 1, cells := 0, slots := 0, locals := 22 } : Room) s m ([.ref (ga G 0), .int a1] : List Value).toArray below meth c H locs 0 0 (MQ below (qI G Q) ([.ref (ga G 0), .int a1] : List Value).toArray s 0 0 (gA G)) (F0 m 32 ls []) := by
        intro n32
        induction n32 with
        | zero => intro x2 μ H locs ls h hl hw; exact absurd hw (by unfold wp_X6_lays_32; exact id)
        | succ n32 ih32 =>
          intro x2 μ H locs ls h hl hw
          unfold wp_X6_lays_32 at hw
          refine lv_iload_n hx hb dX6_lays_32 rfl (lv_at hl 2 rfl) ?_
          refine lv_aload_n hx hb dX6_lays_33 rfl (lv_at hl 0 rfl) ?_
          refine r_getR (q := 53) X h (X6_o h0) rfl uX6 7 (by decide) lf_1_232 rfl dX6_lays_34 ?_
          refine r_getR (q := 55) X h (X4_o (X6_sheets h0)) rfl uX4 1 (by decide) fn_27 rfl dX6_lays_37 ?_
          refine lv_iload_n hx hb dX6_lays_40 rfl (lv_at hl 1 rfl) ?_
          obtain ⟨hi, hw⟩ := hw
          refine r_ald X h (X4_length (X6_sheets h0)) hi dX6_lays_41 ?_
          refine lv_icmp_ge (tgt := 95) hx hb dX6_lays_42 (by decide) (fun hc => ?_) (fun hc => ?_)
          · rw [if_pos hc] at hw
            refine lv_iload_n hx hb dX6_lays_95 rfl (lv_at hl 2 rfl) ?_
            exact r_iret X h hw dX6_lays_96
          · rw [if_neg hc] at hw
            refine lv_aload_n hx hb dX6_lays_45 rfl (lv_at hl 0 rfl) ?_
            refine lv_iload_n hx hb dX6_lays_46 rfl (lv_at hl 2 rfl) ?_
            refine k_i h (n_V (rest := []) (As := [.int x2]) X h hl.1 (c_X6_isBit l G hG x2 h0 _ _ hw) gk_X6_116 rfl hd_X6_isBit ⟨rfl, rfl⟩ ⟨Nat.le_of_ble_eq_true rfl, Nat.le_of_ble_eq_true rfl⟩ (X6_o h0) rfl rfl (Nat.le_of_ble_eq_true rfl) dX6_lays_47 ⟨Nat.zero_le _, Nat.zero_le _⟩) (fun r47 μ47 H locs hw h => ?_)
            refine lv_if_eq (tgt := 95) hx hb dX6_lays_50 (by decide) (fun hc => ?_) (fun hc => ?_)
            · rw [if_pos hc] at hw
              refine lv_iload_n hx hb dX6_lays_95 rfl (lv_at hl 2 rfl) ?_
              exact r_iret X h hw dX6_lays_96
            · rw [if_neg hc] at hw
              refine lv_aload_n hx hb dX6_lays_53 rfl (lv_at hl 0 rfl) ?_
              refine r_getR (q := 53) X h (X6_o h0) rfl uX6 7 (by decide) lf_1_232 rfl dX6_lays_54 ?_
              refine lv_iload_n hx hb dX6_lays_57 rfl (lv_at hl 1 rfl) ?_
              refine lv_iload_n hx hb dX6_lays_58 rfl (lv_at hl 2 rfl) ?_
              refine k_i h (n_V (rest := []) (As := [.int a1, .int x2]) X h hl.1 (c_X4_number l G hG 53 a1 x2 (X6_sheets h0) _ _ hw) gk_X6_272 rfl hd_X4_number ⟨rfl, rfl⟩ ⟨Nat.le_of_ble_eq_true rfl, Nat.le_of_ble_eq_true rfl⟩ (X4_o (X6_sheets h0)) rfl rfl (Nat.le_of_ble_eq_true rfl) dX6_lays_59 ⟨Nat.zero_le _, Nat.zero_le _⟩) (fun r59 μ59 H locs hw h => ?_)
              refine k_i h (n_T (rest := []) (As := [.int r59]) X h hl.1 (c_X6_isPlace l G hG r59 _ _ hw) gk_X6_68 rfl hd_X6_isPlace ⟨rfl, rfl⟩ ⟨Nat.le_of_ble_eq_true rfl, Nat.le_of_ble_eq_true rfl⟩ rfl (Nat.le_of_ble_eq_true rfl) dX6_lays_62 ⟨Nat.zero_le _, Nat.zero_le _⟩) (fun r62 μ62 H locs hw h => ?_)
              refine lv_if_eq (tgt := 95) hx hb dX6_lays_65 (by decide) (fun hc => ?_) (fun hc => ?_)
              · rw [if_pos hc] at hw
                refine lv_iload_n hx hb dX6_lays_95 rfl (lv_at hl 2 rfl) ?_
                exact r_iret X h hw dX6_lays_96
              · rw [if_neg hc] at hw
                refine lv_aload_n hx hb dX6_lays_68 rfl (lv_at hl 0 rfl) ?_
                refine r_getR (q := 1) X h (X6_o h0) rfl uX6 0 (by decide) lf_1_225 rfl dX6_lays_69 ?_
                refine r_getR (q := 5) X h (X5_o (X6_now h0)) rfl uX5 1 (by decide) fn_16 rfl dX6_lays_72 ?_
                refine r_getR (q := 9) X h (X0_o (X5_harvest (X6_now h0))) rfl uX0 5 (by decide) fn_7 rfl dX6_lays_75 ?_
                refine lv_iload_n hx hb dX6_lays_78 rfl (lv_at hl 2 rfl) ?_
                refine lv_aload_n hx hb dX6_lays_79 rfl (lv_at hl 0 rfl) ?_
                refine r_getR (q := 53) X h (X6_o h0) rfl uX6 7 (by decide) lf_1_232 rfl dX6_lays_80 ?_
                refine lv_iload_n hx hb dX6_lays_83 rfl (lv_at hl 1 rfl) ?_
                refine lv_iload_n hx hb dX6_lays_84 rfl (lv_at hl 2 rfl) ?_
                refine k_i h (n_V (rest := [.int x2, .ref (ga G 9)]) (As := [.int a1, .int x2]) X h hl.1 (c_X4_number l G hG 53 a1 x2 (X6_sheets h0) _ _ hw) gk_X6_272 rfl hd_X4_number ⟨rfl, rfl⟩ ⟨Nat.le_of_ble_eq_true rfl, Nat.le_of_ble_eq_true rfl⟩ (X4_o (X6_sheets h0)) rfl rfl (Nat.le_of_ble_eq_true rfl) dX6_lays_85 ⟨Nat.zero_le _, Nat.zero_le _⟩) (fun r85 μ85 H locs hw h => ?_)
                obtain ⟨hi, μ88, eμ88, hw⟩ := hw
                refine r_ast X h (X0_at (X5_harvest (X6_now h0))) hi eμ88 dX6_lays_88 (fun H locs h => ?_)
                obtain ⟨x2_89, ex2_89, hw⟩ := hw
                refine lv_iinc (v := x2_89) (lv' := [(2, .int x2_89), (0, .ref (ga G 0)), (1, .int a1)]) hx hb dX6_lays_89 hl (k := 2) rfl (by rw [ex2_89]; rfl) (by decide) rfl (fun ls hl => ?_)
                refine lv_goto (tgt := 32) hx hb dX6_lays_92 (by decide) ?_
                exact ih32 x2_89 μ88 _ _ _ h (lv_sub hl [1, 2, 0] rfl) hw
      obtain ⟨n, hw⟩ := hw
      exact s32 n (0 : Int32) μ18 _ _ _ h (lv_sub hl [1, 2, 0] rfl) hw
    · rw [if_neg hc] at hw
      refine lv_aload_n hx hb dX6_lays_24 rfl (lv_at hl 0 rfl) ?_
      refine lv_iconst (v := (2 : Int32)) hx hb dX6_lays_25 (by decide) ?_
      refine k_i h (n_V (rest := []) (As := [.int (2 : Int32)]) X h hl.1 (c_X6_error l G hG (2 : Int32) h0 _ _ hw) gk_X6_72 rfl hd_X6_error ⟨rfl, rfl⟩ ⟨Nat.le_of_ble_eq_true rfl, Nat.le_of_ble_eq_true rfl⟩ (X6_o h0) rfl rfl (Nat.le_of_ble_eq_true rfl) dX6_lays_26 ⟨Nat.zero_le _, Nat.zero_le _⟩) (fun r26 μ26 H locs hw h => ?_)
      exact r_iret X h hw dX6_lays_29
  · rw [if_pos hc] at hw
    refine lv_aload_n hx hb dX6_lays_7 rfl (lv_at hl 0 rfl) ?_
    refine lv_iconst (v := (1 : Int32)) hx hb dX6_lays_8 (by decide) ?_
    refine k_i h (n_V (rest := []) (As := [.int (1 : Int32)]) X h hl.1 (c_X6_error l G hG (1 : Int32) h0 _ _ hw) gk_X6_72 rfl hd_X6_error ⟨rfl, rfl⟩ ⟨Nat.le_of_ble_eq_true rfl, Nat.le_of_ble_eq_true rfl⟩ (X6_o h0) rfl rfl (Nat.le_of_ble_eq_true rfl) dX6_lays_9 ⟨Nat.zero_le _, Nat.zero_le _⟩) (fun r9 μ9 H locs hw h => ?_)
    exact r_iret X h hw dX6_lays_12
def wp_X6_judge_32 (a1 : Int32) (Q : Int32 → vM → Prop) : Nat → Int32 → vM → Prop
  | 0, _, _ => False
  | n32 + 1, x2, μ => vp_in a1 4 ∧ if (μ 55 a1.toNatClampNeg) ≤ x2 then Q x2 μ else wp_X6_isBit x2 (fun r47 μ47 => if r47 = 0 then Q x2 μ47 else wp_X4_number 53 a1 x2 (fun r59 μ59 => wp_X6_warmthOf 5 2 x2 (fun r77 μ77 => if r59 = r77 then ∃ x2_83 : Int32, x2_83 = x2 + (1 : Int32) ∧ wp_X6_judge_32 a1 Q n32 x2_83 μ77 else Q x2 μ77) μ59) μ47) μ
def wp_X6_judge (a1 : Int32) (Q : Int32 → vM → Prop) (μ : vM) : Prop := wp_X6_isSheet a1 (fun r1 μ1 => if r1 = 0 then wp_X6_error (1 : Int32) (fun r9 μ9 => Q r9 μ9) μ1 else wp_X4_isMissing 53 a1 (fun r18 μ18 => if r18 = 0 then ∃ n32, wp_X6_judge_32 a1 Q n32 (0 : Int32) μ18 else wp_X6_error (2 : Int32) (fun r26 μ26 => Q r26 μ26) μ18) μ1) μ
set_option maxRecDepth 100000 in
set_option maxHeartbeats 4000000 in
theorem c_X6_judge (l : Launch) (G : vG) (hG : gO G) (a1 : Int32) (h0 : isX6 G) (Q : Int32 → vM → Prop) (μ : vM) (hw : wp_X6_judge a1 Q μ) : mt l G yX6_judge vX6_judge { frames := 2, cells := 0, slots := 0, locals := 45 } [.ref (ga G 0), .int a1] μ (qI G Q) := by
  refine met_of (cc := cX6_judge) (maxL := 3) (ret := (some .int)) RX6 (by decide) rfl rfl hG (Nat.le_of_ble_eq_true rfl) ?_
  intro p e s m below meth c X h ls hl
  have hl : lv_has ls 3 [(0, .ref (ga G 0)), (1, .int a1)] := hl
  have hx := X.1
  have hb := X.2.1
  unfold wp_X6_judge at hw
  refine lv_iload_n hx hb dX6_judge_0 rfl (lv_at hl 1 rfl) ?_
  refine k_i h (n_T (rest := []) (As := [.int a1]) X h hl.1 (c_X6_isSheet l G hG a1 _ _ hw) gk_X6_239 rfl hd_X6_isSheet ⟨rfl, rfl⟩ ⟨Nat.le_of_ble_eq_true rfl, Nat.le_of_ble_eq_true rfl⟩ rfl (Nat.le_of_ble_eq_true rfl) dX6_judge_1 ⟨Nat.zero_le _, Nat.zero_le _⟩) (fun r1 μ1 H locs hw h => ?_)
  refine lv_if_ne (tgt := 13) hx hb dX6_judge_4 (by decide) (fun hc => ?_) (fun hc => ?_)
  · rw [if_neg hc] at hw
    refine lv_aload_n hx hb dX6_judge_13 rfl (lv_at hl 0 rfl) ?_
    refine r_getR (q := 53) X h (X6_o h0) rfl uX6 7 (by decide) lf_1_232 rfl dX6_judge_14 ?_
    refine lv_iload_n hx hb dX6_judge_17 rfl (lv_at hl 1 rfl) ?_
    refine k_i h (n_V (rest := []) (As := [.int a1]) X h hl.1 (c_X4_isMissing l G hG 53 a1 (X6_sheets h0) _ _ hw) gk_X6_242 rfl hd_X4_isMissing ⟨rfl, rfl⟩ ⟨Nat.le_of_ble_eq_true rfl, Nat.le_of_ble_eq_true rfl⟩ (X4_o (X6_sheets h0)) rfl rfl (Nat.le_of_ble_eq_true rfl) dX6_judge_18 ⟨Nat.zero_le _, Nat.zero_le _⟩) (fun r18 μ18 H locs hw h => ?_)
    refine lv_if_eq (tgt := 30) hx hb dX6_judge_21 (by decide) (fun hc => ?_) (fun hc => ?_)
    · rw [if_pos hc] at hw
      refine lv_iconst (v := (0 : Int32)) hx hb dX6_judge_30 (by decide) ?_
      refine lv_istore_n (lv' := [(2, .int (0 : Int32)), (0, .ref (ga G 0)), (1, .int a1)]) hx hb dX6_judge_31 rfl hl (by decide) rfl (fun ls hl => ?_)
      have s32 : ∀ (n32 : Nat) (x2 : Int32) (μ : vM), ∀ (H : Heap) (locs : List Loc) (ls : Array Slot), bw G s μ H locs → lv_has ls 3 [(0, .ref (ga G 0)), (1, .int a1), (2, .int x2)] → wp_X6_judge_32 a1 Q n32 x2 μ → W p l e ({ frames := 2, cells := 0, slots := 0, locals := 45 } : Room) s m ([.ref (ga G 0), .int a1] : List Value).toArray below meth c H locs 0 0 (MQ below (qI G Q) ([.ref (ga G 0), .int a1] : List Value).toArray s 0 0 (gA G)) (F0 m 32 ls []) := by
        intro n32
        induction n32 with
        | zero => intro x2 μ H locs ls h hl hw; exact absurd hw (by unfold wp_X6_judge_32; exact id)
        | succ n32 ih32 =>
          intro x2 μ H locs ls h hl hw
          unfold wp_X6_judge_32 at hw
          refine lv_iload_n hx hb dX6_judge_32 rfl (lv_at hl 2 rfl) ?_
          refine lv_aload_n hx hb dX6_judge_33 rfl (lv_at hl 0 rfl) ?_
          refine r_getR (q := 53) X h (X6_o h0) rfl uX6 7 (by decide) lf_1_232 rfl dX6_judge_34 ?_
          refine r_getR (q := 55) X h (X4_o (X6_sheets h0)) rfl uX4 1 (by decide) fn_27 rfl dX6_judge_37 ?_
          refine lv_iload_n hx hb dX6_judge_40 rfl (lv_at hl 1 rfl) ?_
          obtain ⟨hi, hw⟩ := hw
          refine r_ald X h (X4_length (X6_sheets h0)) hi dX6_judge_41 ?_
          refine lv_icmp_ge (tgt := 89) hx hb dX6_judge_42 (by decide) (fun hc => ?_) (fun hc => ?_)
          · rw [if_pos hc] at hw
            refine lv_iload_n hx hb dX6_judge_89 rfl (lv_at hl 2 rfl) ?_
            exact r_iret X h hw dX6_judge_90
          · rw [if_neg hc] at hw
            refine lv_aload_n hx hb dX6_judge_45 rfl (lv_at hl 0 rfl) ?_
            refine lv_iload_n hx hb dX6_judge_46 rfl (lv_at hl 2 rfl) ?_
            refine k_i h (n_V (rest := []) (As := [.int x2]) X h hl.1 (c_X6_isBit l G hG x2 h0 _ _ hw) gk_X6_116 rfl hd_X6_isBit ⟨rfl, rfl⟩ ⟨Nat.le_of_ble_eq_true rfl, Nat.le_of_ble_eq_true rfl⟩ (X6_o h0) rfl rfl (Nat.le_of_ble_eq_true rfl) dX6_judge_47 ⟨Nat.zero_le _, Nat.zero_le _⟩) (fun r47 μ47 H locs hw h => ?_)
            refine lv_if_eq (tgt := 89) hx hb dX6_judge_50 (by decide) (fun hc => ?_) (fun hc => ?_)
            · rw [if_pos hc] at hw
              refine lv_iload_n hx hb dX6_judge_89 rfl (lv_at hl 2 rfl) ?_
              exact r_iret X h hw dX6_judge_90
            · rw [if_neg hc] at hw
              refine lv_aload_n hx hb dX6_judge_53 rfl (lv_at hl 0 rfl) ?_
              refine r_getR (q := 53) X h (X6_o h0) rfl uX6 7 (by decide) lf_1_232 rfl dX6_judge_54 ?_
              refine lv_iload_n hx hb dX6_judge_57 rfl (lv_at hl 1 rfl) ?_
              refine lv_iload_n hx hb dX6_judge_58 rfl (lv_at hl 2 rfl) ?_
              refine k_i h (n_V (rest := []) (As := [.int a1, .int x2]) X h hl.1 (c_X4_number l G hG 53 a1 x2 (X6_sheets h0) _ _ hw) gk_X6_272 rfl hd_X4_number ⟨rfl, rfl⟩ ⟨Nat.le_of_ble_eq_true rfl, Nat.le_of_ble_eq_true rfl⟩ (X4_o (X6_sheets h0)) rfl rfl (Nat.le_of_ble_eq_true rfl) dX6_judge_59 ⟨Nat.zero_le _, Nat.zero_le _⟩) (fun r59 μ59 H locs hw h => ?_)
              refine lv_aload_n hx hb dX6_judge_62 rfl (lv_at hl 0 rfl) ?_
              refine r_getR (q := 1) X h (X6_o h0) rfl uX6 0 (by decide) lf_1_225 rfl dX6_judge_63 ?_
              refine r_getR (q := 5) X h (X5_o (X6_now h0)) rfl uX5 1 (by decide) fn_16 rfl dX6_judge_66 ?_
              refine lv_aload_n hx hb dX6_judge_69 rfl (lv_at hl 0 rfl) ?_
              refine r_getR (q := 1) X h (X6_o h0) rfl uX6 0 (by decide) lf_1_225 rfl dX6_judge_70 ?_
              refine r_getR (q := 2) X h (X5_o (X6_now h0)) rfl uX5 0 (by decide) fn_15 rfl dX6_judge_73 ?_
              refine lv_iload_n hx hb dX6_judge_76 rfl (lv_at hl 2 rfl) ?_
              refine k_i h (n_T (rest := [.int r59]) (As := [.ref (ga G 5), .ref (ga G 2), .int x2]) X h hl.1 (c_X6_warmthOf l G hG 5 2 x2 (X5_harvest (X6_now h0)) (X5_roads (X6_now h0)) _ _ hw) gk_X6_142 rfl hd_X6_warmthOf ⟨rfl, rfl⟩ ⟨Nat.le_of_ble_eq_true rfl, Nat.le_of_ble_eq_true rfl⟩ rfl (Nat.le_of_ble_eq_true rfl) dX6_judge_77 ⟨Nat.zero_le _, Nat.zero_le _⟩) (fun r77 μ77 H locs hw h => ?_)
              refine lv_icmp_ne (tgt := 89) hx hb dX6_judge_80 (by decide) (fun hc => ?_) (fun hc => ?_)
              · rw [if_neg hc] at hw
                refine lv_iload_n hx hb dX6_judge_89 rfl (lv_at hl 2 rfl) ?_
                exact r_iret X h hw dX6_judge_90
              · rw [if_pos hc] at hw
                obtain ⟨x2_83, ex2_83, hw⟩ := hw
                refine lv_iinc (v := x2_83) (lv' := [(2, .int x2_83), (0, .ref (ga G 0)), (1, .int a1)]) hx hb dX6_judge_83 hl (k := 2) rfl (by rw [ex2_83]; rfl) (by decide) rfl (fun ls hl => ?_)
                refine lv_goto (tgt := 32) hx hb dX6_judge_86 (by decide) ?_
                exact ih32 x2_83 μ77 _ _ _ h (lv_sub hl [1, 2, 0] rfl) hw
      obtain ⟨n, hw⟩ := hw
      exact s32 n (0 : Int32) μ18 _ _ _ h (lv_sub hl [1, 2, 0] rfl) hw
    · rw [if_neg hc] at hw
      refine lv_aload_n hx hb dX6_judge_24 rfl (lv_at hl 0 rfl) ?_
      refine lv_iconst (v := (2 : Int32)) hx hb dX6_judge_25 (by decide) ?_
      refine k_i h (n_V (rest := []) (As := [.int (2 : Int32)]) X h hl.1 (c_X6_error l G hG (2 : Int32) h0 _ _ hw) gk_X6_72 rfl hd_X6_error ⟨rfl, rfl⟩ ⟨Nat.le_of_ble_eq_true rfl, Nat.le_of_ble_eq_true rfl⟩ (X6_o h0) rfl rfl (Nat.le_of_ble_eq_true rfl) dX6_judge_26 ⟨Nat.zero_le _, Nat.zero_le _⟩) (fun r26 μ26 H locs hw h => ?_)
      exact r_iret X h hw dX6_judge_29
  · rw [if_pos hc] at hw
    refine lv_aload_n hx hb dX6_judge_7 rfl (lv_at hl 0 rfl) ?_
    refine lv_iconst (v := (1 : Int32)) hx hb dX6_judge_8 (by decide) ?_
    refine k_i h (n_V (rest := []) (As := [.int (1 : Int32)]) X h hl.1 (c_X6_error l G hG (1 : Int32) h0 _ _ hw) gk_X6_72 rfl hd_X6_error ⟨rfl, rfl⟩ ⟨Nat.le_of_ble_eq_true rfl, Nat.le_of_ble_eq_true rfl⟩ (X6_o h0) rfl rfl (Nat.le_of_ble_eq_true rfl) dX6_judge_9 ⟨Nat.zero_le _, Nat.zero_le _⟩) (fun r9 μ9 H locs hw h => ?_)
    exact r_iret X h hw dX6_judge_12
def wp_X6_image (Q : Int32 → vM → Prop) (μ : vM) : Prop := wp_X5_copy 20 1 (fun μ8 => ∃ μ18 : vM, μ18 = st μ8 0 2 ((μ8 0 2) + (1 : Int32)) ∧ Q (μ18 0 2) μ18) μ
set_option maxRecDepth 100000 in
set_option maxHeartbeats 4000000 in
theorem c_X6_image (l : Launch) (G : vG) (hG : gO G)  (h0 : isX6 G) (Q : Int32 → vM → Prop) (μ : vM) (hw : wp_X6_image Q μ) : mt l G yX6_image vX6_image { frames := 3, cells := 0, slots := 0, locals := 103 } [.ref (ga G 0)] μ (qI G Q) := by
  refine met_of (cc := cX6_image) (maxL := 1) (ret := (some .int)) RX6 (by decide) rfl rfl hG (Nat.le_of_ble_eq_true rfl) ?_
  intro p e s m below meth c X h ls hl
  have hl : lv_has ls 1 [(0, .ref (ga G 0))] := hl
  have hx := X.1
  have hb := X.2.1
  unfold wp_X6_image at hw
  refine lv_aload_n hx hb dX6_image_0 rfl (lv_at hl 0 rfl) ?_
  refine r_getR (q := 20) X h (X6_o h0) rfl uX6 1 (by decide) lf_1_226 rfl dX6_image_1 ?_
  refine lv_aload_n hx hb dX6_image_4 rfl (lv_at hl 0 rfl) ?_
  refine r_getR (q := 1) X h (X6_o h0) rfl uX6 0 (by decide) lf_1_225 rfl dX6_image_5 ?_
  refine k_v h (n_V (rest := []) (As := [.ref (ga G 1)]) X h hl.1 (c_X5_copy l G hG 20 1 (X6_kept h0) (X6_now h0) _ _ hw) gk_X6_275 rfl hd_X5_copy ⟨rfl, rfl⟩ ⟨Nat.le_of_ble_eq_true rfl, Nat.le_of_ble_eq_true rfl⟩ (X5_o (X6_kept h0)) rfl rfl (Nat.le_of_ble_eq_true rfl) dX6_image_8 ⟨Nat.zero_le _, Nat.zero_le _⟩) (fun μ8 H locs hw h => ?_)
  refine lv_aload_n hx hb dX6_image_11 rfl (lv_at hl 0 rfl) ?_
  refine lv_dup hx hb dX6_image_12 rfl ?_
  refine r_getI X h (X6_o h0) rfl uX6 2 (by decide) lf_1_227 rfl dX6_image_13 ?_
  refine lv_iconst (v := (1 : Int32)) hx hb dX6_image_16 (by decide) ?_
  refine lv_iadd hx hb dX6_image_17 ?_
  obtain ⟨μ18, eμ18, hw⟩ := hw
  refine r_putI X h (X6_o h0) rfl uX6 tyX6 tyX6_ok nmX6 2 (by decide) lf_1_227 rfl rfl rfl  eμ18 dX6_image_18 (fun H locs h => ?_)
  refine lv_aload_n hx hb dX6_image_21 rfl (lv_at hl 0 rfl) ?_
  refine r_getI X h (X6_o h0) rfl uX6 2 (by decide) lf_1_227 rfl dX6_image_22 ?_
  exact r_iret X h hw dX6_image_25
def wp_X6_restore (Q : Int32 → vM → Prop) (μ : vM) : Prop := if (μ 0 2) = 0 then wp_X6_error (2 : Int32) (fun r9 μ9 => Q r9 μ9) μ else wp_X5_copy 1 20 (fun μ21 => Q (μ21 5 1) μ21) μ
set_option maxRecDepth 100000 in
set_option maxHeartbeats 4000000 in
theorem c_X6_restore (l : Launch) (G : vG) (hG : gO G)  (h0 : isX6 G) (Q : Int32 → vM → Prop) (μ : vM) (hw : wp_X6_restore Q μ) : mt l G yX6_restore vX6_restore { frames := 3, cells := 0, slots := 0, locals := 103 } [.ref (ga G 0)] μ (qI G Q) := by
  refine met_of (cc := cX6_restore) (maxL := 1) (ret := (some .int)) RX6 (by decide) rfl rfl hG (Nat.le_of_ble_eq_true rfl) ?_
  intro p e s m below meth c X h ls hl
  have hl : lv_has ls 1 [(0, .ref (ga G 0))] := hl
  have hx := X.1
  have hb := X.2.1
  unfold wp_X6_restore at hw
  refine lv_aload_n hx hb dX6_restore_0 rfl (lv_at hl 0 rfl) ?_
  refine r_getI X h (X6_o h0) rfl uX6 2 (by decide) lf_1_227 rfl dX6_restore_1 ?_
  refine lv_if_ne (tgt := 13) hx hb dX6_restore_4 (by decide) (fun hc => ?_) (fun hc => ?_)
  · rw [if_neg hc] at hw
    refine lv_aload_n hx hb dX6_restore_13 rfl (lv_at hl 0 rfl) ?_
    refine r_getR (q := 1) X h (X6_o h0) rfl uX6 0 (by decide) lf_1_225 rfl dX6_restore_14 ?_
    refine lv_aload_n hx hb dX6_restore_17 rfl (lv_at hl 0 rfl) ?_
    refine r_getR (q := 20) X h (X6_o h0) rfl uX6 1 (by decide) lf_1_226 rfl dX6_restore_18 ?_
    refine k_v h (n_V (rest := []) (As := [.ref (ga G 20)]) X h hl.1 (c_X5_copy l G hG 1 20 (X6_now h0) (X6_kept h0) _ _ hw) gk_X6_275 rfl hd_X5_copy ⟨rfl, rfl⟩ ⟨Nat.le_of_ble_eq_true rfl, Nat.le_of_ble_eq_true rfl⟩ (X5_o (X6_now h0)) rfl rfl (Nat.le_of_ble_eq_true rfl) dX6_restore_21 ⟨Nat.zero_le _, Nat.zero_le _⟩) (fun μ21 H locs hw h => ?_)
    refine lv_aload_n hx hb dX6_restore_24 rfl (lv_at hl 0 rfl) ?_
    refine r_getR (q := 1) X h (X6_o h0) rfl uX6 0 (by decide) lf_1_225 rfl dX6_restore_25 ?_
    refine r_getR (q := 5) X h (X5_o (X6_now h0)) rfl uX5 1 (by decide) fn_16 rfl dX6_restore_28 ?_
    refine r_getI X h (X0_o (X5_harvest (X6_now h0))) rfl uX0 1 (by decide) fn_2 rfl dX6_restore_31 ?_
    exact r_iret X h hw dX6_restore_34
  · rw [if_pos hc] at hw
    refine lv_aload_n hx hb dX6_restore_7 rfl (lv_at hl 0 rfl) ?_
    refine lv_iconst (v := (2 : Int32)) hx hb dX6_restore_8 (by decide) ?_
    refine k_i h (n_V (rest := []) (As := [.int (2 : Int32)]) X h hl.1 (c_X6_error l G hG (2 : Int32) h0 _ _ hw) gk_X6_72 rfl hd_X6_error ⟨rfl, rfl⟩ ⟨Nat.le_of_ble_eq_true rfl, Nat.le_of_ble_eq_true rfl⟩ (X6_o h0) rfl rfl (Nat.le_of_ble_eq_true rfl) dX6_restore_9 ⟨Nat.zero_le _, Nat.zero_le _⟩) (fun r9 μ9 H locs hw h => ?_)
    exact r_iret X h hw dX6_restore_12
def wp_X6_tell (a1 : Int32) (Q : Int32 → vM → Prop) (μ : vM) : Prop := if (μ 1 7) < (24 : Int32) then vp_in (μ 1 7) 24 ∧ ∃ μ33 : vM, μ33 = st μ 19 (μ 1 7).toNatClampNeg a1 ∧ ∃ μ44 : vM, μ44 = st μ33 1 7 ((μ33 1 7) + (1 : Int32)) ∧ Q (μ44 1 7) μ44 else wp_X6_error (4 : Int32) (fun r14 μ14 => Q r14 μ14) μ
set_option maxRecDepth 100000 in
set_option maxHeartbeats 4000000 in
theorem c_X6_tell (l : Launch) (G : vG) (hG : gO G) (a1 : Int32) (h0 : isX6 G) (Q : Int32 → vM → Prop) (μ : vM) (hw : wp_X6_tell a1 Q μ) : mt l G yX6_tell vX6_tell { frames := 1, cells := 0, slots := 0, locals := 21 } [.ref (ga G 0), .int a1] μ (qI G Q) := by
  refine met_of (cc := cX6_tell) (maxL := 2) (ret := (some .int)) RX6 (by decide) rfl rfl hG (Nat.le_of_ble_eq_true rfl) ?_
  intro p e s m below meth c X h ls hl
  have hl : lv_has ls 2 [(0, .ref (ga G 0)), (1, .int a1)] := hl
  have hx := X.1
  have hb := X.2.1
  unfold wp_X6_tell at hw
  refine lv_aload_n hx hb dX6_tell_0 rfl (lv_at hl 0 rfl) ?_
  refine r_getR (q := 1) X h (X6_o h0) rfl uX6 0 (by decide) lf_1_225 rfl dX6_tell_1 ?_
  refine r_getI X h (X5_o (X6_now h0)) rfl uX5 7 (by decide) fn_22 rfl dX6_tell_4 ?_
  refine lv_bipush (v := (24 : Int32)) hx hb dX6_tell_7 (by decide) ?_
  refine lv_icmp_lt (tgt := 18) hx hb dX6_tell_9 (by decide) (fun hc => ?_) (fun hc => ?_)
  · rw [if_pos hc] at hw
    refine lv_aload_n hx hb dX6_tell_18 rfl (lv_at hl 0 rfl) ?_
    refine r_getR (q := 1) X h (X6_o h0) rfl uX6 0 (by decide) lf_1_225 rfl dX6_tell_19 ?_
    refine r_getR (q := 19) X h (X5_o (X6_now h0)) rfl uX5 6 (by decide) fn_21 rfl dX6_tell_22 ?_
    refine lv_aload_n hx hb dX6_tell_25 rfl (lv_at hl 0 rfl) ?_
    refine r_getR (q := 1) X h (X6_o h0) rfl uX6 0 (by decide) lf_1_225 rfl dX6_tell_26 ?_
    refine r_getI X h (X5_o (X6_now h0)) rfl uX5 7 (by decide) fn_22 rfl dX6_tell_29 ?_
    refine lv_iload_n hx hb dX6_tell_32 rfl (lv_at hl 1 rfl) ?_
    obtain ⟨hi, μ33, eμ33, hw⟩ := hw
    refine r_ast X h (X5_waiting (X6_now h0)) hi eμ33 dX6_tell_33 (fun H locs h => ?_)
    refine lv_aload_n hx hb dX6_tell_34 rfl (lv_at hl 0 rfl) ?_
    refine r_getR (q := 1) X h (X6_o h0) rfl uX6 0 (by decide) lf_1_225 rfl dX6_tell_35 ?_
    refine lv_dup hx hb dX6_tell_38 rfl ?_
    refine r_getI X h (X5_o (X6_now h0)) rfl uX5 7 (by decide) fn_22 rfl dX6_tell_39 ?_
    refine lv_iconst (v := (1 : Int32)) hx hb dX6_tell_42 (by decide) ?_
    refine lv_iadd hx hb dX6_tell_43 ?_
    obtain ⟨μ44, eμ44, hw⟩ := hw
    refine r_putI X h (X5_o (X6_now h0)) rfl uX5 tyX5 tyX5_ok nmX5 7 (by decide) fn_22 rfl rfl rfl  eμ44 dX6_tell_44 (fun H locs h => ?_)
    refine lv_aload_n hx hb dX6_tell_47 rfl (lv_at hl 0 rfl) ?_
    refine r_getR (q := 1) X h (X6_o h0) rfl uX6 0 (by decide) lf_1_225 rfl dX6_tell_48 ?_
    refine r_getI X h (X5_o (X6_now h0)) rfl uX5 7 (by decide) fn_22 rfl dX6_tell_51 ?_
    exact r_iret X h hw dX6_tell_54
  · rw [if_neg hc] at hw
    refine lv_aload_n hx hb dX6_tell_12 rfl (lv_at hl 0 rfl) ?_
    refine lv_iconst (v := (4 : Int32)) hx hb dX6_tell_13 (by decide) ?_
    refine k_i h (n_V (rest := []) (As := [.int (4 : Int32)]) X h hl.1 (c_X6_error l G hG (4 : Int32) h0 _ _ hw) gk_X6_72 rfl hd_X6_error ⟨rfl, rfl⟩ ⟨Nat.le_of_ble_eq_true rfl, Nat.le_of_ble_eq_true rfl⟩ (X6_o h0) rfl rfl (Nat.le_of_ble_eq_true rfl) dX6_tell_14 ⟨Nat.zero_le _, Nat.zero_le _⟩) (fun r14 μ14 H locs hw h => ?_)
    exact r_iret X h hw dX6_tell_17
def wp_X6_check_18 (Q : Int32 → vM → Prop) : Nat → Int32 → Int32 → vM → Prop
  | 0, _, _, _ => False
  | n18 + 1, x1, x2, μ => if x1 ≤ x2 then Q (0 : Int32) μ else wp_X6_isBit x2 (fun r25 μ25 => if r25 = 0 then Q ((1 : Int32) + x2) μ25 else vp_in x2 8 ∧ vp_in x2 24 ∧ if (μ25 9 x2.toNatClampNeg) = (μ25 19 x2.toNatClampNeg) then ∃ x2_59 : Int32, x2_59 = x2 + (1 : Int32) ∧ wp_X6_check_18 Q n18 x1 x2_59 μ25 else Q ((1 : Int32) + x2) μ25) μ
def wp_X6_check (Q : Int32 → vM → Prop) (μ : vM) : Prop := ∃ x1_7 : Int32, x1_7 = μ 1 7 ∧ ∃ μ13 : vM, μ13 = st μ 1 7 (0 : Int32) ∧ ∃ n18, wp_X6_check_18 Q n18 x1_7 (0 : Int32) μ13
set_option maxRecDepth 100000 in
set_option maxHeartbeats 4000000 in
theorem c_X6_check (l : Launch) (G : vG) (hG : gO G)  (h0 : isX6 G) (Q : Int32 → vM → Prop) (μ : vM) (hw : wp_X6_check Q μ) : mt l G yX6_check vX6_check { frames := 1, cells := 0, slots := 0, locals := 21 } [.ref (ga G 0)] μ (qI G Q) := by
  refine met_of (cc := cX6_check) (maxL := 3) (ret := (some .int)) RX6 (by decide) rfl rfl hG (Nat.le_of_ble_eq_true rfl) ?_
  intro p e s m below meth c X h ls hl
  have hl : lv_has ls 3 [(0, .ref (ga G 0))] := hl
  have hx := X.1
  have hb := X.2.1
  unfold wp_X6_check at hw
  refine lv_aload_n hx hb dX6_check_0 rfl (lv_at hl 0 rfl) ?_
  refine r_getR (q := 1) X h (X6_o h0) rfl uX6 0 (by decide) lf_1_225 rfl dX6_check_1 ?_
  refine r_getI X h (X5_o (X6_now h0)) rfl uX5 7 (by decide) fn_22 rfl dX6_check_4 ?_
  obtain ⟨x1_7, ex1_7, hw⟩ := hw
  refine topE ex1_7 ?_
  refine lv_istore_n (lv' := [(1, .int x1_7), (0, .ref (ga G 0))]) hx hb dX6_check_7 rfl hl (by decide) rfl (fun ls hl => ?_)
  refine lv_aload_n hx hb dX6_check_8 rfl (lv_at hl 1 rfl) ?_
  refine r_getR (q := 1) X h (X6_o h0) rfl uX6 0 (by decide) lf_1_225 rfl dX6_check_9 ?_
  refine lv_iconst (v := (0 : Int32)) hx hb dX6_check_12 (by decide) ?_
  obtain ⟨μ13, eμ13, hw⟩ := hw
  refine r_putI X h (X5_o (X6_now h0)) rfl uX5 tyX5 tyX5_ok nmX5 7 (by decide) fn_22 rfl rfl rfl  eμ13 dX6_check_13 (fun H locs h => ?_)
  refine lv_iconst (v := (0 : Int32)) hx hb dX6_check_16 (by decide) ?_
  refine lv_istore_n (lv' := [(2, .int (0 : Int32)), (1, .int x1_7), (0, .ref (ga G 0))]) hx hb dX6_check_17 rfl hl (by decide) rfl (fun ls hl => ?_)
  have s18 : ∀ (n18 : Nat) (x1 : Int32) (x2 : Int32) (μ : vM), ∀ (H : Heap) (locs : List Loc) (ls : Array Slot), bw G s μ H locs → lv_has ls 3 [(0, .ref (ga G 0)), (1, .int x1), (2, .int x2)] → wp_X6_check_18 Q n18 x1 x2 μ → W p l e ({ frames := 1, cells := 0, slots := 0, locals := 21 } : Room) s m ([.ref (ga G 0)] : List Value).toArray below meth c H locs 0 0 (MQ below (qI G Q) ([.ref (ga G 0)] : List Value).toArray s 0 0 (gA G)) (F0 m 18 ls []) := by
    intro n18
    induction n18 with
    | zero => intro x1 x2 μ H locs ls h hl hw; exact absurd hw (by unfold wp_X6_check_18; exact id)
    | succ n18 ih18 =>
      intro x1 x2 μ H locs ls h hl hw
      unfold wp_X6_check_18 at hw
      refine lv_iload_n hx hb dX6_check_18 rfl (lv_at hl 2 rfl) ?_
      refine lv_iload_n hx hb dX6_check_19 rfl (lv_at hl 1 rfl) ?_
      refine lv_icmp_ge (tgt := 65) hx hb dX6_check_20 (by decide) (fun hc => ?_) (fun hc => ?_)
      · rw [if_pos hc] at hw
        refine lv_iconst (v := (0 : Int32)) hx hb dX6_check_65 (by decide) ?_
        exact r_iret X h hw dX6_check_66
      · rw [if_neg hc] at hw
        refine lv_aload_n hx hb dX6_check_23 rfl (lv_at hl 0 rfl) ?_
        refine lv_iload_n hx hb dX6_check_24 rfl (lv_at hl 2 rfl) ?_
        refine k_i h (n_V (rest := []) (As := [.int x2]) X h hl.1 (c_X6_isBit l G hG x2 h0 _ _ hw) gk_X6_116 rfl hd_X6_isBit ⟨rfl, rfl⟩ ⟨Nat.le_of_ble_eq_true rfl, Nat.le_of_ble_eq_true rfl⟩ (X6_o h0) rfl rfl (Nat.le_of_ble_eq_true rfl) dX6_check_25 ⟨Nat.zero_le _, Nat.zero_le _⟩) (fun r25 μ25 H locs hw h => ?_)
        refine lv_if_eq (tgt := 55) hx hb dX6_check_28 (by decide) (fun hc => ?_) (fun hc => ?_)
        · rw [if_pos hc] at hw
          refine lv_iconst (v := (1 : Int32)) hx hb dX6_check_55 (by decide) ?_
          refine lv_iload_n hx hb dX6_check_56 rfl (lv_at hl 2 rfl) ?_
          refine lv_iadd hx hb dX6_check_57 ?_
          exact r_iret X h hw dX6_check_58
        · rw [if_neg hc] at hw
          refine lv_aload_n hx hb dX6_check_31 rfl (lv_at hl 0 rfl) ?_
          refine r_getR (q := 1) X h (X6_o h0) rfl uX6 0 (by decide) lf_1_225 rfl dX6_check_32 ?_
          refine r_getR (q := 5) X h (X5_o (X6_now h0)) rfl uX5 1 (by decide) fn_16 rfl dX6_check_35 ?_
          refine r_getR (q := 9) X h (X0_o (X5_harvest (X6_now h0))) rfl uX0 5 (by decide) fn_7 rfl dX6_check_38 ?_
          refine lv_iload_n hx hb dX6_check_41 rfl (lv_at hl 2 rfl) ?_
          obtain ⟨hi, hw⟩ := hw
          refine r_ald X h (X0_at (X5_harvest (X6_now h0))) hi dX6_check_42 ?_
          refine lv_aload_n hx hb dX6_check_43 rfl (lv_at hl 0 rfl) ?_
          refine r_getR (q := 1) X h (X6_o h0) rfl uX6 0 (by decide) lf_1_225 rfl dX6_check_44 ?_
          refine r_getR (q := 19) X h (X5_o (X6_now h0)) rfl uX5 6 (by decide) fn_21 rfl dX6_check_47 ?_
          refine lv_iload_n hx hb dX6_check_50 rfl (lv_at hl 2 rfl) ?_
          obtain ⟨hi, hw⟩ := hw
          refine r_ald X h (X5_waiting (X6_now h0)) hi dX6_check_51 ?_
          refine lv_icmp_eq (tgt := 59) hx hb dX6_check_52 (by decide) (fun hc => ?_) (fun hc => ?_)
          · rw [if_pos hc] at hw
            obtain ⟨x2_59, ex2_59, hw⟩ := hw
            refine lv_iinc (v := x2_59) (lv' := [(2, .int x2_59), (0, .ref (ga G 0)), (1, .int x1)]) hx hb dX6_check_59 hl (k := 2) rfl (by rw [ex2_59]; rfl) (by decide) rfl (fun ls hl => ?_)
            refine lv_goto (tgt := 18) hx hb dX6_check_62 (by decide) ?_
            exact ih18 x1 x2_59 μ25 _ _ _ h (lv_sub hl [1, 2, 0] rfl) hw
          · rw [if_neg hc] at hw
            refine lv_iconst (v := (1 : Int32)) hx hb dX6_check_55 (by decide) ?_
            refine lv_iload_n hx hb dX6_check_56 rfl (lv_at hl 2 rfl) ?_
            refine lv_iadd hx hb dX6_check_57 ?_
            exact r_iret X h hw dX6_check_58
  obtain ⟨n, hw⟩ := hw
  exact s18 n x1_7 (0 : Int32) μ13 _ _ _ h (lv_sub hl [2, 1, 0] rfl) hw
def wp_X6_count (a1 : Int32) (Q : Int32 → vM → Prop) (μ : vM) : Prop := if a1 = (0 : Int32) then Q (μ 5 0) μ else if a1 = (1 : Int32) then Q (μ 5 1) μ else if a1 = (2 : Int32) then wp_X0_homeSet 5 (fun r73 μ73 => Q r73 μ73) μ else if a1 = (3 : Int32) then Q (μ 1 5) μ else if a1 = (4 : Int32) then Q (μ 1 7) μ else if a1 = (5 : Int32) then Q (μ 0 10) μ else if a1 = (6 : Int32) then Q (μ 1 8) μ else wp_X6_error (1 : Int32) (fun r108 μ108 => Q r108 μ108) μ
set_option maxRecDepth 100000 in
set_option maxHeartbeats 4000000 in
theorem c_X6_count (l : Launch) (G : vG) (hG : gO G) (a1 : Int32) (h0 : isX6 G) (Q : Int32 → vM → Prop) (μ : vM) (hw : wp_X6_count a1 Q μ) : mt l G yX6_count vX6_count { frames := 3, cells := 0, slots := 0, locals := 64 } [.ref (ga G 0), .int a1] μ (qI G Q) := by
  refine met_of (cc := cX6_count) (maxL := 2) (ret := (some .int)) RX6 (by decide) rfl rfl hG (Nat.le_of_ble_eq_true rfl) ?_
  intro p e s m below meth c X h ls hl
  have hl : lv_has ls 2 [(0, .ref (ga G 0)), (1, .int a1)] := hl
  have hx := X.1
  have hb := X.2.1
  unfold wp_X6_count at hw
  refine lv_iload_n hx hb dX6_count_0 rfl (lv_at hl 1 rfl) ?_
  by_cases hc0 : a1 = (0 : Int32)
  · rw [if_pos hc0] at hw
    refine lv_tableIn (off := 43) (tgt := 44) hx hb dX6_count_1 (by rw [hc0]; decide) (by rw [hc0]; decide) (by rw [hc0]; rfl) (by decide) ?_
    refine lv_aload_n hx hb dX6_count_44 rfl (lv_at hl 0 rfl) ?_
    refine r_getR (q := 1) X h (X6_o h0) rfl uX6 0 (by decide) lf_1_225 rfl dX6_count_45 ?_
    refine r_getR (q := 5) X h (X5_o (X6_now h0)) rfl uX5 1 (by decide) fn_16 rfl dX6_count_48 ?_
    refine r_getI X h (X0_o (X5_harvest (X6_now h0))) rfl uX0 0 (by decide) fn_1 rfl dX6_count_51 ?_
    exact r_iret X h hw dX6_count_54
  · rw [if_neg hc0] at hw
    by_cases hc1 : a1 = (1 : Int32)
    · rw [if_pos hc1] at hw
      refine lv_tableIn (off := 54) (tgt := 55) hx hb dX6_count_1 (by rw [hc1]; decide) (by rw [hc1]; decide) (by rw [hc1]; rfl) (by decide) ?_
      refine lv_aload_n hx hb dX6_count_55 rfl (lv_at hl 0 rfl) ?_
      refine r_getR (q := 1) X h (X6_o h0) rfl uX6 0 (by decide) lf_1_225 rfl dX6_count_56 ?_
      refine r_getR (q := 5) X h (X5_o (X6_now h0)) rfl uX5 1 (by decide) fn_16 rfl dX6_count_59 ?_
      refine r_getI X h (X0_o (X5_harvest (X6_now h0))) rfl uX0 1 (by decide) fn_2 rfl dX6_count_62 ?_
      exact r_iret X h hw dX6_count_65
    · rw [if_neg hc1] at hw
      by_cases hc2 : a1 = (2 : Int32)
      · rw [if_pos hc2] at hw
        refine lv_tableIn (off := 65) (tgt := 66) hx hb dX6_count_1 (by rw [hc2]; decide) (by rw [hc2]; decide) (by rw [hc2]; rfl) (by decide) ?_
        refine lv_aload_n hx hb dX6_count_66 rfl (lv_at hl 0 rfl) ?_
        refine r_getR (q := 1) X h (X6_o h0) rfl uX6 0 (by decide) lf_1_225 rfl dX6_count_67 ?_
        refine r_getR (q := 5) X h (X5_o (X6_now h0)) rfl uX5 1 (by decide) fn_16 rfl dX6_count_70 ?_
        refine k_i h (n_V (rest := []) (As := []) X h hl.1 (c_X0_homeSet l G hG 5 (X5_harvest (X6_now h0)) _ _ hw) gk_X6_194 rfl hd_X0_homeSet ⟨rfl, rfl⟩ ⟨Nat.le_of_ble_eq_true rfl, Nat.le_of_ble_eq_true rfl⟩ (X0_o (X5_harvest (X6_now h0))) rfl rfl (Nat.le_of_ble_eq_true rfl) dX6_count_73 ⟨Nat.zero_le _, Nat.zero_le _⟩) (fun r73 μ73 H locs hw h => ?_)
        exact r_iret X h hw dX6_count_76
      · rw [if_neg hc2] at hw
        by_cases hc3 : a1 = (3 : Int32)
        · rw [if_pos hc3] at hw
          refine lv_tableIn (off := 76) (tgt := 77) hx hb dX6_count_1 (by rw [hc3]; decide) (by rw [hc3]; decide) (by rw [hc3]; rfl) (by decide) ?_
          refine lv_aload_n hx hb dX6_count_77 rfl (lv_at hl 0 rfl) ?_
          refine r_getR (q := 1) X h (X6_o h0) rfl uX6 0 (by decide) lf_1_225 rfl dX6_count_78 ?_
          refine r_getI X h (X5_o (X6_now h0)) rfl uX5 5 (by decide) fn_20 rfl dX6_count_81 ?_
          exact r_iret X h hw dX6_count_84
        · rw [if_neg hc3] at hw
          by_cases hc4 : a1 = (4 : Int32)
          · rw [if_pos hc4] at hw
            refine lv_tableIn (off := 84) (tgt := 85) hx hb dX6_count_1 (by rw [hc4]; decide) (by rw [hc4]; decide) (by rw [hc4]; rfl) (by decide) ?_
            refine lv_aload_n hx hb dX6_count_85 rfl (lv_at hl 0 rfl) ?_
            refine r_getR (q := 1) X h (X6_o h0) rfl uX6 0 (by decide) lf_1_225 rfl dX6_count_86 ?_
            refine r_getI X h (X5_o (X6_now h0)) rfl uX5 7 (by decide) fn_22 rfl dX6_count_89 ?_
            exact r_iret X h hw dX6_count_92
          · rw [if_neg hc4] at hw
            by_cases hc5 : a1 = (5 : Int32)
            · rw [if_pos hc5] at hw
              refine lv_tableIn (off := 92) (tgt := 93) hx hb dX6_count_1 (by rw [hc5]; decide) (by rw [hc5]; decide) (by rw [hc5]; rfl) (by decide) ?_
              refine lv_aload_n hx hb dX6_count_93 rfl (lv_at hl 0 rfl) ?_
              refine r_getI X h (X6_o h0) rfl uX6 10 (by decide) lf_1_235 rfl dX6_count_94 ?_
              exact r_iret X h hw dX6_count_97
            · rw [if_neg hc5] at hw
              by_cases hc6 : a1 = (6 : Int32)
              · rw [if_pos hc6] at hw
                refine lv_tableIn (off := 97) (tgt := 98) hx hb dX6_count_1 (by rw [hc6]; decide) (by rw [hc6]; decide) (by rw [hc6]; rfl) (by decide) ?_
                refine lv_aload_n hx hb dX6_count_98 rfl (lv_at hl 0 rfl) ?_
                refine r_getR (q := 1) X h (X6_o h0) rfl uX6 0 (by decide) lf_1_225 rfl dX6_count_99 ?_
                refine r_getI X h (X5_o (X6_now h0)) rfl uX5 8 (by decide) fn_23 rfl dX6_count_102 ?_
                exact r_iret X h hw dX6_count_105
              · rw [if_neg hc6] at hw
                refine lv_tableOut (tgt := 106) hx hb dX6_count_1 (by have q0 := lv_neT hc0 (a := 0) (by decide); have q1 := lv_neT hc1 (a := 1) (by decide); have q2 := lv_neT hc2 (a := 2) (by decide); have q3 := lv_neT hc3 (a := 3) (by decide); have q4 := lv_neT hc4 (a := 4) (by decide); have q5 := lv_neT hc5 (a := 5) (by decide); have q6 := lv_neT hc6 (a := 6) (by decide); omega) (by decide) ?_
                refine lv_aload_n hx hb dX6_count_106 rfl (lv_at hl 0 rfl) ?_
                refine lv_iconst (v := (1 : Int32)) hx hb dX6_count_107 (by decide) ?_
                refine k_i h (n_V (rest := []) (As := [.int (1 : Int32)]) X h hl.1 (c_X6_error l G hG (1 : Int32) h0 _ _ hw) gk_X6_72 rfl hd_X6_error ⟨rfl, rfl⟩ ⟨Nat.le_of_ble_eq_true rfl, Nat.le_of_ble_eq_true rfl⟩ (X6_o h0) rfl rfl (Nat.le_of_ble_eq_true rfl) dX6_count_108 ⟨Nat.zero_le _, Nat.zero_le _⟩) (fun r108 μ108 H locs hw h => ?_)
                exact r_iret X h hw dX6_count_111
def wp_X6_told (a1 : Int32) (Q : Int32 → vM → Prop) (μ : vM) : Prop := if a1 < (1 : Int32) then wp_X6_error (1 : Int32) (fun r13 μ13 => Q r13 μ13) μ else if a1 ≤ (6 : Int32) then vp_in a1 7 ∧ Q (μ 57 a1.toNatClampNeg) μ else wp_X6_error (1 : Int32) (fun r13 μ13 => Q r13 μ13) μ
set_option maxRecDepth 100000 in
set_option maxHeartbeats 4000000 in
theorem c_X6_told (l : Launch) (G : vG) (hG : gO G) (a1 : Int32) (h0 : isX6 G) (Q : Int32 → vM → Prop) (μ : vM) (hw : wp_X6_told a1 Q μ) : mt l G yX6_told vX6_told { frames := 1, cells := 0, slots := 0, locals := 21 } [.ref (ga G 0), .int a1] μ (qI G Q) := by
  refine met_of (cc := cX6_told) (maxL := 2) (ret := (some .int)) RX6 (by decide) rfl rfl hG (Nat.le_of_ble_eq_true rfl) ?_
  intro p e s m below meth c X h ls hl
  have hl : lv_has ls 2 [(0, .ref (ga G 0)), (1, .int a1)] := hl
  have hx := X.1
  have hb := X.2.1
  unfold wp_X6_told at hw
  refine lv_iload_n hx hb dX6_told_0 rfl (lv_at hl 1 rfl) ?_
  refine lv_iconst (v := (1 : Int32)) hx hb dX6_told_1 (by decide) ?_
  refine lv_icmp_lt (tgt := 11) hx hb dX6_told_2 (by decide) (fun hc => ?_) (fun hc => ?_)
  · rw [if_pos hc] at hw
    refine lv_aload_n hx hb dX6_told_11 rfl (lv_at hl 0 rfl) ?_
    refine lv_iconst (v := (1 : Int32)) hx hb dX6_told_12 (by decide) ?_
    refine k_i h (n_V (rest := []) (As := [.int (1 : Int32)]) X h hl.1 (c_X6_error l G hG (1 : Int32) h0 _ _ hw) gk_X6_72 rfl hd_X6_error ⟨rfl, rfl⟩ ⟨Nat.le_of_ble_eq_true rfl, Nat.le_of_ble_eq_true rfl⟩ (X6_o h0) rfl rfl (Nat.le_of_ble_eq_true rfl) dX6_told_13 ⟨Nat.zero_le _, Nat.zero_le _⟩) (fun r13 μ13 H locs hw h => ?_)
    exact r_iret X h hw dX6_told_16
  · rw [if_neg hc] at hw
    refine lv_iload_n hx hb dX6_told_5 rfl (lv_at hl 1 rfl) ?_
    refine lv_bipush (v := (6 : Int32)) hx hb dX6_told_6 (by decide) ?_
    refine lv_icmp_le (tgt := 17) hx hb dX6_told_8 (by decide) (fun hc => ?_) (fun hc => ?_)
    · rw [if_pos hc] at hw
      refine lv_aload_n hx hb dX6_told_17 rfl (lv_at hl 0 rfl) ?_
      refine r_getR (q := 57) X h (X6_o h0) rfl uX6 8 (by decide) lf_1_233 rfl dX6_told_18 ?_
      refine lv_iload_n hx hb dX6_told_21 rfl (lv_at hl 1 rfl) ?_
      obtain ⟨hi, hw⟩ := hw
      refine r_ald X h (X6_errors h0) hi dX6_told_22 ?_
      exact r_iret X h hw dX6_told_23
    · rw [if_neg hc] at hw
      refine lv_aload_n hx hb dX6_told_11 rfl (lv_at hl 0 rfl) ?_
      refine lv_iconst (v := (1 : Int32)) hx hb dX6_told_12 (by decide) ?_
      refine k_i h (n_V (rest := []) (As := [.int (1 : Int32)]) X h hl.1 (c_X6_error l G hG (1 : Int32) h0 _ _ hw) gk_X6_72 rfl hd_X6_error ⟨rfl, rfl⟩ ⟨Nat.le_of_ble_eq_true rfl, Nat.le_of_ble_eq_true rfl⟩ (X6_o h0) rfl rfl (Nat.le_of_ble_eq_true rfl) dX6_told_13 ⟨Nat.zero_le _, Nat.zero_le _⟩) (fun r13 μ13 H locs hw h => ?_)
      exact r_iret X h hw dX6_told_16
