def wp_X7_bit (a1 : Int32) (a2 : Int32) (a3 : Int32) (Q : Int32 → vM → Prop) (μ : vM) : Prop := wp_X7_isKm a1 (fun r1 μ1 => if r1 = 0 then wp_X7_error (-1000000001 : Int32) (fun r24 μ24 => Q r24 μ24) μ1 else wp_X7_isField a2 (fun r8 μ8 => if r8 = 0 then wp_X7_error (-1000000001 : Int32) (fun r24 μ24 => Q r24 μ24) μ8 else wp_X7_isPlace a3 (fun r15 μ15 => if r15 = 0 then wp_X7_error (-1000000001 : Int32) (fun r24 μ24 => Q r24 μ24) μ15 else vp_in (2 : Int32) 385 ∧ ∃ x4_34 : Int32, x4_34 = μ15 1 (2 : Int32).toNatClampNeg ∧ if x4_34 = (8 : Int32) then wp_X7_error (-1000000004 : Int32) (fun r46 μ46 => Q r46 μ46) μ15 else vp_in (2 : Int32) 385 ∧ vp_in (2 : Int32) 385 ∧ ∃ μ59 : vM, μ59 = st μ15 1 (2 : Int32).toNatClampNeg ((μ15 1 (2 : Int32).toNatClampNeg) + (1 : Int32)) ∧ wp_X7_lets x4_34 (0 : Int32) (a1 / (10 : Int32)) (fun μ68 => wp_X7_lets x4_34 (1 : Int32) (a1 % (10 : Int32)) (fun μ79 => wp_X7_lets x4_34 (2 : Int32) a2 (fun μ87 => wp_X7_lets x4_34 (3 : Int32) a3 (fun μ95 => wp_X7_lets x4_34 (4 : Int32) (0 : Int32) (fun μ103 => Q x4_34 μ103) μ95) μ87) μ79) μ68) μ59) μ8) μ1) μ
set_option maxRecDepth 100000 in
set_option maxHeartbeats 4000000 in
theorem c_X7_bit (l : Launch) (G : vG) (hG : gO G) (a1 : Int32) (a2 : Int32) (a3 : Int32) (h0 : isX7 G) (Q : Int32 → vM → Prop) (μ : vM) (hw : wp_X7_bit a1 a2 a3 Q μ) : mt l G yX7_bit vX7_bit { frames := 2, cells := 0, slots := 0, locals := 42 } [.ref (ga G 0), .int a1, .int a2, .int a3] μ (qI G Q) := by
  refine met_of (cc := cX7_bit) (maxL := 5) (ret := (some .int)) RX7 (by decide) rfl rfl hG (Nat.le_of_ble_eq_true rfl) ?_
  intro p e s m below meth c X h ls hl
  have hl : lv_has ls 5 [(0, .ref (ga G 0)), (1, .int a1), (2, .int a2), (3, .int a3)] := hl
  have hx := X.1
  have hb := X.2.1
  unfold wp_X7_bit at hw
  refine lv_iload_n hx hb dX7_bit_0 rfl (lv_at hl 1 rfl) ?_
  refine k_i h (n_T (rest := []) (As := [.int a1]) X h hl.1 (c_X7_isKm l G hG a1 _ _ hw) gk_X7_118 rfl hd_X7_isKm ⟨rfl, rfl⟩ ⟨Nat.le_of_ble_eq_true rfl, Nat.le_of_ble_eq_true rfl⟩ rfl (Nat.le_of_ble_eq_true rfl) dX7_bit_1 ⟨Nat.zero_le _, Nat.zero_le _⟩) (fun r1 μ1 H locs hw h => ?_)
  refine lv_if_eq (tgt := 21) hx hb dX7_bit_4 (by decide) (fun hc => ?_) (fun hc => ?_)
  · rw [if_pos hc] at hw
    refine lv_aload_n hx hb dX7_bit_21 rfl (lv_at hl 0 rfl) ?_
    refine r_ldc X (v := (-1000000001 : Int32)) ww_4_131 dX7_bit_22 ?_
    refine k_i h (n_V (rest := []) (As := [.int (-1000000001 : Int32)]) X h hl.1 (c_X7_error l G hG (-1000000001 : Int32) h0 _ _ hw) gk_X7_104 rfl hd_X7_error ⟨rfl, rfl⟩ ⟨Nat.le_of_ble_eq_true rfl, Nat.le_of_ble_eq_true rfl⟩ (X7_o h0) rfl rfl (Nat.le_of_ble_eq_true rfl) dX7_bit_24 ⟨Nat.zero_le _, Nat.zero_le _⟩) (fun r24 μ24 H locs hw h => ?_)
    exact r_iret X h hw dX7_bit_27
  · rw [if_neg hc] at hw
    refine lv_iload_n hx hb dX7_bit_7 rfl (lv_at hl 2 rfl) ?_
    refine k_i h (n_T (rest := []) (As := [.int a2]) X h hl.1 (c_X7_isField l G hG a2 _ _ hw) gk_X7_111 rfl hd_X7_isField ⟨rfl, rfl⟩ ⟨Nat.le_of_ble_eq_true rfl, Nat.le_of_ble_eq_true rfl⟩ rfl (Nat.le_of_ble_eq_true rfl) dX7_bit_8 ⟨Nat.zero_le _, Nat.zero_le _⟩) (fun r8 μ8 H locs hw h => ?_)
    refine lv_if_eq (tgt := 21) hx hb dX7_bit_11 (by decide) (fun hc => ?_) (fun hc => ?_)
    · rw [if_pos hc] at hw
      refine lv_aload_n hx hb dX7_bit_21 rfl (lv_at hl 0 rfl) ?_
      refine r_ldc X (v := (-1000000001 : Int32)) ww_4_131 dX7_bit_22 ?_
      refine k_i h (n_V (rest := []) (As := [.int (-1000000001 : Int32)]) X h hl.1 (c_X7_error l G hG (-1000000001 : Int32) h0 _ _ hw) gk_X7_104 rfl hd_X7_error ⟨rfl, rfl⟩ ⟨Nat.le_of_ble_eq_true rfl, Nat.le_of_ble_eq_true rfl⟩ (X7_o h0) rfl rfl (Nat.le_of_ble_eq_true rfl) dX7_bit_24 ⟨Nat.zero_le _, Nat.zero_le _⟩) (fun r24 μ24 H locs hw h => ?_)
      exact r_iret X h hw dX7_bit_27
    · rw [if_neg hc] at hw
      refine lv_iload_n hx hb dX7_bit_14 rfl (lv_at hl 3 rfl) ?_
      refine k_i h (n_T (rest := []) (As := [.int a3]) X h hl.1 (c_X7_isPlace l G hG a3 _ _ hw) gk_X7_100 rfl hd_X7_isPlace ⟨rfl, rfl⟩ ⟨Nat.le_of_ble_eq_true rfl, Nat.le_of_ble_eq_true rfl⟩ rfl (Nat.le_of_ble_eq_true rfl) dX7_bit_15 ⟨Nat.zero_le _, Nat.zero_le _⟩) (fun r15 μ15 H locs hw h => ?_)
      refine lv_if_ne (tgt := 28) hx hb dX7_bit_18 (by decide) (fun hc => ?_) (fun hc => ?_)
      · rw [if_neg hc] at hw
        refine lv_aload_n hx hb dX7_bit_28 rfl (lv_at hl 0 rfl) ?_
        refine r_getR (q := 1) X h (X7_o h0) rfl uX7 0 (by decide) lf_4_51 rfl dX7_bit_29 ?_
        refine lv_iconst (v := (2 : Int32)) hx hb dX7_bit_32 (by decide) ?_
        obtain ⟨hi, hw⟩ := hw
        refine r_ald X h (X7_row h0) hi dX7_bit_33 ?_
        obtain ⟨x4_34, ex4_34, hw⟩ := hw
        refine topE ex4_34 ?_
        refine lv_istore (lv' := [(4, .int x4_34), (0, .ref (ga G 0)), (1, .int a1), (2, .int a2), (3, .int a3)]) hx hb dX7_bit_34 hl (by decide) rfl (fun ls hl => ?_)
        refine lv_iload hx hb dX7_bit_36 (lv_at hl 0 rfl) ?_
        refine lv_bipush (v := (8 : Int32)) hx hb dX7_bit_38 (by decide) ?_
        refine lv_icmp_ne (tgt := 50) hx hb dX7_bit_40 (by decide) (fun hc => ?_) (fun hc => ?_)
        · rw [if_neg hc] at hw
          refine lv_aload_n hx hb dX7_bit_50 rfl (lv_at hl 1 rfl) ?_
          refine r_getR (q := 1) X h (X7_o h0) rfl uX7 0 (by decide) lf_4_51 rfl dX7_bit_51 ?_
          refine lv_iconst (v := (2 : Int32)) hx hb dX7_bit_54 (by decide) ?_
          refine lv_dup2_11 hx hb dX7_bit_55 rfl rfl ?_
          obtain ⟨hi, hw⟩ := hw
          refine r_ald X h (X7_row h0) hi dX7_bit_56 ?_
          refine lv_iconst (v := (1 : Int32)) hx hb dX7_bit_57 (by decide) ?_
          refine lv_iadd hx hb dX7_bit_58 ?_
          obtain ⟨hi, μ59, eμ59, hw⟩ := hw
          refine r_ast X h (X7_row h0) hi eμ59 dX7_bit_59 (fun H locs h => ?_)
          refine lv_aload_n hx hb dX7_bit_60 rfl (lv_at hl 1 rfl) ?_
          refine lv_iload hx hb dX7_bit_61 (lv_at hl 0 rfl) ?_
          refine lv_iconst (v := (0 : Int32)) hx hb dX7_bit_63 (by decide) ?_
          refine lv_iload_n hx hb dX7_bit_64 rfl (lv_at hl 2 rfl) ?_
          refine lv_bipush (v := (10 : Int32)) hx hb dX7_bit_65 (by decide) ?_
          refine lv_idiv hx hb dX7_bit_67 (by decide) ?_
          refine k_v h (n_V (rest := []) (As := [.int x4_34, .int (0 : Int32), .int (a1 / (10 : Int32))]) X h hl.1 (c_X7_lets l G hG x4_34 (0 : Int32) (a1 / (10 : Int32)) h0 _ _ hw) gk_X7_122 rfl hd_X7_lets ⟨rfl, rfl⟩ ⟨Nat.le_of_ble_eq_true rfl, Nat.le_of_ble_eq_true rfl⟩ (X7_o h0) rfl rfl (Nat.le_of_ble_eq_true rfl) dX7_bit_68 ⟨Nat.zero_le _, Nat.zero_le _⟩) (fun μ68 H locs hw h => ?_)
          refine lv_aload_n hx hb dX7_bit_71 rfl (lv_at hl 1 rfl) ?_
          refine lv_iload hx hb dX7_bit_72 (lv_at hl 0 rfl) ?_
          refine lv_iconst (v := (1 : Int32)) hx hb dX7_bit_74 (by decide) ?_
          refine lv_iload_n hx hb dX7_bit_75 rfl (lv_at hl 2 rfl) ?_
          refine lv_bipush (v := (10 : Int32)) hx hb dX7_bit_76 (by decide) ?_
          refine r_irem hx hb dX7_bit_78 (by decide) ?_
          refine k_v h (n_V (rest := []) (As := [.int x4_34, .int (1 : Int32), .int (a1 % (10 : Int32))]) X h hl.1 (c_X7_lets l G hG x4_34 (1 : Int32) (a1 % (10 : Int32)) h0 _ _ hw) gk_X7_122 rfl hd_X7_lets ⟨rfl, rfl⟩ ⟨Nat.le_of_ble_eq_true rfl, Nat.le_of_ble_eq_true rfl⟩ (X7_o h0) rfl rfl (Nat.le_of_ble_eq_true rfl) dX7_bit_79 ⟨Nat.zero_le _, Nat.zero_le _⟩) (fun μ79 H locs hw h => ?_)
          refine lv_aload_n hx hb dX7_bit_82 rfl (lv_at hl 1 rfl) ?_
          refine lv_iload hx hb dX7_bit_83 (lv_at hl 0 rfl) ?_
          refine lv_iconst (v := (2 : Int32)) hx hb dX7_bit_85 (by decide) ?_
          refine lv_iload_n hx hb dX7_bit_86 rfl (lv_at hl 3 rfl) ?_
          refine k_v h (n_V (rest := []) (As := [.int x4_34, .int (2 : Int32), .int a2]) X h hl.1 (c_X7_lets l G hG x4_34 (2 : Int32) a2 h0 _ _ hw) gk_X7_122 rfl hd_X7_lets ⟨rfl, rfl⟩ ⟨Nat.le_of_ble_eq_true rfl, Nat.le_of_ble_eq_true rfl⟩ (X7_o h0) rfl rfl (Nat.le_of_ble_eq_true rfl) dX7_bit_87 ⟨Nat.zero_le _, Nat.zero_le _⟩) (fun μ87 H locs hw h => ?_)
          refine lv_aload_n hx hb dX7_bit_90 rfl (lv_at hl 1 rfl) ?_
          refine lv_iload hx hb dX7_bit_91 (lv_at hl 0 rfl) ?_
          refine lv_iconst (v := (3 : Int32)) hx hb dX7_bit_93 (by decide) ?_
          refine lv_iload_n hx hb dX7_bit_94 rfl (lv_at hl 4 rfl) ?_
          refine k_v h (n_V (rest := []) (As := [.int x4_34, .int (3 : Int32), .int a3]) X h hl.1 (c_X7_lets l G hG x4_34 (3 : Int32) a3 h0 _ _ hw) gk_X7_122 rfl hd_X7_lets ⟨rfl, rfl⟩ ⟨Nat.le_of_ble_eq_true rfl, Nat.le_of_ble_eq_true rfl⟩ (X7_o h0) rfl rfl (Nat.le_of_ble_eq_true rfl) dX7_bit_95 ⟨Nat.zero_le _, Nat.zero_le _⟩) (fun μ95 H locs hw h => ?_)
          refine lv_aload_n hx hb dX7_bit_98 rfl (lv_at hl 1 rfl) ?_
          refine lv_iload hx hb dX7_bit_99 (lv_at hl 0 rfl) ?_
          refine lv_iconst (v := (4 : Int32)) hx hb dX7_bit_101 (by decide) ?_
          refine lv_iconst (v := (0 : Int32)) hx hb dX7_bit_102 (by decide) ?_
          refine k_v h (n_V (rest := []) (As := [.int x4_34, .int (4 : Int32), .int (0 : Int32)]) X h hl.1 (c_X7_lets l G hG x4_34 (4 : Int32) (0 : Int32) h0 _ _ hw) gk_X7_122 rfl hd_X7_lets ⟨rfl, rfl⟩ ⟨Nat.le_of_ble_eq_true rfl, Nat.le_of_ble_eq_true rfl⟩ (X7_o h0) rfl rfl (Nat.le_of_ble_eq_true rfl) dX7_bit_103 ⟨Nat.zero_le _, Nat.zero_le _⟩) (fun μ103 H locs hw h => ?_)
          refine lv_iload hx hb dX7_bit_106 (lv_at hl 0 rfl) ?_
          exact r_iret X h hw dX7_bit_108
        · rw [if_pos hc] at hw
          refine lv_aload_n hx hb dX7_bit_43 rfl (lv_at hl 1 rfl) ?_
          refine r_ldc X (v := (-1000000004 : Int32)) ww_4_172 dX7_bit_44 ?_
          refine k_i h (n_V (rest := []) (As := [.int (-1000000004 : Int32)]) X h hl.1 (c_X7_error l G hG (-1000000004 : Int32) h0 _ _ hw) gk_X7_104 rfl hd_X7_error ⟨rfl, rfl⟩ ⟨Nat.le_of_ble_eq_true rfl, Nat.le_of_ble_eq_true rfl⟩ (X7_o h0) rfl rfl (Nat.le_of_ble_eq_true rfl) dX7_bit_46 ⟨Nat.zero_le _, Nat.zero_le _⟩) (fun r46 μ46 H locs hw h => ?_)
          exact r_iret X h hw dX7_bit_49
      · rw [if_pos hc] at hw
        refine lv_aload_n hx hb dX7_bit_21 rfl (lv_at hl 0 rfl) ?_
        refine r_ldc X (v := (-1000000001 : Int32)) ww_4_131 dX7_bit_22 ?_
        refine k_i h (n_V (rest := []) (As := [.int (-1000000001 : Int32)]) X h hl.1 (c_X7_error l G hG (-1000000001 : Int32) h0 _ _ hw) gk_X7_104 rfl hd_X7_error ⟨rfl, rfl⟩ ⟨Nat.le_of_ble_eq_true rfl, Nat.le_of_ble_eq_true rfl⟩ (X7_o h0) rfl rfl (Nat.le_of_ble_eq_true rfl) dX7_bit_24 ⟨Nat.zero_le _, Nat.zero_le _⟩) (fun r24 μ24 H locs hw h => ?_)
        exact r_iret X h hw dX7_bit_27
def wp_X7_bitIs (a1 : Int32) (a2 : Int32) (Q : Int32 → vM → Prop) (μ : vM) : Prop := wp_X7_isBit a1 (fun r2 μ2 => if r2 = 0 then wp_X7_error (-1000000001 : Int32) (fun r21 μ21 => Q r21 μ21) μ2 else wp_X7_in a2 (0 : Int32) (7 : Int32) (fun r12 μ12 => if r12 = 0 then wp_X7_error (-1000000001 : Int32) (fun r21 μ21 => Q r21 μ21) μ12 else if (5 : Int32) ≤ a2 then if a2 = (5 : Int32) then wp_X7_stepsOf a1 (fun r44 μ44 => Q r44 μ44) μ12 else if a2 = (6 : Int32) then wp_X7_worthOf a1 (fun r58 μ58 => Q r58 μ58) μ12 else wp_X7_warmth a1 (fun r66 μ66 => Q r66 μ66) μ12 else wp_X7_of a1 a2 (fun r33 μ33 => Q r33 μ33) μ12) μ2) μ
set_option maxRecDepth 100000 in
set_option maxHeartbeats 4000000 in
theorem c_X7_bitIs (l : Launch) (G : vG) (hG : gO G) (a1 : Int32) (a2 : Int32) (h0 : isX7 G) (Q : Int32 → vM → Prop) (μ : vM) (hw : wp_X7_bitIs a1 a2 Q μ) : mt l G yX7_bitIs vX7_bitIs { frames := 4, cells := 0, slots := 0, locals := 94 } [.ref (ga G 0), .int a1, .int a2] μ (qI G Q) := by
  refine met_of (cc := cX7_bitIs) (maxL := 3) (ret := (some .int)) RX7 (by decide) rfl rfl hG (Nat.le_of_ble_eq_true rfl) ?_
  intro p e s m below meth c X h ls hl
  have hl : lv_has ls 3 [(0, .ref (ga G 0)), (1, .int a1), (2, .int a2)] := hl
  have hx := X.1
  have hb := X.2.1
  unfold wp_X7_bitIs at hw
  refine lv_aload_n hx hb dX7_bitIs_0 rfl (lv_at hl 0 rfl) ?_
  refine lv_iload_n hx hb dX7_bitIs_1 rfl (lv_at hl 1 rfl) ?_
  refine k_i h (n_V (rest := []) (As := [.int a1]) X h hl.1 (c_X7_isBit l G hG a1 h0 _ _ hw) gk_X7_125 rfl hd_X7_isBit ⟨rfl, rfl⟩ ⟨Nat.le_of_ble_eq_true rfl, Nat.le_of_ble_eq_true rfl⟩ (X7_o h0) rfl rfl (Nat.le_of_ble_eq_true rfl) dX7_bitIs_2 ⟨Nat.zero_le _, Nat.zero_le _⟩) (fun r2 μ2 H locs hw h => ?_)
  refine lv_if_eq (tgt := 18) hx hb dX7_bitIs_5 (by decide) (fun hc => ?_) (fun hc => ?_)
  · rw [if_pos hc] at hw
    refine lv_aload_n hx hb dX7_bitIs_18 rfl (lv_at hl 0 rfl) ?_
    refine r_ldc X (v := (-1000000001 : Int32)) ww_4_131 dX7_bitIs_19 ?_
    refine k_i h (n_V (rest := []) (As := [.int (-1000000001 : Int32)]) X h hl.1 (c_X7_error l G hG (-1000000001 : Int32) h0 _ _ hw) gk_X7_104 rfl hd_X7_error ⟨rfl, rfl⟩ ⟨Nat.le_of_ble_eq_true rfl, Nat.le_of_ble_eq_true rfl⟩ (X7_o h0) rfl rfl (Nat.le_of_ble_eq_true rfl) dX7_bitIs_21 ⟨Nat.zero_le _, Nat.zero_le _⟩) (fun r21 μ21 H locs hw h => ?_)
    exact r_iret X h hw dX7_bitIs_24
  · rw [if_neg hc] at hw
    refine lv_iload_n hx hb dX7_bitIs_8 rfl (lv_at hl 2 rfl) ?_
    refine lv_iconst (v := (0 : Int32)) hx hb dX7_bitIs_9 (by decide) ?_
    refine lv_bipush (v := (7 : Int32)) hx hb dX7_bitIs_10 (by decide) ?_
    refine k_i h (n_T (rest := []) (As := [.int a2, .int (0 : Int32), .int (7 : Int32)]) X h hl.1 (c_X7_in l G hG a2 (0 : Int32) (7 : Int32) _ _ hw) gk_X7_57 rfl hd_X7_in ⟨rfl, rfl⟩ ⟨Nat.le_of_ble_eq_true rfl, Nat.le_of_ble_eq_true rfl⟩ rfl (Nat.le_of_ble_eq_true rfl) dX7_bitIs_12 ⟨Nat.zero_le _, Nat.zero_le _⟩) (fun r12 μ12 H locs hw h => ?_)
    refine lv_if_ne (tgt := 25) hx hb dX7_bitIs_15 (by decide) (fun hc => ?_) (fun hc => ?_)
    · rw [if_neg hc] at hw
      refine lv_iload_n hx hb dX7_bitIs_25 rfl (lv_at hl 2 rfl) ?_
      refine lv_iconst (v := (5 : Int32)) hx hb dX7_bitIs_26 (by decide) ?_
      refine lv_icmp_ge (tgt := 37) hx hb dX7_bitIs_27 (by decide) (fun hc => ?_) (fun hc => ?_)
      · rw [if_pos hc] at hw
        refine lv_iload_n hx hb dX7_bitIs_37 rfl (lv_at hl 2 rfl) ?_
        refine lv_iconst (v := (5 : Int32)) hx hb dX7_bitIs_38 (by decide) ?_
        refine lv_icmp_ne (tgt := 50) hx hb dX7_bitIs_39 (by decide) (fun hc => ?_) (fun hc => ?_)
        · rw [if_neg hc] at hw
          refine lv_iload_n hx hb dX7_bitIs_50 rfl (lv_at hl 2 rfl) ?_
          refine lv_bipush (v := (6 : Int32)) hx hb dX7_bitIs_51 (by decide) ?_
          refine lv_icmp_ne (tgt := 64) hx hb dX7_bitIs_53 (by decide) (fun hc => ?_) (fun hc => ?_)
          · rw [if_neg hc] at hw
            refine lv_aload_n hx hb dX7_bitIs_64 rfl (lv_at hl 0 rfl) ?_
            refine lv_iload_n hx hb dX7_bitIs_65 rfl (lv_at hl 1 rfl) ?_
            refine k_i h (n_V (rest := []) (As := [.int a1]) X h hl.1 (c_X7_warmth l G hG a1 h0 _ _ hw) gk_X7_134 rfl hd_X7_warmth ⟨rfl, rfl⟩ ⟨Nat.le_of_ble_eq_true rfl, Nat.le_of_ble_eq_true rfl⟩ (X7_o h0) rfl rfl (Nat.le_of_ble_eq_true rfl) dX7_bitIs_66 ⟨Nat.zero_le _, Nat.zero_le _⟩) (fun r66 μ66 H locs hw h => ?_)
            exact r_iret X h hw dX7_bitIs_69
          · rw [if_pos hc] at hw
            refine lv_aload_n hx hb dX7_bitIs_56 rfl (lv_at hl 0 rfl) ?_
            refine lv_iload_n hx hb dX7_bitIs_57 rfl (lv_at hl 1 rfl) ?_
            refine k_i h (n_V (rest := []) (As := [.int a1]) X h hl.1 (c_X7_worthOf l G hG a1 h0 _ _ hw) gk_X7_131 rfl hd_X7_worthOf ⟨rfl, rfl⟩ ⟨Nat.le_of_ble_eq_true rfl, Nat.le_of_ble_eq_true rfl⟩ (X7_o h0) rfl rfl (Nat.le_of_ble_eq_true rfl) dX7_bitIs_58 ⟨Nat.zero_le _, Nat.zero_le _⟩) (fun r58 μ58 H locs hw h => ?_)
            refine lv_goto (tgt := 69) hx hb dX7_bitIs_61 (by decide) ?_
            exact r_iret X h hw dX7_bitIs_69
        · rw [if_pos hc] at hw
          refine lv_aload_n hx hb dX7_bitIs_42 rfl (lv_at hl 0 rfl) ?_
          refine lv_iload_n hx hb dX7_bitIs_43 rfl (lv_at hl 1 rfl) ?_
          refine k_i h (n_V (rest := []) (As := [.int a1]) X h hl.1 (c_X7_stepsOf l G hG a1 h0 _ _ hw) gk_X7_128 rfl hd_X7_stepsOf ⟨rfl, rfl⟩ ⟨Nat.le_of_ble_eq_true rfl, Nat.le_of_ble_eq_true rfl⟩ (X7_o h0) rfl rfl (Nat.le_of_ble_eq_true rfl) dX7_bitIs_44 ⟨Nat.zero_le _, Nat.zero_le _⟩) (fun r44 μ44 H locs hw h => ?_)
          refine lv_goto (tgt := 69) hx hb dX7_bitIs_47 (by decide) ?_
          exact r_iret X h hw dX7_bitIs_69
      · rw [if_neg hc] at hw
        refine lv_aload_n hx hb dX7_bitIs_30 rfl (lv_at hl 0 rfl) ?_
        refine lv_iload_n hx hb dX7_bitIs_31 rfl (lv_at hl 1 rfl) ?_
        refine lv_iload_n hx hb dX7_bitIs_32 rfl (lv_at hl 2 rfl) ?_
        refine k_i h (n_V (rest := []) (As := [.int a1, .int a2]) X h hl.1 (c_X7_of l G hG a1 a2 h0 _ _ hw) gk_X7_61 rfl hd_X7_of ⟨rfl, rfl⟩ ⟨Nat.le_of_ble_eq_true rfl, Nat.le_of_ble_eq_true rfl⟩ (X7_o h0) rfl rfl (Nat.le_of_ble_eq_true rfl) dX7_bitIs_33 ⟨Nat.zero_le _, Nat.zero_le _⟩) (fun r33 μ33 H locs hw h => ?_)
        exact r_iret X h hw dX7_bitIs_36
    · rw [if_pos hc] at hw
      refine lv_aload_n hx hb dX7_bitIs_18 rfl (lv_at hl 0 rfl) ?_
      refine r_ldc X (v := (-1000000001 : Int32)) ww_4_131 dX7_bitIs_19 ?_
      refine k_i h (n_V (rest := []) (As := [.int (-1000000001 : Int32)]) X h hl.1 (c_X7_error l G hG (-1000000001 : Int32) h0 _ _ hw) gk_X7_104 rfl hd_X7_error ⟨rfl, rfl⟩ ⟨Nat.le_of_ble_eq_true rfl, Nat.le_of_ble_eq_true rfl⟩ (X7_o h0) rfl rfl (Nat.le_of_ble_eq_true rfl) dX7_bitIs_21 ⟨Nat.zero_le _, Nat.zero_le _⟩) (fun r21 μ21 H locs hw h => ?_)
      exact r_iret X h hw dX7_bitIs_24
def wp_X7_become (a1 : Int32) (a2 : Int32) (Q : Int32 → vM → Prop) (μ : vM) : Prop := wp_X7_isBit a1 (fun r2 μ2 => if r2 = 0 then wp_X7_error (-1000000001 : Int32) (fun r18 μ18 => Q r18 μ18) μ2 else wp_X7_isKm a2 (fun r9 μ9 => if r9 = 0 then wp_X7_error (-1000000001 : Int32) (fun r18 μ18 => Q r18 μ18) μ9 else wp_X7_lets a1 (1 : Int32) (a2 % (10 : Int32)) (fun μ29 => wp_X7_becomes ((19 : Int32) + ((5 : Int32) * a1)) (a2 / (10 : Int32)) (fun r43 μ43 => Q r43 μ43) μ29) μ9) μ2) μ
set_option maxRecDepth 100000 in
set_option maxHeartbeats 4000000 in
theorem c_X7_become (l : Launch) (G : vG) (hG : gO G) (a1 : Int32) (a2 : Int32) (h0 : isX7 G) (Q : Int32 → vM → Prop) (μ : vM) (hw : wp_X7_become a1 a2 Q μ) : mt l G yX7_become vX7_become { frames := 2, cells := 0, slots := 0, locals := 43 } [.ref (ga G 0), .int a1, .int a2] μ (qI G Q) := by
  refine met_of (cc := cX7_become) (maxL := 3) (ret := (some .int)) RX7 (by decide) rfl rfl hG (Nat.le_of_ble_eq_true rfl) ?_
  intro p e s m below meth c X h ls hl
  have hl : lv_has ls 3 [(0, .ref (ga G 0)), (1, .int a1), (2, .int a2)] := hl
  have hx := X.1
  have hb := X.2.1
  unfold wp_X7_become at hw
  refine lv_aload_n hx hb dX7_become_0 rfl (lv_at hl 0 rfl) ?_
  refine lv_iload_n hx hb dX7_become_1 rfl (lv_at hl 1 rfl) ?_
  refine k_i h (n_V (rest := []) (As := [.int a1]) X h hl.1 (c_X7_isBit l G hG a1 h0 _ _ hw) gk_X7_125 rfl hd_X7_isBit ⟨rfl, rfl⟩ ⟨Nat.le_of_ble_eq_true rfl, Nat.le_of_ble_eq_true rfl⟩ (X7_o h0) rfl rfl (Nat.le_of_ble_eq_true rfl) dX7_become_2 ⟨Nat.zero_le _, Nat.zero_le _⟩) (fun r2 μ2 H locs hw h => ?_)
  refine lv_if_eq (tgt := 15) hx hb dX7_become_5 (by decide) (fun hc => ?_) (fun hc => ?_)
  · rw [if_pos hc] at hw
    refine lv_aload_n hx hb dX7_become_15 rfl (lv_at hl 0 rfl) ?_
    refine r_ldc X (v := (-1000000001 : Int32)) ww_4_131 dX7_become_16 ?_
    refine k_i h (n_V (rest := []) (As := [.int (-1000000001 : Int32)]) X h hl.1 (c_X7_error l G hG (-1000000001 : Int32) h0 _ _ hw) gk_X7_104 rfl hd_X7_error ⟨rfl, rfl⟩ ⟨Nat.le_of_ble_eq_true rfl, Nat.le_of_ble_eq_true rfl⟩ (X7_o h0) rfl rfl (Nat.le_of_ble_eq_true rfl) dX7_become_18 ⟨Nat.zero_le _, Nat.zero_le _⟩) (fun r18 μ18 H locs hw h => ?_)
    exact r_iret X h hw dX7_become_21
  · rw [if_neg hc] at hw
    refine lv_iload_n hx hb dX7_become_8 rfl (lv_at hl 2 rfl) ?_
    refine k_i h (n_T (rest := []) (As := [.int a2]) X h hl.1 (c_X7_isKm l G hG a2 _ _ hw) gk_X7_118 rfl hd_X7_isKm ⟨rfl, rfl⟩ ⟨Nat.le_of_ble_eq_true rfl, Nat.le_of_ble_eq_true rfl⟩ rfl (Nat.le_of_ble_eq_true rfl) dX7_become_9 ⟨Nat.zero_le _, Nat.zero_le _⟩) (fun r9 μ9 H locs hw h => ?_)
    refine lv_if_ne (tgt := 22) hx hb dX7_become_12 (by decide) (fun hc => ?_) (fun hc => ?_)
    · rw [if_neg hc] at hw
      refine lv_aload_n hx hb dX7_become_22 rfl (lv_at hl 0 rfl) ?_
      refine lv_iload_n hx hb dX7_become_23 rfl (lv_at hl 1 rfl) ?_
      refine lv_iconst (v := (1 : Int32)) hx hb dX7_become_24 (by decide) ?_
      refine lv_iload_n hx hb dX7_become_25 rfl (lv_at hl 2 rfl) ?_
      refine lv_bipush (v := (10 : Int32)) hx hb dX7_become_26 (by decide) ?_
      refine r_irem hx hb dX7_become_28 (by decide) ?_
      refine k_v h (n_V (rest := []) (As := [.int a1, .int (1 : Int32), .int (a2 % (10 : Int32))]) X h hl.1 (c_X7_lets l G hG a1 (1 : Int32) (a2 % (10 : Int32)) h0 _ _ hw) gk_X7_122 rfl hd_X7_lets ⟨rfl, rfl⟩ ⟨Nat.le_of_ble_eq_true rfl, Nat.le_of_ble_eq_true rfl⟩ (X7_o h0) rfl rfl (Nat.le_of_ble_eq_true rfl) dX7_become_29 ⟨Nat.zero_le _, Nat.zero_le _⟩) (fun μ29 H locs hw h => ?_)
      refine lv_aload_n hx hb dX7_become_32 rfl (lv_at hl 0 rfl) ?_
      refine lv_bipush (v := (19 : Int32)) hx hb dX7_become_33 (by decide) ?_
      refine lv_iconst (v := (5 : Int32)) hx hb dX7_become_35 (by decide) ?_
      refine lv_iload_n hx hb dX7_become_36 rfl (lv_at hl 1 rfl) ?_
      refine lv_imul hx hb dX7_become_37 ?_
      refine lv_iadd hx hb dX7_become_38 ?_
      refine lv_iload_n hx hb dX7_become_39 rfl (lv_at hl 2 rfl) ?_
      refine lv_bipush (v := (10 : Int32)) hx hb dX7_become_40 (by decide) ?_
      refine lv_idiv hx hb dX7_become_42 (by decide) ?_
      refine k_i h (n_V (rest := []) (As := [.int ((19 : Int32) + ((5 : Int32) * a1)), .int (a2 / (10 : Int32))]) X h hl.1 (c_X7_becomes l G hG ((19 : Int32) + ((5 : Int32) * a1)) (a2 / (10 : Int32)) h0 _ _ hw) gk_X7_114 rfl hd_X7_becomes ⟨rfl, rfl⟩ ⟨Nat.le_of_ble_eq_true rfl, Nat.le_of_ble_eq_true rfl⟩ (X7_o h0) rfl rfl (Nat.le_of_ble_eq_true rfl) dX7_become_43 ⟨Nat.zero_le _, Nat.zero_le _⟩) (fun r43 μ43 H locs hw h => ?_)
      exact r_iret X h hw dX7_become_46
    · rw [if_pos hc] at hw
      refine lv_aload_n hx hb dX7_become_15 rfl (lv_at hl 0 rfl) ?_
      refine r_ldc X (v := (-1000000001 : Int32)) ww_4_131 dX7_become_16 ?_
      refine k_i h (n_V (rest := []) (As := [.int (-1000000001 : Int32)]) X h hl.1 (c_X7_error l G hG (-1000000001 : Int32) h0 _ _ hw) gk_X7_104 rfl hd_X7_error ⟨rfl, rfl⟩ ⟨Nat.le_of_ble_eq_true rfl, Nat.le_of_ble_eq_true rfl⟩ (X7_o h0) rfl rfl (Nat.le_of_ble_eq_true rfl) dX7_become_18 ⟨Nat.zero_le _, Nat.zero_le _⟩) (fun r18 μ18 H locs hw h => ?_)
      exact r_iret X h hw dX7_become_21
def wp_X7_as_66 (a1 : Int32) (a2 : Int32) (Q : Int32 → vM → Prop) (t0 : Int32) (μ : vM) : Prop := if t0 = 0 then wp_X7_error (-1000000005 : Int32) (fun r85 μ85 => Q r85 μ85) μ else wp_X7_of a1 (1 : Int32) (fun r76 μ76 => Q r76 μ76) μ
def wp_X7_as_61 (a1 : Int32) (a2 : Int32) (Q : Int32 → vM → Prop)  (μ : vM) : Prop := wp_X7_as_66 a1 a2 Q (1 : Int32) μ
def wp_X7_as_65 (a1 : Int32) (a2 : Int32) (Q : Int32 → vM → Prop)  (μ : vM) : Prop := wp_X7_as_66 a1 a2 Q (0 : Int32) μ
def wp_X7_as_51 (a1 : Int32) (a2 : Int32) (Q : Int32 → vM → Prop) (x3 : Int32) (μ : vM) : Prop := if a2 = (2 : Int32) then if x3 = (5 : Int32) then wp_X7_as_61 a1 a2 Q μ else wp_X7_as_65 a1 a2 Q μ else wp_X7_as_65 a1 a2 Q μ
def wp_X7_as (a1 : Int32) (a2 : Int32) (Q : Int32 → vM → Prop) (μ : vM) : Prop := wp_X7_isBit a1 (fun r2 μ2 => if r2 = 0 then wp_X7_error (-1000000001 : Int32) (fun r21 μ21 => Q r21 μ21) μ2 else wp_X7_in a2 (0 : Int32) (6 : Int32) (fun r12 μ12 => if r12 = 0 then wp_X7_error (-1000000001 : Int32) (fun r21 μ21 => Q r21 μ21) μ12 else wp_X7_of a1 (0 : Int32) (fun r28 μ28 => if a2 = 0 then wp_X7_as_61 a1 a2 Q μ28 else if a2 = r28 then wp_X7_as_61 a1 a2 Q μ28 else if a2 = (1 : Int32) then if r28 = (4 : Int32) then wp_X7_as_61 a1 a2 Q μ28 else wp_X7_as_51 a1 a2 Q r28 μ28 else wp_X7_as_51 a1 a2 Q r28 μ28) μ12) μ2) μ
set_option maxRecDepth 100000 in
set_option maxHeartbeats 4000000 in
theorem c_X7_as (l : Launch) (G : vG) (hG : gO G) (a1 : Int32) (a2 : Int32) (h0 : isX7 G) (Q : Int32 → vM → Prop) (μ : vM) (hw : wp_X7_as a1 a2 Q μ) : mt l G yX7_as vX7_as { frames := 2, cells := 0, slots := 0, locals := 43 } [.ref (ga G 0), .int a1, .int a2] μ (qI G Q) := by
  refine met_of (cc := cX7_as) (maxL := 5) (ret := (some .int)) RX7 (by decide) rfl rfl hG (Nat.le_of_ble_eq_true rfl) ?_
  intro p e s m below meth c X h ls hl
  have hl : lv_has ls 5 [(0, .ref (ga G 0)), (1, .int a1), (2, .int a2)] := hl
  have hx := X.1
  have hb := X.2.1
  unfold wp_X7_as at hw
  refine lv_aload_n hx hb dX7_as_0 rfl (lv_at hl 0 rfl) ?_
  refine lv_iload_n hx hb dX7_as_1 rfl (lv_at hl 1 rfl) ?_
  refine k_i h (n_V (rest := []) (As := [.int a1]) X h hl.1 (c_X7_isBit l G hG a1 h0 _ _ hw) gk_X7_125 rfl hd_X7_isBit ⟨rfl, rfl⟩ ⟨Nat.le_of_ble_eq_true rfl, Nat.le_of_ble_eq_true rfl⟩ (X7_o h0) rfl rfl (Nat.le_of_ble_eq_true rfl) dX7_as_2 ⟨Nat.zero_le _, Nat.zero_le _⟩) (fun r2 μ2 H locs hw h => ?_)
  refine lv_if_eq (tgt := 18) hx hb dX7_as_5 (by decide) (fun hc => ?_) (fun hc => ?_)
  · rw [if_pos hc] at hw
    refine lv_aload_n hx hb dX7_as_18 rfl (lv_at hl 0 rfl) ?_
    refine r_ldc X (v := (-1000000001 : Int32)) ww_4_131 dX7_as_19 ?_
    refine k_i h (n_V (rest := []) (As := [.int (-1000000001 : Int32)]) X h hl.1 (c_X7_error l G hG (-1000000001 : Int32) h0 _ _ hw) gk_X7_104 rfl hd_X7_error ⟨rfl, rfl⟩ ⟨Nat.le_of_ble_eq_true rfl, Nat.le_of_ble_eq_true rfl⟩ (X7_o h0) rfl rfl (Nat.le_of_ble_eq_true rfl) dX7_as_21 ⟨Nat.zero_le _, Nat.zero_le _⟩) (fun r21 μ21 H locs hw h => ?_)
    exact r_iret X h hw dX7_as_24
  · rw [if_neg hc] at hw
    refine lv_iload_n hx hb dX7_as_8 rfl (lv_at hl 2 rfl) ?_
    refine lv_iconst (v := (0 : Int32)) hx hb dX7_as_9 (by decide) ?_
    refine lv_bipush (v := (6 : Int32)) hx hb dX7_as_10 (by decide) ?_
    refine k_i h (n_T (rest := []) (As := [.int a2, .int (0 : Int32), .int (6 : Int32)]) X h hl.1 (c_X7_in l G hG a2 (0 : Int32) (6 : Int32) _ _ hw) gk_X7_57 rfl hd_X7_in ⟨rfl, rfl⟩ ⟨Nat.le_of_ble_eq_true rfl, Nat.le_of_ble_eq_true rfl⟩ rfl (Nat.le_of_ble_eq_true rfl) dX7_as_12 ⟨Nat.zero_le _, Nat.zero_le _⟩) (fun r12 μ12 H locs hw h => ?_)
    refine lv_if_ne (tgt := 25) hx hb dX7_as_15 (by decide) (fun hc => ?_) (fun hc => ?_)
    · rw [if_neg hc] at hw
      refine lv_aload_n hx hb dX7_as_25 rfl (lv_at hl 0 rfl) ?_
      refine lv_iload_n hx hb dX7_as_26 rfl (lv_at hl 1 rfl) ?_
      refine lv_iconst (v := (0 : Int32)) hx hb dX7_as_27 (by decide) ?_
      refine k_i h (n_V (rest := []) (As := [.int a1, .int (0 : Int32)]) X h hl.1 (c_X7_of l G hG a1 (0 : Int32) h0 _ _ hw) gk_X7_61 rfl hd_X7_of ⟨rfl, rfl⟩ ⟨Nat.le_of_ble_eq_true rfl, Nat.le_of_ble_eq_true rfl⟩ (X7_o h0) rfl rfl (Nat.le_of_ble_eq_true rfl) dX7_as_28 ⟨Nat.zero_le _, Nat.zero_le _⟩) (fun r28 μ28 H locs hw h => ?_)
      refine lv_istore_n (lv' := [(3, .int r28), (0, .ref (ga G 0)), (1, .int a1), (2, .int a2)]) hx hb dX7_as_31 rfl hl (by decide) rfl (fun ls hl => ?_)
      refine lv_iload_n hx hb dX7_as_32 rfl (lv_at hl 3 rfl) ?_
      have s66 : ∀ (t0 : Int32) (μ : vM), ∀ (H : Heap) (locs : List Loc) (ls : Array Slot), bw G s μ H locs → lv_has ls 5 [(0, .ref (ga G 0)), (1, .int a1)] → wp_X7_as_66 a1 a2 Q t0 μ → W p l e ({ frames := 2, cells := 0, slots := 0, locals := 43 } : Room) s m ([.ref (ga G 0), .int a1, .int a2] : List Value).toArray below meth c H locs 0 0 (MQ below (qI G Q) ([.ref (ga G 0), .int a1, .int a2] : List Value).toArray s 0 0 (gA G)) (F0 m 66 ls [.int t0]) := by
        intro t0 μ H locs ls h hl hw
        unfold wp_X7_as_66 at hw
        refine lv_istore (lv' := [(4, .int t0), (0, .ref (ga G 0)), (1, .int a1)]) hx hb dX7_as_66 hl (by decide) rfl (fun ls hl => ?_)
        refine lv_iload hx hb dX7_as_68 (lv_at hl 0 rfl) ?_
        refine lv_if_eq (tgt := 82) hx hb dX7_as_70 (by decide) (fun hc => ?_) (fun hc => ?_)
        · rw [if_pos hc] at hw
          refine lv_aload_n hx hb dX7_as_82 rfl (lv_at hl 1 rfl) ?_
          refine r_ldc X (v := (-1000000005 : Int32)) ww_5_3 dX7_as_83 ?_
          refine k_i h (n_V (rest := []) (As := [.int (-1000000005 : Int32)]) X h hl.1 (c_X7_error l G hG (-1000000005 : Int32) h0 _ _ hw) gk_X7_104 rfl hd_X7_error ⟨rfl, rfl⟩ ⟨Nat.le_of_ble_eq_true rfl, Nat.le_of_ble_eq_true rfl⟩ (X7_o h0) rfl rfl (Nat.le_of_ble_eq_true rfl) dX7_as_85 ⟨Nat.zero_le _, Nat.zero_le _⟩) (fun r85 μ85 H locs hw h => ?_)
          exact r_iret X h hw dX7_as_88
        · rw [if_neg hc] at hw
          refine lv_aload_n hx hb dX7_as_73 rfl (lv_at hl 1 rfl) ?_
          refine lv_iload_n hx hb dX7_as_74 rfl (lv_at hl 2 rfl) ?_
          refine lv_iconst (v := (1 : Int32)) hx hb dX7_as_75 (by decide) ?_
          refine k_i h (n_V (rest := []) (As := [.int a1, .int (1 : Int32)]) X h hl.1 (c_X7_of l G hG a1 (1 : Int32) h0 _ _ hw) gk_X7_61 rfl hd_X7_of ⟨rfl, rfl⟩ ⟨Nat.le_of_ble_eq_true rfl, Nat.le_of_ble_eq_true rfl⟩ (X7_o h0) rfl rfl (Nat.le_of_ble_eq_true rfl) dX7_as_76 ⟨Nat.zero_le _, Nat.zero_le _⟩) (fun r76 μ76 H locs hw h => ?_)
          refine lv_goto (tgt := 88) hx hb dX7_as_79 (by decide) ?_
          exact r_iret X h hw dX7_as_88
      have s61 : ∀  (μ : vM), ∀ (H : Heap) (locs : List Loc) (ls : Array Slot), bw G s μ H locs → lv_has ls 5 [(0, .ref (ga G 0)), (1, .int a1)] → wp_X7_as_61 a1 a2 Q μ → W p l e ({ frames := 2, cells := 0, slots := 0, locals := 43 } : Room) s m ([.ref (ga G 0), .int a1, .int a2] : List Value).toArray below meth c H locs 0 0 (MQ below (qI G Q) ([.ref (ga G 0), .int a1, .int a2] : List Value).toArray s 0 0 (gA G)) (F0 m 61 ls []) := by
        intro  μ H locs ls h hl hw
        unfold wp_X7_as_61 at hw
        refine lv_iconst (v := (1 : Int32)) hx hb dX7_as_61 (by decide) ?_
        refine lv_goto (tgt := 66) hx hb dX7_as_62 (by decide) ?_
        exact s66 (1 : Int32) μ _ _ _ h (lv_sub hl [0, 1] rfl) hw
      refine lv_if_eq (tgt := 61) hx hb dX7_as_33 (by decide) (fun hc => ?_) (fun hc => ?_)
      · rw [if_pos hc] at hw
        exact s61 μ28 _ _ _ h (lv_sub hl [1, 2] rfl) hw
      · rw [if_neg hc] at hw
        refine lv_iload_n hx hb dX7_as_36 rfl (lv_at hl 3 rfl) ?_
        refine lv_iload_n hx hb dX7_as_37 rfl (lv_at hl 0 rfl) ?_
        refine lv_icmp_eq (tgt := 61) hx hb dX7_as_38 (by decide) (fun hc => ?_) (fun hc => ?_)
        · rw [if_pos hc] at hw
          exact s61 μ28 _ _ _ h (lv_sub hl [1, 2] rfl) hw
        · rw [if_neg hc] at hw
          refine lv_iload_n hx hb dX7_as_41 rfl (lv_at hl 3 rfl) ?_
          refine lv_iconst (v := (1 : Int32)) hx hb dX7_as_42 (by decide) ?_
          have s51 : ∀ (x3 : Int32) (μ : vM), ∀ (H : Heap) (locs : List Loc) (ls : Array Slot), bw G s μ H locs → lv_has ls 5 [(0, .ref (ga G 0)), (1, .int a1), (2, .int a2), (3, .int x3)] → wp_X7_as_51 a1 a2 Q x3 μ → W p l e ({ frames := 2, cells := 0, slots := 0, locals := 43 } : Room) s m ([.ref (ga G 0), .int a1, .int a2] : List Value).toArray below meth c H locs 0 0 (MQ below (qI G Q) ([.ref (ga G 0), .int a1, .int a2] : List Value).toArray s 0 0 (gA G)) (F0 m 51 ls []) := by
            intro x3 μ H locs ls h hl hw
            unfold wp_X7_as_51 at hw
            refine lv_iload_n hx hb dX7_as_51 rfl (lv_at hl 2 rfl) ?_
            refine lv_iconst (v := (2 : Int32)) hx hb dX7_as_52 (by decide) ?_
            have s65 : ∀  (μ : vM), ∀ (H : Heap) (locs : List Loc) (ls : Array Slot), bw G s μ H locs → lv_has ls 5 [(0, .ref (ga G 0)), (1, .int a1)] → wp_X7_as_65 a1 a2 Q μ → W p l e ({ frames := 2, cells := 0, slots := 0, locals := 43 } : Room) s m ([.ref (ga G 0), .int a1, .int a2] : List Value).toArray below meth c H locs 0 0 (MQ below (qI G Q) ([.ref (ga G 0), .int a1, .int a2] : List Value).toArray s 0 0 (gA G)) (F0 m 65 ls []) := by
              intro  μ H locs ls h hl hw
              unfold wp_X7_as_65 at hw
              refine lv_iconst (v := (0 : Int32)) hx hb dX7_as_65 (by decide) ?_
              exact s66 (0 : Int32) μ _ _ _ h (lv_sub hl [0, 1] rfl) hw
            refine lv_icmp_ne (tgt := 65) hx hb dX7_as_53 (by decide) (fun hc => ?_) (fun hc => ?_)
            · rw [if_neg hc] at hw
              exact s65 μ _ _ _ h (lv_sub hl [0, 1] rfl) hw
            · rw [if_pos hc] at hw
              refine lv_iload_n hx hb dX7_as_56 rfl (lv_at hl 3 rfl) ?_
              refine lv_iconst (v := (5 : Int32)) hx hb dX7_as_57 (by decide) ?_
              refine lv_icmp_ne (tgt := 65) hx hb dX7_as_58 (by decide) (fun hc => ?_) (fun hc => ?_)
              · rw [if_neg hc] at hw
                exact s65 μ _ _ _ h (lv_sub hl [0, 1] rfl) hw
              · rw [if_pos hc] at hw
                exact s61 μ _ _ _ h (lv_sub hl [0, 1] rfl) hw
          refine lv_icmp_ne (tgt := 51) hx hb dX7_as_43 (by decide) (fun hc => ?_) (fun hc => ?_)
          · rw [if_neg hc] at hw
            exact s51 r28 μ28 _ _ _ h (lv_sub hl [1, 2, 3, 0] rfl) hw
          · rw [if_pos hc] at hw
            refine lv_iload_n hx hb dX7_as_46 rfl (lv_at hl 0 rfl) ?_
            refine lv_iconst (v := (4 : Int32)) hx hb dX7_as_47 (by decide) ?_
            refine lv_icmp_eq (tgt := 61) hx hb dX7_as_48 (by decide) (fun hc => ?_) (fun hc => ?_)
            · rw [if_pos hc] at hw
              exact s61 μ28 _ _ _ h (lv_sub hl [1, 2] rfl) hw
            · rw [if_neg hc] at hw
              exact s51 r28 μ28 _ _ _ h (lv_sub hl [1, 2, 3, 0] rfl) hw
    · rw [if_pos hc] at hw
      refine lv_aload_n hx hb dX7_as_18 rfl (lv_at hl 0 rfl) ?_
      refine r_ldc X (v := (-1000000001 : Int32)) ww_4_131 dX7_as_19 ?_
      refine k_i h (n_V (rest := []) (As := [.int (-1000000001 : Int32)]) X h hl.1 (c_X7_error l G hG (-1000000001 : Int32) h0 _ _ hw) gk_X7_104 rfl hd_X7_error ⟨rfl, rfl⟩ ⟨Nat.le_of_ble_eq_true rfl, Nat.le_of_ble_eq_true rfl⟩ (X7_o h0) rfl rfl (Nat.le_of_ble_eq_true rfl) dX7_as_21 ⟨Nat.zero_le _, Nat.zero_le _⟩) (fun r21 μ21 H locs hw h => ?_)
      exact r_iret X h hw dX7_as_24
def wp_X7_hears_34 (a1 : Int32) (a2 : Int32) (Q : Int32 → vM → Prop)  (μ : vM) : Prop := wp_X7_error (-1000000001 : Int32) (fun r37 μ37 => Q r37 μ37) μ
def wp_X7_hears (a1 : Int32) (a2 : Int32) (Q : Int32 → vM → Prop) (μ : vM) : Prop := wp_X7_isBit a1 (fun r2 μ2 => if r2 = 0 then wp_X7_hears_34 a1 a2 Q μ2 else wp_X7_in a2 (0 : Int32) (9 : Int32) (fun r12 μ12 => if r12 = 0 then wp_X7_hears_34 a1 a2 Q μ12 else wp_X7_becomes (((19 : Int32) + ((5 : Int32) * a1)) + (4 : Int32)) a2 (fun r28 μ28 => Q r28 μ28) μ12) μ2) μ
set_option maxRecDepth 100000 in
set_option maxHeartbeats 4000000 in
theorem c_X7_hears (l : Launch) (G : vG) (hG : gO G) (a1 : Int32) (a2 : Int32) (h0 : isX7 G) (Q : Int32 → vM → Prop) (μ : vM) (hw : wp_X7_hears a1 a2 Q μ) : mt l G yX7_hears vX7_hears { frames := 2, cells := 0, slots := 0, locals := 43 } [.ref (ga G 0), .int a1, .int a2] μ (qI G Q) := by
  refine met_of (cc := cX7_hears) (maxL := 3) (ret := (some .int)) RX7 (by decide) rfl rfl hG (Nat.le_of_ble_eq_true rfl) ?_
  intro p e s m below meth c X h ls hl
  have hl : lv_has ls 3 [(0, .ref (ga G 0)), (1, .int a1), (2, .int a2)] := hl
  have hx := X.1
  have hb := X.2.1
  unfold wp_X7_hears at hw
  refine lv_aload_n hx hb dX7_hears_0 rfl (lv_at hl 0 rfl) ?_
  refine lv_iload_n hx hb dX7_hears_1 rfl (lv_at hl 1 rfl) ?_
  refine k_i h (n_V (rest := []) (As := [.int a1]) X h hl.1 (c_X7_isBit l G hG a1 h0 _ _ hw) gk_X7_125 rfl hd_X7_isBit ⟨rfl, rfl⟩ ⟨Nat.le_of_ble_eq_true rfl, Nat.le_of_ble_eq_true rfl⟩ (X7_o h0) rfl rfl (Nat.le_of_ble_eq_true rfl) dX7_hears_2 ⟨Nat.zero_le _, Nat.zero_le _⟩) (fun r2 μ2 H locs hw h => ?_)
  have s34 : ∀  (μ : vM), ∀ (H : Heap) (locs : List Loc) (ls : Array Slot), bw G s μ H locs → lv_has ls 3 [(0, .ref (ga G 0))] → wp_X7_hears_34 a1 a2 Q μ → W p l e ({ frames := 2, cells := 0, slots := 0, locals := 43 } : Room) s m ([.ref (ga G 0), .int a1, .int a2] : List Value).toArray below meth c H locs 0 0 (MQ below (qI G Q) ([.ref (ga G 0), .int a1, .int a2] : List Value).toArray s 0 0 (gA G)) (F0 m 34 ls []) := by
    intro  μ H locs ls h hl hw
    unfold wp_X7_hears_34 at hw
    refine lv_aload_n hx hb dX7_hears_34 rfl (lv_at hl 0 rfl) ?_
    refine r_ldc X (v := (-1000000001 : Int32)) ww_4_131 dX7_hears_35 ?_
    refine k_i h (n_V (rest := []) (As := [.int (-1000000001 : Int32)]) X h hl.1 (c_X7_error l G hG (-1000000001 : Int32) h0 _ _ hw) gk_X7_104 rfl hd_X7_error ⟨rfl, rfl⟩ ⟨Nat.le_of_ble_eq_true rfl, Nat.le_of_ble_eq_true rfl⟩ (X7_o h0) rfl rfl (Nat.le_of_ble_eq_true rfl) dX7_hears_37 ⟨Nat.zero_le _, Nat.zero_le _⟩) (fun r37 μ37 H locs hw h => ?_)
    exact r_iret X h hw dX7_hears_40
  refine lv_if_eq (tgt := 34) hx hb dX7_hears_5 (by decide) (fun hc => ?_) (fun hc => ?_)
  · rw [if_pos hc] at hw
    exact s34 μ2 _ _ _ h (lv_sub hl [0] rfl) hw
  · rw [if_neg hc] at hw
    refine lv_iload_n hx hb dX7_hears_8 rfl (lv_at hl 2 rfl) ?_
    refine lv_iconst (v := (0 : Int32)) hx hb dX7_hears_9 (by decide) ?_
    refine lv_bipush (v := (9 : Int32)) hx hb dX7_hears_10 (by decide) ?_
    refine k_i h (n_T (rest := []) (As := [.int a2, .int (0 : Int32), .int (9 : Int32)]) X h hl.1 (c_X7_in l G hG a2 (0 : Int32) (9 : Int32) _ _ hw) gk_X7_57 rfl hd_X7_in ⟨rfl, rfl⟩ ⟨Nat.le_of_ble_eq_true rfl, Nat.le_of_ble_eq_true rfl⟩ rfl (Nat.le_of_ble_eq_true rfl) dX7_hears_12 ⟨Nat.zero_le _, Nat.zero_le _⟩) (fun r12 μ12 H locs hw h => ?_)
    refine lv_if_eq (tgt := 34) hx hb dX7_hears_15 (by decide) (fun hc => ?_) (fun hc => ?_)
    · rw [if_pos hc] at hw
      exact s34 μ12 _ _ _ h (lv_sub hl [0] rfl) hw
    · rw [if_neg hc] at hw
      refine lv_aload_n hx hb dX7_hears_18 rfl (lv_at hl 0 rfl) ?_
      refine lv_bipush (v := (19 : Int32)) hx hb dX7_hears_19 (by decide) ?_
      refine lv_iconst (v := (5 : Int32)) hx hb dX7_hears_21 (by decide) ?_
      refine lv_iload_n hx hb dX7_hears_22 rfl (lv_at hl 1 rfl) ?_
      refine lv_imul hx hb dX7_hears_23 ?_
      refine lv_iadd hx hb dX7_hears_24 ?_
      refine lv_iconst (v := (4 : Int32)) hx hb dX7_hears_25 (by decide) ?_
      refine lv_iadd hx hb dX7_hears_26 ?_
      refine lv_iload_n hx hb dX7_hears_27 rfl (lv_at hl 2 rfl) ?_
      refine k_i h (n_V (rest := []) (As := [.int (((19 : Int32) + ((5 : Int32) * a1)) + (4 : Int32)), .int a2]) X h hl.1 (c_X7_becomes l G hG (((19 : Int32) + ((5 : Int32) * a1)) + (4 : Int32)) a2 h0 _ _ hw) gk_X7_114 rfl hd_X7_becomes ⟨rfl, rfl⟩ ⟨Nat.le_of_ble_eq_true rfl, Nat.le_of_ble_eq_true rfl⟩ (X7_o h0) rfl rfl (Nat.le_of_ble_eq_true rfl) dX7_hears_28 ⟨Nat.zero_le _, Nat.zero_le _⟩) (fun r28 μ28 H locs hw h => ?_)
      refine lv_goto (tgt := 40) hx hb dX7_hears_31 (by decide) ?_
      exact r_iret X h hw dX7_hears_40
def wp_X7_lay_31 (a1 : Int32) (a2 : Int32) (Q : Int32 → vM → Prop)  (μ : vM) : Prop := wp_X7_error (-1000000001 : Int32) (fun r34 μ34 => Q r34 μ34) μ
def wp_X7_lay (a1 : Int32) (a2 : Int32) (Q : Int32 → vM → Prop) (μ : vM) : Prop := wp_X7_isBit a1 (fun r2 μ2 => if r2 = 0 then wp_X7_lay_31 a1 a2 Q μ2 else wp_X7_isPlace a2 (fun r9 μ9 => if r9 = 0 then wp_X7_lay_31 a1 a2 Q μ9 else wp_X7_becomes (((19 : Int32) + ((5 : Int32) * a1)) + (3 : Int32)) a2 (fun r25 μ25 => Q r25 μ25) μ9) μ2) μ
set_option maxRecDepth 100000 in
set_option maxHeartbeats 4000000 in
theorem c_X7_lay (l : Launch) (G : vG) (hG : gO G) (a1 : Int32) (a2 : Int32) (h0 : isX7 G) (Q : Int32 → vM → Prop) (μ : vM) (hw : wp_X7_lay a1 a2 Q μ) : mt l G yX7_lay vX7_lay { frames := 2, cells := 0, slots := 0, locals := 43 } [.ref (ga G 0), .int a1, .int a2] μ (qI G Q) := by
  refine met_of (cc := cX7_lay) (maxL := 3) (ret := (some .int)) RX7 (by decide) rfl rfl hG (Nat.le_of_ble_eq_true rfl) ?_
  intro p e s m below meth c X h ls hl
  have hl : lv_has ls 3 [(0, .ref (ga G 0)), (1, .int a1), (2, .int a2)] := hl
  have hx := X.1
  have hb := X.2.1
  unfold wp_X7_lay at hw
  refine lv_aload_n hx hb dX7_lay_0 rfl (lv_at hl 0 rfl) ?_
  refine lv_iload_n hx hb dX7_lay_1 rfl (lv_at hl 1 rfl) ?_
  refine k_i h (n_V (rest := []) (As := [.int a1]) X h hl.1 (c_X7_isBit l G hG a1 h0 _ _ hw) gk_X7_125 rfl hd_X7_isBit ⟨rfl, rfl⟩ ⟨Nat.le_of_ble_eq_true rfl, Nat.le_of_ble_eq_true rfl⟩ (X7_o h0) rfl rfl (Nat.le_of_ble_eq_true rfl) dX7_lay_2 ⟨Nat.zero_le _, Nat.zero_le _⟩) (fun r2 μ2 H locs hw h => ?_)
  have s31 : ∀  (μ : vM), ∀ (H : Heap) (locs : List Loc) (ls : Array Slot), bw G s μ H locs → lv_has ls 3 [(0, .ref (ga G 0))] → wp_X7_lay_31 a1 a2 Q μ → W p l e ({ frames := 2, cells := 0, slots := 0, locals := 43 } : Room) s m ([.ref (ga G 0), .int a1, .int a2] : List Value).toArray below meth c H locs 0 0 (MQ below (qI G Q) ([.ref (ga G 0), .int a1, .int a2] : List Value).toArray s 0 0 (gA G)) (F0 m 31 ls []) := by
    intro  μ H locs ls h hl hw
    unfold wp_X7_lay_31 at hw
    refine lv_aload_n hx hb dX7_lay_31 rfl (lv_at hl 0 rfl) ?_
    refine r_ldc X (v := (-1000000001 : Int32)) ww_4_131 dX7_lay_32 ?_
    refine k_i h (n_V (rest := []) (As := [.int (-1000000001 : Int32)]) X h hl.1 (c_X7_error l G hG (-1000000001 : Int32) h0 _ _ hw) gk_X7_104 rfl hd_X7_error ⟨rfl, rfl⟩ ⟨Nat.le_of_ble_eq_true rfl, Nat.le_of_ble_eq_true rfl⟩ (X7_o h0) rfl rfl (Nat.le_of_ble_eq_true rfl) dX7_lay_34 ⟨Nat.zero_le _, Nat.zero_le _⟩) (fun r34 μ34 H locs hw h => ?_)
    exact r_iret X h hw dX7_lay_37
  refine lv_if_eq (tgt := 31) hx hb dX7_lay_5 (by decide) (fun hc => ?_) (fun hc => ?_)
  · rw [if_pos hc] at hw
    exact s31 μ2 _ _ _ h (lv_sub hl [0] rfl) hw
  · rw [if_neg hc] at hw
    refine lv_iload_n hx hb dX7_lay_8 rfl (lv_at hl 2 rfl) ?_
    refine k_i h (n_T (rest := []) (As := [.int a2]) X h hl.1 (c_X7_isPlace l G hG a2 _ _ hw) gk_X7_100 rfl hd_X7_isPlace ⟨rfl, rfl⟩ ⟨Nat.le_of_ble_eq_true rfl, Nat.le_of_ble_eq_true rfl⟩ rfl (Nat.le_of_ble_eq_true rfl) dX7_lay_9 ⟨Nat.zero_le _, Nat.zero_le _⟩) (fun r9 μ9 H locs hw h => ?_)
    refine lv_if_eq (tgt := 31) hx hb dX7_lay_12 (by decide) (fun hc => ?_) (fun hc => ?_)
    · rw [if_pos hc] at hw
      exact s31 μ9 _ _ _ h (lv_sub hl [0] rfl) hw
    · rw [if_neg hc] at hw
      refine lv_aload_n hx hb dX7_lay_15 rfl (lv_at hl 0 rfl) ?_
      refine lv_bipush (v := (19 : Int32)) hx hb dX7_lay_16 (by decide) ?_
      refine lv_iconst (v := (5 : Int32)) hx hb dX7_lay_18 (by decide) ?_
      refine lv_iload_n hx hb dX7_lay_19 rfl (lv_at hl 1 rfl) ?_
      refine lv_imul hx hb dX7_lay_20 ?_
      refine lv_iadd hx hb dX7_lay_21 ?_
      refine lv_iconst (v := (3 : Int32)) hx hb dX7_lay_22 (by decide) ?_
      refine lv_iadd hx hb dX7_lay_23 ?_
      refine lv_iload_n hx hb dX7_lay_24 rfl (lv_at hl 2 rfl) ?_
      refine k_i h (n_V (rest := []) (As := [.int (((19 : Int32) + ((5 : Int32) * a1)) + (3 : Int32)), .int a2]) X h hl.1 (c_X7_becomes l G hG (((19 : Int32) + ((5 : Int32) * a1)) + (3 : Int32)) a2 h0 _ _ hw) gk_X7_114 rfl hd_X7_becomes ⟨rfl, rfl⟩ ⟨Nat.le_of_ble_eq_true rfl, Nat.le_of_ble_eq_true rfl⟩ (X7_o h0) rfl rfl (Nat.le_of_ble_eq_true rfl) dX7_lay_25 ⟨Nat.zero_le _, Nat.zero_le _⟩) (fun r25 μ25 H locs hw h => ?_)
      refine lv_goto (tgt := 37) hx hb dX7_lay_28 (by decide) ?_
      exact r_iret X h hw dX7_lay_37
def wp_X7_feed_40 (a1 : Int64) (a3 : Int32) (Q : Int32 → vM → Prop) : Nat → Int32 → vM → Prop
  | 0, _, _ => False
  | n40 + 1, x4, μ => if a3 ≤ x4 then vp_in (3 : Int32) 385 ∧ Q (μ 1 (3 : Int32).toNatClampNeg) μ else vp_in (3 : Int32) 385 ∧ vp_in ((59 : Int32) + (μ 1 (3 : Int32).toNatClampNeg)) 385 ∧ ∃ μ71 : vM, μ71 = st μ 1 ((59 : Int32) + (μ 1 (3 : Int32).toNatClampNeg)).toNatClampNeg (((a1 >>> (((8 : Int32) * x4).toInt64 &&& 63)) &&& (255 : Int64)).toInt32) ∧ vp_in (3 : Int32) 385 ∧ vp_in (3 : Int32) 385 ∧ ∃ μ81 : vM, μ81 = st μ71 1 (3 : Int32).toNatClampNeg ((μ71 1 (3 : Int32).toNatClampNeg) + (1 : Int32)) ∧ ∃ x4_82 : Int32, x4_82 = x4 + (1 : Int32) ∧ wp_X7_feed_40 a1 a3 Q n40 x4_82 μ81
def wp_X7_feed (a1 : Int64) (a3 : Int32) (Q : Int32 → vM → Prop) (μ : vM) : Prop := wp_X7_in a3 (1 : Int32) (8 : Int32) (fun r4 μ4 => if r4 = 0 then wp_X7_error (-1000000001 : Int32) (fun r13 μ13 => Q r13 μ13) μ4 else vp_in (3 : Int32) 385 ∧ if ((μ4 1 (3 : Int32).toNatClampNeg) + a3) ≤ (60 : Int32) then ∃ n40, wp_X7_feed_40 a1 a3 Q n40 (0 : Int32) μ4 else wp_X7_error (-1000000004 : Int32) (fun r33 μ33 => Q r33 μ33) μ4) μ
set_option maxRecDepth 100000 in
set_option maxHeartbeats 4000000 in
theorem c_X7_feed (l : Launch) (G : vG) (hG : gO G) (a1 : Int64) (a3 : Int32) (h0 : isX7 G) (Q : Int32 → vM → Prop) (μ : vM) (hw : wp_X7_feed a1 a3 Q μ) : mt l G yX7_feed vX7_feed { frames := 1, cells := 0, slots := 0, locals := 22 } [.ref (ga G 0), .long a1, .int a3] μ (qI G Q) := by
  refine met_of (cc := cX7_feed) (maxL := 5) (ret := (some .int)) RX7 (by decide) rfl rfl hG (Nat.le_of_ble_eq_true rfl) ?_
  intro p e s m below meth c X h ls hl
  have hl : lv_has ls 5 [(0, .ref (ga G 0)), (1, .long a1), (3, .int a3)] := hl
  have hx := X.1
  have hb := X.2.1
  unfold wp_X7_feed at hw
  refine lv_iload_n hx hb dX7_feed_0 rfl (lv_at hl 2 rfl) ?_
  refine lv_iconst (v := (1 : Int32)) hx hb dX7_feed_1 (by decide) ?_
  refine lv_bipush (v := (8 : Int32)) hx hb dX7_feed_2 (by decide) ?_
  refine k_i h (n_T (rest := []) (As := [.int a3, .int (1 : Int32), .int (8 : Int32)]) X h hl.1 (c_X7_in l G hG a3 (1 : Int32) (8 : Int32) _ _ hw) gk_X7_57 rfl hd_X7_in ⟨rfl, rfl⟩ ⟨Nat.le_of_ble_eq_true rfl, Nat.le_of_ble_eq_true rfl⟩ rfl (Nat.le_of_ble_eq_true rfl) dX7_feed_4 ⟨Nat.zero_le _, Nat.zero_le _⟩) (fun r4 μ4 H locs hw h => ?_)
  refine lv_if_ne (tgt := 17) hx hb dX7_feed_7 (by decide) (fun hc => ?_) (fun hc => ?_)
  · rw [if_neg hc] at hw
    refine lv_aload_n hx hb dX7_feed_17 rfl (lv_at hl 0 rfl) ?_
    refine r_getR (q := 1) X h (X7_o h0) rfl uX7 0 (by decide) lf_4_51 rfl dX7_feed_18 ?_
    refine lv_iconst (v := (3 : Int32)) hx hb dX7_feed_21 (by decide) ?_
    obtain ⟨hi, hw⟩ := hw
    refine r_ald X h (X7_row h0) hi dX7_feed_22 ?_
    refine lv_iload_n hx hb dX7_feed_23 rfl (lv_at hl 2 rfl) ?_
    refine lv_iadd hx hb dX7_feed_24 ?_
    refine lv_bipush (v := (60 : Int32)) hx hb dX7_feed_25 (by decide) ?_
    refine lv_icmp_le (tgt := 37) hx hb dX7_feed_27 (by decide) (fun hc => ?_) (fun hc => ?_)
    · rw [if_pos hc] at hw
      refine lv_iconst (v := (0 : Int32)) hx hb dX7_feed_37 (by decide) ?_
      refine lv_istore (lv' := [(4, .int (0 : Int32)), (0, .ref (ga G 0)), (1, .long a1), (3, .int a3)]) hx hb dX7_feed_38 hl (by decide) rfl (fun ls hl => ?_)
      have s40 : ∀ (n40 : Nat) (x4 : Int32) (μ : vM), ∀ (H : Heap) (locs : List Loc) (ls : Array Slot), bw G s μ H locs → lv_has ls 5 [(0, .ref (ga G 0)), (1, .long a1), (3, .int a3), (4, .int x4)] → wp_X7_feed_40 a1 a3 Q n40 x4 μ → W p l e ({ frames := 1, cells := 0, slots := 0, locals := 22 } : Room) s m ([.ref (ga G 0), .long a1, .int a3] : List Value).toArray below meth c H locs 0 0 (MQ below (qI G Q) ([.ref (ga G 0), .long a1, .int a3] : List Value).toArray s 0 0 (gA G)) (F0 m 40 ls []) := by
        intro n40
        induction n40 with
        | zero => intro x4 μ H locs ls h hl hw; exact absurd hw (by unfold wp_X7_feed_40; exact id)
        | succ n40 ih40 =>
          intro x4 μ H locs ls h hl hw
          unfold wp_X7_feed_40 at hw
          refine lv_iload hx hb dX7_feed_40 (lv_at hl 3 rfl) ?_
          refine lv_iload_n hx hb dX7_feed_42 rfl (lv_at hl 2 rfl) ?_
          refine lv_icmp_ge (tgt := 88) hx hb dX7_feed_43 (by decide) (fun hc => ?_) (fun hc => ?_)
          · rw [if_pos hc] at hw
            refine lv_aload_n hx hb dX7_feed_88 rfl (lv_at hl 0 rfl) ?_
            refine r_getR (q := 1) X h (X7_o h0) rfl uX7 0 (by decide) lf_4_51 rfl dX7_feed_89 ?_
            refine lv_iconst (v := (3 : Int32)) hx hb dX7_feed_92 (by decide) ?_
            obtain ⟨hi, hw⟩ := hw
            refine r_ald X h (X7_row h0) hi dX7_feed_93 ?_
            exact r_iret X h hw dX7_feed_94
          · rw [if_neg hc] at hw
            refine lv_aload_n hx hb dX7_feed_46 rfl (lv_at hl 0 rfl) ?_
            refine r_getR (q := 1) X h (X7_o h0) rfl uX7 0 (by decide) lf_4_51 rfl dX7_feed_47 ?_
            refine lv_bipush (v := (59 : Int32)) hx hb dX7_feed_50 (by decide) ?_
            refine lv_aload_n hx hb dX7_feed_52 rfl (lv_at hl 0 rfl) ?_
            refine r_getR (q := 1) X h (X7_o h0) rfl uX7 0 (by decide) lf_4_51 rfl dX7_feed_53 ?_
            refine lv_iconst (v := (3 : Int32)) hx hb dX7_feed_56 (by decide) ?_
            obtain ⟨hi, hw⟩ := hw
            refine r_ald X h (X7_row h0) hi dX7_feed_57 ?_
            refine lv_iadd hx hb dX7_feed_58 ?_
            refine lv_lload_n hx hb dX7_feed_59 rfl (lv_at hl 1 rfl) ?_
            refine lv_bipush (v := (8 : Int32)) hx hb dX7_feed_60 (by decide) ?_
            refine lv_iload hx hb dX7_feed_62 (lv_at hl 3 rfl) ?_
            refine lv_imul hx hb dX7_feed_64 ?_
            refine lv_lshr hx hb dX7_feed_65 rfl ?_
            refine r_ldc2 X (v := 255) ww_5_16 dX7_feed_66 ?_
            refine lv_land hx hb dX7_feed_69 ?_
            refine lv_l2i hx hb dX7_feed_70 rfl ?_
            obtain ⟨hi, μ71, eμ71, hw⟩ := hw
            refine r_ast X h (X7_row h0) hi eμ71 dX7_feed_71 (fun H locs h => ?_)
            refine lv_aload_n hx hb dX7_feed_72 rfl (lv_at hl 0 rfl) ?_
            refine r_getR (q := 1) X h (X7_o h0) rfl uX7 0 (by decide) lf_4_51 rfl dX7_feed_73 ?_
            refine lv_iconst (v := (3 : Int32)) hx hb dX7_feed_76 (by decide) ?_
            refine lv_dup2_11 hx hb dX7_feed_77 rfl rfl ?_
            obtain ⟨hi, hw⟩ := hw
            refine r_ald X h (X7_row h0) hi dX7_feed_78 ?_
            refine lv_iconst (v := (1 : Int32)) hx hb dX7_feed_79 (by decide) ?_
            refine lv_iadd hx hb dX7_feed_80 ?_
            obtain ⟨hi, μ81, eμ81, hw⟩ := hw
            refine r_ast X h (X7_row h0) hi eμ81 dX7_feed_81 (fun H locs h => ?_)
            obtain ⟨x4_82, ex4_82, hw⟩ := hw
            refine lv_iinc (v := x4_82) (lv' := [(4, .int x4_82), (0, .ref (ga G 0)), (1, .long a1), (3, .int a3)]) hx hb dX7_feed_82 hl (k := 3) rfl (by rw [ex4_82]; rfl) (by decide) rfl (fun ls hl => ?_)
            refine lv_goto (tgt := 40) hx hb dX7_feed_85 (by decide) ?_
            exact ih40 x4_82 μ81 _ _ _ h (lv_sub hl [1, 2, 3, 0] rfl) hw
      obtain ⟨n, hw⟩ := hw
      exact s40 n (0 : Int32) μ4 _ _ _ h (lv_sub hl [1, 2, 3, 0] rfl) hw
    · rw [if_neg hc] at hw
      refine lv_aload_n hx hb dX7_feed_30 rfl (lv_at hl 0 rfl) ?_
      refine r_ldc X (v := (-1000000004 : Int32)) ww_4_172 dX7_feed_31 ?_
      refine k_i h (n_V (rest := []) (As := [.int (-1000000004 : Int32)]) X h hl.1 (c_X7_error l G hG (-1000000004 : Int32) h0 _ _ hw) gk_X7_104 rfl hd_X7_error ⟨rfl, rfl⟩ ⟨Nat.le_of_ble_eq_true rfl, Nat.le_of_ble_eq_true rfl⟩ (X7_o h0) rfl rfl (Nat.le_of_ble_eq_true rfl) dX7_feed_33 ⟨Nat.zero_le _, Nat.zero_le _⟩) (fun r33 μ33 H locs hw h => ?_)
      exact r_iret X h hw dX7_feed_36
  · rw [if_pos hc] at hw
    refine lv_aload_n hx hb dX7_feed_10 rfl (lv_at hl 0 rfl) ?_
    refine r_ldc X (v := (-1000000001 : Int32)) ww_4_131 dX7_feed_11 ?_
    refine k_i h (n_V (rest := []) (As := [.int (-1000000001 : Int32)]) X h hl.1 (c_X7_error l G hG (-1000000001 : Int32) h0 _ _ hw) gk_X7_104 rfl hd_X7_error ⟨rfl, rfl⟩ ⟨Nat.le_of_ble_eq_true rfl, Nat.le_of_ble_eq_true rfl⟩ (X7_o h0) rfl rfl (Nat.le_of_ble_eq_true rfl) dX7_feed_13 ⟨Nat.zero_le _, Nat.zero_le _⟩) (fun r13 μ13 H locs hw h => ?_)
    exact r_iret X h hw dX7_feed_16
def wp_X7_look (Q : Int32 → vM → Prop) (μ : vM) : Prop := vp_in (3 : Int32) 385 ∧ if (μ 1 (3 : Int32).toNatClampNeg) ≤ (μ 0 15) then Q (-1 : Int32) μ else vp_in ((59 : Int32) + (μ 0 15)) 385 ∧ Q (μ 1 ((59 : Int32) + (μ 0 15)).toNatClampNeg) μ
set_option maxRecDepth 100000 in
set_option maxHeartbeats 4000000 in
theorem c_X7_look (l : Launch) (G : vG) (hG : gO G)  (h0 : isX7 G) (Q : Int32 → vM → Prop) (μ : vM) (hw : wp_X7_look Q μ) : mt l G yX7_look vX7_look { frames := 0, cells := 0, slots := 0, locals := 0 } [.ref (ga G 0)] μ (qI G Q) := by
  refine met_of (cc := cX7_look) (maxL := 1) (ret := (some .int)) RX7 (by decide) rfl rfl hG (Nat.le_of_ble_eq_true rfl) ?_
  intro p e s m below meth c X h ls hl
  have hl : lv_has ls 1 [(0, .ref (ga G 0))] := hl
  have hx := X.1
  have hb := X.2.1
  unfold wp_X7_look at hw
  refine lv_aload_n hx hb dX7_look_0 rfl (lv_at hl 0 rfl) ?_
  refine r_getI X h (X7_o h0) rfl uX7 15 (by decide) lf_4_66 rfl dX7_look_1 ?_
  refine lv_aload_n hx hb dX7_look_4 rfl (lv_at hl 0 rfl) ?_
  refine r_getR (q := 1) X h (X7_o h0) rfl uX7 0 (by decide) lf_4_51 rfl dX7_look_5 ?_
  refine lv_iconst (v := (3 : Int32)) hx hb dX7_look_8 (by decide) ?_
  obtain ⟨hi, hw⟩ := hw
  refine r_ald X h (X7_row h0) hi dX7_look_9 ?_
  refine lv_icmp_ge (tgt := 28) hx hb dX7_look_10 (by decide) (fun hc => ?_) (fun hc => ?_)
  · rw [if_pos hc] at hw
    refine lv_iconst (v := (-1 : Int32)) hx hb dX7_look_28 (by decide) ?_
    exact r_iret X h hw dX7_look_29
  · rw [if_neg hc] at hw
    refine lv_aload_n hx hb dX7_look_13 rfl (lv_at hl 0 rfl) ?_
    refine r_getR (q := 1) X h (X7_o h0) rfl uX7 0 (by decide) lf_4_51 rfl dX7_look_14 ?_
    refine lv_bipush (v := (59 : Int32)) hx hb dX7_look_17 (by decide) ?_
    refine lv_aload_n hx hb dX7_look_19 rfl (lv_at hl 0 rfl) ?_
    refine r_getI X h (X7_o h0) rfl uX7 15 (by decide) lf_4_66 rfl dX7_look_20 ?_
    refine lv_iadd hx hb dX7_look_23 ?_
    obtain ⟨hi, hw⟩ := hw
    refine r_ald X h (X7_row h0) hi dX7_look_24 ?_
    refine lv_goto (tgt := 29) hx hb dX7_look_25 (by decide) ?_
    exact r_iret X h hw dX7_look_29
def wp_X7_laysBy (a1 : Int32) (a2 : Int32) (Q : vM → Prop) (μ : vM) : Prop := if (60 : Int32) ≤ (μ 0 14) then Q μ else vp_in (μ 0 14) 60 ∧ ∃ μ21 : vM, μ21 = st μ 9 (μ 0 14).toNatClampNeg a1 ∧ vp_in (μ21 0 14) 60 ∧ ∃ μ31 : vM, μ31 = st μ21 10 (μ21 0 14).toNatClampNeg a2 ∧ ∃ μ39 : vM, μ39 = st μ31 0 14 ((μ31 0 14) + (1 : Int32)) ∧ Q μ39
set_option maxRecDepth 100000 in
set_option maxHeartbeats 4000000 in
theorem c_X7_laysBy (l : Launch) (G : vG) (hG : gO G) (a1 : Int32) (a2 : Int32) (h0 : isX7 G) (Q : vM → Prop) (μ : vM) (hw : wp_X7_laysBy a1 a2 Q μ) : mt l G yX7_laysBy vX7_laysBy { frames := 0, cells := 0, slots := 0, locals := 0 } [.ref (ga G 0), .int a1, .int a2] μ (qV G Q) := by
  refine met_of (cc := cX7_laysBy) (maxL := 3) (ret := none) RX7 (by decide) rfl rfl hG (Nat.le_of_ble_eq_true rfl) ?_
  intro p e s m below meth c X h ls hl
  have hl : lv_has ls 3 [(0, .ref (ga G 0)), (1, .int a1), (2, .int a2)] := hl
  have hx := X.1
  have hb := X.2.1
  unfold wp_X7_laysBy at hw
  refine lv_aload_n hx hb dX7_laysBy_0 rfl (lv_at hl 0 rfl) ?_
  refine r_getI X h (X7_o h0) rfl uX7 14 (by decide) lf_4_65 rfl dX7_laysBy_1 ?_
  refine lv_aload_n hx hb dX7_laysBy_4 rfl (lv_at hl 0 rfl) ?_
  refine r_getR (q := 9) X h (X7_o h0) rfl uX7 10 (by decide) lf_4_61 rfl dX7_laysBy_5 ?_
  refine r_alen X h (X7_act h0) (v := (60 : Int32)) (by decide) dX7_laysBy_8 ?_
  refine lv_icmp_ge (tgt := 42) hx hb dX7_laysBy_9 (by decide) (fun hc => ?_) (fun hc => ?_)
  · rw [if_pos hc] at hw
    exact r_vret X h hw dX7_laysBy_42
  · rw [if_neg hc] at hw
    refine lv_aload_n hx hb dX7_laysBy_12 rfl (lv_at hl 0 rfl) ?_
    refine r_getR (q := 9) X h (X7_o h0) rfl uX7 10 (by decide) lf_4_61 rfl dX7_laysBy_13 ?_
    refine lv_aload_n hx hb dX7_laysBy_16 rfl (lv_at hl 0 rfl) ?_
    refine r_getI X h (X7_o h0) rfl uX7 14 (by decide) lf_4_65 rfl dX7_laysBy_17 ?_
    refine lv_iload_n hx hb dX7_laysBy_20 rfl (lv_at hl 1 rfl) ?_
    obtain ⟨hi, μ21, eμ21, hw⟩ := hw
    refine r_ast X h (X7_act h0) hi eμ21 dX7_laysBy_21 (fun H locs h => ?_)
    refine lv_aload_n hx hb dX7_laysBy_22 rfl (lv_at hl 0 rfl) ?_
    refine r_getR (q := 10) X h (X7_o h0) rfl uX7 11 (by decide) lf_4_62 rfl dX7_laysBy_23 ?_
    refine lv_aload_n hx hb dX7_laysBy_26 rfl (lv_at hl 0 rfl) ?_
    refine r_getI X h (X7_o h0) rfl uX7 14 (by decide) lf_4_65 rfl dX7_laysBy_27 ?_
    refine lv_iload_n hx hb dX7_laysBy_30 rfl (lv_at hl 2 rfl) ?_
    obtain ⟨hi, μ31, eμ31, hw⟩ := hw
    refine r_ast X h (X7_with h0) hi eμ31 dX7_laysBy_31 (fun H locs h => ?_)
    refine lv_aload_n hx hb dX7_laysBy_32 rfl (lv_at hl 0 rfl) ?_
    refine lv_dup hx hb dX7_laysBy_33 rfl ?_
    refine r_getI X h (X7_o h0) rfl uX7 14 (by decide) lf_4_65 rfl dX7_laysBy_34 ?_
    refine lv_iconst (v := (1 : Int32)) hx hb dX7_laysBy_37 (by decide) ?_
    refine lv_iadd hx hb dX7_laysBy_38 ?_
    obtain ⟨μ39, eμ39, hw⟩ := hw
    refine r_putI X h (X7_o h0) rfl uX7 tyX7 tyX7_ok nmX7 14 (by decide) lf_4_65 rfl rfl rfl  eμ39 dX7_laysBy_39 (fun H locs h => ?_)
    exact r_vret X h hw dX7_laysBy_42
def wp_X7_nameOf (a1 : Int32) (Q : Int32 → vM → Prop) (μ : vM) : Prop := if a1 = (100 : Int32) then if (μ 0 18) = 0 then if a1 = (115 : Int32) then Q (0 : Int32) μ else if a1 = (100 : Int32) then Q (1 : Int32) μ else Q (2 : Int32) μ else Q (-1 : Int32) μ else if a1 = (102 : Int32) then if (μ 0 18) = 0 then if a1 = (115 : Int32) then Q (0 : Int32) μ else if a1 = (100 : Int32) then Q (1 : Int32) μ else Q (2 : Int32) μ else Q (-1 : Int32) μ else if a1 = (104 : Int32) then if (μ 0 18) = (1 : Int32) then if a1 = (119 : Int32) then Q (0 : Int32) μ else if a1 = (104 : Int32) then Q (1 : Int32) μ else Q (2 : Int32) μ else Q (-1 : Int32) μ else if a1 = (115 : Int32) then if (μ 0 18) = 0 then if a1 = (115 : Int32) then Q (0 : Int32) μ else if a1 = (100 : Int32) then Q (1 : Int32) μ else Q (2 : Int32) μ else Q (-1 : Int32) μ else if a1 = (119 : Int32) then if (μ 0 18) = (1 : Int32) then if a1 = (119 : Int32) then Q (0 : Int32) μ else if a1 = (104 : Int32) then Q (1 : Int32) μ else Q (2 : Int32) μ else Q (-1 : Int32) μ else if a1 = (121 : Int32) then if (μ 0 18) = (1 : Int32) then if a1 = (119 : Int32) then Q (0 : Int32) μ else if a1 = (104 : Int32) then Q (1 : Int32) μ else Q (2 : Int32) μ else Q (-1 : Int32) μ else Q (-1 : Int32) μ
set_option maxRecDepth 100000 in
set_option maxHeartbeats 4000000 in
theorem c_X7_nameOf (l : Launch) (G : vG) (hG : gO G) (a1 : Int32) (h0 : isX7 G) (Q : Int32 → vM → Prop) (μ : vM) (hw : wp_X7_nameOf a1 Q μ) : mt l G yX7_nameOf vX7_nameOf { frames := 0, cells := 0, slots := 0, locals := 0 } [.ref (ga G 0), .int a1] μ (qI G Q) := by
  refine met_of (cc := cX7_nameOf) (maxL := 2) (ret := (some .int)) RX7 (by decide) rfl rfl hG (Nat.le_of_ble_eq_true rfl) ?_
  intro p e s m below meth c X h ls hl
  have hl : lv_has ls 2 [(0, .ref (ga G 0)), (1, .int a1)] := hl
  have hx := X.1
  have hb := X.2.1
  unfold wp_X7_nameOf at hw
  refine lv_iload_n hx hb dX7_nameOf_0 rfl (lv_at hl 1 rfl) ?_
  by_cases hc100 : a1 = (100 : Int32)
  · rw [if_pos hc100] at hw
    refine lv_lookup (off := 59) (tgt := 60) hx hb dX7_nameOf_1 (by decide) (by rw [hc100]; decide) (by decide) ?_
    refine lv_aload_n hx hb dX7_nameOf_60 rfl (lv_at hl 0 rfl) ?_
    refine r_getI X h (X7_o h0) rfl uX7 18 (by decide) lf_4_69 rfl dX7_nameOf_61 ?_
    refine lv_if_eq (tgt := 71) hx hb dX7_nameOf_64 (by decide) (fun hc => ?_) (fun hc => ?_)
    · rw [if_pos hc] at hw
      refine lv_iload_n hx hb dX7_nameOf_71 rfl (lv_at hl 1 rfl) ?_
      refine lv_bipush (v := (115 : Int32)) hx hb dX7_nameOf_72 (by decide) ?_
      refine lv_icmp_ne (tgt := 81) hx hb dX7_nameOf_74 (by decide) (fun hc => ?_) (fun hc => ?_)
      · rw [if_neg hc] at hw
        refine lv_iload_n hx hb dX7_nameOf_81 rfl (lv_at hl 1 rfl) ?_
        refine lv_bipush (v := (100 : Int32)) hx hb dX7_nameOf_82 (by decide) ?_
        refine lv_icmp_ne (tgt := 91) hx hb dX7_nameOf_84 (by decide) (fun hc => ?_) (fun hc => ?_)
        · rw [if_neg hc] at hw
          refine lv_iconst (v := (2 : Int32)) hx hb dX7_nameOf_91 (by decide) ?_
          exact r_iret X h hw dX7_nameOf_92
        · rw [if_pos hc] at hw
          refine lv_iconst (v := (1 : Int32)) hx hb dX7_nameOf_87 (by decide) ?_
          refine lv_goto (tgt := 92) hx hb dX7_nameOf_88 (by decide) ?_
          exact r_iret X h hw dX7_nameOf_92
      · rw [if_pos hc] at hw
        refine lv_iconst (v := (0 : Int32)) hx hb dX7_nameOf_77 (by decide) ?_
        refine lv_goto (tgt := 92) hx hb dX7_nameOf_78 (by decide) ?_
        exact r_iret X h hw dX7_nameOf_92
    · rw [if_neg hc] at hw
      refine lv_iconst (v := (-1 : Int32)) hx hb dX7_nameOf_67 (by decide) ?_
      refine lv_goto (tgt := 92) hx hb dX7_nameOf_68 (by decide) ?_
      exact r_iret X h hw dX7_nameOf_92
  · rw [if_neg hc100] at hw
    by_cases hc102 : a1 = (102 : Int32)
    · rw [if_pos hc102] at hw
      refine lv_lookup (off := 59) (tgt := 60) hx hb dX7_nameOf_1 (by decide) (by rw [hc102]; decide) (by decide) ?_
      refine lv_aload_n hx hb dX7_nameOf_60 rfl (lv_at hl 0 rfl) ?_
      refine r_getI X h (X7_o h0) rfl uX7 18 (by decide) lf_4_69 rfl dX7_nameOf_61 ?_
      refine lv_if_eq (tgt := 71) hx hb dX7_nameOf_64 (by decide) (fun hc => ?_) (fun hc => ?_)
      · rw [if_pos hc] at hw
        refine lv_iload_n hx hb dX7_nameOf_71 rfl (lv_at hl 1 rfl) ?_
        refine lv_bipush (v := (115 : Int32)) hx hb dX7_nameOf_72 (by decide) ?_
        refine lv_icmp_ne (tgt := 81) hx hb dX7_nameOf_74 (by decide) (fun hc => ?_) (fun hc => ?_)
        · rw [if_neg hc] at hw
          refine lv_iload_n hx hb dX7_nameOf_81 rfl (lv_at hl 1 rfl) ?_
          refine lv_bipush (v := (100 : Int32)) hx hb dX7_nameOf_82 (by decide) ?_
          refine lv_icmp_ne (tgt := 91) hx hb dX7_nameOf_84 (by decide) (fun hc => ?_) (fun hc => ?_)
          · rw [if_neg hc] at hw
            refine lv_iconst (v := (2 : Int32)) hx hb dX7_nameOf_91 (by decide) ?_
            exact r_iret X h hw dX7_nameOf_92
          · rw [if_pos hc] at hw
            refine lv_iconst (v := (1 : Int32)) hx hb dX7_nameOf_87 (by decide) ?_
            refine lv_goto (tgt := 92) hx hb dX7_nameOf_88 (by decide) ?_
            exact r_iret X h hw dX7_nameOf_92
        · rw [if_pos hc] at hw
          refine lv_iconst (v := (0 : Int32)) hx hb dX7_nameOf_77 (by decide) ?_
          refine lv_goto (tgt := 92) hx hb dX7_nameOf_78 (by decide) ?_
          exact r_iret X h hw dX7_nameOf_92
      · rw [if_neg hc] at hw
        refine lv_iconst (v := (-1 : Int32)) hx hb dX7_nameOf_67 (by decide) ?_
        refine lv_goto (tgt := 92) hx hb dX7_nameOf_68 (by decide) ?_
        exact r_iret X h hw dX7_nameOf_92
    · rw [if_neg hc102] at hw
      by_cases hc104 : a1 = (104 : Int32)
      · rw [if_pos hc104] at hw
        refine lv_lookup (off := 92) (tgt := 93) hx hb dX7_nameOf_1 (by decide) (by rw [hc104]; decide) (by decide) ?_
        refine lv_aload_n hx hb dX7_nameOf_93 rfl (lv_at hl 0 rfl) ?_
        refine r_getI X h (X7_o h0) rfl uX7 18 (by decide) lf_4_69 rfl dX7_nameOf_94 ?_
        refine lv_iconst (v := (1 : Int32)) hx hb dX7_nameOf_97 (by decide) ?_
        refine lv_icmp_eq (tgt := 105) hx hb dX7_nameOf_98 (by decide) (fun hc => ?_) (fun hc => ?_)
        · rw [if_pos hc] at hw
          refine lv_iload_n hx hb dX7_nameOf_105 rfl (lv_at hl 1 rfl) ?_
          refine lv_bipush (v := (119 : Int32)) hx hb dX7_nameOf_106 (by decide) ?_
          refine lv_icmp_ne (tgt := 115) hx hb dX7_nameOf_108 (by decide) (fun hc => ?_) (fun hc => ?_)
          · rw [if_neg hc] at hw
            refine lv_iload_n hx hb dX7_nameOf_115 rfl (lv_at hl 1 rfl) ?_
            refine lv_bipush (v := (104 : Int32)) hx hb dX7_nameOf_116 (by decide) ?_
            refine lv_icmp_ne (tgt := 125) hx hb dX7_nameOf_118 (by decide) (fun hc => ?_) (fun hc => ?_)
            · rw [if_neg hc] at hw
              refine lv_iconst (v := (2 : Int32)) hx hb dX7_nameOf_125 (by decide) ?_
              exact r_iret X h hw dX7_nameOf_126
            · rw [if_pos hc] at hw
              refine lv_iconst (v := (1 : Int32)) hx hb dX7_nameOf_121 (by decide) ?_
              refine lv_goto (tgt := 126) hx hb dX7_nameOf_122 (by decide) ?_
              exact r_iret X h hw dX7_nameOf_126
          · rw [if_pos hc] at hw
            refine lv_iconst (v := (0 : Int32)) hx hb dX7_nameOf_111 (by decide) ?_
            refine lv_goto (tgt := 126) hx hb dX7_nameOf_112 (by decide) ?_
            exact r_iret X h hw dX7_nameOf_126
        · rw [if_neg hc] at hw
          refine lv_iconst (v := (-1 : Int32)) hx hb dX7_nameOf_101 (by decide) ?_
          refine lv_goto (tgt := 126) hx hb dX7_nameOf_102 (by decide) ?_
          exact r_iret X h hw dX7_nameOf_126
      · rw [if_neg hc104] at hw
        by_cases hc115 : a1 = (115 : Int32)
        · rw [if_pos hc115] at hw
          refine lv_lookup (off := 59) (tgt := 60) hx hb dX7_nameOf_1 (by decide) (by rw [hc115]; decide) (by decide) ?_
          refine lv_aload_n hx hb dX7_nameOf_60 rfl (lv_at hl 0 rfl) ?_
          refine r_getI X h (X7_o h0) rfl uX7 18 (by decide) lf_4_69 rfl dX7_nameOf_61 ?_
          refine lv_if_eq (tgt := 71) hx hb dX7_nameOf_64 (by decide) (fun hc => ?_) (fun hc => ?_)
          · rw [if_pos hc] at hw
            refine lv_iload_n hx hb dX7_nameOf_71 rfl (lv_at hl 1 rfl) ?_
            refine lv_bipush (v := (115 : Int32)) hx hb dX7_nameOf_72 (by decide) ?_
            refine lv_icmp_ne (tgt := 81) hx hb dX7_nameOf_74 (by decide) (fun hc => ?_) (fun hc => ?_)
            · rw [if_neg hc] at hw
              refine lv_iload_n hx hb dX7_nameOf_81 rfl (lv_at hl 1 rfl) ?_
              refine lv_bipush (v := (100 : Int32)) hx hb dX7_nameOf_82 (by decide) ?_
              refine lv_icmp_ne (tgt := 91) hx hb dX7_nameOf_84 (by decide) (fun hc => ?_) (fun hc => ?_)
              · rw [if_neg hc] at hw
                refine lv_iconst (v := (2 : Int32)) hx hb dX7_nameOf_91 (by decide) ?_
                exact r_iret X h hw dX7_nameOf_92
              · rw [if_pos hc] at hw
                refine lv_iconst (v := (1 : Int32)) hx hb dX7_nameOf_87 (by decide) ?_
                refine lv_goto (tgt := 92) hx hb dX7_nameOf_88 (by decide) ?_
                exact r_iret X h hw dX7_nameOf_92
            · rw [if_pos hc] at hw
              refine lv_iconst (v := (0 : Int32)) hx hb dX7_nameOf_77 (by decide) ?_
              refine lv_goto (tgt := 92) hx hb dX7_nameOf_78 (by decide) ?_
              exact r_iret X h hw dX7_nameOf_92
          · rw [if_neg hc] at hw
            refine lv_iconst (v := (-1 : Int32)) hx hb dX7_nameOf_67 (by decide) ?_
            refine lv_goto (tgt := 92) hx hb dX7_nameOf_68 (by decide) ?_
            exact r_iret X h hw dX7_nameOf_92
        · rw [if_neg hc115] at hw
          by_cases hc119 : a1 = (119 : Int32)
          · rw [if_pos hc119] at hw
            refine lv_lookup (off := 92) (tgt := 93) hx hb dX7_nameOf_1 (by decide) (by rw [hc119]; decide) (by decide) ?_
            refine lv_aload_n hx hb dX7_nameOf_93 rfl (lv_at hl 0 rfl) ?_
            refine r_getI X h (X7_o h0) rfl uX7 18 (by decide) lf_4_69 rfl dX7_nameOf_94 ?_
            refine lv_iconst (v := (1 : Int32)) hx hb dX7_nameOf_97 (by decide) ?_
            refine lv_icmp_eq (tgt := 105) hx hb dX7_nameOf_98 (by decide) (fun hc => ?_) (fun hc => ?_)
            · rw [if_pos hc] at hw
              refine lv_iload_n hx hb dX7_nameOf_105 rfl (lv_at hl 1 rfl) ?_
              refine lv_bipush (v := (119 : Int32)) hx hb dX7_nameOf_106 (by decide) ?_
              refine lv_icmp_ne (tgt := 115) hx hb dX7_nameOf_108 (by decide) (fun hc => ?_) (fun hc => ?_)
              · rw [if_neg hc] at hw
                refine lv_iload_n hx hb dX7_nameOf_115 rfl (lv_at hl 1 rfl) ?_
                refine lv_bipush (v := (104 : Int32)) hx hb dX7_nameOf_116 (by decide) ?_
                refine lv_icmp_ne (tgt := 125) hx hb dX7_nameOf_118 (by decide) (fun hc => ?_) (fun hc => ?_)
                · rw [if_neg hc] at hw
                  refine lv_iconst (v := (2 : Int32)) hx hb dX7_nameOf_125 (by decide) ?_
                  exact r_iret X h hw dX7_nameOf_126
                · rw [if_pos hc] at hw
                  refine lv_iconst (v := (1 : Int32)) hx hb dX7_nameOf_121 (by decide) ?_
                  refine lv_goto (tgt := 126) hx hb dX7_nameOf_122 (by decide) ?_
                  exact r_iret X h hw dX7_nameOf_126
              · rw [if_pos hc] at hw
                refine lv_iconst (v := (0 : Int32)) hx hb dX7_nameOf_111 (by decide) ?_
                refine lv_goto (tgt := 126) hx hb dX7_nameOf_112 (by decide) ?_
                exact r_iret X h hw dX7_nameOf_126
            · rw [if_neg hc] at hw
              refine lv_iconst (v := (-1 : Int32)) hx hb dX7_nameOf_101 (by decide) ?_
              refine lv_goto (tgt := 126) hx hb dX7_nameOf_102 (by decide) ?_
              exact r_iret X h hw dX7_nameOf_126
          · rw [if_neg hc119] at hw
            by_cases hc121 : a1 = (121 : Int32)
            · rw [if_pos hc121] at hw
              refine lv_lookup (off := 92) (tgt := 93) hx hb dX7_nameOf_1 (by decide) (by rw [hc121]; decide) (by decide) ?_
              refine lv_aload_n hx hb dX7_nameOf_93 rfl (lv_at hl 0 rfl) ?_
              refine r_getI X h (X7_o h0) rfl uX7 18 (by decide) lf_4_69 rfl dX7_nameOf_94 ?_
              refine lv_iconst (v := (1 : Int32)) hx hb dX7_nameOf_97 (by decide) ?_
              refine lv_icmp_eq (tgt := 105) hx hb dX7_nameOf_98 (by decide) (fun hc => ?_) (fun hc => ?_)
              · rw [if_pos hc] at hw
                refine lv_iload_n hx hb dX7_nameOf_105 rfl (lv_at hl 1 rfl) ?_
                refine lv_bipush (v := (119 : Int32)) hx hb dX7_nameOf_106 (by decide) ?_
                refine lv_icmp_ne (tgt := 115) hx hb dX7_nameOf_108 (by decide) (fun hc => ?_) (fun hc => ?_)
                · rw [if_neg hc] at hw
                  refine lv_iload_n hx hb dX7_nameOf_115 rfl (lv_at hl 1 rfl) ?_
                  refine lv_bipush (v := (104 : Int32)) hx hb dX7_nameOf_116 (by decide) ?_
                  refine lv_icmp_ne (tgt := 125) hx hb dX7_nameOf_118 (by decide) (fun hc => ?_) (fun hc => ?_)
                  · rw [if_neg hc] at hw
                    refine lv_iconst (v := (2 : Int32)) hx hb dX7_nameOf_125 (by decide) ?_
                    exact r_iret X h hw dX7_nameOf_126
                  · rw [if_pos hc] at hw
                    refine lv_iconst (v := (1 : Int32)) hx hb dX7_nameOf_121 (by decide) ?_
                    refine lv_goto (tgt := 126) hx hb dX7_nameOf_122 (by decide) ?_
                    exact r_iret X h hw dX7_nameOf_126
                · rw [if_pos hc] at hw
                  refine lv_iconst (v := (0 : Int32)) hx hb dX7_nameOf_111 (by decide) ?_
                  refine lv_goto (tgt := 126) hx hb dX7_nameOf_112 (by decide) ?_
                  exact r_iret X h hw dX7_nameOf_126
              · rw [if_neg hc] at hw
                refine lv_iconst (v := (-1 : Int32)) hx hb dX7_nameOf_101 (by decide) ?_
                refine lv_goto (tgt := 126) hx hb dX7_nameOf_102 (by decide) ?_
                exact r_iret X h hw dX7_nameOf_126
            · rw [if_neg hc121] at hw
              refine lv_lookup (off := 126) (tgt := 127) hx hb dX7_nameOf_1 (by decide) ((lv_osw hc100 (by decide)).trans ((lv_osw hc102 (by decide)).trans ((lv_osw hc104 (by decide)).trans ((lv_osw hc115 (by decide)).trans ((lv_osw hc119 (by decide)).trans ((lv_osw hc121 (by decide)).trans rfl)))))) (by decide) ?_
              refine lv_iconst (v := (-1 : Int32)) hx hb dX7_nameOf_127 (by decide) ?_
              exact r_iret X h hw dX7_nameOf_128
def wp_X7_number_62 (Q : vM → Prop) (x1 : Int32) (t1 : Int32) (μ : vM) : Prop := bz t1 ∧ ∃ μ62 : vM, μ62 = st μ 0 17 t1 ∧ wp_X7_laysBy (1 : Int32) x1 (fun μ68 => Q μ68) μ62
def wp_X7_number_52 (Q : vM → Prop) (x1 : Int32) (x2 : Int32) (μ : vM) : Prop := wp_X7_number_62 Q x1 (if x2 = 0 then (1 : Int32) else (0 : Int32)) μ
def wp_X7_number_4 (Q : vM → Prop) : Nat → Int32 → Int32 → vM → Prop
  | 0, _, _, _ => False
  | n4 + 1, x1, x2, μ => if (4 : Int32) ≤ x2 then wp_X7_number_52 Q x1 x2 μ else wp_X7_look  (fun r10 μ10 => wp_X7_in r10 (48 : Int32) (57 : Int32) (fun r17 μ17 => if r17 = 0 then wp_X7_number_52 Q x1 x2 μ17 else wp_X7_look  (fun r28 μ28 => ∃ x1_35 : Int32, x1_35 = (((10 : Int32) * x1) + r28) - (48 : Int32) ∧ ∃ μ43 : vM, μ43 = st μ28 0 15 ((μ28 0 15) + (1 : Int32)) ∧ ∃ x2_46 : Int32, x2_46 = x2 + (1 : Int32) ∧ wp_X7_number_4 Q n4 x1_35 x2_46 μ43) μ17) μ10) μ
def wp_X7_number (Q : vM → Prop) (μ : vM) : Prop := ∃ n4, wp_X7_number_4 Q n4 (0 : Int32) (0 : Int32) μ
set_option maxRecDepth 100000 in
set_option maxHeartbeats 4000000 in
theorem c_X7_number (l : Launch) (G : vG) (hG : gO G)  (h0 : isX7 G) (Q : vM → Prop) (μ : vM) (hw : wp_X7_number Q μ) : mt l G yX7_number vX7_number { frames := 1, cells := 0, slots := 0, locals := 22 } [.ref (ga G 0)] μ (qV G Q) := by
  refine met_of (cc := cX7_number) (maxL := 3) (ret := none) RX7 (by decide) rfl rfl hG (Nat.le_of_ble_eq_true rfl) ?_
  intro p e s m below meth c X h ls hl
  have hl : lv_has ls 3 [(0, .ref (ga G 0))] := hl
  have hx := X.1
  have hb := X.2.1
  unfold wp_X7_number at hw
  refine lv_iconst (v := (0 : Int32)) hx hb dX7_number_0 (by decide) ?_
  refine lv_istore_n (lv' := [(1, .int (0 : Int32)), (0, .ref (ga G 0))]) hx hb dX7_number_1 rfl hl (by decide) rfl (fun ls hl => ?_)
  refine lv_iconst (v := (0 : Int32)) hx hb dX7_number_2 (by decide) ?_
  refine lv_istore_n (lv' := [(2, .int (0 : Int32)), (1, .int (0 : Int32)), (0, .ref (ga G 0))]) hx hb dX7_number_3 rfl hl (by decide) rfl (fun ls hl => ?_)
  have s4 : ∀ (n4 : Nat) (x1 : Int32) (x2 : Int32) (μ : vM), ∀ (H : Heap) (locs : List Loc) (ls : Array Slot), bw G s μ H locs → lv_has ls 3 [(0, .ref (ga G 0)), (1, .int x1), (2, .int x2)] → wp_X7_number_4 Q n4 x1 x2 μ → W p l e ({ frames := 1, cells := 0, slots := 0, locals := 22 } : Room) s m ([.ref (ga G 0)] : List Value).toArray below meth c H locs 0 0 (MQ below (qV G Q) ([.ref (ga G 0)] : List Value).toArray s 0 0 (gA G)) (F0 m 4 ls []) := by
    intro n4
    induction n4 with
    | zero => intro x1 x2 μ H locs ls h hl hw; exact absurd hw (by unfold wp_X7_number_4; exact id)
    | succ n4 ih4 =>
      intro x1 x2 μ H locs ls h hl hw
      unfold wp_X7_number_4 at hw
      refine lv_iload_n hx hb dX7_number_4 rfl (lv_at hl 2 rfl) ?_
      refine lv_iconst (v := (4 : Int32)) hx hb dX7_number_5 (by decide) ?_
      have s52 : ∀ (x1 : Int32) (x2 : Int32) (μ : vM), ∀ (H : Heap) (locs : List Loc) (ls : Array Slot), bw G s μ H locs → lv_has ls 3 [(0, .ref (ga G 0)), (1, .int x1), (2, .int x2)] → wp_X7_number_52 Q x1 x2 μ → W p l e ({ frames := 1, cells := 0, slots := 0, locals := 22 } : Room) s m ([.ref (ga G 0)] : List Value).toArray below meth c H locs 0 0 (MQ below (qV G Q) ([.ref (ga G 0)] : List Value).toArray s 0 0 (gA G)) (F0 m 52 ls []) := by
        intro x1 x2 μ H locs ls h hl hw
        unfold wp_X7_number_52 at hw
        refine lv_aload_n hx hb dX7_number_52 rfl (lv_at hl 0 rfl) ?_
        refine lv_iload_n hx hb dX7_number_53 rfl (lv_at hl 2 rfl) ?_
        have s62 : ∀ (x1 : Int32) (t1 : Int32) (μ : vM), ∀ (H : Heap) (locs : List Loc) (ls : Array Slot), bw G s μ H locs → lv_has ls 3 [(0, .ref (ga G 0)), (1, .int x1)] → wp_X7_number_62 Q x1 t1 μ → W p l e ({ frames := 1, cells := 0, slots := 0, locals := 22 } : Room) s m ([.ref (ga G 0)] : List Value).toArray below meth c H locs 0 0 (MQ below (qV G Q) ([.ref (ga G 0)] : List Value).toArray s 0 0 (gA G)) (F0 m 62 ls [.int t1, .ref (ga G 0)]) := by
          intro x1 t1 μ H locs ls h hl hw
          unfold wp_X7_number_62 at hw
          obtain ⟨hz, hw⟩ := hw
          obtain ⟨μ62, eμ62, hw⟩ := hw
          refine r_putZ X h (X7_o h0) rfl uX7 tyX7 tyX7_ok nmX7 17 (by decide) lf_4_68 rfl rfl rfl  hz eμ62 dX7_number_62 (fun H locs h => ?_)
          refine lv_aload_n hx hb dX7_number_65 rfl (lv_at hl 0 rfl) ?_
          refine lv_iconst (v := (1 : Int32)) hx hb dX7_number_66 (by decide) ?_
          refine lv_iload_n hx hb dX7_number_67 rfl (lv_at hl 1 rfl) ?_
          refine k_v h (n_V (rest := []) (As := [.int (1 : Int32), .int x1]) X h hl.1 (c_X7_laysBy l G hG (1 : Int32) x1 h0 _ _ hw) gk_X7_157 rfl hd_X7_laysBy ⟨rfl, rfl⟩ ⟨Nat.le_of_ble_eq_true rfl, Nat.le_of_ble_eq_true rfl⟩ (X7_o h0) rfl rfl (Nat.le_of_ble_eq_true rfl) dX7_number_68 ⟨Nat.zero_le _, Nat.zero_le _⟩) (fun μ68 H locs hw h => ?_)
          exact r_vret X h hw dX7_number_71
        refine lv_if_ne (tgt := 61) hx hb dX7_number_54 (by decide) (fun hc => ?_) (fun hc => ?_)
        · rw [if_neg hc] at hw
          refine lv_iconst (v := (0 : Int32)) hx hb dX7_number_61 (by decide) ?_
          exact s62 x1 (0 : Int32) μ _ _ _ h (lv_sub hl [0, 1] rfl) hw
        · rw [if_pos hc] at hw
          refine lv_iconst (v := (1 : Int32)) hx hb dX7_number_57 (by decide) ?_
          refine lv_goto (tgt := 62) hx hb dX7_number_58 (by decide) ?_
          exact s62 x1 (1 : Int32) μ _ _ _ h (lv_sub hl [0, 1] rfl) hw
      refine lv_icmp_ge (tgt := 52) hx hb dX7_number_6 (by decide) (fun hc => ?_) (fun hc => ?_)
      · rw [if_pos hc] at hw
        exact s52 x1 x2 μ _ _ _ h (lv_sub hl [0, 1, 2] rfl) hw
      · rw [if_neg hc] at hw
        refine lv_aload_n hx hb dX7_number_9 rfl (lv_at hl 0 rfl) ?_
        refine k_i h (n_V (rest := []) (As := []) X h hl.1 (c_X7_look l G hG h0 _ _ hw) gk_X7_150 rfl hd_X7_look ⟨rfl, rfl⟩ ⟨Nat.le_of_ble_eq_true rfl, Nat.le_of_ble_eq_true rfl⟩ (X7_o h0) rfl rfl (Nat.le_of_ble_eq_true rfl) dX7_number_10 ⟨Nat.zero_le _, Nat.zero_le _⟩) (fun r10 μ10 H locs hw h => ?_)
        refine lv_bipush (v := (48 : Int32)) hx hb dX7_number_13 (by decide) ?_
        refine lv_bipush (v := (57 : Int32)) hx hb dX7_number_15 (by decide) ?_
        refine k_i h (n_T (rest := []) (As := [.int r10, .int (48 : Int32), .int (57 : Int32)]) X h hl.1 (c_X7_in l G hG r10 (48 : Int32) (57 : Int32) _ _ hw) gk_X7_57 rfl hd_X7_in ⟨rfl, rfl⟩ ⟨Nat.le_of_ble_eq_true rfl, Nat.le_of_ble_eq_true rfl⟩ rfl (Nat.le_of_ble_eq_true rfl) dX7_number_17 ⟨Nat.zero_le _, Nat.zero_le _⟩) (fun r17 μ17 H locs hw h => ?_)
        refine lv_if_eq (tgt := 52) hx hb dX7_number_20 (by decide) (fun hc => ?_) (fun hc => ?_)
        · rw [if_pos hc] at hw
          exact s52 x1 x2 μ17 _ _ _ h (lv_sub hl [0, 1, 2] rfl) hw
        · rw [if_neg hc] at hw
          refine lv_bipush (v := (10 : Int32)) hx hb dX7_number_23 (by decide) ?_
          refine lv_iload_n hx hb dX7_number_25 rfl (lv_at hl 1 rfl) ?_
          refine lv_imul hx hb dX7_number_26 ?_
          refine lv_aload_n hx hb dX7_number_27 rfl (lv_at hl 0 rfl) ?_
          refine k_i h (n_V (rest := [.int ((10 : Int32) * x1)]) (As := []) X h hl.1 (c_X7_look l G hG h0 _ _ hw) gk_X7_150 rfl hd_X7_look ⟨rfl, rfl⟩ ⟨Nat.le_of_ble_eq_true rfl, Nat.le_of_ble_eq_true rfl⟩ (X7_o h0) rfl rfl (Nat.le_of_ble_eq_true rfl) dX7_number_28 ⟨Nat.zero_le _, Nat.zero_le _⟩) (fun r28 μ28 H locs hw h => ?_)
          refine lv_iadd hx hb dX7_number_31 ?_
          refine lv_bipush (v := (48 : Int32)) hx hb dX7_number_32 (by decide) ?_
          refine lv_isub hx hb dX7_number_34 ?_
          obtain ⟨x1_35, ex1_35, hw⟩ := hw
          refine topE ex1_35 ?_
          refine lv_istore_n (lv' := [(1, .int x1_35), (0, .ref (ga G 0)), (2, .int x2)]) hx hb dX7_number_35 rfl hl (by decide) rfl (fun ls hl => ?_)
          refine lv_aload_n hx hb dX7_number_36 rfl (lv_at hl 1 rfl) ?_
          refine lv_dup hx hb dX7_number_37 rfl ?_
          refine r_getI X h (X7_o h0) rfl uX7 15 (by decide) lf_4_66 rfl dX7_number_38 ?_
          refine lv_iconst (v := (1 : Int32)) hx hb dX7_number_41 (by decide) ?_
          refine lv_iadd hx hb dX7_number_42 ?_
          obtain ⟨μ43, eμ43, hw⟩ := hw
          refine r_putI X h (X7_o h0) rfl uX7 tyX7 tyX7_ok nmX7 15 (by decide) lf_4_66 rfl rfl rfl  eμ43 dX7_number_43 (fun H locs h => ?_)
          obtain ⟨x2_46, ex2_46, hw⟩ := hw
          refine lv_iinc (v := x2_46) (lv' := [(2, .int x2_46), (1, .int x1_35), (0, .ref (ga G 0))]) hx hb dX7_number_46 hl (k := 2) rfl (by rw [ex2_46]; rfl) (by decide) rfl (fun ls hl => ?_)
          refine lv_goto (tgt := 4) hx hb dX7_number_49 (by decide) ?_
          exact ih4 x1_35 x2_46 μ43 _ _ _ h (lv_sub hl [2, 1, 0] rfl) hw
  obtain ⟨n, hw⟩ := hw
  exact s4 n (0 : Int32) (0 : Int32) μ _ _ _ h (lv_sub hl [2, 1, 0] rfl) hw
def wp_X7_one_46 (rec : Nat → Int32 → (vM → Prop) → vM → Prop) (Q : vM → Prop) (x1 : Int32) (μ : vM) : Prop := rec 6 x1 (fun μ48 => Q μ48) μ
def wp_X7_one (rec : Nat → Int32 → (vM → Prop) → vM → Prop) (Q : vM → Prop) (μ : vM) : Prop := wp_X7_look  (fun r1 μ1 => wp_X7_nameOf r1 (fun r7 μ7 => if r7 < 0 then if r1 = (33 : Int32) then wp_X7_one_46 rec Q r1 μ7 else if r1 = (40 : Int32) then wp_X7_one_46 rec Q r1 μ7 else wp_X7_number  (fun μ55 => Q μ55) μ7 else ∃ μ22 : vM, μ22 = st μ7 0 15 ((μ7 0 15) + (1 : Int32)) ∧ wp_X7_laysBy (2 : Int32) r7 (fun μ28 => Q μ28) μ22) μ1) μ
set_option maxRecDepth 100000 in
set_option maxHeartbeats 4000000 in
theorem cb_X7_one (l : Launch) (G : vG) (hG : gO G) (n : Nat) (rec : Nat → Int32 → (vM → Prop) → vM → Prop)  (h0 : isX7 G) (hrec_any : ∀ (Q : vM → Prop) (μ : vM), rec 0 0 Q μ → mt l G yX7_any vX7_any { frames := n * 2 + 10, cells := 0, slots := 0, locals := n * 64 + 300 } [.ref (ga G 0)] μ (qV G Q)) (hrec_all : ∀ (Q : vM → Prop) (μ : vM), rec 1 0 Q μ → mt l G yX7_all vX7_all { frames := n * 2 + 10, cells := 0, slots := 0, locals := n * 64 + 300 } [.ref (ga G 0)] μ (qV G Q)) (hrec_compares : ∀ (Q : vM → Prop) (μ : vM), rec 2 0 Q μ → mt l G yX7_compares vX7_compares { frames := n * 2 + 10, cells := 0, slots := 0, locals := n * 64 + 300 } [.ref (ga G 0)] μ (qV G Q)) (hrec_sum : ∀ (Q : vM → Prop) (μ : vM), rec 3 0 Q μ → mt l G yX7_sum vX7_sum { frames := n * 2 + 10, cells := 0, slots := 0, locals := n * 64 + 300 } [.ref (ga G 0)] μ (qV G Q)) (hrec_times : ∀ (Q : vM → Prop) (μ : vM), rec 4 0 Q μ → mt l G yX7_times vX7_times { frames := n * 2 + 10, cells := 0, slots := 0, locals := n * 64 + 300 } [.ref (ga G 0)] μ (qV G Q)) (hrec_one : ∀ (Q : vM → Prop) (μ : vM), rec 5 0 Q μ → mt l G yX7_one vX7_one { frames := n * 2 + 10, cells := 0, slots := 0, locals := n * 64 + 300 } [.ref (ga G 0)] μ (qV G Q)) (hrec_opensBy : ∀ (b0 : Int32) (Q : vM → Prop) (μ : vM), rec 6 b0 Q μ → mt l G yX7_opensBy vX7_opensBy { frames := n * 2 + 10, cells := 0, slots := 0, locals := n * 64 + 300 } [.ref (ga G 0), .int b0] μ (qV G Q)) (Q : vM → Prop) (μ : vM) (hw : wp_X7_one rec Q μ) : mt l G yX7_one vX7_one { frames := n * 2 + 12, cells := 0, slots := 0, locals := n * 64 + 364 } [.ref (ga G 0)] μ (qV G Q) := by
  refine met_of (cc := cX7_one) (maxL := 3) (ret := none) RX7 (by decide) rfl rfl hG (Nat.le_of_ble_eq_true rfl) ?_
  intro p e s m below meth c X h ls hl
  have hl : lv_has ls 3 [(0, .ref (ga G 0))] := hl
  have hx := X.1
  have hb := X.2.1
  unfold wp_X7_one at hw
  refine lv_aload_n hx hb dX7_one_0 rfl (lv_at hl 0 rfl) ?_
  refine k_i h (n_V (rest := []) (As := []) X h hl.1 (c_X7_look l G hG h0 _ _ hw) gk_X7_150 rfl hd_X7_look ⟨rfl, rfl⟩ ⟨by show _ ≤ _; simp only []; omega, by show _ ≤ _; simp only []; omega⟩ (X7_o h0) rfl rfl (Nat.le_of_ble_eq_true rfl) dX7_one_1 ⟨Nat.zero_le _, Nat.zero_le _⟩) (fun r1 μ1 H locs hw h => ?_)
  refine lv_istore_n (lv' := [(1, .int r1), (0, .ref (ga G 0))]) hx hb dX7_one_4 rfl hl (by decide) rfl (fun ls hl => ?_)
  refine lv_aload_n hx hb dX7_one_5 rfl (lv_at hl 1 rfl) ?_
  refine lv_iload_n hx hb dX7_one_6 rfl (lv_at hl 0 rfl) ?_
  refine k_i h (n_V (rest := []) (As := [.int r1]) X h hl.1 (c_X7_nameOf l G hG r1 h0 _ _ hw) gk_X7_170 rfl hd_X7_nameOf ⟨rfl, rfl⟩ ⟨by show _ ≤ _; simp only []; omega, by show _ ≤ _; simp only []; omega⟩ (X7_o h0) rfl rfl (Nat.le_of_ble_eq_true rfl) dX7_one_7 ⟨Nat.zero_le _, Nat.zero_le _⟩) (fun r7 μ7 H locs hw h => ?_)
  refine lv_istore_n (lv' := [(2, .int r7), (1, .int r1), (0, .ref (ga G 0))]) hx hb dX7_one_10 rfl hl (by decide) rfl (fun ls hl => ?_)
  refine lv_iload_n hx hb dX7_one_11 rfl (lv_at hl 0 rfl) ?_
  refine lv_if_lt (tgt := 34) hx hb dX7_one_12 (by decide) (fun hc => ?_) (fun hc => ?_)
  · rw [if_pos hc] at hw
    refine lv_iload_n hx hb dX7_one_34 rfl (lv_at hl 1 rfl) ?_
    refine lv_bipush (v := (33 : Int32)) hx hb dX7_one_35 (by decide) ?_
    have s46 : ∀ (x1 : Int32) (μ : vM), ∀ (H : Heap) (locs : List Loc) (ls : Array Slot), bw G s μ H locs → lv_has ls 3 [(0, .ref (ga G 0)), (1, .int x1)] → wp_X7_one_46 rec Q x1 μ → W p l e ({ frames := n * 2 + 12, cells := 0, slots := 0, locals := n * 64 + 364 } : Room) s m ([.ref (ga G 0)] : List Value).toArray below meth c H locs 0 0 (MQ below (qV G Q) ([.ref (ga G 0)] : List Value).toArray s 0 0 (gA G)) (F0 m 46 ls []) := by
      intro x1 μ H locs ls h hl hw
      unfold wp_X7_one_46 at hw
      refine lv_aload_n hx hb dX7_one_46 rfl (lv_at hl 0 rfl) ?_
      refine lv_iload_n hx hb dX7_one_47 rfl (lv_at hl 1 rfl) ?_
      refine k_v h (n_V (rest := []) (As := [.int x1]) X h hl.1 (hrec_opensBy x1 _ _ hw) gk_X7_173 rfl hd_X7_opensBy ⟨rfl, rfl⟩ ⟨by show _ ≤ _; simp only []; omega, by show _ ≤ _; simp only []; omega⟩ (X7_o h0) rfl rfl (Nat.le_of_ble_eq_true rfl) dX7_one_48 ⟨Nat.zero_le _, Nat.zero_le _⟩) (fun μ48 H locs hw h => ?_)
      refine lv_goto (tgt := 58) hx hb dX7_one_51 (by decide) ?_
      exact r_vret X h hw dX7_one_58
    refine lv_icmp_eq (tgt := 46) hx hb dX7_one_37 (by decide) (fun hc => ?_) (fun hc => ?_)
    · rw [if_pos hc] at hw
      exact s46 r1 μ7 _ _ _ h (lv_sub hl [2, 1] rfl) hw
    · rw [if_neg hc] at hw
      refine lv_iload_n hx hb dX7_one_40 rfl (lv_at hl 1 rfl) ?_
      refine lv_bipush (v := (40 : Int32)) hx hb dX7_one_41 (by decide) ?_
      refine lv_icmp_ne (tgt := 54) hx hb dX7_one_43 (by decide) (fun hc => ?_) (fun hc => ?_)
      · rw [if_neg hc] at hw
        refine lv_aload_n hx hb dX7_one_54 rfl (lv_at hl 2 rfl) ?_
        refine k_v h (n_V (rest := []) (As := []) X h hl.1 (c_X7_number l G hG h0 _ _ hw) gk_X7_176 rfl hd_X7_number ⟨rfl, rfl⟩ ⟨by show _ ≤ _; simp only []; omega, by show _ ≤ _; simp only []; omega⟩ (X7_o h0) rfl rfl (Nat.le_of_ble_eq_true rfl) dX7_one_55 ⟨Nat.zero_le _, Nat.zero_le _⟩) (fun μ55 H locs hw h => ?_)
        exact r_vret X h hw dX7_one_58
      · rw [if_pos hc] at hw
        exact s46 r1 μ7 _ _ _ h (lv_sub hl [2, 1] rfl) hw
  · rw [if_neg hc] at hw
    refine lv_aload_n hx hb dX7_one_15 rfl (lv_at hl 2 rfl) ?_
    refine lv_dup hx hb dX7_one_16 rfl ?_
    refine r_getI X h (X7_o h0) rfl uX7 15 (by decide) lf_4_66 rfl dX7_one_17 ?_
    refine lv_iconst (v := (1 : Int32)) hx hb dX7_one_20 (by decide) ?_
    refine lv_iadd hx hb dX7_one_21 ?_
    obtain ⟨μ22, eμ22, hw⟩ := hw
    refine r_putI X h (X7_o h0) rfl uX7 tyX7 tyX7_ok nmX7 15 (by decide) lf_4_66 rfl rfl rfl  eμ22 dX7_one_22 (fun H locs h => ?_)
    refine lv_aload_n hx hb dX7_one_25 rfl (lv_at hl 2 rfl) ?_
    refine lv_iconst (v := (2 : Int32)) hx hb dX7_one_26 (by decide) ?_
    refine lv_iload_n hx hb dX7_one_27 rfl (lv_at hl 0 rfl) ?_
    refine k_v h (n_V (rest := []) (As := [.int (2 : Int32), .int r7]) X h hl.1 (c_X7_laysBy l G hG (2 : Int32) r7 h0 _ _ hw) gk_X7_157 rfl hd_X7_laysBy ⟨rfl, rfl⟩ ⟨by show _ ≤ _; simp only []; omega, by show _ ≤ _; simp only []; omega⟩ (X7_o h0) rfl rfl (Nat.le_of_ble_eq_true rfl) dX7_one_28 ⟨Nat.zero_le _, Nat.zero_le _⟩) (fun μ28 H locs hw h => ?_)
    refine lv_goto (tgt := 58) hx hb dX7_one_31 (by decide) ?_
    exact r_vret X h hw dX7_one_58
def wp_X7_times_38 (rec : Nat → Int32 → (vM → Prop) → vM → Prop) (Q : vM → Prop) (k4 : vM → Prop)  (μ : vM) : Prop := wp_X7_look  (fun r39 μ39 => ∃ μ50 : vM, μ50 = st μ39 0 15 ((μ39 0 15) + (1 : Int32)) ∧ rec 5 0 (fun μ54 => wp_X7_laysBy r39 (0 : Int32) (fun μ60 => k4 μ60) μ54) μ50) μ
def wp_X7_times_4 (rec : Nat → Int32 → (vM → Prop) → vM → Prop) (Q : vM → Prop) : Nat → vM → Prop
  | 0, _ => False
  | n4 + 1, μ => if (μ 0 17) = 0 then wp_X7_look  (fun r12 μ12 => if r12 = (42 : Int32) then wp_X7_times_38 rec Q (fun μ => wp_X7_times_4 rec Q n4 μ) μ12 else wp_X7_look  (fun r21 μ21 => if r21 = (47 : Int32) then wp_X7_times_38 rec Q (fun μ => wp_X7_times_4 rec Q n4 μ) μ21 else wp_X7_look  (fun r30 μ30 => if r30 = (37 : Int32) then wp_X7_times_38 rec Q (fun μ => wp_X7_times_4 rec Q n4 μ) μ30 else Q μ30) μ21) μ12) μ else Q μ
def wp_X7_times (rec : Nat → Int32 → (vM → Prop) → vM → Prop) (Q : vM → Prop) (μ : vM) : Prop := rec 5 0 (fun μ1 => ∃ n4, wp_X7_times_4 rec Q n4 μ1) μ
set_option maxRecDepth 100000 in
set_option maxHeartbeats 4000000 in
theorem cb_X7_times (l : Launch) (G : vG) (hG : gO G) (n : Nat) (rec : Nat → Int32 → (vM → Prop) → vM → Prop)  (h0 : isX7 G) (hrec_any : ∀ (Q : vM → Prop) (μ : vM), rec 0 0 Q μ → mt l G yX7_any vX7_any { frames := n * 2 + 10, cells := 0, slots := 0, locals := n * 64 + 300 } [.ref (ga G 0)] μ (qV G Q)) (hrec_all : ∀ (Q : vM → Prop) (μ : vM), rec 1 0 Q μ → mt l G yX7_all vX7_all { frames := n * 2 + 10, cells := 0, slots := 0, locals := n * 64 + 300 } [.ref (ga G 0)] μ (qV G Q)) (hrec_compares : ∀ (Q : vM → Prop) (μ : vM), rec 2 0 Q μ → mt l G yX7_compares vX7_compares { frames := n * 2 + 10, cells := 0, slots := 0, locals := n * 64 + 300 } [.ref (ga G 0)] μ (qV G Q)) (hrec_sum : ∀ (Q : vM → Prop) (μ : vM), rec 3 0 Q μ → mt l G yX7_sum vX7_sum { frames := n * 2 + 10, cells := 0, slots := 0, locals := n * 64 + 300 } [.ref (ga G 0)] μ (qV G Q)) (hrec_times : ∀ (Q : vM → Prop) (μ : vM), rec 4 0 Q μ → mt l G yX7_times vX7_times { frames := n * 2 + 10, cells := 0, slots := 0, locals := n * 64 + 300 } [.ref (ga G 0)] μ (qV G Q)) (hrec_one : ∀ (Q : vM → Prop) (μ : vM), rec 5 0 Q μ → mt l G yX7_one vX7_one { frames := n * 2 + 10, cells := 0, slots := 0, locals := n * 64 + 300 } [.ref (ga G 0)] μ (qV G Q)) (hrec_opensBy : ∀ (b0 : Int32) (Q : vM → Prop) (μ : vM), rec 6 b0 Q μ → mt l G yX7_opensBy vX7_opensBy { frames := n * 2 + 10, cells := 0, slots := 0, locals := n * 64 + 300 } [.ref (ga G 0), .int b0] μ (qV G Q)) (Q : vM → Prop) (μ : vM) (hw : wp_X7_times rec Q μ) : mt l G yX7_times vX7_times { frames := n * 2 + 12, cells := 0, slots := 0, locals := n * 64 + 364 } [.ref (ga G 0)] μ (qV G Q) := by
  refine met_of (cc := cX7_times) (maxL := 2) (ret := none) RX7 (by decide) rfl rfl hG (Nat.le_of_ble_eq_true rfl) ?_
  intro p e s m below meth c X h ls hl
  have hl : lv_has ls 2 [(0, .ref (ga G 0))] := hl
  have hx := X.1
  have hb := X.2.1
  unfold wp_X7_times at hw
  refine lv_aload_n hx hb dX7_times_0 rfl (lv_at hl 0 rfl) ?_
  refine k_v h (n_V (rest := []) (As := []) X h hl.1 (hrec_one  _ _ hw) gk_X7_164 rfl hd_X7_one ⟨rfl, rfl⟩ ⟨by show _ ≤ _; simp only []; omega, by show _ ≤ _; simp only []; omega⟩ (X7_o h0) rfl rfl (Nat.le_of_ble_eq_true rfl) dX7_times_1 ⟨Nat.zero_le _, Nat.zero_le _⟩) (fun μ1 H locs hw h => ?_)
  have s4 : ∀ (n4 : Nat)  (μ : vM), ∀ (H : Heap) (locs : List Loc) (ls : Array Slot), bw G s μ H locs → lv_has ls 2 [(0, .ref (ga G 0))] → wp_X7_times_4 rec Q n4 μ → W p l e ({ frames := n * 2 + 12, cells := 0, slots := 0, locals := n * 64 + 364 } : Room) s m ([.ref (ga G 0)] : List Value).toArray below meth c H locs 0 0 (MQ below (qV G Q) ([.ref (ga G 0)] : List Value).toArray s 0 0 (gA G)) (F0 m 4 ls []) := by
    intro n4
    induction n4 with
    | zero => intro  μ H locs ls h hl hw; exact absurd hw (by unfold wp_X7_times_4; exact id)
    | succ n4 ih4 =>
      intro  μ H locs ls h hl hw
      unfold wp_X7_times_4 at hw
      refine lv_aload_n hx hb dX7_times_4 rfl (lv_at hl 0 rfl) ?_
      refine r_getI X h (X7_o h0) rfl uX7 17 (by decide) lf_4_68 rfl dX7_times_5 ?_
      refine lv_if_ne (tgt := 66) hx hb dX7_times_8 (by decide) (fun hc => ?_) (fun hc => ?_)
      · rw [if_neg hc] at hw
        exact r_vret X h hw dX7_times_66
      · rw [if_pos hc] at hw
        refine lv_aload_n hx hb dX7_times_11 rfl (lv_at hl 0 rfl) ?_
        refine k_i h (n_V (rest := []) (As := []) X h hl.1 (c_X7_look l G hG h0 _ _ hw) gk_X7_150 rfl hd_X7_look ⟨rfl, rfl⟩ ⟨by show _ ≤ _; simp only []; omega, by show _ ≤ _; simp only []; omega⟩ (X7_o h0) rfl rfl (Nat.le_of_ble_eq_true rfl) dX7_times_12 ⟨Nat.zero_le _, Nat.zero_le _⟩) (fun r12 μ12 H locs hw h => ?_)
        refine lv_bipush (v := (42 : Int32)) hx hb dX7_times_15 (by decide) ?_
        have s38 : ∀  (μ : vM), ∀ (H : Heap) (locs : List Loc) (ls : Array Slot), bw G s μ H locs → lv_has ls 2 [(0, .ref (ga G 0))] → wp_X7_times_38 rec Q (fun μ => wp_X7_times_4 rec Q n4 μ) μ → W p l e ({ frames := n * 2 + 12, cells := 0, slots := 0, locals := n * 64 + 364 } : Room) s m ([.ref (ga G 0)] : List Value).toArray below meth c H locs 0 0 (MQ below (qV G Q) ([.ref (ga G 0)] : List Value).toArray s 0 0 (gA G)) (F0 m 38 ls []) := by
          intro  μ H locs ls h hl hw
          unfold wp_X7_times_38 at hw
          refine lv_aload_n hx hb dX7_times_38 rfl (lv_at hl 0 rfl) ?_
          refine k_i h (n_V (rest := []) (As := []) X h hl.1 (c_X7_look l G hG h0 _ _ hw) gk_X7_150 rfl hd_X7_look ⟨rfl, rfl⟩ ⟨by show _ ≤ _; simp only []; omega, by show _ ≤ _; simp only []; omega⟩ (X7_o h0) rfl rfl (Nat.le_of_ble_eq_true rfl) dX7_times_39 ⟨Nat.zero_le _, Nat.zero_le _⟩) (fun r39 μ39 H locs hw h => ?_)
          refine lv_istore_n (lv' := [(1, .int r39), (0, .ref (ga G 0))]) hx hb dX7_times_42 rfl hl (by decide) rfl (fun ls hl => ?_)
          refine lv_aload_n hx hb dX7_times_43 rfl (lv_at hl 1 rfl) ?_
          refine lv_dup hx hb dX7_times_44 rfl ?_
          refine r_getI X h (X7_o h0) rfl uX7 15 (by decide) lf_4_66 rfl dX7_times_45 ?_
          refine lv_iconst (v := (1 : Int32)) hx hb dX7_times_48 (by decide) ?_
          refine lv_iadd hx hb dX7_times_49 ?_
          obtain ⟨μ50, eμ50, hw⟩ := hw
          refine r_putI X h (X7_o h0) rfl uX7 tyX7 tyX7_ok nmX7 15 (by decide) lf_4_66 rfl rfl rfl  eμ50 dX7_times_50 (fun H locs h => ?_)
          refine lv_aload_n hx hb dX7_times_53 rfl (lv_at hl 1 rfl) ?_
          refine k_v h (n_V (rest := []) (As := []) X h hl.1 (hrec_one  _ _ hw) gk_X7_164 rfl hd_X7_one ⟨rfl, rfl⟩ ⟨by show _ ≤ _; simp only []; omega, by show _ ≤ _; simp only []; omega⟩ (X7_o h0) rfl rfl (Nat.le_of_ble_eq_true rfl) dX7_times_54 ⟨Nat.zero_le _, Nat.zero_le _⟩) (fun μ54 H locs hw h => ?_)
          refine lv_aload_n hx hb dX7_times_57 rfl (lv_at hl 1 rfl) ?_
          refine lv_iload_n hx hb dX7_times_58 rfl (lv_at hl 0 rfl) ?_
          refine lv_iconst (v := (0 : Int32)) hx hb dX7_times_59 (by decide) ?_
          refine k_v h (n_V (rest := []) (As := [.int r39, .int (0 : Int32)]) X h hl.1 (c_X7_laysBy l G hG r39 (0 : Int32) h0 _ _ hw) gk_X7_157 rfl hd_X7_laysBy ⟨rfl, rfl⟩ ⟨by show _ ≤ _; simp only []; omega, by show _ ≤ _; simp only []; omega⟩ (X7_o h0) rfl rfl (Nat.le_of_ble_eq_true rfl) dX7_times_60 ⟨Nat.zero_le _, Nat.zero_le _⟩) (fun μ60 H locs hw h => ?_)
          refine lv_goto (tgt := 4) hx hb dX7_times_63 (by decide) ?_
          exact ih4 μ60 _ _ _ h (lv_sub hl [1] rfl) hw
        refine lv_icmp_eq (tgt := 38) hx hb dX7_times_17 (by decide) (fun hc => ?_) (fun hc => ?_)
        · rw [if_pos hc] at hw
          exact s38 μ12 _ _ _ h (lv_sub hl [0] rfl) hw
        · rw [if_neg hc] at hw
          refine lv_aload_n hx hb dX7_times_20 rfl (lv_at hl 0 rfl) ?_
          refine k_i h (n_V (rest := []) (As := []) X h hl.1 (c_X7_look l G hG h0 _ _ hw) gk_X7_150 rfl hd_X7_look ⟨rfl, rfl⟩ ⟨by show _ ≤ _; simp only []; omega, by show _ ≤ _; simp only []; omega⟩ (X7_o h0) rfl rfl (Nat.le_of_ble_eq_true rfl) dX7_times_21 ⟨Nat.zero_le _, Nat.zero_le _⟩) (fun r21 μ21 H locs hw h => ?_)
          refine lv_bipush (v := (47 : Int32)) hx hb dX7_times_24 (by decide) ?_
          refine lv_icmp_eq (tgt := 38) hx hb dX7_times_26 (by decide) (fun hc => ?_) (fun hc => ?_)
          · rw [if_pos hc] at hw
            exact s38 μ21 _ _ _ h (lv_sub hl [0] rfl) hw
          · rw [if_neg hc] at hw
            refine lv_aload_n hx hb dX7_times_29 rfl (lv_at hl 0 rfl) ?_
            refine k_i h (n_V (rest := []) (As := []) X h hl.1 (c_X7_look l G hG h0 _ _ hw) gk_X7_150 rfl hd_X7_look ⟨rfl, rfl⟩ ⟨by show _ ≤ _; simp only []; omega, by show _ ≤ _; simp only []; omega⟩ (X7_o h0) rfl rfl (Nat.le_of_ble_eq_true rfl) dX7_times_30 ⟨Nat.zero_le _, Nat.zero_le _⟩) (fun r30 μ30 H locs hw h => ?_)
            refine lv_bipush (v := (37 : Int32)) hx hb dX7_times_33 (by decide) ?_
            refine lv_icmp_ne (tgt := 66) hx hb dX7_times_35 (by decide) (fun hc => ?_) (fun hc => ?_)
            · rw [if_neg hc] at hw
              exact r_vret X h hw dX7_times_66
            · rw [if_pos hc] at hw
              exact s38 μ30 _ _ _ h (lv_sub hl [0] rfl) hw
  obtain ⟨n, hw⟩ := hw
  exact s4 n μ1 _ _ _ h (lv_sub hl [0] rfl) hw
def wp_X7_sum_29 (rec : Nat → Int32 → (vM → Prop) → vM → Prop) (Q : vM → Prop) (k4 : vM → Prop)  (μ : vM) : Prop := wp_X7_look  (fun r30 μ30 => ∃ μ41 : vM, μ41 = st μ30 0 15 ((μ30 0 15) + (1 : Int32)) ∧ rec 4 0 (fun μ45 => wp_X7_laysBy r30 (0 : Int32) (fun μ51 => k4 μ51) μ45) μ41) μ
def wp_X7_sum_4 (rec : Nat → Int32 → (vM → Prop) → vM → Prop) (Q : vM → Prop) : Nat → vM → Prop
  | 0, _ => False
  | n4 + 1, μ => if (μ 0 17) = 0 then wp_X7_look  (fun r12 μ12 => if r12 = (43 : Int32) then wp_X7_sum_29 rec Q (fun μ => wp_X7_sum_4 rec Q n4 μ) μ12 else wp_X7_look  (fun r21 μ21 => if r21 = (45 : Int32) then wp_X7_sum_29 rec Q (fun μ => wp_X7_sum_4 rec Q n4 μ) μ21 else Q μ21) μ12) μ else Q μ
def wp_X7_sum (rec : Nat → Int32 → (vM → Prop) → vM → Prop) (Q : vM → Prop) (μ : vM) : Prop := rec 4 0 (fun μ1 => ∃ n4, wp_X7_sum_4 rec Q n4 μ1) μ
set_option maxRecDepth 100000 in
set_option maxHeartbeats 4000000 in
theorem cb_X7_sum (l : Launch) (G : vG) (hG : gO G) (n : Nat) (rec : Nat → Int32 → (vM → Prop) → vM → Prop)  (h0 : isX7 G) (hrec_any : ∀ (Q : vM → Prop) (μ : vM), rec 0 0 Q μ → mt l G yX7_any vX7_any { frames := n * 2 + 10, cells := 0, slots := 0, locals := n * 64 + 300 } [.ref (ga G 0)] μ (qV G Q)) (hrec_all : ∀ (Q : vM → Prop) (μ : vM), rec 1 0 Q μ → mt l G yX7_all vX7_all { frames := n * 2 + 10, cells := 0, slots := 0, locals := n * 64 + 300 } [.ref (ga G 0)] μ (qV G Q)) (hrec_compares : ∀ (Q : vM → Prop) (μ : vM), rec 2 0 Q μ → mt l G yX7_compares vX7_compares { frames := n * 2 + 10, cells := 0, slots := 0, locals := n * 64 + 300 } [.ref (ga G 0)] μ (qV G Q)) (hrec_sum : ∀ (Q : vM → Prop) (μ : vM), rec 3 0 Q μ → mt l G yX7_sum vX7_sum { frames := n * 2 + 10, cells := 0, slots := 0, locals := n * 64 + 300 } [.ref (ga G 0)] μ (qV G Q)) (hrec_times : ∀ (Q : vM → Prop) (μ : vM), rec 4 0 Q μ → mt l G yX7_times vX7_times { frames := n * 2 + 10, cells := 0, slots := 0, locals := n * 64 + 300 } [.ref (ga G 0)] μ (qV G Q)) (hrec_one : ∀ (Q : vM → Prop) (μ : vM), rec 5 0 Q μ → mt l G yX7_one vX7_one { frames := n * 2 + 10, cells := 0, slots := 0, locals := n * 64 + 300 } [.ref (ga G 0)] μ (qV G Q)) (hrec_opensBy : ∀ (b0 : Int32) (Q : vM → Prop) (μ : vM), rec 6 b0 Q μ → mt l G yX7_opensBy vX7_opensBy { frames := n * 2 + 10, cells := 0, slots := 0, locals := n * 64 + 300 } [.ref (ga G 0), .int b0] μ (qV G Q)) (Q : vM → Prop) (μ : vM) (hw : wp_X7_sum rec Q μ) : mt l G yX7_sum vX7_sum { frames := n * 2 + 12, cells := 0, slots := 0, locals := n * 64 + 364 } [.ref (ga G 0)] μ (qV G Q) := by
  refine met_of (cc := cX7_sum) (maxL := 2) (ret := none) RX7 (by decide) rfl rfl hG (Nat.le_of_ble_eq_true rfl) ?_
  intro p e s m below meth c X h ls hl
  have hl : lv_has ls 2 [(0, .ref (ga G 0))] := hl
  have hx := X.1
  have hb := X.2.1
  unfold wp_X7_sum at hw
  refine lv_aload_n hx hb dX7_sum_0 rfl (lv_at hl 0 rfl) ?_
  refine k_v h (n_V (rest := []) (As := []) X h hl.1 (hrec_times  _ _ hw) gk_X7_179 rfl hd_X7_times ⟨rfl, rfl⟩ ⟨by show _ ≤ _; simp only []; omega, by show _ ≤ _; simp only []; omega⟩ (X7_o h0) rfl rfl (Nat.le_of_ble_eq_true rfl) dX7_sum_1 ⟨Nat.zero_le _, Nat.zero_le _⟩) (fun μ1 H locs hw h => ?_)
  have s4 : ∀ (n4 : Nat)  (μ : vM), ∀ (H : Heap) (locs : List Loc) (ls : Array Slot), bw G s μ H locs → lv_has ls 2 [(0, .ref (ga G 0))] → wp_X7_sum_4 rec Q n4 μ → W p l e ({ frames := n * 2 + 12, cells := 0, slots := 0, locals := n * 64 + 364 } : Room) s m ([.ref (ga G 0)] : List Value).toArray below meth c H locs 0 0 (MQ below (qV G Q) ([.ref (ga G 0)] : List Value).toArray s 0 0 (gA G)) (F0 m 4 ls []) := by
    intro n4
    induction n4 with
    | zero => intro  μ H locs ls h hl hw; exact absurd hw (by unfold wp_X7_sum_4; exact id)
    | succ n4 ih4 =>
      intro  μ H locs ls h hl hw
      unfold wp_X7_sum_4 at hw
      refine lv_aload_n hx hb dX7_sum_4 rfl (lv_at hl 0 rfl) ?_
      refine r_getI X h (X7_o h0) rfl uX7 17 (by decide) lf_4_68 rfl dX7_sum_5 ?_
      refine lv_if_ne (tgt := 57) hx hb dX7_sum_8 (by decide) (fun hc => ?_) (fun hc => ?_)
      · rw [if_neg hc] at hw
        exact r_vret X h hw dX7_sum_57
      · rw [if_pos hc] at hw
        refine lv_aload_n hx hb dX7_sum_11 rfl (lv_at hl 0 rfl) ?_
        refine k_i h (n_V (rest := []) (As := []) X h hl.1 (c_X7_look l G hG h0 _ _ hw) gk_X7_150 rfl hd_X7_look ⟨rfl, rfl⟩ ⟨by show _ ≤ _; simp only []; omega, by show _ ≤ _; simp only []; omega⟩ (X7_o h0) rfl rfl (Nat.le_of_ble_eq_true rfl) dX7_sum_12 ⟨Nat.zero_le _, Nat.zero_le _⟩) (fun r12 μ12 H locs hw h => ?_)
        refine lv_bipush (v := (43 : Int32)) hx hb dX7_sum_15 (by decide) ?_
        have s29 : ∀  (μ : vM), ∀ (H : Heap) (locs : List Loc) (ls : Array Slot), bw G s μ H locs → lv_has ls 2 [(0, .ref (ga G 0))] → wp_X7_sum_29 rec Q (fun μ => wp_X7_sum_4 rec Q n4 μ) μ → W p l e ({ frames := n * 2 + 12, cells := 0, slots := 0, locals := n * 64 + 364 } : Room) s m ([.ref (ga G 0)] : List Value).toArray below meth c H locs 0 0 (MQ below (qV G Q) ([.ref (ga G 0)] : List Value).toArray s 0 0 (gA G)) (F0 m 29 ls []) := by
          intro  μ H locs ls h hl hw
          unfold wp_X7_sum_29 at hw
          refine lv_aload_n hx hb dX7_sum_29 rfl (lv_at hl 0 rfl) ?_
          refine k_i h (n_V (rest := []) (As := []) X h hl.1 (c_X7_look l G hG h0 _ _ hw) gk_X7_150 rfl hd_X7_look ⟨rfl, rfl⟩ ⟨by show _ ≤ _; simp only []; omega, by show _ ≤ _; simp only []; omega⟩ (X7_o h0) rfl rfl (Nat.le_of_ble_eq_true rfl) dX7_sum_30 ⟨Nat.zero_le _, Nat.zero_le _⟩) (fun r30 μ30 H locs hw h => ?_)
          refine lv_istore_n (lv' := [(1, .int r30), (0, .ref (ga G 0))]) hx hb dX7_sum_33 rfl hl (by decide) rfl (fun ls hl => ?_)
          refine lv_aload_n hx hb dX7_sum_34 rfl (lv_at hl 1 rfl) ?_
          refine lv_dup hx hb dX7_sum_35 rfl ?_
          refine r_getI X h (X7_o h0) rfl uX7 15 (by decide) lf_4_66 rfl dX7_sum_36 ?_
          refine lv_iconst (v := (1 : Int32)) hx hb dX7_sum_39 (by decide) ?_
          refine lv_iadd hx hb dX7_sum_40 ?_
          obtain ⟨μ41, eμ41, hw⟩ := hw
          refine r_putI X h (X7_o h0) rfl uX7 tyX7 tyX7_ok nmX7 15 (by decide) lf_4_66 rfl rfl rfl  eμ41 dX7_sum_41 (fun H locs h => ?_)
          refine lv_aload_n hx hb dX7_sum_44 rfl (lv_at hl 1 rfl) ?_
          refine k_v h (n_V (rest := []) (As := []) X h hl.1 (hrec_times  _ _ hw) gk_X7_179 rfl hd_X7_times ⟨rfl, rfl⟩ ⟨by show _ ≤ _; simp only []; omega, by show _ ≤ _; simp only []; omega⟩ (X7_o h0) rfl rfl (Nat.le_of_ble_eq_true rfl) dX7_sum_45 ⟨Nat.zero_le _, Nat.zero_le _⟩) (fun μ45 H locs hw h => ?_)
          refine lv_aload_n hx hb dX7_sum_48 rfl (lv_at hl 1 rfl) ?_
          refine lv_iload_n hx hb dX7_sum_49 rfl (lv_at hl 0 rfl) ?_
          refine lv_iconst (v := (0 : Int32)) hx hb dX7_sum_50 (by decide) ?_
          refine k_v h (n_V (rest := []) (As := [.int r30, .int (0 : Int32)]) X h hl.1 (c_X7_laysBy l G hG r30 (0 : Int32) h0 _ _ hw) gk_X7_157 rfl hd_X7_laysBy ⟨rfl, rfl⟩ ⟨by show _ ≤ _; simp only []; omega, by show _ ≤ _; simp only []; omega⟩ (X7_o h0) rfl rfl (Nat.le_of_ble_eq_true rfl) dX7_sum_51 ⟨Nat.zero_le _, Nat.zero_le _⟩) (fun μ51 H locs hw h => ?_)
          refine lv_goto (tgt := 4) hx hb dX7_sum_54 (by decide) ?_
          exact ih4 μ51 _ _ _ h (lv_sub hl [1] rfl) hw
        refine lv_icmp_eq (tgt := 29) hx hb dX7_sum_17 (by decide) (fun hc => ?_) (fun hc => ?_)
        · rw [if_pos hc] at hw
          exact s29 μ12 _ _ _ h (lv_sub hl [0] rfl) hw
        · rw [if_neg hc] at hw
          refine lv_aload_n hx hb dX7_sum_20 rfl (lv_at hl 0 rfl) ?_
          refine k_i h (n_V (rest := []) (As := []) X h hl.1 (c_X7_look l G hG h0 _ _ hw) gk_X7_150 rfl hd_X7_look ⟨rfl, rfl⟩ ⟨by show _ ≤ _; simp only []; omega, by show _ ≤ _; simp only []; omega⟩ (X7_o h0) rfl rfl (Nat.le_of_ble_eq_true rfl) dX7_sum_21 ⟨Nat.zero_le _, Nat.zero_le _⟩) (fun r21 μ21 H locs hw h => ?_)
          refine lv_bipush (v := (45 : Int32)) hx hb dX7_sum_24 (by decide) ?_
          refine lv_icmp_ne (tgt := 57) hx hb dX7_sum_26 (by decide) (fun hc => ?_) (fun hc => ?_)
          · rw [if_neg hc] at hw
            exact r_vret X h hw dX7_sum_57
          · rw [if_pos hc] at hw
            exact s29 μ21 _ _ _ h (lv_sub hl [0] rfl) hw
  obtain ⟨n, hw⟩ := hw
  exact s4 n μ1 _ _ _ h (lv_sub hl [0] rfl) hw
def wp_X7_compares_34 (rec : Nat → Int32 → (vM → Prop) → vM → Prop) (Q : vM → Prop) (x1 : Int32) (μ : vM) : Prop := ∃ μ41 : vM, μ41 = st μ 0 15 ((μ 0 15) + (1 : Int32)) ∧ rec 3 0 (fun μ45 => wp_X7_laysBy x1 (0 : Int32) (fun μ51 => Q μ51) μ45) μ41
def wp_X7_compares (rec : Nat → Int32 → (vM → Prop) → vM → Prop) (Q : vM → Prop) (μ : vM) : Prop := rec 3 0 (fun μ1 => wp_X7_look  (fun r5 μ5 => if (μ5 0 17) = 0 then if r5 = (60 : Int32) then wp_X7_compares_34 rec Q r5 μ5 else if r5 = (61 : Int32) then wp_X7_compares_34 rec Q r5 μ5 else if r5 = (62 : Int32) then wp_X7_compares_34 rec Q r5 μ5 else Q μ5 else Q μ5) μ1) μ
set_option maxRecDepth 100000 in
set_option maxHeartbeats 4000000 in
theorem cb_X7_compares (l : Launch) (G : vG) (hG : gO G) (n : Nat) (rec : Nat → Int32 → (vM → Prop) → vM → Prop)  (h0 : isX7 G) (hrec_any : ∀ (Q : vM → Prop) (μ : vM), rec 0 0 Q μ → mt l G yX7_any vX7_any { frames := n * 2 + 10, cells := 0, slots := 0, locals := n * 64 + 300 } [.ref (ga G 0)] μ (qV G Q)) (hrec_all : ∀ (Q : vM → Prop) (μ : vM), rec 1 0 Q μ → mt l G yX7_all vX7_all { frames := n * 2 + 10, cells := 0, slots := 0, locals := n * 64 + 300 } [.ref (ga G 0)] μ (qV G Q)) (hrec_compares : ∀ (Q : vM → Prop) (μ : vM), rec 2 0 Q μ → mt l G yX7_compares vX7_compares { frames := n * 2 + 10, cells := 0, slots := 0, locals := n * 64 + 300 } [.ref (ga G 0)] μ (qV G Q)) (hrec_sum : ∀ (Q : vM → Prop) (μ : vM), rec 3 0 Q μ → mt l G yX7_sum vX7_sum { frames := n * 2 + 10, cells := 0, slots := 0, locals := n * 64 + 300 } [.ref (ga G 0)] μ (qV G Q)) (hrec_times : ∀ (Q : vM → Prop) (μ : vM), rec 4 0 Q μ → mt l G yX7_times vX7_times { frames := n * 2 + 10, cells := 0, slots := 0, locals := n * 64 + 300 } [.ref (ga G 0)] μ (qV G Q)) (hrec_one : ∀ (Q : vM → Prop) (μ : vM), rec 5 0 Q μ → mt l G yX7_one vX7_one { frames := n * 2 + 10, cells := 0, slots := 0, locals := n * 64 + 300 } [.ref (ga G 0)] μ (qV G Q)) (hrec_opensBy : ∀ (b0 : Int32) (Q : vM → Prop) (μ : vM), rec 6 b0 Q μ → mt l G yX7_opensBy vX7_opensBy { frames := n * 2 + 10, cells := 0, slots := 0, locals := n * 64 + 300 } [.ref (ga G 0), .int b0] μ (qV G Q)) (Q : vM → Prop) (μ : vM) (hw : wp_X7_compares rec Q μ) : mt l G yX7_compares vX7_compares { frames := n * 2 + 12, cells := 0, slots := 0, locals := n * 64 + 364 } [.ref (ga G 0)] μ (qV G Q) := by
  refine met_of (cc := cX7_compares) (maxL := 2) (ret := none) RX7 (by decide) rfl rfl hG (Nat.le_of_ble_eq_true rfl) ?_
  intro p e s m below meth c X h ls hl
  have hl : lv_has ls 2 [(0, .ref (ga G 0))] := hl
  have hx := X.1
  have hb := X.2.1
  unfold wp_X7_compares at hw
  refine lv_aload_n hx hb dX7_compares_0 rfl (lv_at hl 0 rfl) ?_
  refine k_v h (n_V (rest := []) (As := []) X h hl.1 (hrec_sum  _ _ hw) gk_X7_182 rfl hd_X7_sum ⟨rfl, rfl⟩ ⟨by show _ ≤ _; simp only []; omega, by show _ ≤ _; simp only []; omega⟩ (X7_o h0) rfl rfl (Nat.le_of_ble_eq_true rfl) dX7_compares_1 ⟨Nat.zero_le _, Nat.zero_le _⟩) (fun μ1 H locs hw h => ?_)
  refine lv_aload_n hx hb dX7_compares_4 rfl (lv_at hl 0 rfl) ?_
  refine k_i h (n_V (rest := []) (As := []) X h hl.1 (c_X7_look l G hG h0 _ _ hw) gk_X7_150 rfl hd_X7_look ⟨rfl, rfl⟩ ⟨by show _ ≤ _; simp only []; omega, by show _ ≤ _; simp only []; omega⟩ (X7_o h0) rfl rfl (Nat.le_of_ble_eq_true rfl) dX7_compares_5 ⟨Nat.zero_le _, Nat.zero_le _⟩) (fun r5 μ5 H locs hw h => ?_)
  refine lv_istore_n (lv' := [(1, .int r5), (0, .ref (ga G 0))]) hx hb dX7_compares_8 rfl hl (by decide) rfl (fun ls hl => ?_)
  refine lv_aload_n hx hb dX7_compares_9 rfl (lv_at hl 1 rfl) ?_
  refine r_getI X h (X7_o h0) rfl uX7 17 (by decide) lf_4_68 rfl dX7_compares_10 ?_
  refine lv_if_ne (tgt := 54) hx hb dX7_compares_13 (by decide) (fun hc => ?_) (fun hc => ?_)
  · rw [if_neg hc] at hw
    exact r_vret X h hw dX7_compares_54
  · rw [if_pos hc] at hw
    refine lv_iload_n hx hb dX7_compares_16 rfl (lv_at hl 0 rfl) ?_
    refine lv_bipush (v := (60 : Int32)) hx hb dX7_compares_17 (by decide) ?_
    have s34 : ∀ (x1 : Int32) (μ : vM), ∀ (H : Heap) (locs : List Loc) (ls : Array Slot), bw G s μ H locs → lv_has ls 2 [(0, .ref (ga G 0)), (1, .int x1)] → wp_X7_compares_34 rec Q x1 μ → W p l e ({ frames := n * 2 + 12, cells := 0, slots := 0, locals := n * 64 + 364 } : Room) s m ([.ref (ga G 0)] : List Value).toArray below meth c H locs 0 0 (MQ below (qV G Q) ([.ref (ga G 0)] : List Value).toArray s 0 0 (gA G)) (F0 m 34 ls []) := by
      intro x1 μ H locs ls h hl hw
      unfold wp_X7_compares_34 at hw
      refine lv_aload_n hx hb dX7_compares_34 rfl (lv_at hl 0 rfl) ?_
      refine lv_dup hx hb dX7_compares_35 rfl ?_
      refine r_getI X h (X7_o h0) rfl uX7 15 (by decide) lf_4_66 rfl dX7_compares_36 ?_
      refine lv_iconst (v := (1 : Int32)) hx hb dX7_compares_39 (by decide) ?_
      refine lv_iadd hx hb dX7_compares_40 ?_
      obtain ⟨μ41, eμ41, hw⟩ := hw
      refine r_putI X h (X7_o h0) rfl uX7 tyX7 tyX7_ok nmX7 15 (by decide) lf_4_66 rfl rfl rfl  eμ41 dX7_compares_41 (fun H locs h => ?_)
      refine lv_aload_n hx hb dX7_compares_44 rfl (lv_at hl 0 rfl) ?_
      refine k_v h (n_V (rest := []) (As := []) X h hl.1 (hrec_sum  _ _ hw) gk_X7_182 rfl hd_X7_sum ⟨rfl, rfl⟩ ⟨by show _ ≤ _; simp only []; omega, by show _ ≤ _; simp only []; omega⟩ (X7_o h0) rfl rfl (Nat.le_of_ble_eq_true rfl) dX7_compares_45 ⟨Nat.zero_le _, Nat.zero_le _⟩) (fun μ45 H locs hw h => ?_)
      refine lv_aload_n hx hb dX7_compares_48 rfl (lv_at hl 0 rfl) ?_
      refine lv_iload_n hx hb dX7_compares_49 rfl (lv_at hl 1 rfl) ?_
      refine lv_iconst (v := (0 : Int32)) hx hb dX7_compares_50 (by decide) ?_
      refine k_v h (n_V (rest := []) (As := [.int x1, .int (0 : Int32)]) X h hl.1 (c_X7_laysBy l G hG x1 (0 : Int32) h0 _ _ hw) gk_X7_157 rfl hd_X7_laysBy ⟨rfl, rfl⟩ ⟨by show _ ≤ _; simp only []; omega, by show _ ≤ _; simp only []; omega⟩ (X7_o h0) rfl rfl (Nat.le_of_ble_eq_true rfl) dX7_compares_51 ⟨Nat.zero_le _, Nat.zero_le _⟩) (fun μ51 H locs hw h => ?_)
      exact r_vret X h hw dX7_compares_54
    refine lv_icmp_eq (tgt := 34) hx hb dX7_compares_19 (by decide) (fun hc => ?_) (fun hc => ?_)
    · rw [if_pos hc] at hw
      exact s34 r5 μ5 _ _ _ h (lv_sub hl [1, 0] rfl) hw
    · rw [if_neg hc] at hw
      refine lv_iload_n hx hb dX7_compares_22 rfl (lv_at hl 0 rfl) ?_
      refine lv_bipush (v := (61 : Int32)) hx hb dX7_compares_23 (by decide) ?_
      refine lv_icmp_eq (tgt := 34) hx hb dX7_compares_25 (by decide) (fun hc => ?_) (fun hc => ?_)
      · rw [if_pos hc] at hw
        exact s34 r5 μ5 _ _ _ h (lv_sub hl [1, 0] rfl) hw
      · rw [if_neg hc] at hw
        refine lv_iload_n hx hb dX7_compares_28 rfl (lv_at hl 0 rfl) ?_
        refine lv_bipush (v := (62 : Int32)) hx hb dX7_compares_29 (by decide) ?_
        refine lv_icmp_ne (tgt := 54) hx hb dX7_compares_31 (by decide) (fun hc => ?_) (fun hc => ?_)
        · rw [if_neg hc] at hw
          exact r_vret X h hw dX7_compares_54
        · rw [if_pos hc] at hw
          exact s34 r5 μ5 _ _ _ h (lv_sub hl [1, 0] rfl) hw
def wp_X7_all_4 (rec : Nat → Int32 → (vM → Prop) → vM → Prop) (Q : vM → Prop) : Nat → vM → Prop
  | 0, _ => False
  | n4 + 1, μ => if (μ 0 17) = 0 then wp_X7_look  (fun r12 μ12 => if r12 = (38 : Int32) then ∃ μ27 : vM, μ27 = st μ12 0 15 ((μ12 0 15) + (1 : Int32)) ∧ rec 2 0 (fun μ31 => wp_X7_laysBy (38 : Int32) (0 : Int32) (fun μ38 => wp_X7_all_4 rec Q n4 μ38) μ31) μ27 else Q μ12) μ else Q μ
def wp_X7_all (rec : Nat → Int32 → (vM → Prop) → vM → Prop) (Q : vM → Prop) (μ : vM) : Prop := rec 2 0 (fun μ1 => ∃ n4, wp_X7_all_4 rec Q n4 μ1) μ
set_option maxRecDepth 100000 in
set_option maxHeartbeats 4000000 in
theorem cb_X7_all (l : Launch) (G : vG) (hG : gO G) (n : Nat) (rec : Nat → Int32 → (vM → Prop) → vM → Prop)  (h0 : isX7 G) (hrec_any : ∀ (Q : vM → Prop) (μ : vM), rec 0 0 Q μ → mt l G yX7_any vX7_any { frames := n * 2 + 10, cells := 0, slots := 0, locals := n * 64 + 300 } [.ref (ga G 0)] μ (qV G Q)) (hrec_all : ∀ (Q : vM → Prop) (μ : vM), rec 1 0 Q μ → mt l G yX7_all vX7_all { frames := n * 2 + 10, cells := 0, slots := 0, locals := n * 64 + 300 } [.ref (ga G 0)] μ (qV G Q)) (hrec_compares : ∀ (Q : vM → Prop) (μ : vM), rec 2 0 Q μ → mt l G yX7_compares vX7_compares { frames := n * 2 + 10, cells := 0, slots := 0, locals := n * 64 + 300 } [.ref (ga G 0)] μ (qV G Q)) (hrec_sum : ∀ (Q : vM → Prop) (μ : vM), rec 3 0 Q μ → mt l G yX7_sum vX7_sum { frames := n * 2 + 10, cells := 0, slots := 0, locals := n * 64 + 300 } [.ref (ga G 0)] μ (qV G Q)) (hrec_times : ∀ (Q : vM → Prop) (μ : vM), rec 4 0 Q μ → mt l G yX7_times vX7_times { frames := n * 2 + 10, cells := 0, slots := 0, locals := n * 64 + 300 } [.ref (ga G 0)] μ (qV G Q)) (hrec_one : ∀ (Q : vM → Prop) (μ : vM), rec 5 0 Q μ → mt l G yX7_one vX7_one { frames := n * 2 + 10, cells := 0, slots := 0, locals := n * 64 + 300 } [.ref (ga G 0)] μ (qV G Q)) (hrec_opensBy : ∀ (b0 : Int32) (Q : vM → Prop) (μ : vM), rec 6 b0 Q μ → mt l G yX7_opensBy vX7_opensBy { frames := n * 2 + 10, cells := 0, slots := 0, locals := n * 64 + 300 } [.ref (ga G 0), .int b0] μ (qV G Q)) (Q : vM → Prop) (μ : vM) (hw : wp_X7_all rec Q μ) : mt l G yX7_all vX7_all { frames := n * 2 + 12, cells := 0, slots := 0, locals := n * 64 + 364 } [.ref (ga G 0)] μ (qV G Q) := by
  refine met_of (cc := cX7_all) (maxL := 1) (ret := none) RX7 (by decide) rfl rfl hG (Nat.le_of_ble_eq_true rfl) ?_
  intro p e s m below meth c X h ls hl
  have hl : lv_has ls 1 [(0, .ref (ga G 0))] := hl
  have hx := X.1
  have hb := X.2.1
  unfold wp_X7_all at hw
  refine lv_aload_n hx hb dX7_all_0 rfl (lv_at hl 0 rfl) ?_
  refine k_v h (n_V (rest := []) (As := []) X h hl.1 (hrec_compares  _ _ hw) gk_X7_185 rfl hd_X7_compares ⟨rfl, rfl⟩ ⟨by show _ ≤ _; simp only []; omega, by show _ ≤ _; simp only []; omega⟩ (X7_o h0) rfl rfl (Nat.le_of_ble_eq_true rfl) dX7_all_1 ⟨Nat.zero_le _, Nat.zero_le _⟩) (fun μ1 H locs hw h => ?_)
  have s4 : ∀ (n4 : Nat)  (μ : vM), ∀ (H : Heap) (locs : List Loc) (ls : Array Slot), bw G s μ H locs → lv_has ls 1 [(0, .ref (ga G 0))] → wp_X7_all_4 rec Q n4 μ → W p l e ({ frames := n * 2 + 12, cells := 0, slots := 0, locals := n * 64 + 364 } : Room) s m ([.ref (ga G 0)] : List Value).toArray below meth c H locs 0 0 (MQ below (qV G Q) ([.ref (ga G 0)] : List Value).toArray s 0 0 (gA G)) (F0 m 4 ls []) := by
    intro n4
    induction n4 with
    | zero => intro  μ H locs ls h hl hw; exact absurd hw (by unfold wp_X7_all_4; exact id)
    | succ n4 ih4 =>
      intro  μ H locs ls h hl hw
      unfold wp_X7_all_4 at hw
      refine lv_aload_n hx hb dX7_all_4 rfl (lv_at hl 0 rfl) ?_
      refine r_getI X h (X7_o h0) rfl uX7 17 (by decide) lf_4_68 rfl dX7_all_5 ?_
      refine lv_if_ne (tgt := 44) hx hb dX7_all_8 (by decide) (fun hc => ?_) (fun hc => ?_)
      · rw [if_neg hc] at hw
        exact r_vret X h hw dX7_all_44
      · rw [if_pos hc] at hw
        refine lv_aload_n hx hb dX7_all_11 rfl (lv_at hl 0 rfl) ?_
        refine k_i h (n_V (rest := []) (As := []) X h hl.1 (c_X7_look l G hG h0 _ _ hw) gk_X7_150 rfl hd_X7_look ⟨rfl, rfl⟩ ⟨by show _ ≤ _; simp only []; omega, by show _ ≤ _; simp only []; omega⟩ (X7_o h0) rfl rfl (Nat.le_of_ble_eq_true rfl) dX7_all_12 ⟨Nat.zero_le _, Nat.zero_le _⟩) (fun r12 μ12 H locs hw h => ?_)
        refine lv_bipush (v := (38 : Int32)) hx hb dX7_all_15 (by decide) ?_
        refine lv_icmp_ne (tgt := 44) hx hb dX7_all_17 (by decide) (fun hc => ?_) (fun hc => ?_)
        · rw [if_neg hc] at hw
          exact r_vret X h hw dX7_all_44
        · rw [if_pos hc] at hw
          refine lv_aload_n hx hb dX7_all_20 rfl (lv_at hl 0 rfl) ?_
          refine lv_dup hx hb dX7_all_21 rfl ?_
          refine r_getI X h (X7_o h0) rfl uX7 15 (by decide) lf_4_66 rfl dX7_all_22 ?_
          refine lv_iconst (v := (1 : Int32)) hx hb dX7_all_25 (by decide) ?_
          refine lv_iadd hx hb dX7_all_26 ?_
          obtain ⟨μ27, eμ27, hw⟩ := hw
          refine r_putI X h (X7_o h0) rfl uX7 tyX7 tyX7_ok nmX7 15 (by decide) lf_4_66 rfl rfl rfl  eμ27 dX7_all_27 (fun H locs h => ?_)
          refine lv_aload_n hx hb dX7_all_30 rfl (lv_at hl 0 rfl) ?_
          refine k_v h (n_V (rest := []) (As := []) X h hl.1 (hrec_compares  _ _ hw) gk_X7_185 rfl hd_X7_compares ⟨rfl, rfl⟩ ⟨by show _ ≤ _; simp only []; omega, by show _ ≤ _; simp only []; omega⟩ (X7_o h0) rfl rfl (Nat.le_of_ble_eq_true rfl) dX7_all_31 ⟨Nat.zero_le _, Nat.zero_le _⟩) (fun μ31 H locs hw h => ?_)
          refine lv_aload_n hx hb dX7_all_34 rfl (lv_at hl 0 rfl) ?_
          refine lv_bipush (v := (38 : Int32)) hx hb dX7_all_35 (by decide) ?_
          refine lv_iconst (v := (0 : Int32)) hx hb dX7_all_37 (by decide) ?_
          refine k_v h (n_V (rest := []) (As := [.int (38 : Int32), .int (0 : Int32)]) X h hl.1 (c_X7_laysBy l G hG (38 : Int32) (0 : Int32) h0 _ _ hw) gk_X7_157 rfl hd_X7_laysBy ⟨rfl, rfl⟩ ⟨by show _ ≤ _; simp only []; omega, by show _ ≤ _; simp only []; omega⟩ (X7_o h0) rfl rfl (Nat.le_of_ble_eq_true rfl) dX7_all_38 ⟨Nat.zero_le _, Nat.zero_le _⟩) (fun μ38 H locs hw h => ?_)
          refine lv_goto (tgt := 4) hx hb dX7_all_41 (by decide) ?_
          exact ih4 μ38 _ _ _ h (lv_sub hl [0] rfl) hw
  obtain ⟨n, hw⟩ := hw
  exact s4 n μ1 _ _ _ h (lv_sub hl [0] rfl) hw
def wp_X7_any_4 (rec : Nat → Int32 → (vM → Prop) → vM → Prop) (Q : vM → Prop) : Nat → vM → Prop
  | 0, _ => False
  | n4 + 1, μ => if (μ 0 17) = 0 then wp_X7_look  (fun r12 μ12 => if r12 = (124 : Int32) then ∃ μ27 : vM, μ27 = st μ12 0 15 ((μ12 0 15) + (1 : Int32)) ∧ rec 1 0 (fun μ31 => wp_X7_laysBy (124 : Int32) (0 : Int32) (fun μ38 => wp_X7_any_4 rec Q n4 μ38) μ31) μ27 else Q μ12) μ else Q μ
def wp_X7_any (rec : Nat → Int32 → (vM → Prop) → vM → Prop) (Q : vM → Prop) (μ : vM) : Prop := rec 1 0 (fun μ1 => ∃ n4, wp_X7_any_4 rec Q n4 μ1) μ
set_option maxRecDepth 100000 in
set_option maxHeartbeats 4000000 in
theorem cb_X7_any (l : Launch) (G : vG) (hG : gO G) (n : Nat) (rec : Nat → Int32 → (vM → Prop) → vM → Prop)  (h0 : isX7 G) (hrec_any : ∀ (Q : vM → Prop) (μ : vM), rec 0 0 Q μ → mt l G yX7_any vX7_any { frames := n * 2 + 10, cells := 0, slots := 0, locals := n * 64 + 300 } [.ref (ga G 0)] μ (qV G Q)) (hrec_all : ∀ (Q : vM → Prop) (μ : vM), rec 1 0 Q μ → mt l G yX7_all vX7_all { frames := n * 2 + 10, cells := 0, slots := 0, locals := n * 64 + 300 } [.ref (ga G 0)] μ (qV G Q)) (hrec_compares : ∀ (Q : vM → Prop) (μ : vM), rec 2 0 Q μ → mt l G yX7_compares vX7_compares { frames := n * 2 + 10, cells := 0, slots := 0, locals := n * 64 + 300 } [.ref (ga G 0)] μ (qV G Q)) (hrec_sum : ∀ (Q : vM → Prop) (μ : vM), rec 3 0 Q μ → mt l G yX7_sum vX7_sum { frames := n * 2 + 10, cells := 0, slots := 0, locals := n * 64 + 300 } [.ref (ga G 0)] μ (qV G Q)) (hrec_times : ∀ (Q : vM → Prop) (μ : vM), rec 4 0 Q μ → mt l G yX7_times vX7_times { frames := n * 2 + 10, cells := 0, slots := 0, locals := n * 64 + 300 } [.ref (ga G 0)] μ (qV G Q)) (hrec_one : ∀ (Q : vM → Prop) (μ : vM), rec 5 0 Q μ → mt l G yX7_one vX7_one { frames := n * 2 + 10, cells := 0, slots := 0, locals := n * 64 + 300 } [.ref (ga G 0)] μ (qV G Q)) (hrec_opensBy : ∀ (b0 : Int32) (Q : vM → Prop) (μ : vM), rec 6 b0 Q μ → mt l G yX7_opensBy vX7_opensBy { frames := n * 2 + 10, cells := 0, slots := 0, locals := n * 64 + 300 } [.ref (ga G 0), .int b0] μ (qV G Q)) (Q : vM → Prop) (μ : vM) (hw : wp_X7_any rec Q μ) : mt l G yX7_any vX7_any { frames := n * 2 + 12, cells := 0, slots := 0, locals := n * 64 + 364 } [.ref (ga G 0)] μ (qV G Q) := by
  refine met_of (cc := cX7_any) (maxL := 1) (ret := none) RX7 (by decide) rfl rfl hG (Nat.le_of_ble_eq_true rfl) ?_
  intro p e s m below meth c X h ls hl
  have hl : lv_has ls 1 [(0, .ref (ga G 0))] := hl
  have hx := X.1
  have hb := X.2.1
  unfold wp_X7_any at hw
  refine lv_aload_n hx hb dX7_any_0 rfl (lv_at hl 0 rfl) ?_
  refine k_v h (n_V (rest := []) (As := []) X h hl.1 (hrec_all  _ _ hw) gk_X7_188 rfl hd_X7_all ⟨rfl, rfl⟩ ⟨by show _ ≤ _; simp only []; omega, by show _ ≤ _; simp only []; omega⟩ (X7_o h0) rfl rfl (Nat.le_of_ble_eq_true rfl) dX7_any_1 ⟨Nat.zero_le _, Nat.zero_le _⟩) (fun μ1 H locs hw h => ?_)
  have s4 : ∀ (n4 : Nat)  (μ : vM), ∀ (H : Heap) (locs : List Loc) (ls : Array Slot), bw G s μ H locs → lv_has ls 1 [(0, .ref (ga G 0))] → wp_X7_any_4 rec Q n4 μ → W p l e ({ frames := n * 2 + 12, cells := 0, slots := 0, locals := n * 64 + 364 } : Room) s m ([.ref (ga G 0)] : List Value).toArray below meth c H locs 0 0 (MQ below (qV G Q) ([.ref (ga G 0)] : List Value).toArray s 0 0 (gA G)) (F0 m 4 ls []) := by
    intro n4
    induction n4 with
    | zero => intro  μ H locs ls h hl hw; exact absurd hw (by unfold wp_X7_any_4; exact id)
    | succ n4 ih4 =>
      intro  μ H locs ls h hl hw
      unfold wp_X7_any_4 at hw
      refine lv_aload_n hx hb dX7_any_4 rfl (lv_at hl 0 rfl) ?_
      refine r_getI X h (X7_o h0) rfl uX7 17 (by decide) lf_4_68 rfl dX7_any_5 ?_
      refine lv_if_ne (tgt := 44) hx hb dX7_any_8 (by decide) (fun hc => ?_) (fun hc => ?_)
      · rw [if_neg hc] at hw
        exact r_vret X h hw dX7_any_44
      · rw [if_pos hc] at hw
        refine lv_aload_n hx hb dX7_any_11 rfl (lv_at hl 0 rfl) ?_
        refine k_i h (n_V (rest := []) (As := []) X h hl.1 (c_X7_look l G hG h0 _ _ hw) gk_X7_150 rfl hd_X7_look ⟨rfl, rfl⟩ ⟨by show _ ≤ _; simp only []; omega, by show _ ≤ _; simp only []; omega⟩ (X7_o h0) rfl rfl (Nat.le_of_ble_eq_true rfl) dX7_any_12 ⟨Nat.zero_le _, Nat.zero_le _⟩) (fun r12 μ12 H locs hw h => ?_)
        refine lv_bipush (v := (124 : Int32)) hx hb dX7_any_15 (by decide) ?_
        refine lv_icmp_ne (tgt := 44) hx hb dX7_any_17 (by decide) (fun hc => ?_) (fun hc => ?_)
        · rw [if_neg hc] at hw
          exact r_vret X h hw dX7_any_44
        · rw [if_pos hc] at hw
          refine lv_aload_n hx hb dX7_any_20 rfl (lv_at hl 0 rfl) ?_
          refine lv_dup hx hb dX7_any_21 rfl ?_
          refine r_getI X h (X7_o h0) rfl uX7 15 (by decide) lf_4_66 rfl dX7_any_22 ?_
          refine lv_iconst (v := (1 : Int32)) hx hb dX7_any_25 (by decide) ?_
          refine lv_iadd hx hb dX7_any_26 ?_
          obtain ⟨μ27, eμ27, hw⟩ := hw
          refine r_putI X h (X7_o h0) rfl uX7 tyX7 tyX7_ok nmX7 15 (by decide) lf_4_66 rfl rfl rfl  eμ27 dX7_any_27 (fun H locs h => ?_)
          refine lv_aload_n hx hb dX7_any_30 rfl (lv_at hl 0 rfl) ?_
          refine k_v h (n_V (rest := []) (As := []) X h hl.1 (hrec_all  _ _ hw) gk_X7_188 rfl hd_X7_all ⟨rfl, rfl⟩ ⟨by show _ ≤ _; simp only []; omega, by show _ ≤ _; simp only []; omega⟩ (X7_o h0) rfl rfl (Nat.le_of_ble_eq_true rfl) dX7_any_31 ⟨Nat.zero_le _, Nat.zero_le _⟩) (fun μ31 H locs hw h => ?_)
          refine lv_aload_n hx hb dX7_any_34 rfl (lv_at hl 0 rfl) ?_
          refine lv_bipush (v := (124 : Int32)) hx hb dX7_any_35 (by decide) ?_
          refine lv_iconst (v := (0 : Int32)) hx hb dX7_any_37 (by decide) ?_
          refine k_v h (n_V (rest := []) (As := [.int (124 : Int32), .int (0 : Int32)]) X h hl.1 (c_X7_laysBy l G hG (124 : Int32) (0 : Int32) h0 _ _ hw) gk_X7_157 rfl hd_X7_laysBy ⟨rfl, rfl⟩ ⟨by show _ ≤ _; simp only []; omega, by show _ ≤ _; simp only []; omega⟩ (X7_o h0) rfl rfl (Nat.le_of_ble_eq_true rfl) dX7_any_38 ⟨Nat.zero_le _, Nat.zero_le _⟩) (fun μ38 H locs hw h => ?_)
          refine lv_goto (tgt := 4) hx hb dX7_any_41 (by decide) ?_
          exact ih4 μ38 _ _ _ h (lv_sub hl [0] rfl) hw
  obtain ⟨n, hw⟩ := hw
  exact s4 n μ1 _ _ _ h (lv_sub hl [0] rfl) hw
def wp_X7_opensBy_99 (rec : Nat → Int32 → (vM → Prop) → vM → Prop) (a1 : Int32) (Q : vM → Prop) (t1 : Int32) (t2 : Int32) (μ : vM) : Prop := ∃ μ100 : vM, μ100 = st μ 0 15 (t1 + t2) ∧ ∃ μ110 : vM, μ110 = st μ100 0 16 ((μ100 0 16) - (1 : Int32)) ∧ Q μ110
def wp_X7_opensBy_79 (rec : Nat → Int32 → (vM → Prop) → vM → Prop) (a1 : Int32) (Q : vM → Prop) (t1 : Int32) (μ : vM) : Prop := bz t1 ∧ ∃ μ79 : vM, μ79 = st μ 0 17 t1 ∧ wp_X7_opensBy_99 rec a1 Q (μ79 0 15) (if (μ79 0 17) = 0 then (1 : Int32) else (0 : Int32)) μ79
def wp_X7_opensBy_74 (rec : Nat → Int32 → (vM → Prop) → vM → Prop) (a1 : Int32) (Q : vM → Prop)  (μ : vM) : Prop := wp_X7_opensBy_79 rec a1 Q (1 : Int32) μ
def wp_X7_opensBy (rec : Nat → Int32 → (vM → Prop) → vM → Prop) (a1 : Int32) (Q : vM → Prop) (μ : vM) : Prop := if (μ 0 16) = (5 : Int32) then bz (1 : Int32) ∧ ∃ μ10 : vM, μ10 = st μ 0 17 (1 : Int32) ∧ Q μ10 else ∃ μ21 : vM, μ21 = st μ 0 16 ((μ 0 16) + (1 : Int32)) ∧ ∃ μ31 : vM, μ31 = st μ21 0 15 ((μ21 0 15) + (1 : Int32)) ∧ if a1 = (33 : Int32) then rec 5 0 (fun μ41 => wp_X7_laysBy (3 : Int32) (0 : Int32) (fun μ47 => ∃ μ110 : vM, μ110 = st μ47 0 16 ((μ47 0 16) - (1 : Int32)) ∧ Q μ110) μ41) μ31 else rec 0 0 (fun μ54 => if (μ54 0 17) = 0 then wp_X7_look  (fun r66 μ66 => if r66 = (41 : Int32) then wp_X7_opensBy_79 rec a1 Q (0 : Int32) μ66 else wp_X7_opensBy_74 rec a1 Q μ66) μ54 else wp_X7_opensBy_74 rec a1 Q μ54) μ31
set_option maxRecDepth 100000 in
set_option maxHeartbeats 4000000 in
theorem cb_X7_opensBy (l : Launch) (G : vG) (hG : gO G) (n : Nat) (rec : Nat → Int32 → (vM → Prop) → vM → Prop) (a1 : Int32) (h0 : isX7 G) (hrec_any : ∀ (Q : vM → Prop) (μ : vM), rec 0 0 Q μ → mt l G yX7_any vX7_any { frames := n * 2 + 10, cells := 0, slots := 0, locals := n * 64 + 300 } [.ref (ga G 0)] μ (qV G Q)) (hrec_all : ∀ (Q : vM → Prop) (μ : vM), rec 1 0 Q μ → mt l G yX7_all vX7_all { frames := n * 2 + 10, cells := 0, slots := 0, locals := n * 64 + 300 } [.ref (ga G 0)] μ (qV G Q)) (hrec_compares : ∀ (Q : vM → Prop) (μ : vM), rec 2 0 Q μ → mt l G yX7_compares vX7_compares { frames := n * 2 + 10, cells := 0, slots := 0, locals := n * 64 + 300 } [.ref (ga G 0)] μ (qV G Q)) (hrec_sum : ∀ (Q : vM → Prop) (μ : vM), rec 3 0 Q μ → mt l G yX7_sum vX7_sum { frames := n * 2 + 10, cells := 0, slots := 0, locals := n * 64 + 300 } [.ref (ga G 0)] μ (qV G Q)) (hrec_times : ∀ (Q : vM → Prop) (μ : vM), rec 4 0 Q μ → mt l G yX7_times vX7_times { frames := n * 2 + 10, cells := 0, slots := 0, locals := n * 64 + 300 } [.ref (ga G 0)] μ (qV G Q)) (hrec_one : ∀ (Q : vM → Prop) (μ : vM), rec 5 0 Q μ → mt l G yX7_one vX7_one { frames := n * 2 + 10, cells := 0, slots := 0, locals := n * 64 + 300 } [.ref (ga G 0)] μ (qV G Q)) (hrec_opensBy : ∀ (b0 : Int32) (Q : vM → Prop) (μ : vM), rec 6 b0 Q μ → mt l G yX7_opensBy vX7_opensBy { frames := n * 2 + 10, cells := 0, slots := 0, locals := n * 64 + 300 } [.ref (ga G 0), .int b0] μ (qV G Q)) (Q : vM → Prop) (μ : vM) (hw : wp_X7_opensBy rec a1 Q μ) : mt l G yX7_opensBy vX7_opensBy { frames := n * 2 + 12, cells := 0, slots := 0, locals := n * 64 + 364 } [.ref (ga G 0), .int a1] μ (qV G Q) := by
  refine met_of (cc := cX7_opensBy) (maxL := 2) (ret := none) RX7 (by decide) rfl rfl hG (Nat.le_of_ble_eq_true rfl) ?_
  intro p e s m below meth c X h ls hl
  have hl : lv_has ls 2 [(0, .ref (ga G 0)), (1, .int a1)] := hl
  have hx := X.1
  have hb := X.2.1
  unfold wp_X7_opensBy at hw
  refine lv_aload_n hx hb dX7_opensBy_0 rfl (lv_at hl 0 rfl) ?_
  refine r_getI X h (X7_o h0) rfl uX7 16 (by decide) lf_4_67 rfl dX7_opensBy_1 ?_
  refine lv_iconst (v := (5 : Int32)) hx hb dX7_opensBy_4 (by decide) ?_
  refine lv_icmp_ne (tgt := 14) hx hb dX7_opensBy_5 (by decide) (fun hc => ?_) (fun hc => ?_)
  · rw [if_neg hc] at hw
    refine lv_aload_n hx hb dX7_opensBy_14 rfl (lv_at hl 0 rfl) ?_
    refine lv_dup hx hb dX7_opensBy_15 rfl ?_
    refine r_getI X h (X7_o h0) rfl uX7 16 (by decide) lf_4_67 rfl dX7_opensBy_16 ?_
    refine lv_iconst (v := (1 : Int32)) hx hb dX7_opensBy_19 (by decide) ?_
    refine lv_iadd hx hb dX7_opensBy_20 ?_
    obtain ⟨μ21, eμ21, hw⟩ := hw
    refine r_putI X h (X7_o h0) rfl uX7 tyX7 tyX7_ok nmX7 16 (by decide) lf_4_67 rfl rfl rfl  eμ21 dX7_opensBy_21 (fun H locs h => ?_)
    refine lv_aload_n hx hb dX7_opensBy_24 rfl (lv_at hl 0 rfl) ?_
    refine lv_dup hx hb dX7_opensBy_25 rfl ?_
    refine r_getI X h (X7_o h0) rfl uX7 15 (by decide) lf_4_66 rfl dX7_opensBy_26 ?_
    refine lv_iconst (v := (1 : Int32)) hx hb dX7_opensBy_29 (by decide) ?_
    refine lv_iadd hx hb dX7_opensBy_30 ?_
    obtain ⟨μ31, eμ31, hw⟩ := hw
    refine r_putI X h (X7_o h0) rfl uX7 tyX7 tyX7_ok nmX7 15 (by decide) lf_4_66 rfl rfl rfl  eμ31 dX7_opensBy_31 (fun H locs h => ?_)
    refine lv_iload_n hx hb dX7_opensBy_34 rfl (lv_at hl 1 rfl) ?_
    refine lv_bipush (v := (33 : Int32)) hx hb dX7_opensBy_35 (by decide) ?_
    refine lv_icmp_ne (tgt := 53) hx hb dX7_opensBy_37 (by decide) (fun hc => ?_) (fun hc => ?_)
    · rw [if_neg hc] at hw
      refine lv_aload_n hx hb dX7_opensBy_53 rfl (lv_at hl 0 rfl) ?_
      refine k_v h (n_V (rest := []) (As := []) X h hl.1 (hrec_any  _ _ hw) gk_X7_167 rfl hd_X7_any ⟨rfl, rfl⟩ ⟨by show _ ≤ _; simp only []; omega, by show _ ≤ _; simp only []; omega⟩ (X7_o h0) rfl rfl (Nat.le_of_ble_eq_true rfl) dX7_opensBy_54 ⟨Nat.zero_le _, Nat.zero_le _⟩) (fun μ54 H locs hw h => ?_)
      refine lv_aload_n hx hb dX7_opensBy_57 rfl (lv_at hl 0 rfl) ?_
      refine lv_aload_n hx hb dX7_opensBy_58 rfl (lv_at hl 0 rfl) ?_
      refine r_getI X h (X7_o h0) rfl uX7 17 (by decide) lf_4_68 rfl dX7_opensBy_59 ?_
      have s79 : ∀ (t1 : Int32) (μ : vM), ∀ (H : Heap) (locs : List Loc) (ls : Array Slot), bw G s μ H locs → lv_has ls 2 [(0, .ref (ga G 0))] → wp_X7_opensBy_79 rec a1 Q t1 μ → W p l e ({ frames := n * 2 + 12, cells := 0, slots := 0, locals := n * 64 + 364 } : Room) s m ([.ref (ga G 0), .int a1] : List Value).toArray below meth c H locs 0 0 (MQ below (qV G Q) ([.ref (ga G 0), .int a1] : List Value).toArray s 0 0 (gA G)) (F0 m 79 ls [.int t1, .ref (ga G 0)]) := by
        intro t1 μ H locs ls h hl hw
        unfold wp_X7_opensBy_79 at hw
        obtain ⟨hz, hw⟩ := hw
        obtain ⟨μ79, eμ79, hw⟩ := hw
        refine r_putZ X h (X7_o h0) rfl uX7 tyX7 tyX7_ok nmX7 17 (by decide) lf_4_68 rfl rfl rfl  hz eμ79 dX7_opensBy_79 (fun H locs h => ?_)
        refine lv_aload_n hx hb dX7_opensBy_82 rfl (lv_at hl 0 rfl) ?_
        refine lv_dup hx hb dX7_opensBy_83 rfl ?_
        refine r_getI X h (X7_o h0) rfl uX7 15 (by decide) lf_4_66 rfl dX7_opensBy_84 ?_
        refine lv_aload_n hx hb dX7_opensBy_87 rfl (lv_at hl 0 rfl) ?_
        refine r_getI X h (X7_o h0) rfl uX7 17 (by decide) lf_4_68 rfl dX7_opensBy_88 ?_
        have s99 : ∀ (t1 : Int32) (t2 : Int32) (μ : vM), ∀ (H : Heap) (locs : List Loc) (ls : Array Slot), bw G s μ H locs → lv_has ls 2 [(0, .ref (ga G 0))] → wp_X7_opensBy_99 rec a1 Q t1 t2 μ → W p l e ({ frames := n * 2 + 12, cells := 0, slots := 0, locals := n * 64 + 364 } : Room) s m ([.ref (ga G 0), .int a1] : List Value).toArray below meth c H locs 0 0 (MQ below (qV G Q) ([.ref (ga G 0), .int a1] : List Value).toArray s 0 0 (gA G)) (F0 m 99 ls [.int t2, .int t1, .ref (ga G 0)]) := by
          intro t1 t2 μ H locs ls h hl hw
          unfold wp_X7_opensBy_99 at hw
          refine lv_iadd hx hb dX7_opensBy_99 ?_
          obtain ⟨μ100, eμ100, hw⟩ := hw
          refine r_putI X h (X7_o h0) rfl uX7 tyX7 tyX7_ok nmX7 15 (by decide) lf_4_66 rfl rfl rfl  eμ100 dX7_opensBy_100 (fun H locs h => ?_)
          refine lv_aload_n hx hb dX7_opensBy_103 rfl (lv_at hl 0 rfl) ?_
          refine lv_dup hx hb dX7_opensBy_104 rfl ?_
          refine r_getI X h (X7_o h0) rfl uX7 16 (by decide) lf_4_67 rfl dX7_opensBy_105 ?_
          refine lv_iconst (v := (1 : Int32)) hx hb dX7_opensBy_108 (by decide) ?_
          refine lv_isub hx hb dX7_opensBy_109 ?_
          obtain ⟨μ110, eμ110, hw⟩ := hw
          refine r_putI X h (X7_o h0) rfl uX7 tyX7 tyX7_ok nmX7 16 (by decide) lf_4_67 rfl rfl rfl  eμ110 dX7_opensBy_110 (fun H locs h => ?_)
          exact r_vret X h hw dX7_opensBy_113
        refine lv_if_eq (tgt := 98) hx hb dX7_opensBy_91 (by decide) (fun hc => ?_) (fun hc => ?_)
        · rw [if_pos hc] at hw
          refine lv_iconst (v := (1 : Int32)) hx hb dX7_opensBy_98 (by decide) ?_
          exact s99 (μ79 0 15) (1 : Int32) μ79 _ _ _ h (lv_sub hl [0] rfl) hw
        · rw [if_neg hc] at hw
          refine lv_iconst (v := (0 : Int32)) hx hb dX7_opensBy_94 (by decide) ?_
          refine lv_goto (tgt := 99) hx hb dX7_opensBy_95 (by decide) ?_
          exact s99 (μ79 0 15) (0 : Int32) μ79 _ _ _ h (lv_sub hl [0] rfl) hw
      have s74 : ∀  (μ : vM), ∀ (H : Heap) (locs : List Loc) (ls : Array Slot), bw G s μ H locs → lv_has ls 2 [(0, .ref (ga G 0))] → wp_X7_opensBy_74 rec a1 Q μ → W p l e ({ frames := n * 2 + 12, cells := 0, slots := 0, locals := n * 64 + 364 } : Room) s m ([.ref (ga G 0), .int a1] : List Value).toArray below meth c H locs 0 0 (MQ below (qV G Q) ([.ref (ga G 0), .int a1] : List Value).toArray s 0 0 (gA G)) (F0 m 74 ls [.ref (ga G 0)]) := by
        intro  μ H locs ls h hl hw
        unfold wp_X7_opensBy_74 at hw
        refine lv_iconst (v := (1 : Int32)) hx hb dX7_opensBy_74 (by decide) ?_
        refine lv_goto (tgt := 79) hx hb dX7_opensBy_75 (by decide) ?_
        exact s79 (1 : Int32) μ _ _ _ h (lv_sub hl [0] rfl) hw
      refine lv_if_ne (tgt := 74) hx hb dX7_opensBy_62 (by decide) (fun hc => ?_) (fun hc => ?_)
      · rw [if_neg hc] at hw
        exact s74 μ54 _ _ _ h (lv_sub hl [0] rfl) hw
      · rw [if_pos hc] at hw
        refine lv_aload_n hx hb dX7_opensBy_65 rfl (lv_at hl 0 rfl) ?_
        refine k_i h (n_V (rest := [.ref (ga G 0)]) (As := []) X h hl.1 (c_X7_look l G hG h0 _ _ hw) gk_X7_150 rfl hd_X7_look ⟨rfl, rfl⟩ ⟨by show _ ≤ _; simp only []; omega, by show _ ≤ _; simp only []; omega⟩ (X7_o h0) rfl rfl (Nat.le_of_ble_eq_true rfl) dX7_opensBy_66 ⟨Nat.zero_le _, Nat.zero_le _⟩) (fun r66 μ66 H locs hw h => ?_)
        refine lv_bipush (v := (41 : Int32)) hx hb dX7_opensBy_69 (by decide) ?_
        refine lv_icmp_eq (tgt := 78) hx hb dX7_opensBy_71 (by decide) (fun hc => ?_) (fun hc => ?_)
        · rw [if_pos hc] at hw
          refine lv_iconst (v := (0 : Int32)) hx hb dX7_opensBy_78 (by decide) ?_
          exact s79 (0 : Int32) μ66 _ _ _ h (lv_sub hl [0] rfl) hw
        · rw [if_neg hc] at hw
          exact s74 μ66 _ _ _ h (lv_sub hl [0] rfl) hw
    · rw [if_pos hc] at hw
      refine lv_aload_n hx hb dX7_opensBy_40 rfl (lv_at hl 0 rfl) ?_
      refine k_v h (n_V (rest := []) (As := []) X h hl.1 (hrec_one  _ _ hw) gk_X7_164 rfl hd_X7_one ⟨rfl, rfl⟩ ⟨by show _ ≤ _; simp only []; omega, by show _ ≤ _; simp only []; omega⟩ (X7_o h0) rfl rfl (Nat.le_of_ble_eq_true rfl) dX7_opensBy_41 ⟨Nat.zero_le _, Nat.zero_le _⟩) (fun μ41 H locs hw h => ?_)
      refine lv_aload_n hx hb dX7_opensBy_44 rfl (lv_at hl 0 rfl) ?_
      refine lv_iconst (v := (3 : Int32)) hx hb dX7_opensBy_45 (by decide) ?_
      refine lv_iconst (v := (0 : Int32)) hx hb dX7_opensBy_46 (by decide) ?_
      refine k_v h (n_V (rest := []) (As := [.int (3 : Int32), .int (0 : Int32)]) X h hl.1 (c_X7_laysBy l G hG (3 : Int32) (0 : Int32) h0 _ _ hw) gk_X7_157 rfl hd_X7_laysBy ⟨rfl, rfl⟩ ⟨by show _ ≤ _; simp only []; omega, by show _ ≤ _; simp only []; omega⟩ (X7_o h0) rfl rfl (Nat.le_of_ble_eq_true rfl) dX7_opensBy_47 ⟨Nat.zero_le _, Nat.zero_le _⟩) (fun μ47 H locs hw h => ?_)
      refine lv_goto (tgt := 103) hx hb dX7_opensBy_50 (by decide) ?_
      refine lv_aload_n hx hb dX7_opensBy_103 rfl (lv_at hl 0 rfl) ?_
      refine lv_dup hx hb dX7_opensBy_104 rfl ?_
      refine r_getI X h (X7_o h0) rfl uX7 16 (by decide) lf_4_67 rfl dX7_opensBy_105 ?_
      refine lv_iconst (v := (1 : Int32)) hx hb dX7_opensBy_108 (by decide) ?_
      refine lv_isub hx hb dX7_opensBy_109 ?_
      obtain ⟨μ110, eμ110, hw⟩ := hw
      refine r_putI X h (X7_o h0) rfl uX7 tyX7 tyX7_ok nmX7 16 (by decide) lf_4_67 rfl rfl rfl  eμ110 dX7_opensBy_110 (fun H locs h => ?_)
      exact r_vret X h hw dX7_opensBy_113
  · rw [if_pos hc] at hw
    refine lv_aload_n hx hb dX7_opensBy_8 rfl (lv_at hl 0 rfl) ?_
    refine lv_iconst (v := (1 : Int32)) hx hb dX7_opensBy_9 (by decide) ?_
    obtain ⟨hz, hw⟩ := hw
    obtain ⟨μ10, eμ10, hw⟩ := hw
    refine r_putZ X h (X7_o h0) rfl uX7 tyX7 tyX7_ok nmX7 17 (by decide) lf_4_68 rfl rfl rfl  hz eμ10 dX7_opensBy_10 (fun H locs h => ?_)
    exact r_vret X h hw dX7_opensBy_13
def wg_tx : Nat → Nat → Int32 → (vM → Prop) → vM → Prop
  | 0 => fun _ _ _ _ => False
  | n + 1 => fun w a1 Q μ => if w = 0 then wp_X7_any (wg_tx n)  Q μ else if w = 1 then wp_X7_all (wg_tx n)  Q μ else if w = 2 then wp_X7_compares (wg_tx n)  Q μ else if w = 3 then wp_X7_sum (wg_tx n)  Q μ else if w = 4 then wp_X7_times (wg_tx n)  Q μ else if w = 5 then wp_X7_one (wg_tx n)  Q μ else if w = 6 then wp_X7_opensBy (wg_tx n) a1 Q μ else False
theorem cg_tx (l : Launch) (G : vG) (hG : gO G) (h0 : isX7 G) : ∀ n : Nat, (∀ (Q : vM → Prop) (μ : vM), wg_tx n 0 0 Q μ → mt l G yX7_any vX7_any { frames := n * 2 + 10, cells := 0, slots := 0, locals := n * 64 + 300 } [.ref (ga G 0)] μ (qV G Q)) ∧ (∀ (Q : vM → Prop) (μ : vM), wg_tx n 1 0 Q μ → mt l G yX7_all vX7_all { frames := n * 2 + 10, cells := 0, slots := 0, locals := n * 64 + 300 } [.ref (ga G 0)] μ (qV G Q)) ∧ (∀ (Q : vM → Prop) (μ : vM), wg_tx n 2 0 Q μ → mt l G yX7_compares vX7_compares { frames := n * 2 + 10, cells := 0, slots := 0, locals := n * 64 + 300 } [.ref (ga G 0)] μ (qV G Q)) ∧ (∀ (Q : vM → Prop) (μ : vM), wg_tx n 3 0 Q μ → mt l G yX7_sum vX7_sum { frames := n * 2 + 10, cells := 0, slots := 0, locals := n * 64 + 300 } [.ref (ga G 0)] μ (qV G Q)) ∧ (∀ (Q : vM → Prop) (μ : vM), wg_tx n 4 0 Q μ → mt l G yX7_times vX7_times { frames := n * 2 + 10, cells := 0, slots := 0, locals := n * 64 + 300 } [.ref (ga G 0)] μ (qV G Q)) ∧ (∀ (Q : vM → Prop) (μ : vM), wg_tx n 5 0 Q μ → mt l G yX7_one vX7_one { frames := n * 2 + 10, cells := 0, slots := 0, locals := n * 64 + 300 } [.ref (ga G 0)] μ (qV G Q)) ∧ (∀ (a1 : Int32) (Q : vM → Prop) (μ : vM), wg_tx n 6 a1 Q μ → mt l G yX7_opensBy vX7_opensBy { frames := n * 2 + 10, cells := 0, slots := 0, locals := n * 64 + 300 } [.ref (ga G 0), .int a1] μ (qV G Q)) := by
  intro n
  induction n with
  | zero => exact ⟨fun  Q μ hw => hw.elim, fun  Q μ hw => hw.elim, fun  Q μ hw => hw.elim, fun  Q μ hw => hw.elim, fun  Q μ hw => hw.elim, fun  Q μ hw => hw.elim, fun a1 Q μ hw => hw.elim⟩
  | succ n ih =>
    obtain ⟨i0, i1, i2, i3, i4, i5, i6⟩ := ih
    have e1 : ∀ a b : Nat, (n + 1) * a + b = n * a + (b + a) := fun a b => by rw [Nat.add_mul]; omega
    simp only [e1]
    exact ⟨fun  Q μ hw => cb_X7_any l G hG n (wg_tx n)  h0 i0 i1 i2 i3 i4 i5 i6 Q μ hw, fun  Q μ hw => cb_X7_all l G hG n (wg_tx n)  h0 i0 i1 i2 i3 i4 i5 i6 Q μ hw, fun  Q μ hw => cb_X7_compares l G hG n (wg_tx n)  h0 i0 i1 i2 i3 i4 i5 i6 Q μ hw, fun  Q μ hw => cb_X7_sum l G hG n (wg_tx n)  h0 i0 i1 i2 i3 i4 i5 i6 Q μ hw, fun  Q μ hw => cb_X7_times l G hG n (wg_tx n)  h0 i0 i1 i2 i3 i4 i5 i6 Q μ hw, fun  Q μ hw => cb_X7_one l G hG n (wg_tx n)  h0 i0 i1 i2 i3 i4 i5 i6 Q μ hw, fun a1 Q μ hw => cb_X7_opensBy l G hG n (wg_tx n) a1 h0 i0 i1 i2 i3 i4 i5 i6 Q μ hw⟩
theorem c_X7_any (l : Launch) (G : vG) (hG : gO G) (n : Nat) (h0 : isX7 G) (Q : vM → Prop) (μ : vM) (hw : wg_tx n 0 0 Q μ) : mt l G yX7_any vX7_any { frames := n * 2 + 10, cells := 0, slots := 0, locals := n * 64 + 300 } [.ref (ga G 0)] μ (qV G Q) := (cg_tx l G hG h0 n).1  Q μ hw
theorem c_X7_all (l : Launch) (G : vG) (hG : gO G) (n : Nat) (h0 : isX7 G) (Q : vM → Prop) (μ : vM) (hw : wg_tx n 1 0 Q μ) : mt l G yX7_all vX7_all { frames := n * 2 + 10, cells := 0, slots := 0, locals := n * 64 + 300 } [.ref (ga G 0)] μ (qV G Q) := (cg_tx l G hG h0 n).2.1  Q μ hw
theorem c_X7_compares (l : Launch) (G : vG) (hG : gO G) (n : Nat) (h0 : isX7 G) (Q : vM → Prop) (μ : vM) (hw : wg_tx n 2 0 Q μ) : mt l G yX7_compares vX7_compares { frames := n * 2 + 10, cells := 0, slots := 0, locals := n * 64 + 300 } [.ref (ga G 0)] μ (qV G Q) := (cg_tx l G hG h0 n).2.2.1  Q μ hw
theorem c_X7_sum (l : Launch) (G : vG) (hG : gO G) (n : Nat) (h0 : isX7 G) (Q : vM → Prop) (μ : vM) (hw : wg_tx n 3 0 Q μ) : mt l G yX7_sum vX7_sum { frames := n * 2 + 10, cells := 0, slots := 0, locals := n * 64 + 300 } [.ref (ga G 0)] μ (qV G Q) := (cg_tx l G hG h0 n).2.2.2.1  Q μ hw
theorem c_X7_times (l : Launch) (G : vG) (hG : gO G) (n : Nat) (h0 : isX7 G) (Q : vM → Prop) (μ : vM) (hw : wg_tx n 4 0 Q μ) : mt l G yX7_times vX7_times { frames := n * 2 + 10, cells := 0, slots := 0, locals := n * 64 + 300 } [.ref (ga G 0)] μ (qV G Q) := (cg_tx l G hG h0 n).2.2.2.2.1  Q μ hw
theorem c_X7_one (l : Launch) (G : vG) (hG : gO G) (n : Nat) (h0 : isX7 G) (Q : vM → Prop) (μ : vM) (hw : wg_tx n 5 0 Q μ) : mt l G yX7_one vX7_one { frames := n * 2 + 10, cells := 0, slots := 0, locals := n * 64 + 300 } [.ref (ga G 0)] μ (qV G Q) := (cg_tx l G hG h0 n).2.2.2.2.2.1  Q μ hw
theorem c_X7_opensBy (l : Launch) (G : vG) (hG : gO G) (n : Nat) (a1 : Int32) (h0 : isX7 G) (Q : vM → Prop) (μ : vM) (hw : wg_tx n 6 a1 Q μ) : mt l G yX7_opensBy vX7_opensBy { frames := n * 2 + 10, cells := 0, slots := 0, locals := n * 64 + 300 } [.ref (ga G 0), .int a1] μ (qV G Q) := (cg_tx l G hG h0 n).2.2.2.2.2.2 a1 Q μ hw
def wp_X7_text_117 (a1 : Int32) (Q : Int32 → vM → Prop) : Nat → Int32 → Int32 → vM → Prop
  | 0, _, _, _ => False
  | n117 + 1, x2, x3, μ => if (μ 0 14) ≤ x3 then Q (1 : Int32) μ else vp_in x3 60 ∧ vp_in ((x2 + (1 : Int32)) + x3) 385 ∧ ∃ μ140 : vM, μ140 = st μ 1 ((x2 + (1 : Int32)) + x3).toNatClampNeg (μ 9 x3.toNatClampNeg) ∧ vp_in x3 60 ∧ vp_in ((x2 + (61 : Int32)) + x3) 385 ∧ ∃ μ157 : vM, μ157 = st μ140 1 ((x2 + (61 : Int32)) + x3).toNatClampNeg (μ140 10 x3.toNatClampNeg) ∧ ∃ x3_158 : Int32, x3_158 = x3 + (1 : Int32) ∧ wp_X7_text_117 a1 Q n117 x2 x3_158 μ157
def wp_X7_text_71 (a1 : Int32) (Q : Int32 → vM → Prop) (t1 : Int32) (μ : vM) : Prop := bz t1 ∧ ∃ μ71 : vM, μ71 = st μ 0 17 t1 ∧ vp_in (3 : Int32) 385 ∧ ∃ μ80 : vM, μ80 = st μ71 1 (3 : Int32).toNatClampNeg (0 : Int32) ∧ if (μ80 0 17) = 0 then ∃ x2_104 : Int32, x2_104 = (143 : Int32) + ((121 : Int32) * a1) ∧ vp_in x2_104 385 ∧ ∃ μ114 : vM, μ114 = st μ80 1 x2_104.toNatClampNeg (μ80 0 14) ∧ ∃ n117, wp_X7_text_117 a1 Q n117 x2_104 (0 : Int32) μ114 else Q ((-10 : Int32) - (μ80 0 15)) μ80
def wp_X7_text_66 (a1 : Int32) (Q : Int32 → vM → Prop)  (μ : vM) : Prop := wp_X7_text_71 a1 Q (1 : Int32) μ
def wp_X7_text (a1 : Int32) (Q : Int32 → vM → Prop) (μ : vM) : Prop := wp_X7_in a1 (0 : Int32) (1 : Int32) (fun r3 μ3 => if r3 = 0 then wp_X7_error (-1000000001 : Int32) (fun r12 μ12 => Q r12 μ12) μ3 else ∃ μ18 : vM, μ18 = st μ3 0 18 a1 ∧ ∃ μ23 : vM, μ23 = st μ18 0 14 (0 : Int32) ∧ ∃ μ28 : vM, μ28 = st μ23 0 15 (0 : Int32) ∧ ∃ μ33 : vM, μ33 = st μ28 0 16 (0 : Int32) ∧ bz (0 : Int32) ∧ ∃ μ38 : vM, μ38 = st μ33 0 17 (0 : Int32) ∧ wg_tx 60 0 0 (fun μ42 => if (μ42 0 17) = 0 then vp_in (3 : Int32) 385 ∧ if (μ42 1 (3 : Int32).toNatClampNeg) ≤ (μ42 0 15) then wp_X7_text_71 a1 Q (0 : Int32) μ42 else wp_X7_text_66 a1 Q μ42 else wp_X7_text_66 a1 Q μ42) μ38) μ
set_option maxRecDepth 100000 in
set_option maxHeartbeats 4000000 in
theorem c_X7_text (l : Launch) (G : vG) (hG : gO G) (a1 : Int32) (h0 : isX7 G) (Q : Int32 → vM → Prop) (μ : vM) (hw : wp_X7_text a1 Q μ) : mt l G yX7_text vX7_text { frames := 131, cells := 0, slots := 0, locals := 4160 } [.ref (ga G 0), .int a1] μ (qI G Q) := by
  refine met_of (cc := cX7_text) (maxL := 4) (ret := (some .int)) RX7 (by decide) rfl rfl hG (Nat.le_of_ble_eq_true rfl) ?_
  intro p e s m below meth c X h ls hl
  have hl : lv_has ls 4 [(0, .ref (ga G 0)), (1, .int a1)] := hl
  have hx := X.1
  have hb := X.2.1
  unfold wp_X7_text at hw
  refine lv_iload_n hx hb dX7_text_0 rfl (lv_at hl 1 rfl) ?_
  refine lv_iconst (v := (0 : Int32)) hx hb dX7_text_1 (by decide) ?_
  refine lv_iconst (v := (1 : Int32)) hx hb dX7_text_2 (by decide) ?_
  refine k_i h (n_T (rest := []) (As := [.int a1, .int (0 : Int32), .int (1 : Int32)]) X h hl.1 (c_X7_in l G hG a1 (0 : Int32) (1 : Int32) _ _ hw) gk_X7_57 rfl hd_X7_in ⟨rfl, rfl⟩ ⟨Nat.le_of_ble_eq_true rfl, Nat.le_of_ble_eq_true rfl⟩ rfl (Nat.le_of_ble_eq_true rfl) dX7_text_3 ⟨Nat.zero_le _, Nat.zero_le _⟩) (fun r3 μ3 H locs hw h => ?_)
  refine lv_if_ne (tgt := 16) hx hb dX7_text_6 (by decide) (fun hc => ?_) (fun hc => ?_)
  · rw [if_neg hc] at hw
    refine lv_aload_n hx hb dX7_text_16 rfl (lv_at hl 0 rfl) ?_
    refine lv_iload_n hx hb dX7_text_17 rfl (lv_at hl 1 rfl) ?_
    obtain ⟨μ18, eμ18, hw⟩ := hw
    refine r_putI X h (X7_o h0) rfl uX7 tyX7 tyX7_ok nmX7 18 (by decide) lf_4_69 rfl rfl rfl  eμ18 dX7_text_18 (fun H locs h => ?_)
    refine lv_aload_n hx hb dX7_text_21 rfl (lv_at hl 0 rfl) ?_
    refine lv_iconst (v := (0 : Int32)) hx hb dX7_text_22 (by decide) ?_
    obtain ⟨μ23, eμ23, hw⟩ := hw
    refine r_putI X h (X7_o h0) rfl uX7 tyX7 tyX7_ok nmX7 14 (by decide) lf_4_65 rfl rfl rfl  eμ23 dX7_text_23 (fun H locs h => ?_)
    refine lv_aload_n hx hb dX7_text_26 rfl (lv_at hl 0 rfl) ?_
    refine lv_iconst (v := (0 : Int32)) hx hb dX7_text_27 (by decide) ?_
    obtain ⟨μ28, eμ28, hw⟩ := hw
    refine r_putI X h (X7_o h0) rfl uX7 tyX7 tyX7_ok nmX7 15 (by decide) lf_4_66 rfl rfl rfl  eμ28 dX7_text_28 (fun H locs h => ?_)
    refine lv_aload_n hx hb dX7_text_31 rfl (lv_at hl 0 rfl) ?_
    refine lv_iconst (v := (0 : Int32)) hx hb dX7_text_32 (by decide) ?_
    obtain ⟨μ33, eμ33, hw⟩ := hw
    refine r_putI X h (X7_o h0) rfl uX7 tyX7 tyX7_ok nmX7 16 (by decide) lf_4_67 rfl rfl rfl  eμ33 dX7_text_33 (fun H locs h => ?_)
    refine lv_aload_n hx hb dX7_text_36 rfl (lv_at hl 0 rfl) ?_
    refine lv_iconst (v := (0 : Int32)) hx hb dX7_text_37 (by decide) ?_
    obtain ⟨hz, hw⟩ := hw
    obtain ⟨μ38, eμ38, hw⟩ := hw
    refine r_putZ X h (X7_o h0) rfl uX7 tyX7 tyX7_ok nmX7 17 (by decide) lf_4_68 rfl rfl rfl  hz eμ38 dX7_text_38 (fun H locs h => ?_)
    refine lv_aload_n hx hb dX7_text_41 rfl (lv_at hl 0 rfl) ?_
    refine k_v h (n_V (rest := []) (As := []) X h hl.1 (c_X7_any l G hG 60 h0 _ _ hw) gk_X7_167 rfl hd_X7_any ⟨rfl, rfl⟩ ⟨Nat.le_of_ble_eq_true rfl, Nat.le_of_ble_eq_true rfl⟩ (X7_o h0) rfl rfl (Nat.le_of_ble_eq_true rfl) dX7_text_42 ⟨Nat.zero_le _, Nat.zero_le _⟩) (fun μ42 H locs hw h => ?_)
    refine lv_aload_n hx hb dX7_text_45 rfl (lv_at hl 0 rfl) ?_
    refine lv_aload_n hx hb dX7_text_46 rfl (lv_at hl 0 rfl) ?_
    refine r_getI X h (X7_o h0) rfl uX7 17 (by decide) lf_4_68 rfl dX7_text_47 ?_
    have s71 : ∀ (t1 : Int32) (μ : vM), ∀ (H : Heap) (locs : List Loc) (ls : Array Slot), bw G s μ H locs → lv_has ls 4 [(0, .ref (ga G 0)), (1, .int a1)] → wp_X7_text_71 a1 Q t1 μ → W p l e ({ frames := 131, cells := 0, slots := 0, locals := 4160 } : Room) s m ([.ref (ga G 0), .int a1] : List Value).toArray below meth c H locs 0 0 (MQ below (qI G Q) ([.ref (ga G 0), .int a1] : List Value).toArray s 0 0 (gA G)) (F0 m 71 ls [.int t1, .ref (ga G 0)]) := by
      intro t1 μ H locs ls h hl hw
      unfold wp_X7_text_71 at hw
      obtain ⟨hz, hw⟩ := hw
      obtain ⟨μ71, eμ71, hw⟩ := hw
      refine r_putZ X h (X7_o h0) rfl uX7 tyX7 tyX7_ok nmX7 17 (by decide) lf_4_68 rfl rfl rfl  hz eμ71 dX7_text_71 (fun H locs h => ?_)
      refine lv_aload_n hx hb dX7_text_74 rfl (lv_at hl 0 rfl) ?_
      refine r_getR (q := 1) X h (X7_o h0) rfl uX7 0 (by decide) lf_4_51 rfl dX7_text_75 ?_
      refine lv_iconst (v := (3 : Int32)) hx hb dX7_text_78 (by decide) ?_
      refine lv_iconst (v := (0 : Int32)) hx hb dX7_text_79 (by decide) ?_
      obtain ⟨hi, μ80, eμ80, hw⟩ := hw
      refine r_ast X h (X7_row h0) hi eμ80 dX7_text_80 (fun H locs h => ?_)
      refine lv_aload_n hx hb dX7_text_81 rfl (lv_at hl 0 rfl) ?_
      refine r_getI X h (X7_o h0) rfl uX7 17 (by decide) lf_4_68 rfl dX7_text_82 ?_
      refine lv_if_eq (tgt := 96) hx hb dX7_text_85 (by decide) (fun hc => ?_) (fun hc => ?_)
      · rw [if_pos hc] at hw
        refine lv_sipush (v := (143 : Int32)) hx hb dX7_text_96 (by decide) ?_
        refine lv_bipush (v := (121 : Int32)) hx hb dX7_text_99 (by decide) ?_
        refine lv_iload_n hx hb dX7_text_101 rfl (lv_at hl 1 rfl) ?_
        refine lv_imul hx hb dX7_text_102 ?_
        refine lv_iadd hx hb dX7_text_103 ?_
        obtain ⟨x2_104, ex2_104, hw⟩ := hw
        refine topE ex2_104 ?_
        refine lv_istore_n (lv' := [(2, .int x2_104), (0, .ref (ga G 0)), (1, .int a1)]) hx hb dX7_text_104 rfl hl (by decide) rfl (fun ls hl => ?_)
        refine lv_aload_n hx hb dX7_text_105 rfl (lv_at hl 1 rfl) ?_
        refine r_getR (q := 1) X h (X7_o h0) rfl uX7 0 (by decide) lf_4_51 rfl dX7_text_106 ?_
        refine lv_iload_n hx hb dX7_text_109 rfl (lv_at hl 0 rfl) ?_
        refine lv_aload_n hx hb dX7_text_110 rfl (lv_at hl 1 rfl) ?_
        refine r_getI X h (X7_o h0) rfl uX7 14 (by decide) lf_4_65 rfl dX7_text_111 ?_
        obtain ⟨hi, μ114, eμ114, hw⟩ := hw
        refine r_ast X h (X7_row h0) hi eμ114 dX7_text_114 (fun H locs h => ?_)
        refine lv_iconst (v := (0 : Int32)) hx hb dX7_text_115 (by decide) ?_
        refine lv_istore_n (lv' := [(3, .int (0 : Int32)), (2, .int x2_104), (0, .ref (ga G 0)), (1, .int a1)]) hx hb dX7_text_116 rfl hl (by decide) rfl (fun ls hl => ?_)
        have s117 : ∀ (n117 : Nat) (x2 : Int32) (x3 : Int32) (μ : vM), ∀ (H : Heap) (locs : List Loc) (ls : Array Slot), bw G s μ H locs → lv_has ls 4 [(0, .ref (ga G 0)), (2, .int x2), (3, .int x3)] → wp_X7_text_117 a1 Q n117 x2 x3 μ → W p l e ({ frames := 131, cells := 0, slots := 0, locals := 4160 } : Room) s m ([.ref (ga G 0), .int a1] : List Value).toArray below meth c H locs 0 0 (MQ below (qI G Q) ([.ref (ga G 0), .int a1] : List Value).toArray s 0 0 (gA G)) (F0 m 117 ls []) := by
          intro n117
          induction n117 with
          | zero => intro x2 x3 μ H locs ls h hl hw; exact absurd hw (by unfold wp_X7_text_117; exact id)
          | succ n117 ih117 =>
            intro x2 x3 μ H locs ls h hl hw
            unfold wp_X7_text_117 at hw
            refine lv_iload_n hx hb dX7_text_117 rfl (lv_at hl 2 rfl) ?_
            refine lv_aload_n hx hb dX7_text_118 rfl (lv_at hl 0 rfl) ?_
            refine r_getI X h (X7_o h0) rfl uX7 14 (by decide) lf_4_65 rfl dX7_text_119 ?_
            refine lv_icmp_ge (tgt := 164) hx hb dX7_text_122 (by decide) (fun hc => ?_) (fun hc => ?_)
            · rw [if_pos hc] at hw
              refine lv_iconst (v := (1 : Int32)) hx hb dX7_text_164 (by decide) ?_
              exact r_iret X h hw dX7_text_165
            · rw [if_neg hc] at hw
              refine lv_aload_n hx hb dX7_text_125 rfl (lv_at hl 0 rfl) ?_
              refine r_getR (q := 1) X h (X7_o h0) rfl uX7 0 (by decide) lf_4_51 rfl dX7_text_126 ?_
              refine lv_iload_n hx hb dX7_text_129 rfl (lv_at hl 1 rfl) ?_
              refine lv_iconst (v := (1 : Int32)) hx hb dX7_text_130 (by decide) ?_
              refine lv_iadd hx hb dX7_text_131 ?_
              refine lv_iload_n hx hb dX7_text_132 rfl (lv_at hl 2 rfl) ?_
              refine lv_iadd hx hb dX7_text_133 ?_
              refine lv_aload_n hx hb dX7_text_134 rfl (lv_at hl 0 rfl) ?_
              refine r_getR (q := 9) X h (X7_o h0) rfl uX7 10 (by decide) lf_4_61 rfl dX7_text_135 ?_
              refine lv_iload_n hx hb dX7_text_138 rfl (lv_at hl 2 rfl) ?_
              obtain ⟨hi, hw⟩ := hw
              refine r_ald X h (X7_act h0) hi dX7_text_139 ?_
              obtain ⟨hi, μ140, eμ140, hw⟩ := hw
              refine r_ast X h (X7_row h0) hi eμ140 dX7_text_140 (fun H locs h => ?_)
              refine lv_aload_n hx hb dX7_text_141 rfl (lv_at hl 0 rfl) ?_
              refine r_getR (q := 1) X h (X7_o h0) rfl uX7 0 (by decide) lf_4_51 rfl dX7_text_142 ?_
              refine lv_iload_n hx hb dX7_text_145 rfl (lv_at hl 1 rfl) ?_
              refine lv_bipush (v := (61 : Int32)) hx hb dX7_text_146 (by decide) ?_
              refine lv_iadd hx hb dX7_text_148 ?_
              refine lv_iload_n hx hb dX7_text_149 rfl (lv_at hl 2 rfl) ?_
              refine lv_iadd hx hb dX7_text_150 ?_
              refine lv_aload_n hx hb dX7_text_151 rfl (lv_at hl 0 rfl) ?_
              refine r_getR (q := 10) X h (X7_o h0) rfl uX7 11 (by decide) lf_4_62 rfl dX7_text_152 ?_
              refine lv_iload_n hx hb dX7_text_155 rfl (lv_at hl 2 rfl) ?_
              obtain ⟨hi, hw⟩ := hw
              refine r_ald X h (X7_with h0) hi dX7_text_156 ?_
              obtain ⟨hi, μ157, eμ157, hw⟩ := hw
              refine r_ast X h (X7_row h0) hi eμ157 dX7_text_157 (fun H locs h => ?_)
              obtain ⟨x3_158, ex3_158, hw⟩ := hw
              refine lv_iinc (v := x3_158) (lv' := [(3, .int x3_158), (0, .ref (ga G 0)), (2, .int x2)]) hx hb dX7_text_158 hl (k := 2) rfl (by rw [ex3_158]; rfl) (by decide) rfl (fun ls hl => ?_)
              refine lv_goto (tgt := 117) hx hb dX7_text_161 (by decide) ?_
              exact ih117 x2 x3_158 μ157 _ _ _ h (lv_sub hl [1, 2, 0] rfl) hw
        obtain ⟨n, hw⟩ := hw
        exact s117 n x2_104 (0 : Int32) μ114 _ _ _ h (lv_sub hl [2, 1, 0] rfl) hw
      · rw [if_neg hc] at hw
        refine lv_bipush (v := (-10 : Int32)) hx hb dX7_text_88 (by decide) ?_
        refine lv_aload_n hx hb dX7_text_90 rfl (lv_at hl 0 rfl) ?_
        refine r_getI X h (X7_o h0) rfl uX7 15 (by decide) lf_4_66 rfl dX7_text_91 ?_
        refine lv_isub hx hb dX7_text_94 ?_
        exact r_iret X h hw dX7_text_95
    have s66 : ∀  (μ : vM), ∀ (H : Heap) (locs : List Loc) (ls : Array Slot), bw G s μ H locs → lv_has ls 4 [(0, .ref (ga G 0)), (1, .int a1)] → wp_X7_text_66 a1 Q μ → W p l e ({ frames := 131, cells := 0, slots := 0, locals := 4160 } : Room) s m ([.ref (ga G 0), .int a1] : List Value).toArray below meth c H locs 0 0 (MQ below (qI G Q) ([.ref (ga G 0), .int a1] : List Value).toArray s 0 0 (gA G)) (F0 m 66 ls [.ref (ga G 0)]) := by
      intro  μ H locs ls h hl hw
      unfold wp_X7_text_66 at hw
      refine lv_iconst (v := (1 : Int32)) hx hb dX7_text_66 (by decide) ?_
      refine lv_goto (tgt := 71) hx hb dX7_text_67 (by decide) ?_
      exact s71 (1 : Int32) μ _ _ _ h (lv_sub hl [0, 1] rfl) hw
    refine lv_if_ne (tgt := 66) hx hb dX7_text_50 (by decide) (fun hc => ?_) (fun hc => ?_)
    · rw [if_neg hc] at hw
      exact s66 μ42 _ _ _ h (lv_sub hl [0, 1] rfl) hw
    · rw [if_pos hc] at hw
      refine lv_aload_n hx hb dX7_text_53 rfl (lv_at hl 0 rfl) ?_
      refine r_getI X h (X7_o h0) rfl uX7 15 (by decide) lf_4_66 rfl dX7_text_54 ?_
      refine lv_aload_n hx hb dX7_text_57 rfl (lv_at hl 0 rfl) ?_
      refine r_getR (q := 1) X h (X7_o h0) rfl uX7 0 (by decide) lf_4_51 rfl dX7_text_58 ?_
      refine lv_iconst (v := (3 : Int32)) hx hb dX7_text_61 (by decide) ?_
      obtain ⟨hi, hw⟩ := hw
      refine r_ald X h (X7_row h0) hi dX7_text_62 ?_
      refine lv_icmp_ge (tgt := 70) hx hb dX7_text_63 (by decide) (fun hc => ?_) (fun hc => ?_)
      · rw [if_pos hc] at hw
        refine lv_iconst (v := (0 : Int32)) hx hb dX7_text_70 (by decide) ?_
        exact s71 (0 : Int32) μ42 _ _ _ h (lv_sub hl [0, 1] rfl) hw
      · rw [if_neg hc] at hw
        exact s66 μ42 _ _ _ h (lv_sub hl [0, 1] rfl) hw
  · rw [if_pos hc] at hw
    refine lv_aload_n hx hb dX7_text_9 rfl (lv_at hl 0 rfl) ?_
    refine r_ldc X (v := (-1000000001 : Int32)) ww_4_131 dX7_text_10 ?_
    refine k_i h (n_V (rest := []) (As := [.int (-1000000001 : Int32)]) X h hl.1 (c_X7_error l G hG (-1000000001 : Int32) h0 _ _ hw) gk_X7_104 rfl hd_X7_error ⟨rfl, rfl⟩ ⟨Nat.le_of_ble_eq_true rfl, Nat.le_of_ble_eq_true rfl⟩ (X7_o h0) rfl rfl (Nat.le_of_ble_eq_true rfl) dX7_text_12 ⟨Nat.zero_le _, Nat.zero_le _⟩) (fun r12 μ12 H locs hw h => ?_)
    exact r_iret X h hw dX7_text_15
def wp_X7_untell (a1 : Int32) (Q : Int32 → vM → Prop) (μ : vM) : Prop := wp_X7_in a1 (0 : Int32) (1 : Int32) (fun r3 μ3 => if r3 = 0 then wp_X7_error (-1000000001 : Int32) (fun r12 μ12 => Q r12 μ12) μ3 else wp_X7_becomes ((143 : Int32) + ((121 : Int32) * a1)) (0 : Int32) (fun r26 μ26 => if r26 ≤ 0 then Q (0 : Int32) μ26 else Q (1 : Int32) μ26) μ3) μ
set_option maxRecDepth 100000 in
set_option maxHeartbeats 4000000 in
theorem c_X7_untell (l : Launch) (G : vG) (hG : gO G) (a1 : Int32) (h0 : isX7 G) (Q : Int32 → vM → Prop) (μ : vM) (hw : wp_X7_untell a1 Q μ) : mt l G yX7_untell vX7_untell { frames := 1, cells := 0, slots := 0, locals := 23 } [.ref (ga G 0), .int a1] μ (qI G Q) := by
  refine met_of (cc := cX7_untell) (maxL := 2) (ret := (some .int)) RX7 (by decide) rfl rfl hG (Nat.le_of_ble_eq_true rfl) ?_
  intro p e s m below meth c X h ls hl
  have hl : lv_has ls 2 [(0, .ref (ga G 0)), (1, .int a1)] := hl
  have hx := X.1
  have hb := X.2.1
  unfold wp_X7_untell at hw
  refine lv_iload_n hx hb dX7_untell_0 rfl (lv_at hl 1 rfl) ?_
  refine lv_iconst (v := (0 : Int32)) hx hb dX7_untell_1 (by decide) ?_
  refine lv_iconst (v := (1 : Int32)) hx hb dX7_untell_2 (by decide) ?_
  refine k_i h (n_T (rest := []) (As := [.int a1, .int (0 : Int32), .int (1 : Int32)]) X h hl.1 (c_X7_in l G hG a1 (0 : Int32) (1 : Int32) _ _ hw) gk_X7_57 rfl hd_X7_in ⟨rfl, rfl⟩ ⟨Nat.le_of_ble_eq_true rfl, Nat.le_of_ble_eq_true rfl⟩ rfl (Nat.le_of_ble_eq_true rfl) dX7_untell_3 ⟨Nat.zero_le _, Nat.zero_le _⟩) (fun r3 μ3 H locs hw h => ?_)
  refine lv_if_ne (tgt := 16) hx hb dX7_untell_6 (by decide) (fun hc => ?_) (fun hc => ?_)
  · rw [if_neg hc] at hw
    refine lv_aload_n hx hb dX7_untell_16 rfl (lv_at hl 0 rfl) ?_
    refine lv_sipush (v := (143 : Int32)) hx hb dX7_untell_17 (by decide) ?_
    refine lv_bipush (v := (121 : Int32)) hx hb dX7_untell_20 (by decide) ?_
    refine lv_iload_n hx hb dX7_untell_22 rfl (lv_at hl 1 rfl) ?_
    refine lv_imul hx hb dX7_untell_23 ?_
    refine lv_iadd hx hb dX7_untell_24 ?_
    refine lv_iconst (v := (0 : Int32)) hx hb dX7_untell_25 (by decide) ?_
    refine k_i h (n_V (rest := []) (As := [.int ((143 : Int32) + ((121 : Int32) * a1)), .int (0 : Int32)]) X h hl.1 (c_X7_becomes l G hG ((143 : Int32) + ((121 : Int32) * a1)) (0 : Int32) h0 _ _ hw) gk_X7_114 rfl hd_X7_becomes ⟨rfl, rfl⟩ ⟨Nat.le_of_ble_eq_true rfl, Nat.le_of_ble_eq_true rfl⟩ (X7_o h0) rfl rfl (Nat.le_of_ble_eq_true rfl) dX7_untell_26 ⟨Nat.zero_le _, Nat.zero_le _⟩) (fun r26 μ26 H locs hw h => ?_)
    refine lv_if_le (tgt := 36) hx hb dX7_untell_29 (by decide) (fun hc => ?_) (fun hc => ?_)
    · rw [if_pos hc] at hw
      refine lv_iconst (v := (0 : Int32)) hx hb dX7_untell_36 (by decide) ?_
      exact r_iret X h hw dX7_untell_37
    · rw [if_neg hc] at hw
      refine lv_iconst (v := (1 : Int32)) hx hb dX7_untell_32 (by decide) ?_
      refine lv_goto (tgt := 37) hx hb dX7_untell_33 (by decide) ?_
      exact r_iret X h hw dX7_untell_37
  · rw [if_pos hc] at hw
    refine lv_aload_n hx hb dX7_untell_9 rfl (lv_at hl 0 rfl) ?_
    refine r_ldc X (v := (-1000000001 : Int32)) ww_4_131 dX7_untell_10 ?_
    refine k_i h (n_V (rest := []) (As := [.int (-1000000001 : Int32)]) X h hl.1 (c_X7_error l G hG (-1000000001 : Int32) h0 _ _ hw) gk_X7_104 rfl hd_X7_error ⟨rfl, rfl⟩ ⟨Nat.le_of_ble_eq_true rfl, Nat.le_of_ble_eq_true rfl⟩ (X7_o h0) rfl rfl (Nat.le_of_ble_eq_true rfl) dX7_untell_12 ⟨Nat.zero_le _, Nat.zero_le _⟩) (fun r12 μ12 H locs hw h => ?_)
    exact r_iret X h hw dX7_untell_15
def wp_X7_law (a1 : Int32) (a2 : Int32) (a3 : Int32) (a4 : Int32) (Q : Int32 → vM → Prop) (μ : vM) : Prop := wp_X7_in a1 (0 : Int32) (1 : Int32) (fun r3 μ3 => if r3 = 0 then wp_X7_error (-1000000001 : Int32) (fun r24 μ24 => Q r24 μ24) μ3 else wp_X7_gives a1 a2 a3 a4 (fun r15 μ15 => Q r15 μ15) μ3) μ
set_option maxRecDepth 100000 in
set_option maxHeartbeats 4000000 in
theorem c_X7_law (l : Launch) (G : vG) (hG : gO G) (a1 : Int32) (a2 : Int32) (a3 : Int32) (a4 : Int32) (h0 : isX7 G) (Q : Int32 → vM → Prop) (μ : vM) (hw : wp_X7_law a1 a2 a3 a4 Q μ) : mt l G yX7_law vX7_law { frames := 3, cells := 0, slots := 0, locals := 72 } [.ref (ga G 0), .int a1, .int a2, .int a3, .int a4] μ (qI G Q) := by
  refine met_of (cc := cX7_law) (maxL := 5) (ret := (some .int)) RX7 (by decide) rfl rfl hG (Nat.le_of_ble_eq_true rfl) ?_
  intro p e s m below meth c X h ls hl
  have hl : lv_has ls 5 [(0, .ref (ga G 0)), (1, .int a1), (2, .int a2), (3, .int a3), (4, .int a4)] := hl
  have hx := X.1
  have hb := X.2.1
  unfold wp_X7_law at hw
  refine lv_iload_n hx hb dX7_law_0 rfl (lv_at hl 1 rfl) ?_
  refine lv_iconst (v := (0 : Int32)) hx hb dX7_law_1 (by decide) ?_
  refine lv_iconst (v := (1 : Int32)) hx hb dX7_law_2 (by decide) ?_
  refine k_i h (n_T (rest := []) (As := [.int a1, .int (0 : Int32), .int (1 : Int32)]) X h hl.1 (c_X7_in l G hG a1 (0 : Int32) (1 : Int32) _ _ hw) gk_X7_57 rfl hd_X7_in ⟨rfl, rfl⟩ ⟨Nat.le_of_ble_eq_true rfl, Nat.le_of_ble_eq_true rfl⟩ rfl (Nat.le_of_ble_eq_true rfl) dX7_law_3 ⟨Nat.zero_le _, Nat.zero_le _⟩) (fun r3 μ3 H locs hw h => ?_)
  refine lv_if_eq (tgt := 21) hx hb dX7_law_6 (by decide) (fun hc => ?_) (fun hc => ?_)
  · rw [if_pos hc] at hw
    refine lv_aload_n hx hb dX7_law_21 rfl (lv_at hl 0 rfl) ?_
    refine r_ldc X (v := (-1000000001 : Int32)) ww_4_131 dX7_law_22 ?_
    refine k_i h (n_V (rest := []) (As := [.int (-1000000001 : Int32)]) X h hl.1 (c_X7_error l G hG (-1000000001 : Int32) h0 _ _ hw) gk_X7_104 rfl hd_X7_error ⟨rfl, rfl⟩ ⟨Nat.le_of_ble_eq_true rfl, Nat.le_of_ble_eq_true rfl⟩ (X7_o h0) rfl rfl (Nat.le_of_ble_eq_true rfl) dX7_law_24 ⟨Nat.zero_le _, Nat.zero_le _⟩) (fun r24 μ24 H locs hw h => ?_)
    exact r_iret X h hw dX7_law_27
  · rw [if_neg hc] at hw
    refine lv_aload_n hx hb dX7_law_9 rfl (lv_at hl 0 rfl) ?_
    refine lv_iload_n hx hb dX7_law_10 rfl (lv_at hl 1 rfl) ?_
    refine lv_iload_n hx hb dX7_law_11 rfl (lv_at hl 2 rfl) ?_
    refine lv_iload_n hx hb dX7_law_12 rfl (lv_at hl 3 rfl) ?_
    refine lv_iload hx hb dX7_law_13 (lv_at hl 4 rfl) ?_
    refine k_i h (n_V (rest := []) (As := [.int a1, .int a2, .int a3, .int a4]) X h hl.1 (c_X7_gives l G hG a1 a2 a3 a4 h0 _ _ hw) gk_X7_93 rfl hd_X7_gives ⟨rfl, rfl⟩ ⟨Nat.le_of_ble_eq_true rfl, Nat.le_of_ble_eq_true rfl⟩ (X7_o h0) rfl rfl (Nat.le_of_ble_eq_true rfl) dX7_law_15 ⟨Nat.zero_le _, Nat.zero_le _⟩) (fun r15 μ15 H locs hw h => ?_)
    refine lv_goto (tgt := 27) hx hb dX7_law_18 (by decide) ?_
    exact r_iret X h hw dX7_law_27
def wp_X7_nextOf_35 (a1 : Int32) (a2 : Int32) (Q : Int32 → vM → Prop) (k2 : Int32 → vM → Prop) (x3 : Int32) (μ : vM) : Prop := ∃ x3_35 : Int32, x3_35 = x3 + (1 : Int32) ∧ k2 x3_35 μ
def wp_X7_nextOf_2 (a1 : Int32) (a2 : Int32) (Q : Int32 → vM → Prop) : Nat → Int32 → vM → Prop
  | 0, _, _ => False
  | n2 + 1, x3, μ => vp_in ((9 : Int32) + a1) 385 ∧ if (((μ 1 ((9 : Int32) + a1).toNatClampNeg) >>> (x3 &&& 31)) &&& (1 : Int32)) = 0 then wp_X7_nextOf_35 a1 a2 Q (fun x3 μ => wp_X7_nextOf_2 a1 a2 Q n2 x3 μ) x3 μ else wp_X7_farBy x3 a2 (fun r21 μ21 => wp_X7_farBy a1 a2 (fun r27 μ27 => if r21 = (r27 - (1 : Int32)) then Q x3 μ27 else wp_X7_nextOf_35 a1 a2 Q (fun x3 μ => wp_X7_nextOf_2 a1 a2 Q n2 x3 μ) x3 μ27) μ21) μ
def wp_X7_nextOf (a1 : Int32) (a2 : Int32) (Q : Int32 → vM → Prop) (μ : vM) : Prop := ∃ n2, wp_X7_nextOf_2 a1 a2 Q n2 (0 : Int32) μ
set_option maxRecDepth 100000 in
set_option maxHeartbeats 4000000 in
theorem c_X7_nextOf (l : Launch) (G : vG) (hG : gO G) (a1 : Int32) (a2 : Int32) (h0 : isX7 G) (Q : Int32 → vM → Prop) (μ : vM) (hw : wp_X7_nextOf a1 a2 Q μ) : mt l G yX7_nextOf vX7_nextOf { frames := 2, cells := 0, slots := 0, locals := 49 } [.ref (ga G 0), .int a1, .int a2] μ (qI G Q) := by
  refine met_of (cc := cX7_nextOf) (maxL := 4) (ret := (some .int)) RX7 (by decide) rfl rfl hG (Nat.le_of_ble_eq_true rfl) ?_
  intro p e s m below meth c X h ls hl
  have hl : lv_has ls 4 [(0, .ref (ga G 0)), (1, .int a1), (2, .int a2)] := hl
  have hx := X.1
  have hb := X.2.1
  unfold wp_X7_nextOf at hw
  refine lv_iconst (v := (0 : Int32)) hx hb dX7_nextOf_0 (by decide) ?_
  refine lv_istore_n (lv' := [(3, .int (0 : Int32)), (0, .ref (ga G 0)), (1, .int a1), (2, .int a2)]) hx hb dX7_nextOf_1 rfl hl (by decide) rfl (fun ls hl => ?_)
  have s2 : ∀ (n2 : Nat) (x3 : Int32) (μ : vM), ∀ (H : Heap) (locs : List Loc) (ls : Array Slot), bw G s μ H locs → lv_has ls 4 [(0, .ref (ga G 0)), (1, .int a1), (2, .int a2), (3, .int x3)] → wp_X7_nextOf_2 a1 a2 Q n2 x3 μ → W p l e ({ frames := 2, cells := 0, slots := 0, locals := 49 } : Room) s m ([.ref (ga G 0), .int a1, .int a2] : List Value).toArray below meth c H locs 0 0 (MQ below (qI G Q) ([.ref (ga G 0), .int a1, .int a2] : List Value).toArray s 0 0 (gA G)) (F0 m 2 ls []) := by
    intro n2
    induction n2 with
    | zero => intro x3 μ H locs ls h hl hw; exact absurd hw (by unfold wp_X7_nextOf_2; exact id)
    | succ n2 ih2 =>
      intro x3 μ H locs ls h hl hw
      unfold wp_X7_nextOf_2 at hw
      refine lv_aload_n hx hb dX7_nextOf_2 rfl (lv_at hl 0 rfl) ?_
      refine r_getR (q := 1) X h (X7_o h0) rfl uX7 0 (by decide) lf_4_51 rfl dX7_nextOf_3 ?_
      refine lv_bipush (v := (9 : Int32)) hx hb dX7_nextOf_6 (by decide) ?_
      refine lv_iload_n hx hb dX7_nextOf_8 rfl (lv_at hl 1 rfl) ?_
      refine lv_iadd hx hb dX7_nextOf_9 ?_
      obtain ⟨hi, hw⟩ := hw
      refine r_ald X h (X7_row h0) hi dX7_nextOf_10 ?_
      refine lv_iload_n hx hb dX7_nextOf_11 rfl (lv_at hl 3 rfl) ?_
      refine lv_ishr hx hb dX7_nextOf_12 ?_
      refine lv_iconst (v := (1 : Int32)) hx hb dX7_nextOf_13 (by decide) ?_
      refine lv_iand hx hb dX7_nextOf_14 ?_
      have s35 : ∀ (x3 : Int32) (μ : vM), ∀ (H : Heap) (locs : List Loc) (ls : Array Slot), bw G s μ H locs → lv_has ls 4 [(0, .ref (ga G 0)), (1, .int a1), (2, .int a2), (3, .int x3)] → wp_X7_nextOf_35 a1 a2 Q (fun x3 μ => wp_X7_nextOf_2 a1 a2 Q n2 x3 μ) x3 μ → W p l e ({ frames := 2, cells := 0, slots := 0, locals := 49 } : Room) s m ([.ref (ga G 0), .int a1, .int a2] : List Value).toArray below meth c H locs 0 0 (MQ below (qI G Q) ([.ref (ga G 0), .int a1, .int a2] : List Value).toArray s 0 0 (gA G)) (F0 m 35 ls []) := by
        intro x3 μ H locs ls h hl hw
        unfold wp_X7_nextOf_35 at hw
        obtain ⟨x3_35, ex3_35, hw⟩ := hw
        refine lv_iinc (v := x3_35) (lv' := [(3, .int x3_35), (0, .ref (ga G 0)), (1, .int a1), (2, .int a2)]) hx hb dX7_nextOf_35 hl (k := 3) rfl (by rw [ex3_35]; rfl) (by decide) rfl (fun ls hl => ?_)
        refine lv_goto (tgt := 2) hx hb dX7_nextOf_38 (by decide) ?_
        exact ih2 x3_35 μ _ _ _ h (lv_sub hl [1, 2, 3, 0] rfl) hw
      refine lv_if_eq (tgt := 35) hx hb dX7_nextOf_15 (by decide) (fun hc => ?_) (fun hc => ?_)
      · rw [if_pos hc] at hw
        exact s35 x3 μ _ _ _ h (lv_sub hl [0, 1, 2, 3] rfl) hw
      · rw [if_neg hc] at hw
        refine lv_aload_n hx hb dX7_nextOf_18 rfl (lv_at hl 0 rfl) ?_
        refine lv_iload_n hx hb dX7_nextOf_19 rfl (lv_at hl 3 rfl) ?_
        refine lv_iload_n hx hb dX7_nextOf_20 rfl (lv_at hl 2 rfl) ?_
        refine k_i h (n_V (rest := []) (As := [.int x3, .int a2]) X h hl.1 (c_X7_farBy l G hG x3 a2 h0 _ _ hw) gk_X7_81 rfl hd_X7_farBy ⟨rfl, rfl⟩ ⟨Nat.le_of_ble_eq_true rfl, Nat.le_of_ble_eq_true rfl⟩ (X7_o h0) rfl rfl (Nat.le_of_ble_eq_true rfl) dX7_nextOf_21 ⟨Nat.zero_le _, Nat.zero_le _⟩) (fun r21 μ21 H locs hw h => ?_)
        refine lv_aload_n hx hb dX7_nextOf_24 rfl (lv_at hl 0 rfl) ?_
        refine lv_iload_n hx hb dX7_nextOf_25 rfl (lv_at hl 1 rfl) ?_
        refine lv_iload_n hx hb dX7_nextOf_26 rfl (lv_at hl 2 rfl) ?_
        refine k_i h (n_V (rest := [.int r21]) (As := [.int a1, .int a2]) X h hl.1 (c_X7_farBy l G hG a1 a2 h0 _ _ hw) gk_X7_81 rfl hd_X7_farBy ⟨rfl, rfl⟩ ⟨Nat.le_of_ble_eq_true rfl, Nat.le_of_ble_eq_true rfl⟩ (X7_o h0) rfl rfl (Nat.le_of_ble_eq_true rfl) dX7_nextOf_27 ⟨Nat.zero_le _, Nat.zero_le _⟩) (fun r27 μ27 H locs hw h => ?_)
        refine lv_iconst (v := (1 : Int32)) hx hb dX7_nextOf_30 (by decide) ?_
        refine lv_isub hx hb dX7_nextOf_31 ?_
        refine lv_icmp_eq (tgt := 41) hx hb dX7_nextOf_32 (by decide) (fun hc => ?_) (fun hc => ?_)
        · rw [if_pos hc] at hw
          refine lv_iload_n hx hb dX7_nextOf_41 rfl (lv_at hl 3 rfl) ?_
          exact r_iret X h hw dX7_nextOf_42
        · rw [if_neg hc] at hw
          exact s35 x3 μ27 _ _ _ h (lv_sub hl [0, 1, 2, 3] rfl) hw
  obtain ⟨n, hw⟩ := hw
  exact s2 n (0 : Int32) μ _ _ _ h (lv_sub hl [1, 2, 3, 0] rfl) hw
def wp_X7_goes_102 (Q : vM → Prop) (k45 : Int32 → vM → Prop) (x1 : Int32) (μ : vM) : Prop := ∃ x1_102 : Int32, x1_102 = x1 + (1 : Int32) ∧ k45 x1_102 μ
def wp_X7_goes_57 (Q : vM → Prop) (k45 : Int32 → vM → Prop) : Nat → Int32 → Int32 → vM → Prop
  | 0, _, _, _ => False
  | n57 + 1, x1, x2, μ => vp_in x1 8 ∧ if (μ 13 x1.toNatClampNeg) ≤ x2 then wp_X7_goes_102 Q k45 x1 μ else wp_X7_isHome x1 (fun r69 μ69 => if r69 = 0 then wp_X7_of x1 (3 : Int32) (fun r82 μ82 => wp_X7_homeOf x1 (fun r87 μ87 => wp_X7_nextOf r82 r87 (fun r90 μ90 => wp_X7_lets x1 (3 : Int32) r90 (fun μ93 => ∃ x2_96 : Int32, x2_96 = x2 + (1 : Int32) ∧ wp_X7_goes_57 Q k45 n57 x1 x2_96 μ93) μ90) μ87) μ82) μ69 else wp_X7_goes_102 Q k45 x1 μ69) μ
def wp_X7_goes_45 (Q : vM → Prop) : Nat → Int32 → vM → Prop
  | 0, _, _ => False
  | n45 + 1, x1, μ => vp_in (2 : Int32) 385 ∧ if (μ 1 (2 : Int32).toNatClampNeg) ≤ x1 then vp_in (0 : Int32) 385 ∧ vp_in (0 : Int32) 385 ∧ ∃ μ117 : vM, μ117 = st μ 1 (0 : Int32).toNatClampNeg ((μ 1 (0 : Int32).toNatClampNeg) + (1 : Int32)) ∧ Q μ117 else ∃ n57, wp_X7_goes_57 Q (fun x1 μ => wp_X7_goes_45 Q n45 x1 μ) n57 x1 (0 : Int32) μ
def wp_X7_goes_36 (Q : vM → Prop) (k2 : Int32 → vM → Prop) (x1 : Int32) (t1 : Int32) (t2 : Int32) (μ : vM) : Prop := vp_in t1 8 ∧ ∃ μ36 : vM, μ36 = st μ 13 t1.toNatClampNeg t2 ∧ ∃ x1_37 : Int32, x1_37 = x1 + (1 : Int32) ∧ k2 x1_37 μ36
def wp_X7_goes_2 (Q : vM → Prop) : Nat → Int32 → vM → Prop
  | 0, _, _ => False
  | n2 + 1, x1, μ => vp_in (2 : Int32) 385 ∧ if (μ 1 (2 : Int32).toNatClampNeg) ≤ x1 then ∃ n45, wp_X7_goes_45 Q n45 (0 : Int32) μ else wp_X7_farHome x1 (fun r19 μ19 => if r19 = (99 : Int32) then wp_X7_goes_36 Q (fun x1 μ => wp_X7_goes_2 Q n2 x1 μ) x1 x1 (0 : Int32) μ19 else wp_X7_stepsOf x1 (fun r33 μ33 => wp_X7_goes_36 Q (fun x1 μ => wp_X7_goes_2 Q n2 x1 μ) x1 x1 r33 μ33) μ19) μ
def wp_X7_goes (Q : vM → Prop) (μ : vM) : Prop := ∃ n2, wp_X7_goes_2 Q n2 (0 : Int32) μ
set_option maxRecDepth 100000 in
set_option maxHeartbeats 4000000 in
theorem c_X7_goes (l : Launch) (G : vG) (hG : gO G)  (h0 : isX7 G) (Q : vM → Prop) (μ : vM) (hw : wp_X7_goes Q μ) : mt l G yX7_goes vX7_goes { frames := 4, cells := 0, slots := 0, locals := 94 } [.ref (ga G 0)] μ (qV G Q) := by
  refine met_of (cc := cX7_goes) (maxL := 3) (ret := none) RX7 (by decide) rfl rfl hG (Nat.le_of_ble_eq_true rfl) ?_
  intro p e s m below meth c X h ls hl
  have hl : lv_has ls 3 [(0, .ref (ga G 0))] := hl
  have hx := X.1
  have hb := X.2.1
  unfold wp_X7_goes at hw
  refine lv_iconst (v := (0 : Int32)) hx hb dX7_goes_0 (by decide) ?_
  refine lv_istore_n (lv' := [(1, .int (0 : Int32)), (0, .ref (ga G 0))]) hx hb dX7_goes_1 rfl hl (by decide) rfl (fun ls hl => ?_)
  have s2 : ∀ (n2 : Nat) (x1 : Int32) (μ : vM), ∀ (H : Heap) (locs : List Loc) (ls : Array Slot), bw G s μ H locs → lv_has ls 3 [(0, .ref (ga G 0)), (1, .int x1)] → wp_X7_goes_2 Q n2 x1 μ → W p l e ({ frames := 4, cells := 0, slots := 0, locals := 94 } : Room) s m ([.ref (ga G 0)] : List Value).toArray below meth c H locs 0 0 (MQ below (qV G Q) ([.ref (ga G 0)] : List Value).toArray s 0 0 (gA G)) (F0 m 2 ls []) := by
    intro n2
    induction n2 with
    | zero => intro x1 μ H locs ls h hl hw; exact absurd hw (by unfold wp_X7_goes_2; exact id)
    | succ n2 ih2 =>
      intro x1 μ H locs ls h hl hw
      unfold wp_X7_goes_2 at hw
      refine lv_iload_n hx hb dX7_goes_2 rfl (lv_at hl 1 rfl) ?_
      refine lv_aload_n hx hb dX7_goes_3 rfl (lv_at hl 0 rfl) ?_
      refine r_getR (q := 1) X h (X7_o h0) rfl uX7 0 (by decide) lf_4_51 rfl dX7_goes_4 ?_
      refine lv_iconst (v := (2 : Int32)) hx hb dX7_goes_7 (by decide) ?_
      obtain ⟨hi, hw⟩ := hw
      refine r_ald X h (X7_row h0) hi dX7_goes_8 ?_
      refine lv_icmp_ge (tgt := 43) hx hb dX7_goes_9 (by decide) (fun hc => ?_) (fun hc => ?_)
      · rw [if_pos hc] at hw
        refine lv_iconst (v := (0 : Int32)) hx hb dX7_goes_43 (by decide) ?_
        refine lv_istore_n (lv' := [(1, .int (0 : Int32)), (0, .ref (ga G 0))]) hx hb dX7_goes_44 rfl hl (by decide) rfl (fun ls hl => ?_)
        have s45 : ∀ (n45 : Nat) (x1 : Int32) (μ : vM), ∀ (H : Heap) (locs : List Loc) (ls : Array Slot), bw G s μ H locs → lv_has ls 3 [(0, .ref (ga G 0)), (1, .int x1)] → wp_X7_goes_45 Q n45 x1 μ → W p l e ({ frames := 4, cells := 0, slots := 0, locals := 94 } : Room) s m ([.ref (ga G 0)] : List Value).toArray below meth c H locs 0 0 (MQ below (qV G Q) ([.ref (ga G 0)] : List Value).toArray s 0 0 (gA G)) (F0 m 45 ls []) := by
          intro n45
          induction n45 with
          | zero => intro x1 μ H locs ls h hl hw; exact absurd hw (by unfold wp_X7_goes_45; exact id)
          | succ n45 ih45 =>
            intro x1 μ H locs ls h hl hw
            unfold wp_X7_goes_45 at hw
            refine lv_iload_n hx hb dX7_goes_45 rfl (lv_at hl 1 rfl) ?_
            refine lv_aload_n hx hb dX7_goes_46 rfl (lv_at hl 0 rfl) ?_
            refine r_getR (q := 1) X h (X7_o h0) rfl uX7 0 (by decide) lf_4_51 rfl dX7_goes_47 ?_
            refine lv_iconst (v := (2 : Int32)) hx hb dX7_goes_50 (by decide) ?_
            obtain ⟨hi, hw⟩ := hw
            refine r_ald X h (X7_row h0) hi dX7_goes_51 ?_
            refine lv_icmp_ge (tgt := 108) hx hb dX7_goes_52 (by decide) (fun hc => ?_) (fun hc => ?_)
            · rw [if_pos hc] at hw
              refine lv_aload_n hx hb dX7_goes_108 rfl (lv_at hl 0 rfl) ?_
              refine r_getR (q := 1) X h (X7_o h0) rfl uX7 0 (by decide) lf_4_51 rfl dX7_goes_109 ?_
              refine lv_iconst (v := (0 : Int32)) hx hb dX7_goes_112 (by decide) ?_
              refine lv_dup2_11 hx hb dX7_goes_113 rfl rfl ?_
              obtain ⟨hi, hw⟩ := hw
              refine r_ald X h (X7_row h0) hi dX7_goes_114 ?_
              refine lv_iconst (v := (1 : Int32)) hx hb dX7_goes_115 (by decide) ?_
              refine lv_iadd hx hb dX7_goes_116 ?_
              obtain ⟨hi, μ117, eμ117, hw⟩ := hw
              refine r_ast X h (X7_row h0) hi eμ117 dX7_goes_117 (fun H locs h => ?_)
              exact r_vret X h hw dX7_goes_118
            · rw [if_neg hc] at hw
              refine lv_iconst (v := (0 : Int32)) hx hb dX7_goes_55 (by decide) ?_
              refine lv_istore_n (lv' := [(2, .int (0 : Int32)), (0, .ref (ga G 0)), (1, .int x1)]) hx hb dX7_goes_56 rfl hl (by decide) rfl (fun ls hl => ?_)
              have s57 : ∀ (n57 : Nat) (x1 : Int32) (x2 : Int32) (μ : vM), ∀ (H : Heap) (locs : List Loc) (ls : Array Slot), bw G s μ H locs → lv_has ls 3 [(0, .ref (ga G 0)), (1, .int x1), (2, .int x2)] → wp_X7_goes_57 Q (fun x1 μ => wp_X7_goes_45 Q n45 x1 μ) n57 x1 x2 μ → W p l e ({ frames := 4, cells := 0, slots := 0, locals := 94 } : Room) s m ([.ref (ga G 0)] : List Value).toArray below meth c H locs 0 0 (MQ below (qV G Q) ([.ref (ga G 0)] : List Value).toArray s 0 0 (gA G)) (F0 m 57 ls []) := by
                intro n57
                induction n57 with
                | zero => intro x1 x2 μ H locs ls h hl hw; exact absurd hw (by unfold wp_X7_goes_57; exact id)
                | succ n57 ih57 =>
                  intro x1 x2 μ H locs ls h hl hw
                  unfold wp_X7_goes_57 at hw
                  refine lv_iload_n hx hb dX7_goes_57 rfl (lv_at hl 2 rfl) ?_
                  refine lv_aload_n hx hb dX7_goes_58 rfl (lv_at hl 0 rfl) ?_
                  refine r_getR (q := 13) X h (X7_o h0) rfl uX7 19 (by decide) lf_4_70 rfl dX7_goes_59 ?_
                  refine lv_iload_n hx hb dX7_goes_62 rfl (lv_at hl 1 rfl) ?_
                  obtain ⟨hi, hw⟩ := hw
                  refine r_ald X h (X7_goesBy h0) hi dX7_goes_63 ?_
                  have s102 : ∀ (x1 : Int32) (μ : vM), ∀ (H : Heap) (locs : List Loc) (ls : Array Slot), bw G s μ H locs → lv_has ls 3 [(0, .ref (ga G 0)), (1, .int x1)] → wp_X7_goes_102 Q (fun x1 μ => wp_X7_goes_45 Q n45 x1 μ) x1 μ → W p l e ({ frames := 4, cells := 0, slots := 0, locals := 94 } : Room) s m ([.ref (ga G 0)] : List Value).toArray below meth c H locs 0 0 (MQ below (qV G Q) ([.ref (ga G 0)] : List Value).toArray s 0 0 (gA G)) (F0 m 102 ls []) := by
                    intro x1 μ H locs ls h hl hw
                    unfold wp_X7_goes_102 at hw
                    obtain ⟨x1_102, ex1_102, hw⟩ := hw
                    refine lv_iinc (v := x1_102) (lv' := [(1, .int x1_102), (0, .ref (ga G 0))]) hx hb dX7_goes_102 hl (k := 1) rfl (by rw [ex1_102]; rfl) (by decide) rfl (fun ls hl => ?_)
                    refine lv_goto (tgt := 45) hx hb dX7_goes_105 (by decide) ?_
                    exact ih45 x1_102 μ _ _ _ h (lv_sub hl [1, 0] rfl) hw
                  refine lv_icmp_ge (tgt := 102) hx hb dX7_goes_64 (by decide) (fun hc => ?_) (fun hc => ?_)
                  · rw [if_pos hc] at hw
                    exact s102 x1 μ _ _ _ h (lv_sub hl [0, 1] rfl) hw
                  · rw [if_neg hc] at hw
                    refine lv_aload_n hx hb dX7_goes_67 rfl (lv_at hl 0 rfl) ?_
                    refine lv_iload_n hx hb dX7_goes_68 rfl (lv_at hl 1 rfl) ?_
                    refine k_i h (n_V (rest := []) (As := [.int x1]) X h hl.1 (c_X7_isHome l G hG x1 h0 _ _ hw) gk_X7_69 rfl hd_X7_isHome ⟨rfl, rfl⟩ ⟨Nat.le_of_ble_eq_true rfl, Nat.le_of_ble_eq_true rfl⟩ (X7_o h0) rfl rfl (Nat.le_of_ble_eq_true rfl) dX7_goes_69 ⟨Nat.zero_le _, Nat.zero_le _⟩) (fun r69 μ69 H locs hw h => ?_)
                    refine lv_if_ne (tgt := 102) hx hb dX7_goes_72 (by decide) (fun hc => ?_) (fun hc => ?_)
                    · rw [if_neg hc] at hw
                      exact s102 x1 μ69 _ _ _ h (lv_sub hl [0, 1] rfl) hw
                    · rw [if_pos hc] at hw
                      refine lv_aload_n hx hb dX7_goes_75 rfl (lv_at hl 0 rfl) ?_
                      refine lv_iload_n hx hb dX7_goes_76 rfl (lv_at hl 1 rfl) ?_
                      refine lv_iconst (v := (3 : Int32)) hx hb dX7_goes_77 (by decide) ?_
                      refine lv_aload_n hx hb dX7_goes_78 rfl (lv_at hl 0 rfl) ?_
                      refine lv_aload_n hx hb dX7_goes_79 rfl (lv_at hl 0 rfl) ?_
                      refine lv_iload_n hx hb dX7_goes_80 rfl (lv_at hl 1 rfl) ?_
                      refine lv_iconst (v := (3 : Int32)) hx hb dX7_goes_81 (by decide) ?_
                      refine k_i h (n_V (rest := [.ref (ga G 0), .int (3 : Int32), .int x1, .ref (ga G 0)]) (As := [.int x1, .int (3 : Int32)]) X h hl.1 (c_X7_of l G hG x1 (3 : Int32) h0 _ _ hw) gk_X7_61 rfl hd_X7_of ⟨rfl, rfl⟩ ⟨Nat.le_of_ble_eq_true rfl, Nat.le_of_ble_eq_true rfl⟩ (X7_o h0) rfl rfl (Nat.le_of_ble_eq_true rfl) dX7_goes_82 ⟨Nat.zero_le _, Nat.zero_le _⟩) (fun r82 μ82 H locs hw h => ?_)
                      refine lv_aload_n hx hb dX7_goes_85 rfl (lv_at hl 0 rfl) ?_
                      refine lv_iload_n hx hb dX7_goes_86 rfl (lv_at hl 1 rfl) ?_
                      refine k_i h (n_V (rest := [.int r82, .ref (ga G 0), .int (3 : Int32), .int x1, .ref (ga G 0)]) (As := [.int x1]) X h hl.1 (c_X7_homeOf l G hG x1 h0 _ _ hw) gk_X7_65 rfl hd_X7_homeOf ⟨rfl, rfl⟩ ⟨Nat.le_of_ble_eq_true rfl, Nat.le_of_ble_eq_true rfl⟩ (X7_o h0) rfl rfl (Nat.le_of_ble_eq_true rfl) dX7_goes_87 ⟨Nat.zero_le _, Nat.zero_le _⟩) (fun r87 μ87 H locs hw h => ?_)
                      refine k_i h (n_V (rest := [.int (3 : Int32), .int x1, .ref (ga G 0)]) (As := [.int r82, .int r87]) X h hl.1 (c_X7_nextOf l G hG r82 r87 h0 _ _ hw) gk_X7_201 rfl hd_X7_nextOf ⟨rfl, rfl⟩ ⟨Nat.le_of_ble_eq_true rfl, Nat.le_of_ble_eq_true rfl⟩ (X7_o h0) rfl rfl (Nat.le_of_ble_eq_true rfl) dX7_goes_90 ⟨Nat.zero_le _, Nat.zero_le _⟩) (fun r90 μ90 H locs hw h => ?_)
                      refine k_v h (n_V (rest := []) (As := [.int x1, .int (3 : Int32), .int r90]) X h hl.1 (c_X7_lets l G hG x1 (3 : Int32) r90 h0 _ _ hw) gk_X7_122 rfl hd_X7_lets ⟨rfl, rfl⟩ ⟨Nat.le_of_ble_eq_true rfl, Nat.le_of_ble_eq_true rfl⟩ (X7_o h0) rfl rfl (Nat.le_of_ble_eq_true rfl) dX7_goes_93 ⟨Nat.zero_le _, Nat.zero_le _⟩) (fun μ93 H locs hw h => ?_)
                      obtain ⟨x2_96, ex2_96, hw⟩ := hw
                      refine lv_iinc (v := x2_96) (lv' := [(2, .int x2_96), (0, .ref (ga G 0)), (1, .int x1)]) hx hb dX7_goes_96 hl (k := 2) rfl (by rw [ex2_96]; rfl) (by decide) rfl (fun ls hl => ?_)
                      refine lv_goto (tgt := 57) hx hb dX7_goes_99 (by decide) ?_
                      exact ih57 x1 x2_96 μ93 _ _ _ h (lv_sub hl [1, 2, 0] rfl) hw
              obtain ⟨n, hw⟩ := hw
              exact s57 n x1 (0 : Int32) μ _ _ _ h (lv_sub hl [1, 2, 0] rfl) hw
        obtain ⟨n, hw⟩ := hw
        exact s45 n (0 : Int32) μ _ _ _ h (lv_sub hl [1, 0] rfl) hw
      · rw [if_neg hc] at hw
        refine lv_aload_n hx hb dX7_goes_12 rfl (lv_at hl 0 rfl) ?_
        refine r_getR (q := 13) X h (X7_o h0) rfl uX7 19 (by decide) lf_4_70 rfl dX7_goes_13 ?_
        refine lv_iload_n hx hb dX7_goes_16 rfl (lv_at hl 1 rfl) ?_
        refine lv_aload_n hx hb dX7_goes_17 rfl (lv_at hl 0 rfl) ?_
        refine lv_iload_n hx hb dX7_goes_18 rfl (lv_at hl 1 rfl) ?_
        refine k_i h (n_V (rest := [.int x1, .ref (ga G 13)]) (As := [.int x1]) X h hl.1 (c_X7_farHome l G hG x1 h0 _ _ hw) gk_X7_84 rfl hd_X7_farHome ⟨rfl, rfl⟩ ⟨Nat.le_of_ble_eq_true rfl, Nat.le_of_ble_eq_true rfl⟩ (X7_o h0) rfl rfl (Nat.le_of_ble_eq_true rfl) dX7_goes_19 ⟨Nat.zero_le _, Nat.zero_le _⟩) (fun r19 μ19 H locs hw h => ?_)
        refine lv_bipush (v := (99 : Int32)) hx hb dX7_goes_22 (by decide) ?_
        have s36 : ∀ (x1 : Int32) (t1 : Int32) (t2 : Int32) (μ : vM), ∀ (H : Heap) (locs : List Loc) (ls : Array Slot), bw G s μ H locs → lv_has ls 3 [(0, .ref (ga G 0)), (1, .int x1)] → wp_X7_goes_36 Q (fun x1 μ => wp_X7_goes_2 Q n2 x1 μ) x1 t1 t2 μ → W p l e ({ frames := 4, cells := 0, slots := 0, locals := 94 } : Room) s m ([.ref (ga G 0)] : List Value).toArray below meth c H locs 0 0 (MQ below (qV G Q) ([.ref (ga G 0)] : List Value).toArray s 0 0 (gA G)) (F0 m 36 ls [.int t2, .int t1, .ref (ga G 13)]) := by
          intro x1 t1 t2 μ H locs ls h hl hw
          unfold wp_X7_goes_36 at hw
          obtain ⟨hi, μ36, eμ36, hw⟩ := hw
          refine r_ast X h (X7_goesBy h0) hi eμ36 dX7_goes_36 (fun H locs h => ?_)
          obtain ⟨x1_37, ex1_37, hw⟩ := hw
          refine lv_iinc (v := x1_37) (lv' := [(1, .int x1_37), (0, .ref (ga G 0))]) hx hb dX7_goes_37 hl (k := 1) rfl (by rw [ex1_37]; rfl) (by decide) rfl (fun ls hl => ?_)
          refine lv_goto (tgt := 2) hx hb dX7_goes_40 (by decide) ?_
          exact ih2 x1_37 μ36 _ _ _ h (lv_sub hl [1, 0] rfl) hw
        refine lv_icmp_ne (tgt := 31) hx hb dX7_goes_24 (by decide) (fun hc => ?_) (fun hc => ?_)
        · rw [if_neg hc] at hw
          refine lv_aload_n hx hb dX7_goes_31 rfl (lv_at hl 0 rfl) ?_
          refine lv_iload_n hx hb dX7_goes_32 rfl (lv_at hl 1 rfl) ?_
          refine k_i h (n_V (rest := [.int x1, .ref (ga G 13)]) (As := [.int x1]) X h hl.1 (c_X7_stepsOf l G hG x1 h0 _ _ hw) gk_X7_128 rfl hd_X7_stepsOf ⟨rfl, rfl⟩ ⟨Nat.le_of_ble_eq_true rfl, Nat.le_of_ble_eq_true rfl⟩ (X7_o h0) rfl rfl (Nat.le_of_ble_eq_true rfl) dX7_goes_33 ⟨Nat.zero_le _, Nat.zero_le _⟩) (fun r33 μ33 H locs hw h => ?_)
          exact s36 x1 x1 r33 μ33 _ _ _ h (lv_sub hl [0, 1] rfl) hw
        · rw [if_pos hc] at hw
          refine lv_iconst (v := (0 : Int32)) hx hb dX7_goes_27 (by decide) ?_
          refine lv_goto (tgt := 36) hx hb dX7_goes_28 (by decide) ?_
          exact s36 x1 x1 (0 : Int32) μ19 _ _ _ h (lv_sub hl [0, 1] rfl) hw
  obtain ⟨n, hw⟩ := hw
  exact s2 n (0 : Int32) μ _ _ _ h (lv_sub hl [1, 0] rfl) hw
def wp_X7_goesFor_2 (a1 : Int32) (Q : vM → Prop) : Nat → Int32 → vM → Prop
  | 0, _, _ => False
  | n2 + 1, x2, μ => if a1 ≤ x2 then Q μ else wp_X7_goes  (fun μ8 => ∃ x2_11 : Int32, x2_11 = x2 + (1 : Int32) ∧ wp_X7_goesFor_2 a1 Q n2 x2_11 μ8) μ
def wp_X7_goesFor (a1 : Int32) (Q : vM → Prop) (μ : vM) : Prop := ∃ n2, wp_X7_goesFor_2 a1 Q n2 (0 : Int32) μ
set_option maxRecDepth 100000 in
set_option maxHeartbeats 4000000 in
theorem c_X7_goesFor (l : Launch) (G : vG) (hG : gO G) (a1 : Int32) (h0 : isX7 G) (Q : vM → Prop) (μ : vM) (hw : wp_X7_goesFor a1 Q μ) : mt l G yX7_goesFor vX7_goesFor { frames := 5, cells := 0, slots := 0, locals := 116 } [.ref (ga G 0), .int a1] μ (qV G Q) := by
  refine met_of (cc := cX7_goesFor) (maxL := 3) (ret := none) RX7 (by decide) rfl rfl hG (Nat.le_of_ble_eq_true rfl) ?_
  intro p e s m below meth c X h ls hl
  have hl : lv_has ls 3 [(0, .ref (ga G 0)), (1, .int a1)] := hl
  have hx := X.1
  have hb := X.2.1
  unfold wp_X7_goesFor at hw
  refine lv_iconst (v := (0 : Int32)) hx hb dX7_goesFor_0 (by decide) ?_
  refine lv_istore_n (lv' := [(2, .int (0 : Int32)), (0, .ref (ga G 0)), (1, .int a1)]) hx hb dX7_goesFor_1 rfl hl (by decide) rfl (fun ls hl => ?_)
  have s2 : ∀ (n2 : Nat) (x2 : Int32) (μ : vM), ∀ (H : Heap) (locs : List Loc) (ls : Array Slot), bw G s μ H locs → lv_has ls 3 [(0, .ref (ga G 0)), (1, .int a1), (2, .int x2)] → wp_X7_goesFor_2 a1 Q n2 x2 μ → W p l e ({ frames := 5, cells := 0, slots := 0, locals := 116 } : Room) s m ([.ref (ga G 0), .int a1] : List Value).toArray below meth c H locs 0 0 (MQ below (qV G Q) ([.ref (ga G 0), .int a1] : List Value).toArray s 0 0 (gA G)) (F0 m 2 ls []) := by
    intro n2
    induction n2 with
    | zero => intro x2 μ H locs ls h hl hw; exact absurd hw (by unfold wp_X7_goesFor_2; exact id)
    | succ n2 ih2 =>
      intro x2 μ H locs ls h hl hw
      unfold wp_X7_goesFor_2 at hw
      refine lv_iload_n hx hb dX7_goesFor_2 rfl (lv_at hl 2 rfl) ?_
      refine lv_iload_n hx hb dX7_goesFor_3 rfl (lv_at hl 1 rfl) ?_
      refine lv_icmp_ge (tgt := 17) hx hb dX7_goesFor_4 (by decide) (fun hc => ?_) (fun hc => ?_)
      · rw [if_pos hc] at hw
        exact r_vret X h hw dX7_goesFor_17
      · rw [if_neg hc] at hw
        refine lv_aload_n hx hb dX7_goesFor_7 rfl (lv_at hl 0 rfl) ?_
        refine k_v h (n_V (rest := []) (As := []) X h hl.1 (c_X7_goes l G hG h0 _ _ hw) gk_X7_204 rfl hd_X7_goes ⟨rfl, rfl⟩ ⟨Nat.le_of_ble_eq_true rfl, Nat.le_of_ble_eq_true rfl⟩ (X7_o h0) rfl rfl (Nat.le_of_ble_eq_true rfl) dX7_goesFor_8 ⟨Nat.zero_le _, Nat.zero_le _⟩) (fun μ8 H locs hw h => ?_)
        obtain ⟨x2_11, ex2_11, hw⟩ := hw
        refine lv_iinc (v := x2_11) (lv' := [(2, .int x2_11), (0, .ref (ga G 0)), (1, .int a1)]) hx hb dX7_goesFor_11 hl (k := 2) rfl (by rw [ex2_11]; rfl) (by decide) rfl (fun ls hl => ?_)
        refine lv_goto (tgt := 2) hx hb dX7_goesFor_14 (by decide) ?_
        exact ih2 x2_11 μ8 _ _ _ h (lv_sub hl [1, 2, 0] rfl) hw
  obtain ⟨n, hw⟩ := hw
  exact s2 n (0 : Int32) μ _ _ _ h (lv_sub hl [1, 2, 0] rfl) hw
def wp_X7_days (a1 : Int32) (Q : Int32 → vM → Prop) (μ : vM) : Prop := wp_X7_in a1 (1 : Int32) (60 : Int32) (fun r4 μ4 => if r4 = 0 then wp_X7_error (-1000000001 : Int32) (fun r13 μ13 => Q r13 μ13) μ4 else vp_in (0 : Int32) 385 ∧ if ((μ4 1 (0 : Int32).toNatClampNeg) + a1) ≤ (9999 : Int32) then wp_X7_goesFor a1 (fun μ40 => wp_X7_homes  (fun r44 μ44 => Q r44 μ44) μ40) μ4 else wp_X7_error (-1000000003 : Int32) (fun r34 μ34 => Q r34 μ34) μ4) μ
set_option maxRecDepth 100000 in
set_option maxHeartbeats 4000000 in
theorem c_X7_days (l : Launch) (G : vG) (hG : gO G) (a1 : Int32) (h0 : isX7 G) (Q : Int32 → vM → Prop) (μ : vM) (hw : wp_X7_days a1 Q μ) : mt l G yX7_days vX7_days { frames := 6, cells := 0, slots := 0, locals := 138 } [.ref (ga G 0), .int a1] μ (qI G Q) := by
  refine met_of (cc := cX7_days) (maxL := 2) (ret := (some .int)) RX7 (by decide) rfl rfl hG (Nat.le_of_ble_eq_true rfl) ?_
  intro p e s m below meth c X h ls hl
  have hl : lv_has ls 2 [(0, .ref (ga G 0)), (1, .int a1)] := hl
  have hx := X.1
  have hb := X.2.1
  unfold wp_X7_days at hw
  refine lv_iload_n hx hb dX7_days_0 rfl (lv_at hl 1 rfl) ?_
  refine lv_iconst (v := (1 : Int32)) hx hb dX7_days_1 (by decide) ?_
  refine lv_bipush (v := (60 : Int32)) hx hb dX7_days_2 (by decide) ?_
  refine k_i h (n_T (rest := []) (As := [.int a1, .int (1 : Int32), .int (60 : Int32)]) X h hl.1 (c_X7_in l G hG a1 (1 : Int32) (60 : Int32) _ _ hw) gk_X7_57 rfl hd_X7_in ⟨rfl, rfl⟩ ⟨Nat.le_of_ble_eq_true rfl, Nat.le_of_ble_eq_true rfl⟩ rfl (Nat.le_of_ble_eq_true rfl) dX7_days_4 ⟨Nat.zero_le _, Nat.zero_le _⟩) (fun r4 μ4 H locs hw h => ?_)
  refine lv_if_ne (tgt := 17) hx hb dX7_days_7 (by decide) (fun hc => ?_) (fun hc => ?_)
  · rw [if_neg hc] at hw
    refine lv_aload_n hx hb dX7_days_17 rfl (lv_at hl 0 rfl) ?_
    refine r_getR (q := 1) X h (X7_o h0) rfl uX7 0 (by decide) lf_4_51 rfl dX7_days_18 ?_
    refine lv_iconst (v := (0 : Int32)) hx hb dX7_days_21 (by decide) ?_
    obtain ⟨hi, hw⟩ := hw
    refine r_ald X h (X7_row h0) hi dX7_days_22 ?_
    refine lv_iload_n hx hb dX7_days_23 rfl (lv_at hl 1 rfl) ?_
    refine lv_iadd hx hb dX7_days_24 ?_
    refine lv_sipush (v := (9999 : Int32)) hx hb dX7_days_25 (by decide) ?_
    refine lv_icmp_le (tgt := 38) hx hb dX7_days_28 (by decide) (fun hc => ?_) (fun hc => ?_)
    · rw [if_pos hc] at hw
      refine lv_aload_n hx hb dX7_days_38 rfl (lv_at hl 0 rfl) ?_
      refine lv_iload_n hx hb dX7_days_39 rfl (lv_at hl 1 rfl) ?_
      refine k_v h (n_V (rest := []) (As := [.int a1]) X h hl.1 (c_X7_goesFor l G hG a1 h0 _ _ hw) gk_X7_208 rfl hd_X7_goesFor ⟨rfl, rfl⟩ ⟨Nat.le_of_ble_eq_true rfl, Nat.le_of_ble_eq_true rfl⟩ (X7_o h0) rfl rfl (Nat.le_of_ble_eq_true rfl) dX7_days_40 ⟨Nat.zero_le _, Nat.zero_le _⟩) (fun μ40 H locs hw h => ?_)
      refine lv_aload_n hx hb dX7_days_43 rfl (lv_at hl 0 rfl) ?_
      refine k_i h (n_V (rest := []) (As := []) X h hl.1 (c_X7_homes l G hG h0 _ _ hw) gk_X7_211 rfl hd_X7_homes ⟨rfl, rfl⟩ ⟨Nat.le_of_ble_eq_true rfl, Nat.le_of_ble_eq_true rfl⟩ (X7_o h0) rfl rfl (Nat.le_of_ble_eq_true rfl) dX7_days_44 ⟨Nat.zero_le _, Nat.zero_le _⟩) (fun r44 μ44 H locs hw h => ?_)
      exact r_iret X h hw dX7_days_47
    · rw [if_neg hc] at hw
      refine lv_aload_n hx hb dX7_days_31 rfl (lv_at hl 0 rfl) ?_
      refine r_ldc X (v := (-1000000003 : Int32)) ww_5_77 dX7_days_32 ?_
      refine k_i h (n_V (rest := []) (As := [.int (-1000000003 : Int32)]) X h hl.1 (c_X7_error l G hG (-1000000003 : Int32) h0 _ _ hw) gk_X7_104 rfl hd_X7_error ⟨rfl, rfl⟩ ⟨Nat.le_of_ble_eq_true rfl, Nat.le_of_ble_eq_true rfl⟩ (X7_o h0) rfl rfl (Nat.le_of_ble_eq_true rfl) dX7_days_34 ⟨Nat.zero_le _, Nat.zero_le _⟩) (fun r34 μ34 H locs hw h => ?_)
      exact r_iret X h hw dX7_days_37
  · rw [if_pos hc] at hw
    refine lv_aload_n hx hb dX7_days_10 rfl (lv_at hl 0 rfl) ?_
    refine r_ldc X (v := (-1000000001 : Int32)) ww_4_131 dX7_days_11 ?_
    refine k_i h (n_V (rest := []) (As := [.int (-1000000001 : Int32)]) X h hl.1 (c_X7_error l G hG (-1000000001 : Int32) h0 _ _ hw) gk_X7_104 rfl hd_X7_error ⟨rfl, rfl⟩ ⟨Nat.le_of_ble_eq_true rfl, Nat.le_of_ble_eq_true rfl⟩ (X7_o h0) rfl rfl (Nat.le_of_ble_eq_true rfl) dX7_days_13 ⟨Nat.zero_le _, Nat.zero_le _⟩) (fun r13 μ13 H locs hw h => ?_)
    exact r_iret X h hw dX7_days_16
def wp_X7_draw (Q : Int32 → vM → Prop) (μ : vM) : Prop := vp_in (1 : Int32) 385 ∧ vp_in (1 : Int32) 385 ∧ ∃ μ18 : vM, μ18 = st μ 1 (1 : Int32).toNatClampNeg (((μ 1 (1 : Int32).toNatClampNeg) * (1103515245 : Int32)) + (12345 : Int32)) ∧ vp_in (1 : Int32) 385 ∧ Q (((μ18 1 (1 : Int32).toNatClampNeg).toUInt32 >>> ((8 : Int32).toUInt32 &&& Int32.toUInt32 31)).toInt32) μ18
set_option maxRecDepth 100000 in
set_option maxHeartbeats 4000000 in
theorem c_X7_draw (l : Launch) (G : vG) (hG : gO G)  (h0 : isX7 G) (Q : Int32 → vM → Prop) (μ : vM) (hw : wp_X7_draw Q μ) : mt l G yX7_draw vX7_draw { frames := 0, cells := 0, slots := 0, locals := 0 } [.ref (ga G 0)] μ (qI G Q) := by
  refine met_of (cc := cX7_draw) (maxL := 1) (ret := (some .int)) RX7 (by decide) rfl rfl hG (Nat.le_of_ble_eq_true rfl) ?_
  intro p e s m below meth c X h ls hl
  have hl : lv_has ls 1 [(0, .ref (ga G 0))] := hl
  have hx := X.1
  have hb := X.2.1
  unfold wp_X7_draw at hw
  refine lv_aload_n hx hb dX7_draw_0 rfl (lv_at hl 0 rfl) ?_
  refine r_getR (q := 1) X h (X7_o h0) rfl uX7 0 (by decide) lf_4_51 rfl dX7_draw_1 ?_
  refine lv_iconst (v := (1 : Int32)) hx hb dX7_draw_4 (by decide) ?_
  refine lv_aload_n hx hb dX7_draw_5 rfl (lv_at hl 0 rfl) ?_
  refine r_getR (q := 1) X h (X7_o h0) rfl uX7 0 (by decide) lf_4_51 rfl dX7_draw_6 ?_
  refine lv_iconst (v := (1 : Int32)) hx hb dX7_draw_9 (by decide) ?_
  obtain ⟨hi, hw⟩ := hw
  refine r_ald X h (X7_row h0) hi dX7_draw_10 ?_
  refine r_ldc X (v := (1103515245 : Int32)) ww_5_110 dX7_draw_11 ?_
  refine lv_imul hx hb dX7_draw_13 ?_
  refine lv_sipush (v := (12345 : Int32)) hx hb dX7_draw_14 (by decide) ?_
  refine lv_iadd hx hb dX7_draw_17 ?_
  obtain ⟨hi, μ18, eμ18, hw⟩ := hw
  refine r_ast X h (X7_row h0) hi eμ18 dX7_draw_18 (fun H locs h => ?_)
  refine lv_aload_n hx hb dX7_draw_19 rfl (lv_at hl 0 rfl) ?_
  refine r_getR (q := 1) X h (X7_o h0) rfl uX7 0 (by decide) lf_4_51 rfl dX7_draw_20 ?_
  refine lv_iconst (v := (1 : Int32)) hx hb dX7_draw_23 (by decide) ?_
  obtain ⟨hi, hw⟩ := hw
  refine r_ald X h (X7_row h0) hi dX7_draw_24 ?_
  refine lv_bipush (v := (8 : Int32)) hx hb dX7_draw_25 (by decide) ?_
  refine lv_iushr hx hb dX7_draw_27 rfl ?_
  exact r_iret X h hw dX7_draw_28
def wp_X7_drawn_57 (Q : vM → Prop)  (μ : vM) : Prop := wp_X7_goes  (fun μ58 => Q μ58) μ
def wp_X7_drawn (Q : vM → Prop) (μ : vM) : Prop := vp_in (2 : Int32) 385 ∧ if (μ 1 (2 : Int32).toNatClampNeg) ≤ 0 then wp_X7_drawn_57 Q μ else wp_X7_draw  (fun r10 μ10 => vp_in (2 : Int32) 385 ∧ ¬ (μ10 1 (2 : Int32).toNatClampNeg) = 0 ∧ ∃ x1_20 : Int32, x1_20 = r10 % (μ10 1 (2 : Int32).toNatClampNeg) ∧ wp_X7_draw  (fun r25 μ25 => wp_X7_lets x1_20 (4 : Int32) (r25 % (10 : Int32)) (fun μ31 => wp_X7_draw  (fun r35 μ35 => if (r35 % (8 : Int32)) = 0 then wp_X7_draw  (fun r48 μ48 => wp_X7_lets x1_20 (3 : Int32) (r48 % (10 : Int32)) (fun μ54 => wp_X7_drawn_57 Q μ54) μ48) μ35 else wp_X7_drawn_57 Q μ35) μ31) μ25) μ10) μ
set_option maxRecDepth 100000 in
set_option maxHeartbeats 4000000 in
theorem c_X7_drawn (l : Launch) (G : vG) (hG : gO G)  (h0 : isX7 G) (Q : vM → Prop) (μ : vM) (hw : wp_X7_drawn Q μ) : mt l G yX7_drawn vX7_drawn { frames := 5, cells := 0, slots := 0, locals := 116 } [.ref (ga G 0)] μ (qV G Q) := by
  refine met_of (cc := cX7_drawn) (maxL := 2) (ret := none) RX7 (by decide) rfl rfl hG (Nat.le_of_ble_eq_true rfl) ?_
  intro p e s m below meth c X h ls hl
  have hl : lv_has ls 2 [(0, .ref (ga G 0))] := hl
  have hx := X.1
  have hb := X.2.1
  unfold wp_X7_drawn at hw
  refine lv_aload_n hx hb dX7_drawn_0 rfl (lv_at hl 0 rfl) ?_
  refine r_getR (q := 1) X h (X7_o h0) rfl uX7 0 (by decide) lf_4_51 rfl dX7_drawn_1 ?_
  refine lv_iconst (v := (2 : Int32)) hx hb dX7_drawn_4 (by decide) ?_
  obtain ⟨hi, hw⟩ := hw
  refine r_ald X h (X7_row h0) hi dX7_drawn_5 ?_
  have s57 : ∀  (μ : vM), ∀ (H : Heap) (locs : List Loc) (ls : Array Slot), bw G s μ H locs → lv_has ls 2 [(0, .ref (ga G 0))] → wp_X7_drawn_57 Q μ → W p l e ({ frames := 5, cells := 0, slots := 0, locals := 116 } : Room) s m ([.ref (ga G 0)] : List Value).toArray below meth c H locs 0 0 (MQ below (qV G Q) ([.ref (ga G 0)] : List Value).toArray s 0 0 (gA G)) (F0 m 57 ls []) := by
    intro  μ H locs ls h hl hw
    unfold wp_X7_drawn_57 at hw
    refine lv_aload_n hx hb dX7_drawn_57 rfl (lv_at hl 0 rfl) ?_
    refine k_v h (n_V (rest := []) (As := []) X h hl.1 (c_X7_goes l G hG h0 _ _ hw) gk_X7_204 rfl hd_X7_goes ⟨rfl, rfl⟩ ⟨Nat.le_of_ble_eq_true rfl, Nat.le_of_ble_eq_true rfl⟩ (X7_o h0) rfl rfl (Nat.le_of_ble_eq_true rfl) dX7_drawn_58 ⟨Nat.zero_le _, Nat.zero_le _⟩) (fun μ58 H locs hw h => ?_)
    exact r_vret X h hw dX7_drawn_61
  refine lv_if_le (tgt := 57) hx hb dX7_drawn_6 (by decide) (fun hc => ?_) (fun hc => ?_)
  · rw [if_pos hc] at hw
    exact s57 μ _ _ _ h (lv_sub hl [0] rfl) hw
  · rw [if_neg hc] at hw
    refine lv_aload_n hx hb dX7_drawn_9 rfl (lv_at hl 0 rfl) ?_
    refine k_i h (n_V (rest := []) (As := []) X h hl.1 (c_X7_draw l G hG h0 _ _ hw) gk_X7_215 rfl hd_X7_draw ⟨rfl, rfl⟩ ⟨Nat.le_of_ble_eq_true rfl, Nat.le_of_ble_eq_true rfl⟩ (X7_o h0) rfl rfl (Nat.le_of_ble_eq_true rfl) dX7_drawn_10 ⟨Nat.zero_le _, Nat.zero_le _⟩) (fun r10 μ10 H locs hw h => ?_)
    refine lv_aload_n hx hb dX7_drawn_13 rfl (lv_at hl 0 rfl) ?_
    refine r_getR (q := 1) X h (X7_o h0) rfl uX7 0 (by decide) lf_4_51 rfl dX7_drawn_14 ?_
    refine lv_iconst (v := (2 : Int32)) hx hb dX7_drawn_17 (by decide) ?_
    obtain ⟨hi, hw⟩ := hw
    refine r_ald X h (X7_row h0) hi dX7_drawn_18 ?_
    obtain ⟨hne, hw⟩ := hw
    refine r_irem hx hb dX7_drawn_19 hne ?_
    obtain ⟨x1_20, ex1_20, hw⟩ := hw
    refine topE ex1_20 ?_
    refine lv_istore_n (lv' := [(1, .int x1_20), (0, .ref (ga G 0))]) hx hb dX7_drawn_20 rfl hl (by decide) rfl (fun ls hl => ?_)
    refine lv_aload_n hx hb dX7_drawn_21 rfl (lv_at hl 1 rfl) ?_
    refine lv_iload_n hx hb dX7_drawn_22 rfl (lv_at hl 0 rfl) ?_
    refine lv_iconst (v := (4 : Int32)) hx hb dX7_drawn_23 (by decide) ?_
    refine lv_aload_n hx hb dX7_drawn_24 rfl (lv_at hl 1 rfl) ?_
    refine k_i h (n_V (rest := [.int (4 : Int32), .int x1_20, .ref (ga G 0)]) (As := []) X h hl.1 (c_X7_draw l G hG h0 _ _ hw) gk_X7_215 rfl hd_X7_draw ⟨rfl, rfl⟩ ⟨Nat.le_of_ble_eq_true rfl, Nat.le_of_ble_eq_true rfl⟩ (X7_o h0) rfl rfl (Nat.le_of_ble_eq_true rfl) dX7_drawn_25 ⟨Nat.zero_le _, Nat.zero_le _⟩) (fun r25 μ25 H locs hw h => ?_)
    refine lv_bipush (v := (10 : Int32)) hx hb dX7_drawn_28 (by decide) ?_
    refine r_irem hx hb dX7_drawn_30 (by decide) ?_
    refine k_v h (n_V (rest := []) (As := [.int x1_20, .int (4 : Int32), .int (r25 % (10 : Int32))]) X h hl.1 (c_X7_lets l G hG x1_20 (4 : Int32) (r25 % (10 : Int32)) h0 _ _ hw) gk_X7_122 rfl hd_X7_lets ⟨rfl, rfl⟩ ⟨Nat.le_of_ble_eq_true rfl, Nat.le_of_ble_eq_true rfl⟩ (X7_o h0) rfl rfl (Nat.le_of_ble_eq_true rfl) dX7_drawn_31 ⟨Nat.zero_le _, Nat.zero_le _⟩) (fun μ31 H locs hw h => ?_)
    refine lv_aload_n hx hb dX7_drawn_34 rfl (lv_at hl 1 rfl) ?_
    refine k_i h (n_V (rest := []) (As := []) X h hl.1 (c_X7_draw l G hG h0 _ _ hw) gk_X7_215 rfl hd_X7_draw ⟨rfl, rfl⟩ ⟨Nat.le_of_ble_eq_true rfl, Nat.le_of_ble_eq_true rfl⟩ (X7_o h0) rfl rfl (Nat.le_of_ble_eq_true rfl) dX7_drawn_35 ⟨Nat.zero_le _, Nat.zero_le _⟩) (fun r35 μ35 H locs hw h => ?_)
    refine lv_bipush (v := (8 : Int32)) hx hb dX7_drawn_38 (by decide) ?_
    refine r_irem hx hb dX7_drawn_40 (by decide) ?_
    refine lv_if_ne (tgt := 57) hx hb dX7_drawn_41 (by decide) (fun hc => ?_) (fun hc => ?_)
    · rw [if_neg hc] at hw
      exact s57 μ35 _ _ _ h (lv_sub hl [1] rfl) hw
    · rw [if_pos hc] at hw
      refine lv_aload_n hx hb dX7_drawn_44 rfl (lv_at hl 1 rfl) ?_
      refine lv_iload_n hx hb dX7_drawn_45 rfl (lv_at hl 0 rfl) ?_
      refine lv_iconst (v := (3 : Int32)) hx hb dX7_drawn_46 (by decide) ?_
      refine lv_aload_n hx hb dX7_drawn_47 rfl (lv_at hl 1 rfl) ?_
      refine k_i h (n_V (rest := [.int (3 : Int32), .int x1_20, .ref (ga G 0)]) (As := []) X h hl.1 (c_X7_draw l G hG h0 _ _ hw) gk_X7_215 rfl hd_X7_draw ⟨rfl, rfl⟩ ⟨Nat.le_of_ble_eq_true rfl, Nat.le_of_ble_eq_true rfl⟩ (X7_o h0) rfl rfl (Nat.le_of_ble_eq_true rfl) dX7_drawn_48 ⟨Nat.zero_le _, Nat.zero_le _⟩) (fun r48 μ48 H locs hw h => ?_)
      refine lv_bipush (v := (10 : Int32)) hx hb dX7_drawn_51 (by decide) ?_
      refine r_irem hx hb dX7_drawn_53 (by decide) ?_
      refine k_v h (n_V (rest := []) (As := [.int x1_20, .int (3 : Int32), .int (r48 % (10 : Int32))]) X h hl.1 (c_X7_lets l G hG x1_20 (3 : Int32) (r48 % (10 : Int32)) h0 _ _ hw) gk_X7_122 rfl hd_X7_lets ⟨rfl, rfl⟩ ⟨Nat.le_of_ble_eq_true rfl, Nat.le_of_ble_eq_true rfl⟩ (X7_o h0) rfl rfl (Nat.le_of_ble_eq_true rfl) dX7_drawn_54 ⟨Nat.zero_le _, Nat.zero_le _⟩) (fun μ54 H locs hw h => ?_)
      exact s57 μ54 _ _ _ h (lv_sub hl [1] rfl) hw
def wp_X7_loose_40 (a1 : Int32) (Q : Int32 → vM → Prop) : Nat → Int32 → vM → Prop
  | 0, _, _ => False
  | n40 + 1, x2, μ => if a1 ≤ x2 then wp_X7_homes  (fun r56 μ56 => Q r56 μ56) μ else wp_X7_drawn  (fun μ46 => ∃ x2_49 : Int32, x2_49 = x2 + (1 : Int32) ∧ wp_X7_loose_40 a1 Q n40 x2_49 μ46) μ
def wp_X7_loose (a1 : Int32) (Q : Int32 → vM → Prop) (μ : vM) : Prop := wp_X7_in a1 (1 : Int32) (30 : Int32) (fun r4 μ4 => if r4 = 0 then wp_X7_error (-1000000001 : Int32) (fun r13 μ13 => Q r13 μ13) μ4 else vp_in (0 : Int32) 385 ∧ if ((μ4 1 (0 : Int32).toNatClampNeg) + a1) ≤ (9999 : Int32) then ∃ n40, wp_X7_loose_40 a1 Q n40 (0 : Int32) μ4 else wp_X7_error (-1000000003 : Int32) (fun r34 μ34 => Q r34 μ34) μ4) μ
set_option maxRecDepth 100000 in
set_option maxHeartbeats 4000000 in
theorem c_X7_loose (l : Launch) (G : vG) (hG : gO G) (a1 : Int32) (h0 : isX7 G) (Q : Int32 → vM → Prop) (μ : vM) (hw : wp_X7_loose a1 Q μ) : mt l G yX7_loose vX7_loose { frames := 6, cells := 0, slots := 0, locals := 137 } [.ref (ga G 0), .int a1] μ (qI G Q) := by
  refine met_of (cc := cX7_loose) (maxL := 3) (ret := (some .int)) RX7 (by decide) rfl rfl hG (Nat.le_of_ble_eq_true rfl) ?_
  intro p e s m below meth c X h ls hl
  have hl : lv_has ls 3 [(0, .ref (ga G 0)), (1, .int a1)] := hl
  have hx := X.1
  have hb := X.2.1
  unfold wp_X7_loose at hw
  refine lv_iload_n hx hb dX7_loose_0 rfl (lv_at hl 1 rfl) ?_
  refine lv_iconst (v := (1 : Int32)) hx hb dX7_loose_1 (by decide) ?_
  refine lv_bipush (v := (30 : Int32)) hx hb dX7_loose_2 (by decide) ?_
  refine k_i h (n_T (rest := []) (As := [.int a1, .int (1 : Int32), .int (30 : Int32)]) X h hl.1 (c_X7_in l G hG a1 (1 : Int32) (30 : Int32) _ _ hw) gk_X7_57 rfl hd_X7_in ⟨rfl, rfl⟩ ⟨Nat.le_of_ble_eq_true rfl, Nat.le_of_ble_eq_true rfl⟩ rfl (Nat.le_of_ble_eq_true rfl) dX7_loose_4 ⟨Nat.zero_le _, Nat.zero_le _⟩) (fun r4 μ4 H locs hw h => ?_)
  refine lv_if_ne (tgt := 17) hx hb dX7_loose_7 (by decide) (fun hc => ?_) (fun hc => ?_)
  · rw [if_neg hc] at hw
    refine lv_aload_n hx hb dX7_loose_17 rfl (lv_at hl 0 rfl) ?_
    refine r_getR (q := 1) X h (X7_o h0) rfl uX7 0 (by decide) lf_4_51 rfl dX7_loose_18 ?_
    refine lv_iconst (v := (0 : Int32)) hx hb dX7_loose_21 (by decide) ?_
    obtain ⟨hi, hw⟩ := hw
    refine r_ald X h (X7_row h0) hi dX7_loose_22 ?_
    refine lv_iload_n hx hb dX7_loose_23 rfl (lv_at hl 1 rfl) ?_
    refine lv_iadd hx hb dX7_loose_24 ?_
    refine lv_sipush (v := (9999 : Int32)) hx hb dX7_loose_25 (by decide) ?_
    refine lv_icmp_le (tgt := 38) hx hb dX7_loose_28 (by decide) (fun hc => ?_) (fun hc => ?_)
    · rw [if_pos hc] at hw
      refine lv_iconst (v := (0 : Int32)) hx hb dX7_loose_38 (by decide) ?_
      refine lv_istore_n (lv' := [(2, .int (0 : Int32)), (0, .ref (ga G 0)), (1, .int a1)]) hx hb dX7_loose_39 rfl hl (by decide) rfl (fun ls hl => ?_)
      have s40 : ∀ (n40 : Nat) (x2 : Int32) (μ : vM), ∀ (H : Heap) (locs : List Loc) (ls : Array Slot), bw G s μ H locs → lv_has ls 3 [(0, .ref (ga G 0)), (1, .int a1), (2, .int x2)] → wp_X7_loose_40 a1 Q n40 x2 μ → W p l e ({ frames := 6, cells := 0, slots := 0, locals := 137 } : Room) s m ([.ref (ga G 0), .int a1] : List Value).toArray below meth c H locs 0 0 (MQ below (qI G Q) ([.ref (ga G 0), .int a1] : List Value).toArray s 0 0 (gA G)) (F0 m 40 ls []) := by
        intro n40
        induction n40 with
        | zero => intro x2 μ H locs ls h hl hw; exact absurd hw (by unfold wp_X7_loose_40; exact id)
        | succ n40 ih40 =>
          intro x2 μ H locs ls h hl hw
          unfold wp_X7_loose_40 at hw
          refine lv_iload_n hx hb dX7_loose_40 rfl (lv_at hl 2 rfl) ?_
          refine lv_iload_n hx hb dX7_loose_41 rfl (lv_at hl 1 rfl) ?_
          refine lv_icmp_ge (tgt := 55) hx hb dX7_loose_42 (by decide) (fun hc => ?_) (fun hc => ?_)
          · rw [if_pos hc] at hw
            refine lv_aload_n hx hb dX7_loose_55 rfl (lv_at hl 0 rfl) ?_
            refine k_i h (n_V (rest := []) (As := []) X h hl.1 (c_X7_homes l G hG h0 _ _ hw) gk_X7_211 rfl hd_X7_homes ⟨rfl, rfl⟩ ⟨Nat.le_of_ble_eq_true rfl, Nat.le_of_ble_eq_true rfl⟩ (X7_o h0) rfl rfl (Nat.le_of_ble_eq_true rfl) dX7_loose_56 ⟨Nat.zero_le _, Nat.zero_le _⟩) (fun r56 μ56 H locs hw h => ?_)
            exact r_iret X h hw dX7_loose_59
          · rw [if_neg hc] at hw
            refine lv_aload_n hx hb dX7_loose_45 rfl (lv_at hl 0 rfl) ?_
            refine k_v h (n_V (rest := []) (As := []) X h hl.1 (c_X7_drawn l G hG h0 _ _ hw) gk_X7_218 rfl hd_X7_drawn ⟨rfl, rfl⟩ ⟨Nat.le_of_ble_eq_true rfl, Nat.le_of_ble_eq_true rfl⟩ (X7_o h0) rfl rfl (Nat.le_of_ble_eq_true rfl) dX7_loose_46 ⟨Nat.zero_le _, Nat.zero_le _⟩) (fun μ46 H locs hw h => ?_)
            obtain ⟨x2_49, ex2_49, hw⟩ := hw
            refine lv_iinc (v := x2_49) (lv' := [(2, .int x2_49), (0, .ref (ga G 0)), (1, .int a1)]) hx hb dX7_loose_49 hl (k := 2) rfl (by rw [ex2_49]; rfl) (by decide) rfl (fun ls hl => ?_)
            refine lv_goto (tgt := 40) hx hb dX7_loose_52 (by decide) ?_
            exact ih40 x2_49 μ46 _ _ _ h (lv_sub hl [1, 2, 0] rfl) hw
      obtain ⟨n, hw⟩ := hw
      exact s40 n (0 : Int32) μ4 _ _ _ h (lv_sub hl [1, 2, 0] rfl) hw
    · rw [if_neg hc] at hw
      refine lv_aload_n hx hb dX7_loose_31 rfl (lv_at hl 0 rfl) ?_
      refine r_ldc X (v := (-1000000003 : Int32)) ww_5_77 dX7_loose_32 ?_
      refine k_i h (n_V (rest := []) (As := [.int (-1000000003 : Int32)]) X h hl.1 (c_X7_error l G hG (-1000000003 : Int32) h0 _ _ hw) gk_X7_104 rfl hd_X7_error ⟨rfl, rfl⟩ ⟨Nat.le_of_ble_eq_true rfl, Nat.le_of_ble_eq_true rfl⟩ (X7_o h0) rfl rfl (Nat.le_of_ble_eq_true rfl) dX7_loose_34 ⟨Nat.zero_le _, Nat.zero_le _⟩) (fun r34 μ34 H locs hw h => ?_)
      exact r_iret X h hw dX7_loose_37
  · rw [if_pos hc] at hw
    refine lv_aload_n hx hb dX7_loose_10 rfl (lv_at hl 0 rfl) ?_
    refine r_ldc X (v := (-1000000001 : Int32)) ww_4_131 dX7_loose_11 ?_
    refine k_i h (n_V (rest := []) (As := [.int (-1000000001 : Int32)]) X h hl.1 (c_X7_error l G hG (-1000000001 : Int32) h0 _ _ hw) gk_X7_104 rfl hd_X7_error ⟨rfl, rfl⟩ ⟨Nat.le_of_ble_eq_true rfl, Nat.le_of_ble_eq_true rfl⟩ (X7_o h0) rfl rfl (Nat.le_of_ble_eq_true rfl) dX7_loose_13 ⟨Nat.zero_le _, Nat.zero_le _⟩) (fun r13 μ13 H locs hw h => ?_)
    exact r_iret X h hw dX7_loose_16
def wp_X7_day (a1 : Int32) (Q : Int32 → vM → Prop) (μ : vM) : Prop := wp_X7_in a1 (0 : Int32) (9999 : Int32) (fun r5 μ5 => if r5 = 0 then wp_X7_error (-1000000001 : Int32) (fun r23 μ23 => Q r23 μ23) μ5 else wp_X7_becomes (0 : Int32) a1 (fun r14 μ14 => Q r14 μ14) μ5) μ
set_option maxRecDepth 100000 in
set_option maxHeartbeats 4000000 in
theorem c_X7_day (l : Launch) (G : vG) (hG : gO G) (a1 : Int32) (h0 : isX7 G) (Q : Int32 → vM → Prop) (μ : vM) (hw : wp_X7_day a1 Q μ) : mt l G yX7_day vX7_day { frames := 1, cells := 0, slots := 0, locals := 23 } [.ref (ga G 0), .int a1] μ (qI G Q) := by
  refine met_of (cc := cX7_day) (maxL := 2) (ret := (some .int)) RX7 (by decide) rfl rfl hG (Nat.le_of_ble_eq_true rfl) ?_
  intro p e s m below meth c X h ls hl
  have hl : lv_has ls 2 [(0, .ref (ga G 0)), (1, .int a1)] := hl
  have hx := X.1
  have hb := X.2.1
  unfold wp_X7_day at hw
  refine lv_iload_n hx hb dX7_day_0 rfl (lv_at hl 1 rfl) ?_
  refine lv_iconst (v := (0 : Int32)) hx hb dX7_day_1 (by decide) ?_
  refine lv_sipush (v := (9999 : Int32)) hx hb dX7_day_2 (by decide) ?_
  refine k_i h (n_T (rest := []) (As := [.int a1, .int (0 : Int32), .int (9999 : Int32)]) X h hl.1 (c_X7_in l G hG a1 (0 : Int32) (9999 : Int32) _ _ hw) gk_X7_57 rfl hd_X7_in ⟨rfl, rfl⟩ ⟨Nat.le_of_ble_eq_true rfl, Nat.le_of_ble_eq_true rfl⟩ rfl (Nat.le_of_ble_eq_true rfl) dX7_day_5 ⟨Nat.zero_le _, Nat.zero_le _⟩) (fun r5 μ5 H locs hw h => ?_)
  refine lv_if_eq (tgt := 20) hx hb dX7_day_8 (by decide) (fun hc => ?_) (fun hc => ?_)
  · rw [if_pos hc] at hw
    refine lv_aload_n hx hb dX7_day_20 rfl (lv_at hl 0 rfl) ?_
    refine r_ldc X (v := (-1000000001 : Int32)) ww_4_131 dX7_day_21 ?_
    refine k_i h (n_V (rest := []) (As := [.int (-1000000001 : Int32)]) X h hl.1 (c_X7_error l G hG (-1000000001 : Int32) h0 _ _ hw) gk_X7_104 rfl hd_X7_error ⟨rfl, rfl⟩ ⟨Nat.le_of_ble_eq_true rfl, Nat.le_of_ble_eq_true rfl⟩ (X7_o h0) rfl rfl (Nat.le_of_ble_eq_true rfl) dX7_day_23 ⟨Nat.zero_le _, Nat.zero_le _⟩) (fun r23 μ23 H locs hw h => ?_)
    exact r_iret X h hw dX7_day_26
  · rw [if_neg hc] at hw
    refine lv_aload_n hx hb dX7_day_11 rfl (lv_at hl 0 rfl) ?_
    refine lv_iconst (v := (0 : Int32)) hx hb dX7_day_12 (by decide) ?_
    refine lv_iload_n hx hb dX7_day_13 rfl (lv_at hl 1 rfl) ?_
    refine k_i h (n_V (rest := []) (As := [.int (0 : Int32), .int a1]) X h hl.1 (c_X7_becomes l G hG (0 : Int32) a1 h0 _ _ hw) gk_X7_114 rfl hd_X7_becomes ⟨rfl, rfl⟩ ⟨Nat.le_of_ble_eq_true rfl, Nat.le_of_ble_eq_true rfl⟩ (X7_o h0) rfl rfl (Nat.le_of_ble_eq_true rfl) dX7_day_14 ⟨Nat.zero_le _, Nat.zero_le _⟩) (fun r14 μ14 H locs hw h => ?_)
    refine lv_goto (tgt := 26) hx hb dX7_day_17 (by decide) ?_
    exact r_iret X h hw dX7_day_26
def wp_X7_seed (a1 : Int32) (Q : Int32 → vM → Prop) (μ : vM) : Prop := wp_X7_becomes (1 : Int32) a1 (fun r3 μ3 => Q r3 μ3) μ
set_option maxRecDepth 100000 in
set_option maxHeartbeats 4000000 in
theorem c_X7_seed (l : Launch) (G : vG) (hG : gO G) (a1 : Int32) (h0 : isX7 G) (Q : Int32 → vM → Prop) (μ : vM) (hw : wp_X7_seed a1 Q μ) : mt l G yX7_seed vX7_seed { frames := 1, cells := 0, slots := 0, locals := 23 } [.ref (ga G 0), .int a1] μ (qI G Q) := by
  refine met_of (cc := cX7_seed) (maxL := 2) (ret := (some .int)) RX7 (by decide) rfl rfl hG (Nat.le_of_ble_eq_true rfl) ?_
  intro p e s m below meth c X h ls hl
  have hl : lv_has ls 2 [(0, .ref (ga G 0)), (1, .int a1)] := hl
  have hx := X.1
  have hb := X.2.1
  unfold wp_X7_seed at hw
  refine lv_aload_n hx hb dX7_seed_0 rfl (lv_at hl 0 rfl) ?_
  refine lv_iconst (v := (1 : Int32)) hx hb dX7_seed_1 (by decide) ?_
  refine lv_iload_n hx hb dX7_seed_2 rfl (lv_at hl 1 rfl) ?_
  refine k_i h (n_V (rest := []) (As := [.int (1 : Int32), .int a1]) X h hl.1 (c_X7_becomes l G hG (1 : Int32) a1 h0 _ _ hw) gk_X7_114 rfl hd_X7_becomes ⟨rfl, rfl⟩ ⟨Nat.le_of_ble_eq_true rfl, Nat.le_of_ble_eq_true rfl⟩ (X7_o h0) rfl rfl (Nat.le_of_ble_eq_true rfl) dX7_seed_3 ⟨Nat.zero_le _, Nat.zero_le _⟩) (fun r3 μ3 H locs hw h => ?_)
  exact r_iret X h hw dX7_seed_6
def wp_X7_then (a1 : Int32) (a2 : Int32) (Q : Int32 → vM → Prop) (μ : vM) : Prop := wp_X7_isBit a1 (fun r2 μ2 => if r2 = 0 then wp_X7_error (-1000000001 : Int32) (fun r21 μ21 => Q r21 μ21) μ2 else wp_X7_in a2 (0 : Int32) (60 : Int32) (fun r12 μ12 => if r12 = 0 then wp_X7_error (-1000000001 : Int32) (fun r21 μ21 => Q r21 μ21) μ12 else wp_X7_thinks  (fun μ26 => wp_X7_goesFor a2 (fun μ31 => wp_X7_of a1 (3 : Int32) (fun r37 μ37 => wp_X7_putsBack  (fun μ42 => Q r37 μ42) μ37) μ31) μ26) μ12) μ2) μ
set_option maxRecDepth 100000 in
set_option maxHeartbeats 4000000 in
theorem c_X7_then (l : Launch) (G : vG) (hG : gO G) (a1 : Int32) (a2 : Int32) (h0 : isX7 G) (Q : Int32 → vM → Prop) (μ : vM) (hw : wp_X7_then a1 a2 Q μ) : mt l G yX7_then vX7_then { frames := 6, cells := 0, slots := 0, locals := 138 } [.ref (ga G 0), .int a1, .int a2] μ (qI G Q) := by
  refine met_of (cc := cX7_then) (maxL := 4) (ret := (some .int)) RX7 (by decide) rfl rfl hG (Nat.le_of_ble_eq_true rfl) ?_
  intro p e s m below meth c X h ls hl
  have hl : lv_has ls 4 [(0, .ref (ga G 0)), (1, .int a1), (2, .int a2)] := hl
  have hx := X.1
  have hb := X.2.1
  unfold wp_X7_then at hw
  refine lv_aload_n hx hb dX7_then_0 rfl (lv_at hl 0 rfl) ?_
  refine lv_iload_n hx hb dX7_then_1 rfl (lv_at hl 1 rfl) ?_
  refine k_i h (n_V (rest := []) (As := [.int a1]) X h hl.1 (c_X7_isBit l G hG a1 h0 _ _ hw) gk_X7_125 rfl hd_X7_isBit ⟨rfl, rfl⟩ ⟨Nat.le_of_ble_eq_true rfl, Nat.le_of_ble_eq_true rfl⟩ (X7_o h0) rfl rfl (Nat.le_of_ble_eq_true rfl) dX7_then_2 ⟨Nat.zero_le _, Nat.zero_le _⟩) (fun r2 μ2 H locs hw h => ?_)
  refine lv_if_eq (tgt := 18) hx hb dX7_then_5 (by decide) (fun hc => ?_) (fun hc => ?_)
  · rw [if_pos hc] at hw
    refine lv_aload_n hx hb dX7_then_18 rfl (lv_at hl 0 rfl) ?_
    refine r_ldc X (v := (-1000000001 : Int32)) ww_4_131 dX7_then_19 ?_
    refine k_i h (n_V (rest := []) (As := [.int (-1000000001 : Int32)]) X h hl.1 (c_X7_error l G hG (-1000000001 : Int32) h0 _ _ hw) gk_X7_104 rfl hd_X7_error ⟨rfl, rfl⟩ ⟨Nat.le_of_ble_eq_true rfl, Nat.le_of_ble_eq_true rfl⟩ (X7_o h0) rfl rfl (Nat.le_of_ble_eq_true rfl) dX7_then_21 ⟨Nat.zero_le _, Nat.zero_le _⟩) (fun r21 μ21 H locs hw h => ?_)
    exact r_iret X h hw dX7_then_24
  · rw [if_neg hc] at hw
    refine lv_iload_n hx hb dX7_then_8 rfl (lv_at hl 2 rfl) ?_
    refine lv_iconst (v := (0 : Int32)) hx hb dX7_then_9 (by decide) ?_
    refine lv_bipush (v := (60 : Int32)) hx hb dX7_then_10 (by decide) ?_
    refine k_i h (n_T (rest := []) (As := [.int a2, .int (0 : Int32), .int (60 : Int32)]) X h hl.1 (c_X7_in l G hG a2 (0 : Int32) (60 : Int32) _ _ hw) gk_X7_57 rfl hd_X7_in ⟨rfl, rfl⟩ ⟨Nat.le_of_ble_eq_true rfl, Nat.le_of_ble_eq_true rfl⟩ rfl (Nat.le_of_ble_eq_true rfl) dX7_then_12 ⟨Nat.zero_le _, Nat.zero_le _⟩) (fun r12 μ12 H locs hw h => ?_)
    refine lv_if_ne (tgt := 25) hx hb dX7_then_15 (by decide) (fun hc => ?_) (fun hc => ?_)
    · rw [if_neg hc] at hw
      refine lv_aload_n hx hb dX7_then_25 rfl (lv_at hl 0 rfl) ?_
      refine k_v h (n_V (rest := []) (As := []) X h hl.1 (c_X7_thinks l G hG h0 _ _ hw) gk_X7_221 rfl hd_X7_thinks ⟨rfl, rfl⟩ ⟨Nat.le_of_ble_eq_true rfl, Nat.le_of_ble_eq_true rfl⟩ (X7_o h0) rfl rfl (Nat.le_of_ble_eq_true rfl) dX7_then_26 ⟨Nat.zero_le _, Nat.zero_le _⟩) (fun μ26 H locs hw h => ?_)
      refine lv_aload_n hx hb dX7_then_29 rfl (lv_at hl 0 rfl) ?_
      refine lv_iload_n hx hb dX7_then_30 rfl (lv_at hl 2 rfl) ?_
      refine k_v h (n_V (rest := []) (As := [.int a2]) X h hl.1 (c_X7_goesFor l G hG a2 h0 _ _ hw) gk_X7_208 rfl hd_X7_goesFor ⟨rfl, rfl⟩ ⟨Nat.le_of_ble_eq_true rfl, Nat.le_of_ble_eq_true rfl⟩ (X7_o h0) rfl rfl (Nat.le_of_ble_eq_true rfl) dX7_then_31 ⟨Nat.zero_le _, Nat.zero_le _⟩) (fun μ31 H locs hw h => ?_)
      refine lv_aload_n hx hb dX7_then_34 rfl (lv_at hl 0 rfl) ?_
      refine lv_iload_n hx hb dX7_then_35 rfl (lv_at hl 1 rfl) ?_
      refine lv_iconst (v := (3 : Int32)) hx hb dX7_then_36 (by decide) ?_
      refine k_i h (n_V (rest := []) (As := [.int a1, .int (3 : Int32)]) X h hl.1 (c_X7_of l G hG a1 (3 : Int32) h0 _ _ hw) gk_X7_61 rfl hd_X7_of ⟨rfl, rfl⟩ ⟨Nat.le_of_ble_eq_true rfl, Nat.le_of_ble_eq_true rfl⟩ (X7_o h0) rfl rfl (Nat.le_of_ble_eq_true rfl) dX7_then_37 ⟨Nat.zero_le _, Nat.zero_le _⟩) (fun r37 μ37 H locs hw h => ?_)
      refine lv_istore_n (lv' := [(3, .int r37), (0, .ref (ga G 0)), (1, .int a1), (2, .int a2)]) hx hb dX7_then_40 rfl hl (by decide) rfl (fun ls hl => ?_)
      refine lv_aload_n hx hb dX7_then_41 rfl (lv_at hl 1 rfl) ?_
      refine k_v h (n_V (rest := []) (As := []) X h hl.1 (c_X7_putsBack l G hG h0 _ _ hw) gk_X7_224 rfl hd_X7_putsBack ⟨rfl, rfl⟩ ⟨Nat.le_of_ble_eq_true rfl, Nat.le_of_ble_eq_true rfl⟩ (X7_o h0) rfl rfl (Nat.le_of_ble_eq_true rfl) dX7_then_42 ⟨Nat.zero_le _, Nat.zero_le _⟩) (fun μ42 H locs hw h => ?_)
      refine lv_iload_n hx hb dX7_then_45 rfl (lv_at hl 0 rfl) ?_
      exact r_iret X h hw dX7_then_46
    · rw [if_pos hc] at hw
      refine lv_aload_n hx hb dX7_then_18 rfl (lv_at hl 0 rfl) ?_
      refine r_ldc X (v := (-1000000001 : Int32)) ww_4_131 dX7_then_19 ?_
      refine k_i h (n_V (rest := []) (As := [.int (-1000000001 : Int32)]) X h hl.1 (c_X7_error l G hG (-1000000001 : Int32) h0 _ _ hw) gk_X7_104 rfl hd_X7_error ⟨rfl, rfl⟩ ⟨Nat.le_of_ble_eq_true rfl, Nat.le_of_ble_eq_true rfl⟩ (X7_o h0) rfl rfl (Nat.le_of_ble_eq_true rfl) dX7_then_21 ⟨Nat.zero_le _, Nat.zero_le _⟩) (fun r21 μ21 H locs hw h => ?_)
      exact r_iret X h hw dX7_then_24
def wp_X7_soonest_45 (a1 : Int32) (Q : Int32 → vM → Prop) (x2 : Int32) (μ : vM) : Prop := wp_X7_putsBack  (fun μ46 => if x2 ≤ (60 : Int32) then Q x2 μ46 else wp_X7_error (-1000000002 : Int32) (fun r58 μ58 => Q r58 μ58) μ46) μ
def wp_X7_soonest_21 (a1 : Int32) (Q : Int32 → vM → Prop) : Nat → Int32 → vM → Prop
  | 0, _, _ => False
  | n21 + 1, x2, μ => if (60 : Int32) < x2 then wp_X7_soonest_45 a1 Q x2 μ else wp_X7_isHome a1 (fun r29 μ29 => if r29 = 0 then wp_X7_goes  (fun μ36 => ∃ x2_39 : Int32, x2_39 = x2 + (1 : Int32) ∧ wp_X7_soonest_21 a1 Q n21 x2_39 μ36) μ29 else wp_X7_soonest_45 a1 Q x2 μ29) μ
def wp_X7_soonest (a1 : Int32) (Q : Int32 → vM → Prop) (μ : vM) : Prop := wp_X7_isBit a1 (fun r2 μ2 => if r2 = 0 then wp_X7_error (-1000000001 : Int32) (fun r11 μ11 => Q r11 μ11) μ2 else wp_X7_thinks  (fun μ16 => ∃ n21, wp_X7_soonest_21 a1 Q n21 (0 : Int32) μ16) μ2) μ
set_option maxRecDepth 100000 in
set_option maxHeartbeats 4000000 in
theorem c_X7_soonest (l : Launch) (G : vG) (hG : gO G) (a1 : Int32) (h0 : isX7 G) (Q : Int32 → vM → Prop) (μ : vM) (hw : wp_X7_soonest a1 Q μ) : mt l G yX7_soonest vX7_soonest { frames := 5, cells := 0, slots := 0, locals := 116 } [.ref (ga G 0), .int a1] μ (qI G Q) := by
  refine met_of (cc := cX7_soonest) (maxL := 3) (ret := (some .int)) RX7 (by decide) rfl rfl hG (Nat.le_of_ble_eq_true rfl) ?_
  intro p e s m below meth c X h ls hl
  have hl : lv_has ls 3 [(0, .ref (ga G 0)), (1, .int a1)] := hl
  have hx := X.1
  have hb := X.2.1
  unfold wp_X7_soonest at hw
  refine lv_aload_n hx hb dX7_soonest_0 rfl (lv_at hl 0 rfl) ?_
  refine lv_iload_n hx hb dX7_soonest_1 rfl (lv_at hl 1 rfl) ?_
  refine k_i h (n_V (rest := []) (As := [.int a1]) X h hl.1 (c_X7_isBit l G hG a1 h0 _ _ hw) gk_X7_125 rfl hd_X7_isBit ⟨rfl, rfl⟩ ⟨Nat.le_of_ble_eq_true rfl, Nat.le_of_ble_eq_true rfl⟩ (X7_o h0) rfl rfl (Nat.le_of_ble_eq_true rfl) dX7_soonest_2 ⟨Nat.zero_le _, Nat.zero_le _⟩) (fun r2 μ2 H locs hw h => ?_)
  refine lv_if_ne (tgt := 15) hx hb dX7_soonest_5 (by decide) (fun hc => ?_) (fun hc => ?_)
  · rw [if_neg hc] at hw
    refine lv_aload_n hx hb dX7_soonest_15 rfl (lv_at hl 0 rfl) ?_
    refine k_v h (n_V (rest := []) (As := []) X h hl.1 (c_X7_thinks l G hG h0 _ _ hw) gk_X7_221 rfl hd_X7_thinks ⟨rfl, rfl⟩ ⟨Nat.le_of_ble_eq_true rfl, Nat.le_of_ble_eq_true rfl⟩ (X7_o h0) rfl rfl (Nat.le_of_ble_eq_true rfl) dX7_soonest_16 ⟨Nat.zero_le _, Nat.zero_le _⟩) (fun μ16 H locs hw h => ?_)
    refine lv_iconst (v := (0 : Int32)) hx hb dX7_soonest_19 (by decide) ?_
    refine lv_istore_n (lv' := [(2, .int (0 : Int32)), (0, .ref (ga G 0)), (1, .int a1)]) hx hb dX7_soonest_20 rfl hl (by decide) rfl (fun ls hl => ?_)
    have s21 : ∀ (n21 : Nat) (x2 : Int32) (μ : vM), ∀ (H : Heap) (locs : List Loc) (ls : Array Slot), bw G s μ H locs → lv_has ls 3 [(0, .ref (ga G 0)), (1, .int a1), (2, .int x2)] → wp_X7_soonest_21 a1 Q n21 x2 μ → W p l e ({ frames := 5, cells := 0, slots := 0, locals := 116 } : Room) s m ([.ref (ga G 0), .int a1] : List Value).toArray below meth c H locs 0 0 (MQ below (qI G Q) ([.ref (ga G 0), .int a1] : List Value).toArray s 0 0 (gA G)) (F0 m 21 ls []) := by
      intro n21
      induction n21 with
      | zero => intro x2 μ H locs ls h hl hw; exact absurd hw (by unfold wp_X7_soonest_21; exact id)
      | succ n21 ih21 =>
        intro x2 μ H locs ls h hl hw
        unfold wp_X7_soonest_21 at hw
        refine lv_iload_n hx hb dX7_soonest_21 rfl (lv_at hl 2 rfl) ?_
        refine lv_bipush (v := (60 : Int32)) hx hb dX7_soonest_22 (by decide) ?_
        have s45 : ∀ (x2 : Int32) (μ : vM), ∀ (H : Heap) (locs : List Loc) (ls : Array Slot), bw G s μ H locs → lv_has ls 3 [(0, .ref (ga G 0)), (2, .int x2)] → wp_X7_soonest_45 a1 Q x2 μ → W p l e ({ frames := 5, cells := 0, slots := 0, locals := 116 } : Room) s m ([.ref (ga G 0), .int a1] : List Value).toArray below meth c H locs 0 0 (MQ below (qI G Q) ([.ref (ga G 0), .int a1] : List Value).toArray s 0 0 (gA G)) (F0 m 45 ls []) := by
          intro x2 μ H locs ls h hl hw
          unfold wp_X7_soonest_45 at hw
          refine lv_aload_n hx hb dX7_soonest_45 rfl (lv_at hl 0 rfl) ?_
          refine k_v h (n_V (rest := []) (As := []) X h hl.1 (c_X7_putsBack l G hG h0 _ _ hw) gk_X7_224 rfl hd_X7_putsBack ⟨rfl, rfl⟩ ⟨Nat.le_of_ble_eq_true rfl, Nat.le_of_ble_eq_true rfl⟩ (X7_o h0) rfl rfl (Nat.le_of_ble_eq_true rfl) dX7_soonest_46 ⟨Nat.zero_le _, Nat.zero_le _⟩) (fun μ46 H locs hw h => ?_)
          refine lv_iload_n hx hb dX7_soonest_49 rfl (lv_at hl 1 rfl) ?_
          refine lv_bipush (v := (60 : Int32)) hx hb dX7_soonest_50 (by decide) ?_
          refine lv_icmp_le (tgt := 64) hx hb dX7_soonest_52 (by decide) (fun hc => ?_) (fun hc => ?_)
          · rw [if_pos hc] at hw
            refine lv_iload_n hx hb dX7_soonest_64 rfl (lv_at hl 1 rfl) ?_
            exact r_iret X h hw dX7_soonest_65
          · rw [if_neg hc] at hw
            refine lv_aload_n hx hb dX7_soonest_55 rfl (lv_at hl 0 rfl) ?_
            refine r_ldc X (v := (-1000000002 : Int32)) ww_4_164 dX7_soonest_56 ?_
            refine k_i h (n_V (rest := []) (As := [.int (-1000000002 : Int32)]) X h hl.1 (c_X7_error l G hG (-1000000002 : Int32) h0 _ _ hw) gk_X7_104 rfl hd_X7_error ⟨rfl, rfl⟩ ⟨Nat.le_of_ble_eq_true rfl, Nat.le_of_ble_eq_true rfl⟩ (X7_o h0) rfl rfl (Nat.le_of_ble_eq_true rfl) dX7_soonest_58 ⟨Nat.zero_le _, Nat.zero_le _⟩) (fun r58 μ58 H locs hw h => ?_)
            refine lv_goto (tgt := 65) hx hb dX7_soonest_61 (by decide) ?_
            exact r_iret X h hw dX7_soonest_65
        refine lv_icmp_gt (tgt := 45) hx hb dX7_soonest_24 (by decide) (fun hc => ?_) (fun hc => ?_)
        · rw [if_pos hc] at hw
          exact s45 x2 μ _ _ _ h (lv_sub hl [0, 2] rfl) hw
        · rw [if_neg hc] at hw
          refine lv_aload_n hx hb dX7_soonest_27 rfl (lv_at hl 0 rfl) ?_
          refine lv_iload_n hx hb dX7_soonest_28 rfl (lv_at hl 1 rfl) ?_
          refine k_i h (n_V (rest := []) (As := [.int a1]) X h hl.1 (c_X7_isHome l G hG a1 h0 _ _ hw) gk_X7_69 rfl hd_X7_isHome ⟨rfl, rfl⟩ ⟨Nat.le_of_ble_eq_true rfl, Nat.le_of_ble_eq_true rfl⟩ (X7_o h0) rfl rfl (Nat.le_of_ble_eq_true rfl) dX7_soonest_29 ⟨Nat.zero_le _, Nat.zero_le _⟩) (fun r29 μ29 H locs hw h => ?_)
          refine lv_if_ne (tgt := 45) hx hb dX7_soonest_32 (by decide) (fun hc => ?_) (fun hc => ?_)
          · rw [if_neg hc] at hw
            exact s45 x2 μ29 _ _ _ h (lv_sub hl [0, 2] rfl) hw
          · rw [if_pos hc] at hw
            refine lv_aload_n hx hb dX7_soonest_35 rfl (lv_at hl 0 rfl) ?_
            refine k_v h (n_V (rest := []) (As := []) X h hl.1 (c_X7_goes l G hG h0 _ _ hw) gk_X7_204 rfl hd_X7_goes ⟨rfl, rfl⟩ ⟨Nat.le_of_ble_eq_true rfl, Nat.le_of_ble_eq_true rfl⟩ (X7_o h0) rfl rfl (Nat.le_of_ble_eq_true rfl) dX7_soonest_36 ⟨Nat.zero_le _, Nat.zero_le _⟩) (fun μ36 H locs hw h => ?_)
            obtain ⟨x2_39, ex2_39, hw⟩ := hw
            refine lv_iinc (v := x2_39) (lv' := [(2, .int x2_39), (0, .ref (ga G 0)), (1, .int a1)]) hx hb dX7_soonest_39 hl (k := 2) rfl (by rw [ex2_39]; rfl) (by decide) rfl (fun ls hl => ?_)
            refine lv_goto (tgt := 21) hx hb dX7_soonest_42 (by decide) ?_
            exact ih21 x2_39 μ36 _ _ _ h (lv_sub hl [1, 2, 0] rfl) hw
    obtain ⟨n, hw⟩ := hw
    exact s21 n (0 : Int32) μ16 _ _ _ h (lv_sub hl [1, 2, 0] rfl) hw
  · rw [if_pos hc] at hw
    refine lv_aload_n hx hb dX7_soonest_8 rfl (lv_at hl 0 rfl) ?_
    refine r_ldc X (v := (-1000000001 : Int32)) ww_4_131 dX7_soonest_9 ?_
    refine k_i h (n_V (rest := []) (As := [.int (-1000000001 : Int32)]) X h hl.1 (c_X7_error l G hG (-1000000001 : Int32) h0 _ _ hw) gk_X7_104 rfl hd_X7_error ⟨rfl, rfl⟩ ⟨Nat.le_of_ble_eq_true rfl, Nat.le_of_ble_eq_true rfl⟩ (X7_o h0) rfl rfl (Nat.le_of_ble_eq_true rfl) dX7_soonest_11 ⟨Nat.zero_le _, Nat.zero_le _⟩) (fun r11 μ11 H locs hw h => ?_)
    exact r_iret X h hw dX7_soonest_14
