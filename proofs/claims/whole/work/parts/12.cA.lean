def wp_J6_bitCount_0f7a4 (a0 : Int32) (Q : Int32 → vM → Prop) (μ : vM) : Prop := ∃ x0_9 : Int32, x0_9 = a0 - (((a0.toUInt32 >>> ((1 : Int32).toUInt32 &&& Int32.toUInt32 31)).toInt32) &&& (1431655765 : Int32)) ∧ ∃ x0_23 : Int32, x0_23 = (x0_9 &&& (858993459 : Int32)) + (((x0_9.toUInt32 >>> ((2 : Int32).toUInt32 &&& Int32.toUInt32 31)).toInt32) &&& (858993459 : Int32)) ∧ ∃ x0_33 : Int32, x0_33 = (x0_23 + ((x0_23.toUInt32 >>> ((4 : Int32).toUInt32 &&& Int32.toUInt32 31)).toInt32)) &&& (252645135 : Int32) ∧ ∃ x0_40 : Int32, x0_40 = x0_33 + ((x0_33.toUInt32 >>> ((8 : Int32).toUInt32 &&& Int32.toUInt32 31)).toInt32) ∧ ∃ x0_47 : Int32, x0_47 = x0_40 + ((x0_40.toUInt32 >>> ((16 : Int32).toUInt32 &&& Int32.toUInt32 31)).toInt32) ∧ Q (x0_47 &&& (63 : Int32)) μ
set_option maxRecDepth 100000 in
set_option maxHeartbeats 4000000 in
theorem c_J6_bitCount_0f7a4 (l : Launch) (G : vG) (hG : gO G) (a0 : Int32)  (Q : Int32 → vM → Prop) (μ : vM) (hw : wp_J6_bitCount_0f7a4 a0 Q μ) : mt l G yJ6_bitCount_0f7a4 vJ6_bitCount_0f7a4 { frames := 0, cells := 0, slots := 0, locals := 0 } [.int a0] μ (qI G Q) := by
  refine met_of (cc := cJ6_bitCount_0f7a4) (maxL := 1) (ret := (some .int)) RJ6 (by decide) rfl rfl hG (Nat.le_of_ble_eq_true rfl) ?_
  intro p e s m below meth c X h ls hl
  have hl : lv_has ls 1 [(0, .int a0)] := hl
  have hx := X.1
  have hb := X.2.1
  unfold wp_J6_bitCount_0f7a4 at hw
  refine lv_iload_n hx hb dJ6_bitCount_0f7a4_0 rfl (lv_at hl 0 rfl) ?_
  refine lv_iload_n hx hb dJ6_bitCount_0f7a4_1 rfl (lv_at hl 0 rfl) ?_
  refine lv_iconst (v := (1 : Int32)) hx hb dJ6_bitCount_0f7a4_2 (by decide) ?_
  refine lv_iushr hx hb dJ6_bitCount_0f7a4_3 rfl ?_
  refine r_ldcw X (v := (1431655765 : Int32)) ww_3_151 dJ6_bitCount_0f7a4_4 ?_
  refine lv_iand hx hb dJ6_bitCount_0f7a4_7 ?_
  refine lv_isub hx hb dJ6_bitCount_0f7a4_8 ?_
  obtain ⟨x0_9, ex0_9, hw⟩ := hw
  refine topE ex0_9 ?_
  refine lv_istore_n (lv' := [(0, .int x0_9)]) hx hb dJ6_bitCount_0f7a4_9 rfl hl (by decide) rfl (fun ls hl => ?_)
  refine lv_iload_n hx hb dJ6_bitCount_0f7a4_10 rfl (lv_at hl 0 rfl) ?_
  refine r_ldcw X (v := (858993459 : Int32)) ww_3_152 dJ6_bitCount_0f7a4_11 ?_
  refine lv_iand hx hb dJ6_bitCount_0f7a4_14 ?_
  refine lv_iload_n hx hb dJ6_bitCount_0f7a4_15 rfl (lv_at hl 0 rfl) ?_
  refine lv_iconst (v := (2 : Int32)) hx hb dJ6_bitCount_0f7a4_16 (by decide) ?_
  refine lv_iushr hx hb dJ6_bitCount_0f7a4_17 rfl ?_
  refine r_ldcw X (v := (858993459 : Int32)) ww_3_152 dJ6_bitCount_0f7a4_18 ?_
  refine lv_iand hx hb dJ6_bitCount_0f7a4_21 ?_
  refine lv_iadd hx hb dJ6_bitCount_0f7a4_22 ?_
  obtain ⟨x0_23, ex0_23, hw⟩ := hw
  refine topE ex0_23 ?_
  refine lv_istore_n (lv' := [(0, .int x0_23)]) hx hb dJ6_bitCount_0f7a4_23 rfl hl (by decide) rfl (fun ls hl => ?_)
  refine lv_iload_n hx hb dJ6_bitCount_0f7a4_24 rfl (lv_at hl 0 rfl) ?_
  refine lv_iload_n hx hb dJ6_bitCount_0f7a4_25 rfl (lv_at hl 0 rfl) ?_
  refine lv_iconst (v := (4 : Int32)) hx hb dJ6_bitCount_0f7a4_26 (by decide) ?_
  refine lv_iushr hx hb dJ6_bitCount_0f7a4_27 rfl ?_
  refine lv_iadd hx hb dJ6_bitCount_0f7a4_28 ?_
  refine r_ldcw X (v := (252645135 : Int32)) ww_3_153 dJ6_bitCount_0f7a4_29 ?_
  refine lv_iand hx hb dJ6_bitCount_0f7a4_32 ?_
  obtain ⟨x0_33, ex0_33, hw⟩ := hw
  refine topE ex0_33 ?_
  refine lv_istore_n (lv' := [(0, .int x0_33)]) hx hb dJ6_bitCount_0f7a4_33 rfl hl (by decide) rfl (fun ls hl => ?_)
  refine lv_iload_n hx hb dJ6_bitCount_0f7a4_34 rfl (lv_at hl 0 rfl) ?_
  refine lv_iload_n hx hb dJ6_bitCount_0f7a4_35 rfl (lv_at hl 0 rfl) ?_
  refine lv_bipush (v := (8 : Int32)) hx hb dJ6_bitCount_0f7a4_36 (by decide) ?_
  refine lv_iushr hx hb dJ6_bitCount_0f7a4_38 rfl ?_
  refine lv_iadd hx hb dJ6_bitCount_0f7a4_39 ?_
  obtain ⟨x0_40, ex0_40, hw⟩ := hw
  refine topE ex0_40 ?_
  refine lv_istore_n (lv' := [(0, .int x0_40)]) hx hb dJ6_bitCount_0f7a4_40 rfl hl (by decide) rfl (fun ls hl => ?_)
  refine lv_iload_n hx hb dJ6_bitCount_0f7a4_41 rfl (lv_at hl 0 rfl) ?_
  refine lv_iload_n hx hb dJ6_bitCount_0f7a4_42 rfl (lv_at hl 0 rfl) ?_
  refine lv_bipush (v := (16 : Int32)) hx hb dJ6_bitCount_0f7a4_43 (by decide) ?_
  refine lv_iushr hx hb dJ6_bitCount_0f7a4_45 rfl ?_
  refine lv_iadd hx hb dJ6_bitCount_0f7a4_46 ?_
  obtain ⟨x0_47, ex0_47, hw⟩ := hw
  refine topE ex0_47 ?_
  refine lv_istore_n (lv' := [(0, .int x0_47)]) hx hb dJ6_bitCount_0f7a4_47 rfl hl (by decide) rfl (fun ls hl => ?_)
  refine lv_iload_n hx hb dJ6_bitCount_0f7a4_48 rfl (lv_at hl 0 rfl) ?_
  refine lv_bipush (v := (63 : Int32)) hx hb dJ6_bitCount_0f7a4_49 (by decide) ?_
  refine lv_iand hx hb dJ6_bitCount_0f7a4_51 ?_
  exact r_iret X h hw dJ6_bitCount_0f7a4_52
def wp_X0_copy (j : Nat) (p1 : Nat) (Q : vM → Prop) (μ : vM) : Prop := ∃ μ5 : vM, μ5 = st μ j 0 (μ p1 0) ∧ ∃ μ13 : vM, μ13 = st μ5 j 1 (μ5 p1 1) ∧ ¬ (0 : Int32) < 0 ∧ ¬ (0 : Int32) < 0 ∧ ¬ (8 : Int32) < 0 ∧ (0 : Int32).toNatClampNeg + (8 : Int32).toNatClampNeg ≤ 8 ∧ (0 : Int32).toNatClampNeg + (8 : Int32).toNatClampNeg ≤ 8 ∧ ∃ μ28 : vM, μ28 = sa μ13 (j + 1) (va_cpy (μ13 (p1 + 1)) (μ13 (j + 1)) (0 : Int32).toNatClampNeg (0 : Int32).toNatClampNeg (8 : Int32).toNatClampNeg) ∧ ¬ (0 : Int32) < 0 ∧ ¬ (0 : Int32) < 0 ∧ ¬ (8 : Int32) < 0 ∧ (0 : Int32).toNatClampNeg + (8 : Int32).toNatClampNeg ≤ 8 ∧ (0 : Int32).toNatClampNeg + (8 : Int32).toNatClampNeg ≤ 8 ∧ ∃ μ43 : vM, μ43 = sa μ28 (j + 2) (va_cpy (μ28 (p1 + 2)) (μ28 (j + 2)) (0 : Int32).toNatClampNeg (0 : Int32).toNatClampNeg (8 : Int32).toNatClampNeg) ∧ ¬ (0 : Int32) < 0 ∧ ¬ (0 : Int32) < 0 ∧ ¬ (8 : Int32) < 0 ∧ (0 : Int32).toNatClampNeg + (8 : Int32).toNatClampNeg ≤ 8 ∧ (0 : Int32).toNatClampNeg + (8 : Int32).toNatClampNeg ≤ 8 ∧ ∃ μ58 : vM, μ58 = sa μ43 (j + 3) (va_cpy (μ43 (p1 + 3)) (μ43 (j + 3)) (0 : Int32).toNatClampNeg (0 : Int32).toNatClampNeg (8 : Int32).toNatClampNeg) ∧ ¬ (0 : Int32) < 0 ∧ ¬ (0 : Int32) < 0 ∧ ¬ (8 : Int32) < 0 ∧ (0 : Int32).toNatClampNeg + (8 : Int32).toNatClampNeg ≤ 8 ∧ (0 : Int32).toNatClampNeg + (8 : Int32).toNatClampNeg ≤ 8 ∧ ∃ μ73 : vM, μ73 = sa μ58 (j + 4) (va_cpy (μ58 (p1 + 4)) (μ58 (j + 4)) (0 : Int32).toNatClampNeg (0 : Int32).toNatClampNeg (8 : Int32).toNatClampNeg) ∧ ¬ (0 : Int32) < 0 ∧ ¬ (0 : Int32) < 0 ∧ ¬ (8 : Int32) < 0 ∧ (0 : Int32).toNatClampNeg + (8 : Int32).toNatClampNeg ≤ 8 ∧ (0 : Int32).toNatClampNeg + (8 : Int32).toNatClampNeg ≤ 8 ∧ ∃ μ88 : vM, μ88 = sa μ73 (j + 5) (va_cpy (μ73 (p1 + 5)) (μ73 (j + 5)) (0 : Int32).toNatClampNeg (0 : Int32).toNatClampNeg (8 : Int32).toNatClampNeg) ∧ ¬ (0 : Int32) < 0 ∧ ¬ (0 : Int32) < 0 ∧ ¬ (4 : Int32) < 0 ∧ (0 : Int32).toNatClampNeg + (4 : Int32).toNatClampNeg ≤ 4 ∧ (0 : Int32).toNatClampNeg + (4 : Int32).toNatClampNeg ≤ 4 ∧ ∃ μ102 : vM, μ102 = sa μ88 (j + 6) (va_cpy (μ88 (p1 + 6)) (μ88 (j + 6)) (0 : Int32).toNatClampNeg (0 : Int32).toNatClampNeg (4 : Int32).toNatClampNeg) ∧ Q μ102
set_option maxRecDepth 100000 in
set_option maxHeartbeats 4000000 in
theorem c_X0_copy (l : Launch) (G : vG) (hG : gO G) (j : Nat) (p1 : Nat) (h0 : isX0 G j) (h1 : isX0 G p1) (Q : vM → Prop) (μ : vM) (hw : wp_X0_copy j p1 Q μ) : mt l G yX0_copy vX0_copy { frames := 1, cells := 0, slots := 0, locals := 60 } [.ref (ga G j), .ref (ga G p1)] μ (qV G Q) := by
  refine met_of (cc := cX0_copy) (maxL := 2) (ret := none) RX0 (by decide) rfl rfl hG (Nat.le_of_ble_eq_true rfl) ?_
  intro p e s m below meth c X h ls hl
  have hl : lv_has ls 2 [(0, .ref (ga G j)), (1, .ref (ga G p1))] := hl
  have hx := X.1
  have hb := X.2.1
  unfold wp_X0_copy at hw
  refine lv_aload_n hx hb dX0_copy_0 rfl (lv_at hl 0 rfl) ?_
  refine lv_aload_n hx hb dX0_copy_1 rfl (lv_at hl 1 rfl) ?_
  refine r_getI X h (X0_o h1) rfl uX0 0 (by decide) lf_1_70 rfl dX0_copy_2 ?_
  obtain ⟨μ5, eμ5, hw⟩ := hw
  refine r_putI X h (X0_o h0) rfl uX0 tyX0 tyX0_ok nmX0 0 (by decide) lf_1_70 rfl rfl rfl  eμ5 dX0_copy_5 (fun H locs h => ?_)
  refine lv_aload_n hx hb dX0_copy_8 rfl (lv_at hl 0 rfl) ?_
  refine lv_aload_n hx hb dX0_copy_9 rfl (lv_at hl 1 rfl) ?_
  refine r_getI X h (X0_o h1) rfl uX0 1 (by decide) lf_1_73 rfl dX0_copy_10 ?_
  obtain ⟨μ13, eμ13, hw⟩ := hw
  refine r_putI X h (X0_o h0) rfl uX0 tyX0 tyX0_ok nmX0 1 (by decide) lf_1_73 rfl rfl rfl  eμ13 dX0_copy_13 (fun H locs h => ?_)
  refine lv_aload_n hx hb dX0_copy_16 rfl (lv_at hl 1 rfl) ?_
  refine r_getR (q := (p1 + 1)) X h (X0_o h1) rfl uX0 2 (by decide) lf_1_75 rfl dX0_copy_17 ?_
  refine lv_iconst (v := (0 : Int32)) hx hb dX0_copy_20 (by decide) ?_
  refine lv_aload_n hx hb dX0_copy_21 rfl (lv_at hl 0 rfl) ?_
  refine r_getR (q := (j + 1)) X h (X0_o h0) rfl uX0 2 (by decide) lf_1_75 rfl dX0_copy_22 ?_
  refine lv_iconst (v := (0 : Int32)) hx hb dX0_copy_25 (by decide) ?_
  refine lv_bipush (v := (8 : Int32)) hx hb dX0_copy_26 (by decide) ?_
  obtain ⟨g1, g2, g3, g4, g5, μ28, eμ28, hw⟩ := hw
  refine r_copy X hl.1 h ww_3_123 ww_2_162 ww_2_161 ww_1_10 (X0_kind h1) (X0_kind h0) g1 g2 g3 g4 g5 (Nat.le_of_ble_eq_true rfl) (Nat.le_of_ble_eq_true rfl) eμ28 dX0_copy_28 (fun H locs h => ?_)
  refine lv_aload_n hx hb dX0_copy_31 rfl (lv_at hl 1 rfl) ?_
  refine r_getR (q := (p1 + 2)) X h (X0_o h1) rfl uX0 3 (by decide) lf_1_77 rfl dX0_copy_32 ?_
  refine lv_iconst (v := (0 : Int32)) hx hb dX0_copy_35 (by decide) ?_
  refine lv_aload_n hx hb dX0_copy_36 rfl (lv_at hl 0 rfl) ?_
  refine r_getR (q := (j + 2)) X h (X0_o h0) rfl uX0 3 (by decide) lf_1_77 rfl dX0_copy_37 ?_
  refine lv_iconst (v := (0 : Int32)) hx hb dX0_copy_40 (by decide) ?_
  refine lv_bipush (v := (8 : Int32)) hx hb dX0_copy_41 (by decide) ?_
  obtain ⟨g1, g2, g3, g4, g5, μ43, eμ43, hw⟩ := hw
  refine r_copy X hl.1 h ww_3_123 ww_2_162 ww_2_161 ww_1_10 (X0_m h1) (X0_m h0) g1 g2 g3 g4 g5 (Nat.le_of_ble_eq_true rfl) (Nat.le_of_ble_eq_true rfl) eμ43 dX0_copy_43 (fun H locs h => ?_)
  refine lv_aload_n hx hb dX0_copy_46 rfl (lv_at hl 1 rfl) ?_
  refine r_getR (q := (p1 + 3)) X h (X0_o h1) rfl uX0 4 (by decide) lf_1_79 rfl dX0_copy_47 ?_
  refine lv_iconst (v := (0 : Int32)) hx hb dX0_copy_50 (by decide) ?_
  refine lv_aload_n hx hb dX0_copy_51 rfl (lv_at hl 0 rfl) ?_
  refine r_getR (q := (j + 3)) X h (X0_o h0) rfl uX0 4 (by decide) lf_1_79 rfl dX0_copy_52 ?_
  refine lv_iconst (v := (0 : Int32)) hx hb dX0_copy_55 (by decide) ?_
  refine lv_bipush (v := (8 : Int32)) hx hb dX0_copy_56 (by decide) ?_
  obtain ⟨g1, g2, g3, g4, g5, μ58, eμ58, hw⟩ := hw
  refine r_copy X hl.1 h ww_3_123 ww_2_162 ww_2_161 ww_1_10 (X0_of h1) (X0_of h0) g1 g2 g3 g4 g5 (Nat.le_of_ble_eq_true rfl) (Nat.le_of_ble_eq_true rfl) eμ58 dX0_copy_58 (fun H locs h => ?_)
  refine lv_aload_n hx hb dX0_copy_61 rfl (lv_at hl 1 rfl) ?_
  refine r_getR (q := (p1 + 4)) X h (X0_o h1) rfl uX0 5 (by decide) lf_1_81 rfl dX0_copy_62 ?_
  refine lv_iconst (v := (0 : Int32)) hx hb dX0_copy_65 (by decide) ?_
  refine lv_aload_n hx hb dX0_copy_66 rfl (lv_at hl 0 rfl) ?_
  refine r_getR (q := (j + 4)) X h (X0_o h0) rfl uX0 5 (by decide) lf_1_81 rfl dX0_copy_67 ?_
  refine lv_iconst (v := (0 : Int32)) hx hb dX0_copy_70 (by decide) ?_
  refine lv_bipush (v := (8 : Int32)) hx hb dX0_copy_71 (by decide) ?_
  obtain ⟨g1, g2, g3, g4, g5, μ73, eμ73, hw⟩ := hw
  refine r_copy X hl.1 h ww_3_123 ww_2_162 ww_2_161 ww_1_10 (X0_at h1) (X0_at h0) g1 g2 g3 g4 g5 (Nat.le_of_ble_eq_true rfl) (Nat.le_of_ble_eq_true rfl) eμ73 dX0_copy_73 (fun H locs h => ?_)
  refine lv_aload_n hx hb dX0_copy_76 rfl (lv_at hl 1 rfl) ?_
  refine r_getR (q := (p1 + 5)) X h (X0_o h1) rfl uX0 6 (by decide) lf_1_84 rfl dX0_copy_77 ?_
  refine lv_iconst (v := (0 : Int32)) hx hb dX0_copy_80 (by decide) ?_
  refine lv_aload_n hx hb dX0_copy_81 rfl (lv_at hl 0 rfl) ?_
  refine r_getR (q := (j + 5)) X h (X0_o h0) rfl uX0 6 (by decide) lf_1_84 rfl dX0_copy_82 ?_
  refine lv_iconst (v := (0 : Int32)) hx hb dX0_copy_85 (by decide) ?_
  refine lv_bipush (v := (8 : Int32)) hx hb dX0_copy_86 (by decide) ?_
  obtain ⟨g1, g2, g3, g4, g5, μ88, eμ88, hw⟩ := hw
  refine r_copy X hl.1 h ww_3_123 ww_2_162 ww_2_161 ww_1_10 (X0_heard h1) (X0_heard h0) g1 g2 g3 g4 g5 (Nat.le_of_ble_eq_true rfl) (Nat.le_of_ble_eq_true rfl) eμ88 dX0_copy_88 (fun H locs h => ?_)
  refine lv_aload_n hx hb dX0_copy_91 rfl (lv_at hl 1 rfl) ?_
  refine r_getR (q := (p1 + 6)) X h (X0_o h1) rfl uX0 7 (by decide) lf_1_87 rfl dX0_copy_92 ?_
  refine lv_iconst (v := (0 : Int32)) hx hb dX0_copy_95 (by decide) ?_
  refine lv_aload_n hx hb dX0_copy_96 rfl (lv_at hl 0 rfl) ?_
  refine r_getR (q := (j + 6)) X h (X0_o h0) rfl uX0 7 (by decide) lf_1_87 rfl dX0_copy_97 ?_
  refine lv_iconst (v := (0 : Int32)) hx hb dX0_copy_100 (by decide) ?_
  refine lv_iconst (v := (4 : Int32)) hx hb dX0_copy_101 (by decide) ?_
  obtain ⟨g1, g2, g3, g4, g5, μ102, eμ102, hw⟩ := hw
  refine r_copy X hl.1 h ww_3_123 ww_2_162 ww_2_161 ww_1_10 (X0_fieldAt h1) (X0_fieldAt h0) g1 g2 g3 g4 g5 (Nat.le_of_ble_eq_true rfl) (Nat.le_of_ble_eq_true rfl) eμ102 dX0_copy_102 (fun H locs h => ?_)
  exact r_vret X h hw dX0_copy_105
def wp_X0_grow (j : Nat) (a1 : Int32) (a2 : Int32) (a3 : Int32) (Q : Int32 → vM → Prop) (μ : vM) : Prop := ∃ x4_4 : Int32, x4_4 = μ j 0 ∧ vp_in x4_4 8 ∧ ∃ μ16 : vM, μ16 = st μ (j + 1) x4_4.toNatClampNeg (a1 / (10 : Int32)) ∧ vp_in x4_4 8 ∧ ∃ μ27 : vM, μ27 = st μ16 (j + 2) x4_4.toNatClampNeg (a1 % (10 : Int32)) ∧ vp_in x4_4 8 ∧ ∃ μ35 : vM, μ35 = st μ27 (j + 3) x4_4.toNatClampNeg a2 ∧ vp_in x4_4 8 ∧ ∃ μ43 : vM, μ43 = st μ35 (j + 4) x4_4.toNatClampNeg a3 ∧ vp_in x4_4 8 ∧ ∃ μ51 : vM, μ51 = st μ43 (j + 5) x4_4.toNatClampNeg (0 : Int32) ∧ ∃ μ59 : vM, μ59 = st μ51 j 0 ((μ51 j 0) + (1 : Int32)) ∧ Q x4_4 μ59
set_option maxRecDepth 100000 in
set_option maxHeartbeats 4000000 in
theorem c_X0_grow (l : Launch) (G : vG) (hG : gO G) (j : Nat) (a1 : Int32) (a2 : Int32) (a3 : Int32) (h0 : isX0 G j) (Q : Int32 → vM → Prop) (μ : vM) (hw : wp_X0_grow j a1 a2 a3 Q μ) : mt l G yX0_grow vX0_grow { frames := 0, cells := 0, slots := 0, locals := 0 } [.ref (ga G j), .int a1, .int a2, .int a3] μ (qI G Q) := by
  refine met_of (cc := cX0_grow) (maxL := 5) (ret := (some .int)) RX0 (by decide) rfl rfl hG (Nat.le_of_ble_eq_true rfl) ?_
  intro p e s m below meth c X h ls hl
  have hl : lv_has ls 5 [(0, .ref (ga G j)), (1, .int a1), (2, .int a2), (3, .int a3)] := hl
  have hx := X.1
  have hb := X.2.1
  unfold wp_X0_grow at hw
  refine lv_aload_n hx hb dX0_grow_0 rfl (lv_at hl 0 rfl) ?_
  refine r_getI X h (X0_o h0) rfl uX0 0 (by decide) lf_1_70 rfl dX0_grow_1 ?_
  obtain ⟨x4_4, ex4_4, hw⟩ := hw
  refine topE ex4_4 ?_
  refine lv_istore (lv' := [(4, .int x4_4), (0, .ref (ga G j)), (1, .int a1), (2, .int a2), (3, .int a3)]) hx hb dX0_grow_4 hl (by decide) rfl (fun ls hl => ?_)
  refine lv_aload_n hx hb dX0_grow_6 rfl (lv_at hl 1 rfl) ?_
  refine r_getR (q := (j + 1)) X h (X0_o h0) rfl uX0 2 (by decide) lf_1_75 rfl dX0_grow_7 ?_
  refine lv_iload hx hb dX0_grow_10 (lv_at hl 0 rfl) ?_
  refine lv_iload_n hx hb dX0_grow_12 rfl (lv_at hl 2 rfl) ?_
  refine lv_bipush (v := (10 : Int32)) hx hb dX0_grow_13 (by decide) ?_
  refine lv_idiv hx hb dX0_grow_15 (by decide) ?_
  obtain ⟨hi, μ16, eμ16, hw⟩ := hw
  refine r_ast X h (X0_kind h0) hi eμ16 dX0_grow_16 (fun H locs h => ?_)
  refine lv_aload_n hx hb dX0_grow_17 rfl (lv_at hl 1 rfl) ?_
  refine r_getR (q := (j + 2)) X h (X0_o h0) rfl uX0 3 (by decide) lf_1_77 rfl dX0_grow_18 ?_
  refine lv_iload hx hb dX0_grow_21 (lv_at hl 0 rfl) ?_
  refine lv_iload_n hx hb dX0_grow_23 rfl (lv_at hl 2 rfl) ?_
  refine lv_bipush (v := (10 : Int32)) hx hb dX0_grow_24 (by decide) ?_
  refine r_irem hx hb dX0_grow_26 (by decide) ?_
  obtain ⟨hi, μ27, eμ27, hw⟩ := hw
  refine r_ast X h (X0_m h0) hi eμ27 dX0_grow_27 (fun H locs h => ?_)
  refine lv_aload_n hx hb dX0_grow_28 rfl (lv_at hl 1 rfl) ?_
  refine r_getR (q := (j + 3)) X h (X0_o h0) rfl uX0 4 (by decide) lf_1_79 rfl dX0_grow_29 ?_
  refine lv_iload hx hb dX0_grow_32 (lv_at hl 0 rfl) ?_
  refine lv_iload_n hx hb dX0_grow_34 rfl (lv_at hl 3 rfl) ?_
  obtain ⟨hi, μ35, eμ35, hw⟩ := hw
  refine r_ast X h (X0_of h0) hi eμ35 dX0_grow_35 (fun H locs h => ?_)
  refine lv_aload_n hx hb dX0_grow_36 rfl (lv_at hl 1 rfl) ?_
  refine r_getR (q := (j + 4)) X h (X0_o h0) rfl uX0 5 (by decide) lf_1_81 rfl dX0_grow_37 ?_
  refine lv_iload hx hb dX0_grow_40 (lv_at hl 0 rfl) ?_
  refine lv_iload_n hx hb dX0_grow_42 rfl (lv_at hl 4 rfl) ?_
  obtain ⟨hi, μ43, eμ43, hw⟩ := hw
  refine r_ast X h (X0_at h0) hi eμ43 dX0_grow_43 (fun H locs h => ?_)
  refine lv_aload_n hx hb dX0_grow_44 rfl (lv_at hl 1 rfl) ?_
  refine r_getR (q := (j + 5)) X h (X0_o h0) rfl uX0 6 (by decide) lf_1_84 rfl dX0_grow_45 ?_
  refine lv_iload hx hb dX0_grow_48 (lv_at hl 0 rfl) ?_
  refine lv_iconst (v := (0 : Int32)) hx hb dX0_grow_50 (by decide) ?_
  obtain ⟨hi, μ51, eμ51, hw⟩ := hw
  refine r_ast X h (X0_heard h0) hi eμ51 dX0_grow_51 (fun H locs h => ?_)
  refine lv_aload_n hx hb dX0_grow_52 rfl (lv_at hl 1 rfl) ?_
  refine lv_dup hx hb dX0_grow_53 rfl ?_
  refine r_getI X h (X0_o h0) rfl uX0 0 (by decide) lf_1_70 rfl dX0_grow_54 ?_
  refine lv_iconst (v := (1 : Int32)) hx hb dX0_grow_57 (by decide) ?_
  refine lv_iadd hx hb dX0_grow_58 ?_
  obtain ⟨μ59, eμ59, hw⟩ := hw
  refine r_putI X h (X0_o h0) rfl uX0 tyX0 tyX0_ok nmX0 0 (by decide) lf_1_70 rfl rfl rfl  eμ59 dX0_grow_59 (fun H locs h => ?_)
  refine lv_iload hx hb dX0_grow_62 (lv_at hl 0 rfl) ?_
  exact r_iret X h hw dX0_grow_64
def wp_X0_goal (j : Nat) (a1 : Int32) (Q : Int32 → vM → Prop) (μ : vM) : Prop := vp_in a1 8 ∧ vp_in (μ (j + 3) a1.toNatClampNeg) 4 ∧ Q (μ (j + 6) (μ (j + 3) a1.toNatClampNeg).toNatClampNeg) μ
set_option maxRecDepth 100000 in
set_option maxHeartbeats 4000000 in
theorem c_X0_goal (l : Launch) (G : vG) (hG : gO G) (j : Nat) (a1 : Int32) (h0 : isX0 G j) (Q : Int32 → vM → Prop) (μ : vM) (hw : wp_X0_goal j a1 Q μ) : mt l G yX0_goal vX0_goal { frames := 0, cells := 0, slots := 0, locals := 0 } [.ref (ga G j), .int a1] μ (qI G Q) := by
  refine met_of (cc := cX0_goal) (maxL := 2) (ret := (some .int)) RX0 (by decide) rfl rfl hG (Nat.le_of_ble_eq_true rfl) ?_
  intro p e s m below meth c X h ls hl
  have hl : lv_has ls 2 [(0, .ref (ga G j)), (1, .int a1)] := hl
  have hx := X.1
  have hb := X.2.1
  unfold wp_X0_goal at hw
  refine lv_aload_n hx hb dX0_goal_0 rfl (lv_at hl 0 rfl) ?_
  refine r_getR (q := (j + 6)) X h (X0_o h0) rfl uX0 7 (by decide) lf_1_87 rfl dX0_goal_1 ?_
  refine lv_aload_n hx hb dX0_goal_4 rfl (lv_at hl 0 rfl) ?_
  refine r_getR (q := (j + 3)) X h (X0_o h0) rfl uX0 4 (by decide) lf_1_79 rfl dX0_goal_5 ?_
  refine lv_iload_n hx hb dX0_goal_8 rfl (lv_at hl 1 rfl) ?_
  obtain ⟨hi, hw⟩ := hw
  refine r_ald X h (X0_of h0) hi dX0_goal_9 ?_
  obtain ⟨hi, hw⟩ := hw
  refine r_ald X h (X0_fieldAt h0) hi dX0_goal_10 ?_
  exact r_iret X h hw dX0_goal_11
def wp_X0_isHome (j : Nat) (a1 : Int32) (Q : Int32 → vM → Prop) (μ : vM) : Prop := vp_in a1 8 ∧ wp_X0_goal j a1 (fun r8 μ8 => if (μ (j + 4) a1.toNatClampNeg) = r8 then Q (1 : Int32) μ8 else Q (0 : Int32) μ8) μ
set_option maxRecDepth 100000 in
set_option maxHeartbeats 4000000 in
theorem c_X0_isHome (l : Launch) (G : vG) (hG : gO G) (j : Nat) (a1 : Int32) (h0 : isX0 G j) (Q : Int32 → vM → Prop) (μ : vM) (hw : wp_X0_isHome j a1 Q μ) : mt l G yX0_isHome vX0_isHome { frames := 1, cells := 0, slots := 0, locals := 21 } [.ref (ga G j), .int a1] μ (qI G Q) := by
  refine met_of (cc := cX0_isHome) (maxL := 2) (ret := (some .boolean)) RX0 (by decide) rfl rfl hG (Nat.le_of_ble_eq_true rfl) ?_
  intro p e s m below meth c X h ls hl
  have hl : lv_has ls 2 [(0, .ref (ga G j)), (1, .int a1)] := hl
  have hx := X.1
  have hb := X.2.1
  unfold wp_X0_isHome at hw
  refine lv_aload_n hx hb dX0_isHome_0 rfl (lv_at hl 0 rfl) ?_
  refine r_getR (q := (j + 4)) X h (X0_o h0) rfl uX0 5 (by decide) lf_1_81 rfl dX0_isHome_1 ?_
  refine lv_iload_n hx hb dX0_isHome_4 rfl (lv_at hl 1 rfl) ?_
  obtain ⟨hi, hw⟩ := hw
  refine r_ald X h (X0_at h0) hi dX0_isHome_5 ?_
  refine lv_aload_n hx hb dX0_isHome_6 rfl (lv_at hl 0 rfl) ?_
  refine lv_iload_n hx hb dX0_isHome_7 rfl (lv_at hl 1 rfl) ?_
  refine k_i h (n_V (rest := [.int (μ (j + 4) a1.toNatClampNeg)]) (As := [.int a1]) X h hl.1 (c_X0_goal l G hG j a1 h0 _ _ hw) gk_X0_43 rfl hd_X0_goal ⟨rfl, rfl⟩ ⟨Nat.le_of_ble_eq_true rfl, Nat.le_of_ble_eq_true rfl⟩ (X0_o h0) rfl rfl (Nat.le_of_ble_eq_true rfl) dX0_isHome_8 ⟨Nat.zero_le _, Nat.zero_le _⟩) (fun r8 μ8 H locs hw h => ?_)
  refine lv_icmp_ne (tgt := 18) hx hb dX0_isHome_11 (by decide) (fun hc => ?_) (fun hc => ?_)
  · rw [if_neg hc] at hw
    refine lv_iconst (v := (0 : Int32)) hx hb dX0_isHome_18 (by decide) ?_
    exact r_zret X h (Or.inl rfl) hw dX0_isHome_19
  · rw [if_pos hc] at hw
    refine lv_iconst (v := (1 : Int32)) hx hb dX0_isHome_14 (by decide) ?_
    refine lv_goto (tgt := 19) hx hb dX0_isHome_15 (by decide) ?_
    exact r_zret X h (Or.inr rfl) hw dX0_isHome_19
def wp_X0_homeSet_26 (j : Nat) (Q : Int32 → vM → Prop) (k4 : Int32 → Int32 → vM → Prop) (x1 : Int32) (x2 : Int32) (μ : vM) : Prop := ∃ x2_26 : Int32, x2_26 = x2 + (1 : Int32) ∧ k4 x1 x2_26 μ
def wp_X0_homeSet_4 (j : Nat) (Q : Int32 → vM → Prop) : Nat → Int32 → Int32 → vM → Prop
  | 0, _, _, _ => False
  | n4 + 1, x1, x2, μ => if (μ j 0) ≤ x2 then Q x1 μ else wp_X0_isHome j x2 (fun r14 μ14 => if r14 = 0 then wp_X0_homeSet_26 j Q (fun x1 x2 μ => wp_X0_homeSet_4 j Q n4 x1 x2 μ) x1 x2 μ14 else ∃ x1_25 : Int32, x1_25 = x1 ||| ((1 : Int32) <<< (x2 &&& 31)) ∧ wp_X0_homeSet_26 j Q (fun x1 x2 μ => wp_X0_homeSet_4 j Q n4 x1 x2 μ) x1_25 x2 μ14) μ
def wp_X0_homeSet (j : Nat) (Q : Int32 → vM → Prop) (μ : vM) : Prop := ∃ n4, wp_X0_homeSet_4 j Q n4 (0 : Int32) (0 : Int32) μ
set_option maxRecDepth 100000 in
set_option maxHeartbeats 4000000 in
theorem c_X0_homeSet (l : Launch) (G : vG) (hG : gO G) (j : Nat) (h0 : isX0 G j) (Q : Int32 → vM → Prop) (μ : vM) (hw : wp_X0_homeSet j Q μ) : mt l G yX0_homeSet vX0_homeSet { frames := 2, cells := 0, slots := 0, locals := 42 } [.ref (ga G j)] μ (qI G Q) := by
  refine met_of (cc := cX0_homeSet) (maxL := 3) (ret := (some .int)) RX0 (by decide) rfl rfl hG (Nat.le_of_ble_eq_true rfl) ?_
  intro p e s m below meth c X h ls hl
  have hl : lv_has ls 3 [(0, .ref (ga G j))] := hl
  have hx := X.1
  have hb := X.2.1
  unfold wp_X0_homeSet at hw
  refine lv_iconst (v := (0 : Int32)) hx hb dX0_homeSet_0 (by decide) ?_
  refine lv_istore_n (lv' := [(1, .int (0 : Int32)), (0, .ref (ga G j))]) hx hb dX0_homeSet_1 rfl hl (by decide) rfl (fun ls hl => ?_)
  refine lv_iconst (v := (0 : Int32)) hx hb dX0_homeSet_2 (by decide) ?_
  refine lv_istore_n (lv' := [(2, .int (0 : Int32)), (1, .int (0 : Int32)), (0, .ref (ga G j))]) hx hb dX0_homeSet_3 rfl hl (by decide) rfl (fun ls hl => ?_)
  have s4 : ∀ (n4 : Nat) (x1 : Int32) (x2 : Int32) (μ : vM), ∀ (H : Heap) (locs : List Loc) (ls : Array Slot), bw G s μ H locs → lv_has ls 3 [(0, .ref (ga G j)), (1, .int x1), (2, .int x2)] → wp_X0_homeSet_4 j Q n4 x1 x2 μ → W p l e ({ frames := 2, cells := 0, slots := 0, locals := 42 } : Room) s m ([.ref (ga G j)] : List Value).toArray below meth c H locs 0 0 (MQ below (qI G Q) ([.ref (ga G j)] : List Value).toArray s 0 0 (gA G)) (F0 m 4 ls []) := by
    intro n4
    induction n4 with
    | zero => intro x1 x2 μ H locs ls h hl hw; exact absurd hw (by unfold wp_X0_homeSet_4; exact id)
    | succ n4 ih4 =>
      intro x1 x2 μ H locs ls h hl hw
      unfold wp_X0_homeSet_4 at hw
      refine lv_iload_n hx hb dX0_homeSet_4 rfl (lv_at hl 2 rfl) ?_
      refine lv_aload_n hx hb dX0_homeSet_5 rfl (lv_at hl 0 rfl) ?_
      refine r_getI X h (X0_o h0) rfl uX0 0 (by decide) lf_1_70 rfl dX0_homeSet_6 ?_
      refine lv_icmp_ge (tgt := 32) hx hb dX0_homeSet_9 (by decide) (fun hc => ?_) (fun hc => ?_)
      · rw [if_pos hc] at hw
        refine lv_iload_n hx hb dX0_homeSet_32 rfl (lv_at hl 1 rfl) ?_
        exact r_iret X h hw dX0_homeSet_33
      · rw [if_neg hc] at hw
        refine lv_aload_n hx hb dX0_homeSet_12 rfl (lv_at hl 0 rfl) ?_
        refine lv_iload_n hx hb dX0_homeSet_13 rfl (lv_at hl 2 rfl) ?_
        refine k_i h (n_V (rest := []) (As := [.int x2]) X h hl.1 (c_X0_isHome l G hG j x2 h0 _ _ hw) gk_X0_47 rfl hd_X0_isHome ⟨rfl, rfl⟩ ⟨Nat.le_of_ble_eq_true rfl, Nat.le_of_ble_eq_true rfl⟩ (X0_o h0) rfl rfl (Nat.le_of_ble_eq_true rfl) dX0_homeSet_14 ⟨Nat.zero_le _, Nat.zero_le _⟩) (fun r14 μ14 H locs hw h => ?_)
        have s26 : ∀ (x1 : Int32) (x2 : Int32) (μ : vM), ∀ (H : Heap) (locs : List Loc) (ls : Array Slot), bw G s μ H locs → lv_has ls 3 [(0, .ref (ga G j)), (1, .int x1), (2, .int x2)] → wp_X0_homeSet_26 j Q (fun x1 x2 μ => wp_X0_homeSet_4 j Q n4 x1 x2 μ) x1 x2 μ → W p l e ({ frames := 2, cells := 0, slots := 0, locals := 42 } : Room) s m ([.ref (ga G j)] : List Value).toArray below meth c H locs 0 0 (MQ below (qI G Q) ([.ref (ga G j)] : List Value).toArray s 0 0 (gA G)) (F0 m 26 ls []) := by
          intro x1 x2 μ H locs ls h hl hw
          unfold wp_X0_homeSet_26 at hw
          obtain ⟨x2_26, ex2_26, hw⟩ := hw
          refine lv_iinc (v := x2_26) (lv' := [(2, .int x2_26), (0, .ref (ga G j)), (1, .int x1)]) hx hb dX0_homeSet_26 hl (k := 2) rfl (by rw [ex2_26]; rfl) (by decide) rfl (fun ls hl => ?_)
          refine lv_goto (tgt := 4) hx hb dX0_homeSet_29 (by decide) ?_
          exact ih4 x1 x2_26 μ _ _ _ h (lv_sub hl [1, 2, 0] rfl) hw
        refine lv_if_eq (tgt := 26) hx hb dX0_homeSet_17 (by decide) (fun hc => ?_) (fun hc => ?_)
        · rw [if_pos hc] at hw
          exact s26 x1 x2 μ14 _ _ _ h (lv_sub hl [0, 1, 2] rfl) hw
        · rw [if_neg hc] at hw
          refine lv_iload_n hx hb dX0_homeSet_20 rfl (lv_at hl 1 rfl) ?_
          refine lv_iconst (v := (1 : Int32)) hx hb dX0_homeSet_21 (by decide) ?_
          refine lv_iload_n hx hb dX0_homeSet_22 rfl (lv_at hl 2 rfl) ?_
          refine lv_ishl hx hb dX0_homeSet_23 ?_
          refine lv_ior hx hb dX0_homeSet_24 ?_
          obtain ⟨x1_25, ex1_25, hw⟩ := hw
          refine topE ex1_25 ?_
          refine lv_istore_n (lv' := [(1, .int x1_25), (0, .ref (ga G j)), (2, .int x2)]) hx hb dX0_homeSet_25 rfl hl (by decide) rfl (fun ls hl => ?_)
          exact s26 x1_25 x2 μ14 _ _ _ h (lv_sub hl [1, 0, 2] rfl) hw
  obtain ⟨n, hw⟩ := hw
  exact s4 n (0 : Int32) (0 : Int32) μ _ _ _ h (lv_sub hl [2, 1, 0] rfl) hw
def wp_X0_awaySet_36 (j : Nat) (a1 : Int32) (Q : Int32 → vM → Prop) (k4 : Int32 → Int32 → vM → Prop) (x2 : Int32) (x3 : Int32) (μ : vM) : Prop := ∃ x3_36 : Int32, x3_36 = x3 + (1 : Int32) ∧ k4 x2 x3_36 μ
def wp_X0_awaySet_4 (j : Nat) (a1 : Int32) (Q : Int32 → vM → Prop) : Nat → Int32 → Int32 → vM → Prop
  | 0, _, _, _ => False
  | n4 + 1, x2, x3, μ => if (μ j 0) ≤ x3 then Q x2 μ else vp_in x3 8 ∧ if (μ (j + 3) x3.toNatClampNeg) = a1 then wp_X0_isHome j x3 (fun r24 μ24 => if r24 = 0 then ∃ x2_35 : Int32, x2_35 = x2 ||| ((1 : Int32) <<< (x3 &&& 31)) ∧ wp_X0_awaySet_36 j a1 Q (fun x2 x3 μ => wp_X0_awaySet_4 j a1 Q n4 x2 x3 μ) x2_35 x3 μ24 else wp_X0_awaySet_36 j a1 Q (fun x2 x3 μ => wp_X0_awaySet_4 j a1 Q n4 x2 x3 μ) x2 x3 μ24) μ else wp_X0_awaySet_36 j a1 Q (fun x2 x3 μ => wp_X0_awaySet_4 j a1 Q n4 x2 x3 μ) x2 x3 μ
def wp_X0_awaySet (j : Nat) (a1 : Int32) (Q : Int32 → vM → Prop) (μ : vM) : Prop := ∃ n4, wp_X0_awaySet_4 j a1 Q n4 (0 : Int32) (0 : Int32) μ
set_option maxRecDepth 100000 in
set_option maxHeartbeats 4000000 in
theorem c_X0_awaySet (l : Launch) (G : vG) (hG : gO G) (j : Nat) (a1 : Int32) (h0 : isX0 G j) (Q : Int32 → vM → Prop) (μ : vM) (hw : wp_X0_awaySet j a1 Q μ) : mt l G yX0_awaySet vX0_awaySet { frames := 2, cells := 0, slots := 0, locals := 42 } [.ref (ga G j), .int a1] μ (qI G Q) := by
  refine met_of (cc := cX0_awaySet) (maxL := 4) (ret := (some .int)) RX0 (by decide) rfl rfl hG (Nat.le_of_ble_eq_true rfl) ?_
  intro p e s m below meth c X h ls hl
  have hl : lv_has ls 4 [(0, .ref (ga G j)), (1, .int a1)] := hl
  have hx := X.1
  have hb := X.2.1
  unfold wp_X0_awaySet at hw
  refine lv_iconst (v := (0 : Int32)) hx hb dX0_awaySet_0 (by decide) ?_
  refine lv_istore_n (lv' := [(2, .int (0 : Int32)), (0, .ref (ga G j)), (1, .int a1)]) hx hb dX0_awaySet_1 rfl hl (by decide) rfl (fun ls hl => ?_)
  refine lv_iconst (v := (0 : Int32)) hx hb dX0_awaySet_2 (by decide) ?_
  refine lv_istore_n (lv' := [(3, .int (0 : Int32)), (2, .int (0 : Int32)), (0, .ref (ga G j)), (1, .int a1)]) hx hb dX0_awaySet_3 rfl hl (by decide) rfl (fun ls hl => ?_)
  have s4 : ∀ (n4 : Nat) (x2 : Int32) (x3 : Int32) (μ : vM), ∀ (H : Heap) (locs : List Loc) (ls : Array Slot), bw G s μ H locs → lv_has ls 4 [(0, .ref (ga G j)), (1, .int a1), (2, .int x2), (3, .int x3)] → wp_X0_awaySet_4 j a1 Q n4 x2 x3 μ → W p l e ({ frames := 2, cells := 0, slots := 0, locals := 42 } : Room) s m ([.ref (ga G j), .int a1] : List Value).toArray below meth c H locs 0 0 (MQ below (qI G Q) ([.ref (ga G j), .int a1] : List Value).toArray s 0 0 (gA G)) (F0 m 4 ls []) := by
    intro n4
    induction n4 with
    | zero => intro x2 x3 μ H locs ls h hl hw; exact absurd hw (by unfold wp_X0_awaySet_4; exact id)
    | succ n4 ih4 =>
      intro x2 x3 μ H locs ls h hl hw
      unfold wp_X0_awaySet_4 at hw
      refine lv_iload_n hx hb dX0_awaySet_4 rfl (lv_at hl 3 rfl) ?_
      refine lv_aload_n hx hb dX0_awaySet_5 rfl (lv_at hl 0 rfl) ?_
      refine r_getI X h (X0_o h0) rfl uX0 0 (by decide) lf_1_70 rfl dX0_awaySet_6 ?_
      refine lv_icmp_ge (tgt := 42) hx hb dX0_awaySet_9 (by decide) (fun hc => ?_) (fun hc => ?_)
      · rw [if_pos hc] at hw
        refine lv_iload_n hx hb dX0_awaySet_42 rfl (lv_at hl 2 rfl) ?_
        exact r_iret X h hw dX0_awaySet_43
      · rw [if_neg hc] at hw
        refine lv_aload_n hx hb dX0_awaySet_12 rfl (lv_at hl 0 rfl) ?_
        refine r_getR (q := (j + 3)) X h (X0_o h0) rfl uX0 4 (by decide) lf_1_79 rfl dX0_awaySet_13 ?_
        refine lv_iload_n hx hb dX0_awaySet_16 rfl (lv_at hl 3 rfl) ?_
        obtain ⟨hi, hw⟩ := hw
        refine r_ald X h (X0_of h0) hi dX0_awaySet_17 ?_
        refine lv_iload_n hx hb dX0_awaySet_18 rfl (lv_at hl 1 rfl) ?_
        have s36 : ∀ (x2 : Int32) (x3 : Int32) (μ : vM), ∀ (H : Heap) (locs : List Loc) (ls : Array Slot), bw G s μ H locs → lv_has ls 4 [(0, .ref (ga G j)), (1, .int a1), (2, .int x2), (3, .int x3)] → wp_X0_awaySet_36 j a1 Q (fun x2 x3 μ => wp_X0_awaySet_4 j a1 Q n4 x2 x3 μ) x2 x3 μ → W p l e ({ frames := 2, cells := 0, slots := 0, locals := 42 } : Room) s m ([.ref (ga G j), .int a1] : List Value).toArray below meth c H locs 0 0 (MQ below (qI G Q) ([.ref (ga G j), .int a1] : List Value).toArray s 0 0 (gA G)) (F0 m 36 ls []) := by
          intro x2 x3 μ H locs ls h hl hw
          unfold wp_X0_awaySet_36 at hw
          obtain ⟨x3_36, ex3_36, hw⟩ := hw
          refine lv_iinc (v := x3_36) (lv' := [(3, .int x3_36), (0, .ref (ga G j)), (1, .int a1), (2, .int x2)]) hx hb dX0_awaySet_36 hl (k := 3) rfl (by rw [ex3_36]; rfl) (by decide) rfl (fun ls hl => ?_)
          refine lv_goto (tgt := 4) hx hb dX0_awaySet_39 (by decide) ?_
          exact ih4 x2 x3_36 μ _ _ _ h (lv_sub hl [1, 2, 3, 0] rfl) hw
        refine lv_icmp_ne (tgt := 36) hx hb dX0_awaySet_19 (by decide) (fun hc => ?_) (fun hc => ?_)
        · rw [if_neg hc] at hw
          exact s36 x2 x3 μ _ _ _ h (lv_sub hl [0, 1, 2, 3] rfl) hw
        · rw [if_pos hc] at hw
          refine lv_aload_n hx hb dX0_awaySet_22 rfl (lv_at hl 0 rfl) ?_
          refine lv_iload_n hx hb dX0_awaySet_23 rfl (lv_at hl 3 rfl) ?_
          refine k_i h (n_V (rest := []) (As := [.int x3]) X h hl.1 (c_X0_isHome l G hG j x3 h0 _ _ hw) gk_X0_47 rfl hd_X0_isHome ⟨rfl, rfl⟩ ⟨Nat.le_of_ble_eq_true rfl, Nat.le_of_ble_eq_true rfl⟩ (X0_o h0) rfl rfl (Nat.le_of_ble_eq_true rfl) dX0_awaySet_24 ⟨Nat.zero_le _, Nat.zero_le _⟩) (fun r24 μ24 H locs hw h => ?_)
          refine lv_if_ne (tgt := 36) hx hb dX0_awaySet_27 (by decide) (fun hc => ?_) (fun hc => ?_)
          · rw [if_neg hc] at hw
            exact s36 x2 x3 μ24 _ _ _ h (lv_sub hl [0, 1, 2, 3] rfl) hw
          · rw [if_pos hc] at hw
            refine lv_iload_n hx hb dX0_awaySet_30 rfl (lv_at hl 2 rfl) ?_
            refine lv_iconst (v := (1 : Int32)) hx hb dX0_awaySet_31 (by decide) ?_
            refine lv_iload_n hx hb dX0_awaySet_32 rfl (lv_at hl 3 rfl) ?_
            refine lv_ishl hx hb dX0_awaySet_33 ?_
            refine lv_ior hx hb dX0_awaySet_34 ?_
            obtain ⟨x2_35, ex2_35, hw⟩ := hw
            refine topE ex2_35 ?_
            refine lv_istore_n (lv' := [(2, .int x2_35), (0, .ref (ga G j)), (1, .int a1), (3, .int x3)]) hx hb dX0_awaySet_35 rfl hl (by decide) rfl (fun ls hl => ?_)
            exact s36 x2_35 x3 μ24 _ _ _ h (lv_sub hl [1, 2, 0, 3] rfl) hw
  obtain ⟨n, hw⟩ := hw
  exact s4 n (0 : Int32) (0 : Int32) μ _ _ _ h (lv_sub hl [2, 3, 1, 0] rfl) hw
def wp_X0_hasCompany_47 (j : Nat) (a1 : Int32) (Q : Int32 → vM → Prop) (k2 : Int32 → vM → Prop) (x2 : Int32) (μ : vM) : Prop := ∃ x2_47 : Int32, x2_47 = x2 + (1 : Int32) ∧ k2 x2_47 μ
def wp_X0_hasCompany_2 (j : Nat) (a1 : Int32) (Q : Int32 → vM → Prop) : Nat → Int32 → vM → Prop
  | 0, _, _ => False
  | n2 + 1, x2, μ => if (μ j 0) ≤ x2 then Q (0 : Int32) μ else if x2 = a1 then wp_X0_hasCompany_47 j a1 Q (fun x2 μ => wp_X0_hasCompany_2 j a1 Q n2 x2 μ) x2 μ else vp_in x2 8 ∧ vp_in a1 8 ∧ if (μ (j + 3) x2.toNatClampNeg) = (μ (j + 3) a1.toNatClampNeg) then vp_in x2 8 ∧ vp_in a1 8 ∧ if (μ (j + 4) x2.toNatClampNeg) = (μ (j + 4) a1.toNatClampNeg) then Q (1 : Int32) μ else wp_X0_hasCompany_47 j a1 Q (fun x2 μ => wp_X0_hasCompany_2 j a1 Q n2 x2 μ) x2 μ else wp_X0_hasCompany_47 j a1 Q (fun x2 μ => wp_X0_hasCompany_2 j a1 Q n2 x2 μ) x2 μ
def wp_X0_hasCompany (j : Nat) (a1 : Int32) (Q : Int32 → vM → Prop) (μ : vM) : Prop := ∃ n2, wp_X0_hasCompany_2 j a1 Q n2 (0 : Int32) μ
set_option maxRecDepth 100000 in
set_option maxHeartbeats 4000000 in
theorem c_X0_hasCompany (l : Launch) (G : vG) (hG : gO G) (j : Nat) (a1 : Int32) (h0 : isX0 G j) (Q : Int32 → vM → Prop) (μ : vM) (hw : wp_X0_hasCompany j a1 Q μ) : mt l G yX0_hasCompany vX0_hasCompany { frames := 0, cells := 0, slots := 0, locals := 0 } [.ref (ga G j), .int a1] μ (qI G Q) := by
  refine met_of (cc := cX0_hasCompany) (maxL := 3) (ret := (some .boolean)) RX0 (by decide) rfl rfl hG (Nat.le_of_ble_eq_true rfl) ?_
  intro p e s m below meth c X h ls hl
  have hl : lv_has ls 3 [(0, .ref (ga G j)), (1, .int a1)] := hl
  have hx := X.1
  have hb := X.2.1
  unfold wp_X0_hasCompany at hw
  refine lv_iconst (v := (0 : Int32)) hx hb dX0_hasCompany_0 (by decide) ?_
  refine lv_istore_n (lv' := [(2, .int (0 : Int32)), (0, .ref (ga G j)), (1, .int a1)]) hx hb dX0_hasCompany_1 rfl hl (by decide) rfl (fun ls hl => ?_)
  have s2 : ∀ (n2 : Nat) (x2 : Int32) (μ : vM), ∀ (H : Heap) (locs : List Loc) (ls : Array Slot), bw G s μ H locs → lv_has ls 3 [(0, .ref (ga G j)), (1, .int a1), (2, .int x2)] → wp_X0_hasCompany_2 j a1 Q n2 x2 μ → W p l e ({ frames := 0, cells := 0, slots := 0, locals := 0 } : Room) s m ([.ref (ga G j), .int a1] : List Value).toArray below meth c H locs 0 0 (MQ below (qI G Q) ([.ref (ga G j), .int a1] : List Value).toArray s 0 0 (gA G)) (F0 m 2 ls []) := by
    intro n2
    induction n2 with
    | zero => intro x2 μ H locs ls h hl hw; exact absurd hw (by unfold wp_X0_hasCompany_2; exact id)
    | succ n2 ih2 =>
      intro x2 μ H locs ls h hl hw
      unfold wp_X0_hasCompany_2 at hw
      refine lv_iload_n hx hb dX0_hasCompany_2 rfl (lv_at hl 2 rfl) ?_
      refine lv_aload_n hx hb dX0_hasCompany_3 rfl (lv_at hl 0 rfl) ?_
      refine r_getI X h (X0_o h0) rfl uX0 0 (by decide) lf_1_70 rfl dX0_hasCompany_4 ?_
      refine lv_icmp_ge (tgt := 53) hx hb dX0_hasCompany_7 (by decide) (fun hc => ?_) (fun hc => ?_)
      · rw [if_pos hc] at hw
        refine lv_iconst (v := (0 : Int32)) hx hb dX0_hasCompany_53 (by decide) ?_
        exact r_zret X h (Or.inl rfl) hw dX0_hasCompany_54
      · rw [if_neg hc] at hw
        refine lv_iload_n hx hb dX0_hasCompany_10 rfl (lv_at hl 2 rfl) ?_
        refine lv_iload_n hx hb dX0_hasCompany_11 rfl (lv_at hl 1 rfl) ?_
        have s47 : ∀ (x2 : Int32) (μ : vM), ∀ (H : Heap) (locs : List Loc) (ls : Array Slot), bw G s μ H locs → lv_has ls 3 [(0, .ref (ga G j)), (1, .int a1), (2, .int x2)] → wp_X0_hasCompany_47 j a1 Q (fun x2 μ => wp_X0_hasCompany_2 j a1 Q n2 x2 μ) x2 μ → W p l e ({ frames := 0, cells := 0, slots := 0, locals := 0 } : Room) s m ([.ref (ga G j), .int a1] : List Value).toArray below meth c H locs 0 0 (MQ below (qI G Q) ([.ref (ga G j), .int a1] : List Value).toArray s 0 0 (gA G)) (F0 m 47 ls []) := by
          intro x2 μ H locs ls h hl hw
          unfold wp_X0_hasCompany_47 at hw
          obtain ⟨x2_47, ex2_47, hw⟩ := hw
          refine lv_iinc (v := x2_47) (lv' := [(2, .int x2_47), (0, .ref (ga G j)), (1, .int a1)]) hx hb dX0_hasCompany_47 hl (k := 2) rfl (by rw [ex2_47]; rfl) (by decide) rfl (fun ls hl => ?_)
          refine lv_goto (tgt := 2) hx hb dX0_hasCompany_50 (by decide) ?_
          exact ih2 x2_47 μ _ _ _ h (lv_sub hl [1, 2, 0] rfl) hw
        refine lv_icmp_eq (tgt := 47) hx hb dX0_hasCompany_12 (by decide) (fun hc => ?_) (fun hc => ?_)
        · rw [if_pos hc] at hw
          exact s47 x2 μ _ _ _ h (lv_sub hl [0, 1, 2] rfl) hw
        · rw [if_neg hc] at hw
          refine lv_aload_n hx hb dX0_hasCompany_15 rfl (lv_at hl 0 rfl) ?_
          refine r_getR (q := (j + 3)) X h (X0_o h0) rfl uX0 4 (by decide) lf_1_79 rfl dX0_hasCompany_16 ?_
          refine lv_iload_n hx hb dX0_hasCompany_19 rfl (lv_at hl 2 rfl) ?_
          obtain ⟨hi, hw⟩ := hw
          refine r_ald X h (X0_of h0) hi dX0_hasCompany_20 ?_
          refine lv_aload_n hx hb dX0_hasCompany_21 rfl (lv_at hl 0 rfl) ?_
          refine r_getR (q := (j + 3)) X h (X0_o h0) rfl uX0 4 (by decide) lf_1_79 rfl dX0_hasCompany_22 ?_
          refine lv_iload_n hx hb dX0_hasCompany_25 rfl (lv_at hl 1 rfl) ?_
          obtain ⟨hi, hw⟩ := hw
          refine r_ald X h (X0_of h0) hi dX0_hasCompany_26 ?_
          refine lv_icmp_ne (tgt := 47) hx hb dX0_hasCompany_27 (by decide) (fun hc => ?_) (fun hc => ?_)
          · rw [if_neg hc] at hw
            exact s47 x2 μ _ _ _ h (lv_sub hl [0, 1, 2] rfl) hw
          · rw [if_pos hc] at hw
            refine lv_aload_n hx hb dX0_hasCompany_30 rfl (lv_at hl 0 rfl) ?_
            refine r_getR (q := (j + 4)) X h (X0_o h0) rfl uX0 5 (by decide) lf_1_81 rfl dX0_hasCompany_31 ?_
            refine lv_iload_n hx hb dX0_hasCompany_34 rfl (lv_at hl 2 rfl) ?_
            obtain ⟨hi, hw⟩ := hw
            refine r_ald X h (X0_at h0) hi dX0_hasCompany_35 ?_
            refine lv_aload_n hx hb dX0_hasCompany_36 rfl (lv_at hl 0 rfl) ?_
            refine r_getR (q := (j + 4)) X h (X0_o h0) rfl uX0 5 (by decide) lf_1_81 rfl dX0_hasCompany_37 ?_
            refine lv_iload_n hx hb dX0_hasCompany_40 rfl (lv_at hl 1 rfl) ?_
            obtain ⟨hi, hw⟩ := hw
            refine r_ald X h (X0_at h0) hi dX0_hasCompany_41 ?_
            refine lv_icmp_ne (tgt := 47) hx hb dX0_hasCompany_42 (by decide) (fun hc => ?_) (fun hc => ?_)
            · rw [if_neg hc] at hw
              exact s47 x2 μ _ _ _ h (lv_sub hl [0, 1, 2] rfl) hw
            · rw [if_pos hc] at hw
              refine lv_iconst (v := (1 : Int32)) hx hb dX0_hasCompany_45 (by decide) ?_
              exact r_zret X h (Or.inr rfl) hw dX0_hasCompany_46
  obtain ⟨n, hw⟩ := hw
  exact s2 n (0 : Int32) μ _ _ _ h (lv_sub hl [1, 2, 0] rfl) hw
def wp_X0_walks_113 (j : Nat) (a1 : Int32) (Q : Int32 → vM → Prop)  (μ : vM) : Prop := Q (1 : Int32) μ
def wp_X0_walks_39 (j : Nat) (a1 : Int32) (Q : Int32 → vM → Prop) (x2 : Int32) (t0 : Int32) (μ : vM) : Prop := vp_in a1 8 ∧ if (μ (j + 1) a1.toNatClampNeg) = (0 : Int32) then Q (1 : Int32) μ else if (μ (j + 1) a1.toNatClampNeg) = (1 : Int32) then Q x2 μ else if (μ (j + 1) a1.toNatClampNeg) = (2 : Int32) then Q t0 μ else if (μ (j + 1) a1.toNatClampNeg) = (3 : Int32) then vp_in a1 8 ∧ if (6 : Int32) < (μ (j + 2) a1.toNatClampNeg) then wp_X0_walks_113 j a1 Q μ else wp_X0_hasCompany j a1 (fun r107 μ107 => if r107 = 0 then Q (0 : Int32) μ107 else wp_X0_walks_113 j a1 Q μ107) μ else if (μ (j + 1) a1.toNatClampNeg) = (4 : Int32) then if ((μ j 1) % (3 : Int32)) = 0 then Q (x2 + (1 : Int32)) μ else Q (x2 + (0 : Int32)) μ else if (μ (j + 1) a1.toNatClampNeg) = (5 : Int32) then Q (t0 + (1 : Int32)) μ else if (μ (j + 1) a1.toNatClampNeg) = (6 : Int32) then vp_in a1 8 ∧ if (μ (j + 2) a1.toNatClampNeg) = (9 : Int32) then Q (1 : Int32) μ else Q (0 : Int32) μ else Q (0 : Int32) μ
def wp_X0_walks_14 (j : Nat) (a1 : Int32) (Q : Int32 → vM → Prop) (t0 : Int32) (μ : vM) : Prop := vp_in a1 8 ∧ wp_X0_walks_39 j a1 Q t0 (if ((μ j 1) % (7 : Int32)) = ((μ (j + 2) a1.toNatClampNeg) % (7 : Int32)) then (2 : Int32) else (0 : Int32)) μ
def wp_X0_walks (j : Nat) (a1 : Int32) (Q : Int32 → vM → Prop) (μ : vM) : Prop := wp_X0_walks_14 j a1 Q (if ((μ j 1) % (2 : Int32)) = 0 then (1 : Int32) else (0 : Int32)) μ
set_option maxRecDepth 100000 in
set_option maxHeartbeats 4000000 in
theorem c_X0_walks (l : Launch) (G : vG) (hG : gO G) (j : Nat) (a1 : Int32) (h0 : isX0 G j) (Q : Int32 → vM → Prop) (μ : vM) (hw : wp_X0_walks j a1 Q μ) : mt l G yX0_walks vX0_walks { frames := 1, cells := 0, slots := 0, locals := 22 } [.ref (ga G j), .int a1] μ (qI G Q) := by
  refine met_of (cc := cX0_walks) (maxL := 4) (ret := (some .int)) RX0 (by decide) rfl rfl hG (Nat.le_of_ble_eq_true rfl) ?_
  intro p e s m below meth c X h ls hl
  have hl : lv_has ls 4 [(0, .ref (ga G j)), (1, .int a1)] := hl
  have hx := X.1
  have hb := X.2.1
  unfold wp_X0_walks at hw
  refine lv_aload_n hx hb dX0_walks_0 rfl (lv_at hl 0 rfl) ?_
  refine r_getI X h (X0_o h0) rfl uX0 1 (by decide) lf_1_73 rfl dX0_walks_1 ?_
  refine lv_iconst (v := (2 : Int32)) hx hb dX0_walks_4 (by decide) ?_
  refine r_irem hx hb dX0_walks_5 (by decide) ?_
  have s14 : ∀ (t0 : Int32) (μ : vM), ∀ (H : Heap) (locs : List Loc) (ls : Array Slot), bw G s μ H locs → lv_has ls 4 [(0, .ref (ga G j)), (1, .int a1)] → wp_X0_walks_14 j a1 Q t0 μ → W p l e ({ frames := 1, cells := 0, slots := 0, locals := 22 } : Room) s m ([.ref (ga G j), .int a1] : List Value).toArray below meth c H locs 0 0 (MQ below (qI G Q) ([.ref (ga G j), .int a1] : List Value).toArray s 0 0 (gA G)) (F0 m 14 ls [.int t0]) := by
    intro t0 μ H locs ls h hl hw
    unfold wp_X0_walks_14 at hw
    refine lv_istore_n (lv' := [(2, .int t0), (0, .ref (ga G j)), (1, .int a1)]) hx hb dX0_walks_14 rfl hl (by decide) rfl (fun ls hl => ?_)
    refine lv_aload_n hx hb dX0_walks_15 rfl (lv_at hl 1 rfl) ?_
    refine r_getI X h (X0_o h0) rfl uX0 1 (by decide) lf_1_73 rfl dX0_walks_16 ?_
    refine lv_bipush (v := (7 : Int32)) hx hb dX0_walks_19 (by decide) ?_
    refine r_irem hx hb dX0_walks_21 (by decide) ?_
    refine lv_aload_n hx hb dX0_walks_22 rfl (lv_at hl 1 rfl) ?_
    refine r_getR (q := (j + 2)) X h (X0_o h0) rfl uX0 3 (by decide) lf_1_77 rfl dX0_walks_23 ?_
    refine lv_iload_n hx hb dX0_walks_26 rfl (lv_at hl 2 rfl) ?_
    obtain ⟨hi, hw⟩ := hw
    refine r_ald X h (X0_m h0) hi dX0_walks_27 ?_
    refine lv_bipush (v := (7 : Int32)) hx hb dX0_walks_28 (by decide) ?_
    refine r_irem hx hb dX0_walks_30 (by decide) ?_
    have s39 : ∀ (x2 : Int32) (t0 : Int32) (μ : vM), ∀ (H : Heap) (locs : List Loc) (ls : Array Slot), bw G s μ H locs → lv_has ls 4 [(0, .ref (ga G j)), (1, .int a1), (2, .int x2)] → wp_X0_walks_39 j a1 Q x2 t0 μ → W p l e ({ frames := 1, cells := 0, slots := 0, locals := 22 } : Room) s m ([.ref (ga G j), .int a1] : List Value).toArray below meth c H locs 0 0 (MQ below (qI G Q) ([.ref (ga G j), .int a1] : List Value).toArray s 0 0 (gA G)) (F0 m 39 ls [.int t0]) := by
      intro x2 t0 μ H locs ls h hl hw
      unfold wp_X0_walks_39 at hw
      refine lv_istore_n (lv' := [(3, .int t0), (0, .ref (ga G j)), (1, .int a1), (2, .int x2)]) hx hb dX0_walks_39 rfl hl (by decide) rfl (fun ls hl => ?_)
      refine lv_aload_n hx hb dX0_walks_40 rfl (lv_at hl 1 rfl) ?_
      refine r_getR (q := (j + 1)) X h (X0_o h0) rfl uX0 2 (by decide) lf_1_75 rfl dX0_walks_41 ?_
      refine lv_iload_n hx hb dX0_walks_44 rfl (lv_at hl 2 rfl) ?_
      obtain ⟨hi, hw⟩ := hw
      refine r_ald X h (X0_kind h0) hi dX0_walks_45 ?_
      by_cases hc0 : (μ (j + 1) a1.toNatClampNeg) = (0 : Int32)
      · rw [if_pos hc0] at hw
        refine lv_tableIn (off := 42) (tgt := 88) hx hb dX0_walks_46 (by rw [hc0]; decide) (by rw [hc0]; decide) (by rw [hc0]; rfl) (by decide) ?_
        refine lv_iconst (v := (1 : Int32)) hx hb dX0_walks_88 (by decide) ?_
        exact r_iret X h hw dX0_walks_89
      · rw [if_neg hc0] at hw
        by_cases hc1 : (μ (j + 1) a1.toNatClampNeg) = (1 : Int32)
        · rw [if_pos hc1] at hw
          refine lv_tableIn (off := 44) (tgt := 90) hx hb dX0_walks_46 (by rw [hc1]; decide) (by rw [hc1]; decide) (by rw [hc1]; rfl) (by decide) ?_
          refine lv_iload_n hx hb dX0_walks_90 rfl (lv_at hl 3 rfl) ?_
          exact r_iret X h hw dX0_walks_91
        · rw [if_neg hc1] at hw
          by_cases hc2 : (μ (j + 1) a1.toNatClampNeg) = (2 : Int32)
          · rw [if_pos hc2] at hw
            refine lv_tableIn (off := 46) (tgt := 92) hx hb dX0_walks_46 (by rw [hc2]; decide) (by rw [hc2]; decide) (by rw [hc2]; rfl) (by decide) ?_
            refine lv_iload_n hx hb dX0_walks_92 rfl (lv_at hl 0 rfl) ?_
            exact r_iret X h hw dX0_walks_93
          · rw [if_neg hc2] at hw
            by_cases hc3 : (μ (j + 1) a1.toNatClampNeg) = (3 : Int32)
            · rw [if_pos hc3] at hw
              refine lv_tableIn (off := 48) (tgt := 94) hx hb dX0_walks_46 (by rw [hc3]; decide) (by rw [hc3]; decide) (by rw [hc3]; rfl) (by decide) ?_
              refine lv_aload_n hx hb dX0_walks_94 rfl (lv_at hl 1 rfl) ?_
              refine r_getR (q := (j + 2)) X h (X0_o h0) rfl uX0 3 (by decide) lf_1_77 rfl dX0_walks_95 ?_
              refine lv_iload_n hx hb dX0_walks_98 rfl (lv_at hl 2 rfl) ?_
              obtain ⟨hi, hw⟩ := hw
              refine r_ald X h (X0_m h0) hi dX0_walks_99 ?_
              refine lv_bipush (v := (6 : Int32)) hx hb dX0_walks_100 (by decide) ?_
              have s113 : ∀  (μ : vM), ∀ (H : Heap) (locs : List Loc) (ls : Array Slot), bw G s μ H locs → lv_has ls 4 [] → wp_X0_walks_113 j a1 Q μ → W p l e ({ frames := 1, cells := 0, slots := 0, locals := 22 } : Room) s m ([.ref (ga G j), .int a1] : List Value).toArray below meth c H locs 0 0 (MQ below (qI G Q) ([.ref (ga G j), .int a1] : List Value).toArray s 0 0 (gA G)) (F0 m 113 ls []) := by
                intro  μ H locs ls h hl hw
                unfold wp_X0_walks_113 at hw
                refine lv_iconst (v := (1 : Int32)) hx hb dX0_walks_113 (by decide) ?_
                refine lv_goto (tgt := 118) hx hb dX0_walks_114 (by decide) ?_
                exact r_iret X h hw dX0_walks_118
              refine lv_icmp_gt (tgt := 113) hx hb dX0_walks_102 (by decide) (fun hc => ?_) (fun hc => ?_)
              · rw [if_pos hc] at hw
                exact s113 μ _ _ _ h (lv_sub hl [] rfl) hw
              · rw [if_neg hc] at hw
                refine lv_aload_n hx hb dX0_walks_105 rfl (lv_at hl 1 rfl) ?_
                refine lv_iload_n hx hb dX0_walks_106 rfl (lv_at hl 2 rfl) ?_
                refine k_i h (n_V (rest := []) (As := [.int a1]) X h hl.1 (c_X0_hasCompany l G hG j a1 h0 _ _ hw) gk_X0_51 rfl hd_X0_hasCompany ⟨rfl, rfl⟩ ⟨Nat.le_of_ble_eq_true rfl, Nat.le_of_ble_eq_true rfl⟩ (X0_o h0) rfl rfl (Nat.le_of_ble_eq_true rfl) dX0_walks_107 ⟨Nat.zero_le _, Nat.zero_le _⟩) (fun r107 μ107 H locs hw h => ?_)
                refine lv_if_eq (tgt := 117) hx hb dX0_walks_110 (by decide) (fun hc => ?_) (fun hc => ?_)
                · rw [if_pos hc] at hw
                  refine lv_iconst (v := (0 : Int32)) hx hb dX0_walks_117 (by decide) ?_
                  exact r_iret X h hw dX0_walks_118
                · rw [if_neg hc] at hw
                  exact s113 μ107 _ _ _ h (lv_sub hl [] rfl) hw
            · rw [if_neg hc3] at hw
              by_cases hc4 : (μ (j + 1) a1.toNatClampNeg) = (4 : Int32)
              · rw [if_pos hc4] at hw
                refine lv_tableIn (off := 73) (tgt := 119) hx hb dX0_walks_46 (by rw [hc4]; decide) (by rw [hc4]; decide) (by rw [hc4]; rfl) (by decide) ?_
                refine lv_iload_n hx hb dX0_walks_119 rfl (lv_at hl 3 rfl) ?_
                refine lv_aload_n hx hb dX0_walks_120 rfl (lv_at hl 1 rfl) ?_
                refine r_getI X h (X0_o h0) rfl uX0 1 (by decide) lf_1_73 rfl dX0_walks_121 ?_
                refine lv_iconst (v := (3 : Int32)) hx hb dX0_walks_124 (by decide) ?_
                refine r_irem hx hb dX0_walks_125 (by decide) ?_
                refine lv_if_ne (tgt := 133) hx hb dX0_walks_126 (by decide) (fun hc => ?_) (fun hc => ?_)
                · rw [if_neg hc] at hw
                  refine lv_iconst (v := (0 : Int32)) hx hb dX0_walks_133 (by decide) ?_
                  refine lv_iadd hx hb dX0_walks_134 ?_
                  exact r_iret X h hw dX0_walks_135
                · rw [if_pos hc] at hw
                  refine lv_iconst (v := (1 : Int32)) hx hb dX0_walks_129 (by decide) ?_
                  refine lv_goto (tgt := 134) hx hb dX0_walks_130 (by decide) ?_
                  refine lv_iadd hx hb dX0_walks_134 ?_
                  exact r_iret X h hw dX0_walks_135
              · rw [if_neg hc4] at hw
                by_cases hc5 : (μ (j + 1) a1.toNatClampNeg) = (5 : Int32)
                · rw [if_pos hc5] at hw
                  refine lv_tableIn (off := 90) (tgt := 136) hx hb dX0_walks_46 (by rw [hc5]; decide) (by rw [hc5]; decide) (by rw [hc5]; rfl) (by decide) ?_
                  refine lv_iload_n hx hb dX0_walks_136 rfl (lv_at hl 0 rfl) ?_
                  refine lv_iconst (v := (1 : Int32)) hx hb dX0_walks_137 (by decide) ?_
                  refine lv_iadd hx hb dX0_walks_138 ?_
                  exact r_iret X h hw dX0_walks_139
                · rw [if_neg hc5] at hw
                  by_cases hc6 : (μ (j + 1) a1.toNatClampNeg) = (6 : Int32)
                  · rw [if_pos hc6] at hw
                    refine lv_tableIn (off := 94) (tgt := 140) hx hb dX0_walks_46 (by rw [hc6]; decide) (by rw [hc6]; decide) (by rw [hc6]; rfl) (by decide) ?_
                    refine lv_aload_n hx hb dX0_walks_140 rfl (lv_at hl 1 rfl) ?_
                    refine r_getR (q := (j + 2)) X h (X0_o h0) rfl uX0 3 (by decide) lf_1_77 rfl dX0_walks_141 ?_
                    refine lv_iload_n hx hb dX0_walks_144 rfl (lv_at hl 2 rfl) ?_
                    obtain ⟨hi, hw⟩ := hw
                    refine r_ald X h (X0_m h0) hi dX0_walks_145 ?_
                    refine lv_bipush (v := (9 : Int32)) hx hb dX0_walks_146 (by decide) ?_
                    refine lv_icmp_ne (tgt := 155) hx hb dX0_walks_148 (by decide) (fun hc => ?_) (fun hc => ?_)
                    · rw [if_neg hc] at hw
                      refine lv_iconst (v := (0 : Int32)) hx hb dX0_walks_155 (by decide) ?_
                      exact r_iret X h hw dX0_walks_156
                    · rw [if_pos hc] at hw
                      refine lv_iconst (v := (1 : Int32)) hx hb dX0_walks_151 (by decide) ?_
                      refine lv_goto (tgt := 156) hx hb dX0_walks_152 (by decide) ?_
                      exact r_iret X h hw dX0_walks_156
                  · rw [if_neg hc6] at hw
                    refine lv_tableOut (tgt := 157) hx hb dX0_walks_46 (by have q0 := lv_neT hc0 (a := 0) (by decide); have q1 := lv_neT hc1 (a := 1) (by decide); have q2 := lv_neT hc2 (a := 2) (by decide); have q3 := lv_neT hc3 (a := 3) (by decide); have q4 := lv_neT hc4 (a := 4) (by decide); have q5 := lv_neT hc5 (a := 5) (by decide); have q6 := lv_neT hc6 (a := 6) (by decide); omega) (by decide) ?_
                    refine lv_iconst (v := (0 : Int32)) hx hb dX0_walks_157 (by decide) ?_
                    exact r_iret X h hw dX0_walks_158
    refine lv_icmp_ne (tgt := 38) hx hb dX0_walks_31 (by decide) (fun hc => ?_) (fun hc => ?_)
    · rw [if_neg hc] at hw
      refine lv_iconst (v := (0 : Int32)) hx hb dX0_walks_38 (by decide) ?_
      exact s39 t0 (0 : Int32) μ _ _ _ h (lv_sub hl [1, 2, 0] rfl) hw
    · rw [if_pos hc] at hw
      refine lv_iconst (v := (2 : Int32)) hx hb dX0_walks_34 (by decide) ?_
      refine lv_goto (tgt := 39) hx hb dX0_walks_35 (by decide) ?_
      exact s39 t0 (2 : Int32) μ _ _ _ h (lv_sub hl [1, 2, 0] rfl) hw
  refine lv_if_ne (tgt := 13) hx hb dX0_walks_6 (by decide) (fun hc => ?_) (fun hc => ?_)
  · rw [if_neg hc] at hw
    refine lv_iconst (v := (0 : Int32)) hx hb dX0_walks_13 (by decide) ?_
    exact s14 (0 : Int32) μ _ _ _ h (lv_sub hl [0, 1] rfl) hw
  · rw [if_pos hc] at hw
    refine lv_iconst (v := (1 : Int32)) hx hb dX0_walks_9 (by decide) ?_
    refine lv_goto (tgt := 14) hx hb dX0_walks_10 (by decide) ?_
    exact s14 (1 : Int32) μ _ _ _ h (lv_sub hl [0, 1] rfl) hw
def wp_X0_weighs_34 (j : Nat) (a1 : Int32) (Q : Int32 → vM → Prop) (x2 : Int32) (x3 : Int32) (t0 : Int32) (μ : vM) : Prop := vp_in a1 8 ∧ if (μ (j + 1) a1.toNatClampNeg) = (0 : Int32) then Q x2 μ else if (μ (j + 1) a1.toNatClampNeg) = (1 : Int32) then Q x3 μ else if (μ (j + 1) a1.toNatClampNeg) = (2 : Int32) then Q t0 μ else if (μ (j + 1) a1.toNatClampNeg) = (3 : Int32) then Q (x2 / (2 : Int32)) μ else if (μ (j + 1) a1.toNatClampNeg) = (4 : Int32) then Q (x3 + (5 : Int32)) μ else if (μ (j + 1) a1.toNatClampNeg) = (5 : Int32) then vp_in a1 8 ∧ Q (((2 : Int32) * t0) + (μ (j + 2) a1.toNatClampNeg)) μ else if (μ (j + 1) a1.toNatClampNeg) = (6 : Int32) then Q ((3 : Int32) * x2) μ else Q (0 : Int32) μ
def wp_X0_weighs (j : Nat) (a1 : Int32) (Q : Int32 → vM → Prop) (μ : vM) : Prop := vp_in a1 8 ∧ ∃ x2_9 : Int32, x2_9 = (10 : Int32) + (μ (j + 2) a1.toNatClampNeg) ∧ vp_in a1 8 ∧ ∃ x3_18 : Int32, x3_18 = x2_9 + (μ (j + 5) a1.toNatClampNeg) ∧ vp_in a1 8 ∧ wp_X0_weighs_34 j a1 Q x2_9 x3_18 (if (μ (j + 5) a1.toNatClampNeg) ≤ (4 : Int32) then (0 : Int32) else x2_9) μ
set_option maxRecDepth 100000 in
set_option maxHeartbeats 4000000 in
theorem c_X0_weighs (l : Launch) (G : vG) (hG : gO G) (j : Nat) (a1 : Int32) (h0 : isX0 G j) (Q : Int32 → vM → Prop) (μ : vM) (hw : wp_X0_weighs j a1 Q μ) : mt l G yX0_weighs vX0_weighs { frames := 0, cells := 0, slots := 0, locals := 0 } [.ref (ga G j), .int a1] μ (qI G Q) := by
  refine met_of (cc := cX0_weighs) (maxL := 5) (ret := (some .int)) RX0 (by decide) rfl rfl hG (Nat.le_of_ble_eq_true rfl) ?_
  intro p e s m below meth c X h ls hl
  have hl : lv_has ls 5 [(0, .ref (ga G j)), (1, .int a1)] := hl
  have hx := X.1
  have hb := X.2.1
  unfold wp_X0_weighs at hw
  refine lv_bipush (v := (10 : Int32)) hx hb dX0_weighs_0 (by decide) ?_
  refine lv_aload_n hx hb dX0_weighs_2 rfl (lv_at hl 0 rfl) ?_
  refine r_getR (q := (j + 2)) X h (X0_o h0) rfl uX0 3 (by decide) lf_1_77 rfl dX0_weighs_3 ?_
  refine lv_iload_n hx hb dX0_weighs_6 rfl (lv_at hl 1 rfl) ?_
  obtain ⟨hi, hw⟩ := hw
  refine r_ald X h (X0_m h0) hi dX0_weighs_7 ?_
  refine lv_iadd hx hb dX0_weighs_8 ?_
  obtain ⟨x2_9, ex2_9, hw⟩ := hw
  refine topE ex2_9 ?_
  refine lv_istore_n (lv' := [(2, .int x2_9), (0, .ref (ga G j)), (1, .int a1)]) hx hb dX0_weighs_9 rfl hl (by decide) rfl (fun ls hl => ?_)
  refine lv_iload_n hx hb dX0_weighs_10 rfl (lv_at hl 0 rfl) ?_
  refine lv_aload_n hx hb dX0_weighs_11 rfl (lv_at hl 1 rfl) ?_
  refine r_getR (q := (j + 5)) X h (X0_o h0) rfl uX0 6 (by decide) lf_1_84 rfl dX0_weighs_12 ?_
  refine lv_iload_n hx hb dX0_weighs_15 rfl (lv_at hl 2 rfl) ?_
  obtain ⟨hi, hw⟩ := hw
  refine r_ald X h (X0_heard h0) hi dX0_weighs_16 ?_
  refine lv_iadd hx hb dX0_weighs_17 ?_
  obtain ⟨x3_18, ex3_18, hw⟩ := hw
  refine topE ex3_18 ?_
  refine lv_istore_n (lv' := [(3, .int x3_18), (2, .int x2_9), (0, .ref (ga G j)), (1, .int a1)]) hx hb dX0_weighs_18 rfl hl (by decide) rfl (fun ls hl => ?_)
  refine lv_aload_n hx hb dX0_weighs_19 rfl (lv_at hl 2 rfl) ?_
  refine r_getR (q := (j + 5)) X h (X0_o h0) rfl uX0 6 (by decide) lf_1_84 rfl dX0_weighs_20 ?_
  refine lv_iload_n hx hb dX0_weighs_23 rfl (lv_at hl 3 rfl) ?_
  obtain ⟨hi, hw⟩ := hw
  refine r_ald X h (X0_heard h0) hi dX0_weighs_24 ?_
  refine lv_iconst (v := (4 : Int32)) hx hb dX0_weighs_25 (by decide) ?_
  have s34 : ∀ (x2 : Int32) (x3 : Int32) (t0 : Int32) (μ : vM), ∀ (H : Heap) (locs : List Loc) (ls : Array Slot), bw G s μ H locs → lv_has ls 5 [(0, .ref (ga G j)), (1, .int a1), (2, .int x2), (3, .int x3)] → wp_X0_weighs_34 j a1 Q x2 x3 t0 μ → W p l e ({ frames := 0, cells := 0, slots := 0, locals := 0 } : Room) s m ([.ref (ga G j), .int a1] : List Value).toArray below meth c H locs 0 0 (MQ below (qI G Q) ([.ref (ga G j), .int a1] : List Value).toArray s 0 0 (gA G)) (F0 m 34 ls [.int t0]) := by
    intro x2 x3 t0 μ H locs ls h hl hw
    unfold wp_X0_weighs_34 at hw
    refine lv_istore (lv' := [(4, .int t0), (0, .ref (ga G j)), (1, .int a1), (2, .int x2), (3, .int x3)]) hx hb dX0_weighs_34 hl (by decide) rfl (fun ls hl => ?_)
    refine lv_aload_n hx hb dX0_weighs_36 rfl (lv_at hl 1 rfl) ?_
    refine r_getR (q := (j + 1)) X h (X0_o h0) rfl uX0 2 (by decide) lf_1_75 rfl dX0_weighs_37 ?_
    refine lv_iload_n hx hb dX0_weighs_40 rfl (lv_at hl 2 rfl) ?_
    obtain ⟨hi, hw⟩ := hw
    refine r_ald X h (X0_kind h0) hi dX0_weighs_41 ?_
    by_cases hc0 : (μ (j + 1) a1.toNatClampNeg) = (0 : Int32)
    · rw [if_pos hc0] at hw
      refine lv_tableIn (off := 42) (tgt := 84) hx hb dX0_weighs_42 (by rw [hc0]; decide) (by rw [hc0]; decide) (by rw [hc0]; rfl) (by decide) ?_
      refine lv_iload_n hx hb dX0_weighs_84 rfl (lv_at hl 3 rfl) ?_
      exact r_iret X h hw dX0_weighs_85
    · rw [if_neg hc0] at hw
      by_cases hc1 : (μ (j + 1) a1.toNatClampNeg) = (1 : Int32)
      · rw [if_pos hc1] at hw
        refine lv_tableIn (off := 44) (tgt := 86) hx hb dX0_weighs_42 (by rw [hc1]; decide) (by rw [hc1]; decide) (by rw [hc1]; rfl) (by decide) ?_
        refine lv_iload_n hx hb dX0_weighs_86 rfl (lv_at hl 4 rfl) ?_
        exact r_iret X h hw dX0_weighs_87
      · rw [if_neg hc1] at hw
        by_cases hc2 : (μ (j + 1) a1.toNatClampNeg) = (2 : Int32)
        · rw [if_pos hc2] at hw
          refine lv_tableIn (off := 46) (tgt := 88) hx hb dX0_weighs_42 (by rw [hc2]; decide) (by rw [hc2]; decide) (by rw [hc2]; rfl) (by decide) ?_
          refine lv_iload hx hb dX0_weighs_88 (lv_at hl 0 rfl) ?_
          exact r_iret X h hw dX0_weighs_90
        · rw [if_neg hc2] at hw
          by_cases hc3 : (μ (j + 1) a1.toNatClampNeg) = (3 : Int32)
          · rw [if_pos hc3] at hw
            refine lv_tableIn (off := 49) (tgt := 91) hx hb dX0_weighs_42 (by rw [hc3]; decide) (by rw [hc3]; decide) (by rw [hc3]; rfl) (by decide) ?_
            refine lv_iload_n hx hb dX0_weighs_91 rfl (lv_at hl 3 rfl) ?_
            refine lv_iconst (v := (2 : Int32)) hx hb dX0_weighs_92 (by decide) ?_
            refine lv_idiv hx hb dX0_weighs_93 (by decide) ?_
            exact r_iret X h hw dX0_weighs_94
          · rw [if_neg hc3] at hw
            by_cases hc4 : (μ (j + 1) a1.toNatClampNeg) = (4 : Int32)
            · rw [if_pos hc4] at hw
              refine lv_tableIn (off := 53) (tgt := 95) hx hb dX0_weighs_42 (by rw [hc4]; decide) (by rw [hc4]; decide) (by rw [hc4]; rfl) (by decide) ?_
              refine lv_iload_n hx hb dX0_weighs_95 rfl (lv_at hl 4 rfl) ?_
              refine lv_iconst (v := (5 : Int32)) hx hb dX0_weighs_96 (by decide) ?_
              refine lv_iadd hx hb dX0_weighs_97 ?_
              exact r_iret X h hw dX0_weighs_98
            · rw [if_neg hc4] at hw
              by_cases hc5 : (μ (j + 1) a1.toNatClampNeg) = (5 : Int32)
              · rw [if_pos hc5] at hw
                refine lv_tableIn (off := 57) (tgt := 99) hx hb dX0_weighs_42 (by rw [hc5]; decide) (by rw [hc5]; decide) (by rw [hc5]; rfl) (by decide) ?_
                refine lv_iconst (v := (2 : Int32)) hx hb dX0_weighs_99 (by decide) ?_
                refine lv_iload hx hb dX0_weighs_100 (lv_at hl 0 rfl) ?_
                refine lv_imul hx hb dX0_weighs_102 ?_
                refine lv_aload_n hx hb dX0_weighs_103 rfl (lv_at hl 1 rfl) ?_
                refine r_getR (q := (j + 2)) X h (X0_o h0) rfl uX0 3 (by decide) lf_1_77 rfl dX0_weighs_104 ?_
                refine lv_iload_n hx hb dX0_weighs_107 rfl (lv_at hl 2 rfl) ?_
                obtain ⟨hi, hw⟩ := hw
                refine r_ald X h (X0_m h0) hi dX0_weighs_108 ?_
                refine lv_iadd hx hb dX0_weighs_109 ?_
                exact r_iret X h hw dX0_weighs_110
              · rw [if_neg hc5] at hw
                by_cases hc6 : (μ (j + 1) a1.toNatClampNeg) = (6 : Int32)
                · rw [if_pos hc6] at hw
                  refine lv_tableIn (off := 69) (tgt := 111) hx hb dX0_weighs_42 (by rw [hc6]; decide) (by rw [hc6]; decide) (by rw [hc6]; rfl) (by decide) ?_
                  refine lv_iconst (v := (3 : Int32)) hx hb dX0_weighs_111 (by decide) ?_
                  refine lv_iload_n hx hb dX0_weighs_112 rfl (lv_at hl 3 rfl) ?_
                  refine lv_imul hx hb dX0_weighs_113 ?_
                  exact r_iret X h hw dX0_weighs_114
                · rw [if_neg hc6] at hw
                  refine lv_tableOut (tgt := 115) hx hb dX0_weighs_42 (by have q0 := lv_neT hc0 (a := 0) (by decide); have q1 := lv_neT hc1 (a := 1) (by decide); have q2 := lv_neT hc2 (a := 2) (by decide); have q3 := lv_neT hc3 (a := 3) (by decide); have q4 := lv_neT hc4 (a := 4) (by decide); have q5 := lv_neT hc5 (a := 5) (by decide); have q6 := lv_neT hc6 (a := 6) (by decide); omega) (by decide) ?_
                  refine lv_iconst (v := (0 : Int32)) hx hb dX0_weighs_115 (by decide) ?_
                  exact r_iret X h hw dX0_weighs_116
  refine lv_icmp_le (tgt := 33) hx hb dX0_weighs_26 (by decide) (fun hc => ?_) (fun hc => ?_)
  · rw [if_pos hc] at hw
    refine lv_iconst (v := (0 : Int32)) hx hb dX0_weighs_33 (by decide) ?_
    exact s34 x2_9 x3_18 (0 : Int32) μ _ _ _ h (lv_sub hl [2, 3, 1, 0] rfl) hw
  · rw [if_neg hc] at hw
    refine lv_iload_n hx hb dX0_weighs_29 rfl (lv_at hl 1 rfl) ?_
    refine lv_goto (tgt := 34) hx hb dX0_weighs_30 (by decide) ?_
    exact s34 x2_9 x3_18 x2_9 μ _ _ _ h (lv_sub hl [2, 3, 1, 0] rfl) hw
def wp_X1_take (j : Nat) (p1 n1 : Nat) (a2 : Int32) (Q : vM → Prop) (μ : vM) : Prop := ¬ (0 : Int32) < 0 ∧ ¬ (0 : Int32) < 0 ∧ ¬ a2 < 0 ∧ (0 : Int32).toNatClampNeg + a2.toNatClampNeg ≤ n1 ∧ (0 : Int32).toNatClampNeg + a2.toNatClampNeg ≤ 60 ∧ ∃ μ8 : vM, μ8 = sa μ (j + 1) (va_cpy (μ p1) (μ (j + 1)) (0 : Int32).toNatClampNeg (0 : Int32).toNatClampNeg a2.toNatClampNeg) ∧ ∃ μ13 : vM, μ13 = st μ8 j 4 a2 ∧ Q μ13
set_option maxRecDepth 100000 in
set_option maxHeartbeats 4000000 in
theorem c_X1_take (l : Launch) (G : vG) (hG : gO G) (j : Nat) (p1 n1 : Nat) (a2 : Int32) (h0 : isX1 G j) (h1 : gt G p1 = .inl n1 ∧ p1 < gN G) (Q : vM → Prop) (μ : vM) (hw : wp_X1_take j p1 n1 a2 Q μ) : mt l G yX1_take vX1_take { frames := 1, cells := 0, slots := 0, locals := 60 } [.ref (ga G j), .ref (ga G p1), .int a2] μ (qV G Q) := by
  refine met_of (cc := cX1_take) (maxL := 3) (ret := none) RX1 (by decide) rfl rfl hG (Nat.le_of_ble_eq_true rfl) ?_
  intro p e s m below meth c X h ls hl
  have hl : lv_has ls 3 [(0, .ref (ga G j)), (1, .ref (ga G p1)), (2, .int a2)] := hl
  have hx := X.1
  have hb := X.2.1
  unfold wp_X1_take at hw
  refine lv_aload_n hx hb dX1_take_0 rfl (lv_at hl 1 rfl) ?_
  refine lv_iconst (v := (0 : Int32)) hx hb dX1_take_1 (by decide) ?_
  refine lv_aload_n hx hb dX1_take_2 rfl (lv_at hl 0 rfl) ?_
  refine r_getR (q := (j + 1)) X h (X1_o h0) rfl uX1 2 (by decide) lf_1_116 rfl dX1_take_3 ?_
  refine lv_iconst (v := (0 : Int32)) hx hb dX1_take_6 (by decide) ?_
  refine lv_iload_n hx hb dX1_take_7 rfl (lv_at hl 2 rfl) ?_
  obtain ⟨g1, g2, g3, g4, g5, μ8, eμ8, hw⟩ := hw
  refine r_copy X hl.1 h ww_3_51 ww_2_162 ww_2_161 ww_1_10 h1 (X1_code h0) g1 g2 g3 g4 g5 (Nat.le_of_ble_eq_true rfl) (Nat.le_of_ble_eq_true rfl) eμ8 dX1_take_8 (fun H locs h => ?_)
  refine lv_aload_n hx hb dX1_take_11 rfl (lv_at hl 0 rfl) ?_
  refine lv_iload_n hx hb dX1_take_12 rfl (lv_at hl 2 rfl) ?_
  obtain ⟨μ13, eμ13, hw⟩ := hw
  refine r_putI X h (X1_o h0) rfl uX1 tyX1 tyX1_ok nmX1 4 (by decide) lf_1_119 rfl rfl rfl  eμ13 dX1_take_13 (fun H locs h => ?_)
  exact r_vret X h hw dX1_take_16
def wp_X1_joined_118 (a0 : Int32) (a1 : Int32) (a2 : Int32) (Q : Int32 → vM → Prop)  (μ : vM) : Prop := Q (0 : Int32) μ
def wp_X1_joined_100 (a0 : Int32) (a1 : Int32) (a2 : Int32) (Q : Int32 → vM → Prop)  (μ : vM) : Prop := Q (1 : Int32) μ
def wp_X1_joined (a0 : Int32) (a1 : Int32) (a2 : Int32) (Q : Int32 → vM → Prop) (μ : vM) : Prop := if a0 = (37 : Int32) then if a2 = 0 then Q (0 : Int32) μ else ¬ a2 = 0 ∧ Q (a1 % a2) μ else if a0 = (38 : Int32) then if a1 = 0 then wp_X1_joined_118 a0 a1 a2 Q μ else if a2 = 0 then wp_X1_joined_118 a0 a1 a2 Q μ else Q (1 : Int32) μ else if a0 = (42 : Int32) then Q (a1 * a2) μ else if a0 = (43 : Int32) then Q (a1 + a2) μ else if a0 = (45 : Int32) then Q (a1 - a2) μ else if a0 = (47 : Int32) then if a2 = 0 then Q (0 : Int32) μ else ¬ a2 = 0 ∧ Q (a1 / a2) μ else if a0 = (60 : Int32) then if a2 ≤ a1 then Q (0 : Int32) μ else Q (1 : Int32) μ else if a0 = (61 : Int32) then if a1 = a2 then Q (1 : Int32) μ else Q (0 : Int32) μ else if a0 = (62 : Int32) then if a1 ≤ a2 then Q (0 : Int32) μ else Q (1 : Int32) μ else if a0 = (124 : Int32) then if a1 = 0 then if a2 = 0 then Q (0 : Int32) μ else wp_X1_joined_100 a0 a1 a2 Q μ else wp_X1_joined_100 a0 a1 a2 Q μ else Q (0 : Int32) μ
set_option maxRecDepth 100000 in
set_option maxHeartbeats 4000000 in
theorem c_X1_joined (l : Launch) (G : vG) (hG : gO G) (a0 : Int32) (a1 : Int32) (a2 : Int32)  (Q : Int32 → vM → Prop) (μ : vM) (hw : wp_X1_joined a0 a1 a2 Q μ) : mt l G yX1_joined vX1_joined { frames := 0, cells := 0, slots := 0, locals := 0 } [.int a0, .int a1, .int a2] μ (qI G Q) := by
  refine met_of (cc := cX1_joined) (maxL := 3) (ret := (some .int)) RX1 (by decide) rfl rfl hG (Nat.le_of_ble_eq_true rfl) ?_
  intro p e s m below meth c X h ls hl
  have hl : lv_has ls 3 [(0, .int a0), (1, .int a1), (2, .int a2)] := hl
  have hx := X.1
  have hb := X.2.1
  unfold wp_X1_joined at hw
  refine lv_iload_n hx hb dX1_joined_0 rfl (lv_at hl 0 rfl) ?_
  by_cases hc37 : a0 = (37 : Int32)
  · rw [if_pos hc37] at hw
    refine lv_lookup (off := 176) (tgt := 177) hx hb dX1_joined_1 (by decide) (by rw [hc37]; decide) (by decide) ?_
    refine lv_iload_n hx hb dX1_joined_177 rfl (lv_at hl 2 rfl) ?_
    refine lv_if_ne (tgt := 185) hx hb dX1_joined_178 (by decide) (fun hc => ?_) (fun hc => ?_)
    · rw [if_neg hc] at hw
      refine lv_iload_n hx hb dX1_joined_185 rfl (lv_at hl 1 rfl) ?_
      refine lv_iload_n hx hb dX1_joined_186 rfl (lv_at hl 2 rfl) ?_
      obtain ⟨hne, hw⟩ := hw
      refine r_irem hx hb dX1_joined_187 hne ?_
      exact r_iret X h hw dX1_joined_188
    · rw [if_pos hc] at hw
      refine lv_iconst (v := (0 : Int32)) hx hb dX1_joined_181 (by decide) ?_
      refine lv_goto (tgt := 188) hx hb dX1_joined_182 (by decide) ?_
      exact r_iret X h hw dX1_joined_188
  · rw [if_neg hc37] at hw
    by_cases hc38 : a0 = (38 : Int32)
    · rw [if_pos hc38] at hw
      refine lv_lookup (off := 105) (tgt := 106) hx hb dX1_joined_1 (by decide) (by rw [hc38]; decide) (by decide) ?_
      refine lv_iload_n hx hb dX1_joined_106 rfl (lv_at hl 1 rfl) ?_
      have s118 : ∀  (μ : vM), ∀ (H : Heap) (locs : List Loc) (ls : Array Slot), bw G s μ H locs → lv_has ls 3 [] → wp_X1_joined_118 a0 a1 a2 Q μ → W p l e ({ frames := 0, cells := 0, slots := 0, locals := 0 } : Room) s m ([.int a0, .int a1, .int a2] : List Value).toArray below meth c H locs 0 0 (MQ below (qI G Q) ([.int a0, .int a1, .int a2] : List Value).toArray s 0 0 (gA G)) (F0 m 118 ls []) := by
        intro  μ H locs ls h hl hw
        unfold wp_X1_joined_118 at hw
        refine lv_iconst (v := (0 : Int32)) hx hb dX1_joined_118 (by decide) ?_
        exact r_iret X h hw dX1_joined_119
      refine lv_if_eq (tgt := 118) hx hb dX1_joined_107 (by decide) (fun hc => ?_) (fun hc => ?_)
      · rw [if_pos hc] at hw
        exact s118 μ _ _ _ h (lv_sub hl [] rfl) hw
      · rw [if_neg hc] at hw
        refine lv_iload_n hx hb dX1_joined_110 rfl (lv_at hl 2 rfl) ?_
        refine lv_if_eq (tgt := 118) hx hb dX1_joined_111 (by decide) (fun hc => ?_) (fun hc => ?_)
        · rw [if_pos hc] at hw
          exact s118 μ _ _ _ h (lv_sub hl [] rfl) hw
        · rw [if_neg hc] at hw
          refine lv_iconst (v := (1 : Int32)) hx hb dX1_joined_114 (by decide) ?_
          refine lv_goto (tgt := 119) hx hb dX1_joined_115 (by decide) ?_
          exact r_iret X h hw dX1_joined_119
    · rw [if_neg hc38] at hw
      by_cases hc42 : a0 = (42 : Int32)
      · rw [if_pos hc42] at hw
        refine lv_lookup (off := 160) (tgt := 161) hx hb dX1_joined_1 (by decide) (by rw [hc42]; decide) (by decide) ?_
        refine lv_iload_n hx hb dX1_joined_161 rfl (lv_at hl 1 rfl) ?_
        refine lv_iload_n hx hb dX1_joined_162 rfl (lv_at hl 2 rfl) ?_
        refine lv_imul hx hb dX1_joined_163 ?_
        exact r_iret X h hw dX1_joined_164
      · rw [if_neg hc42] at hw
        by_cases hc43 : a0 = (43 : Int32)
        · rw [if_pos hc43] at hw
          refine lv_lookup (off := 152) (tgt := 153) hx hb dX1_joined_1 (by decide) (by rw [hc43]; decide) (by decide) ?_
          refine lv_iload_n hx hb dX1_joined_153 rfl (lv_at hl 1 rfl) ?_
          refine lv_iload_n hx hb dX1_joined_154 rfl (lv_at hl 2 rfl) ?_
          refine lv_iadd hx hb dX1_joined_155 ?_
          exact r_iret X h hw dX1_joined_156
        · rw [if_neg hc43] at hw
          by_cases hc45 : a0 = (45 : Int32)
          · rw [if_pos hc45] at hw
            refine lv_lookup (off := 156) (tgt := 157) hx hb dX1_joined_1 (by decide) (by rw [hc45]; decide) (by decide) ?_
            refine lv_iload_n hx hb dX1_joined_157 rfl (lv_at hl 1 rfl) ?_
            refine lv_iload_n hx hb dX1_joined_158 rfl (lv_at hl 2 rfl) ?_
            refine lv_isub hx hb dX1_joined_159 ?_
            exact r_iret X h hw dX1_joined_160
          · rw [if_neg hc45] at hw
            by_cases hc47 : a0 = (47 : Int32)
            · rw [if_pos hc47] at hw
              refine lv_lookup (off := 164) (tgt := 165) hx hb dX1_joined_1 (by decide) (by rw [hc47]; decide) (by decide) ?_
              refine lv_iload_n hx hb dX1_joined_165 rfl (lv_at hl 2 rfl) ?_
              refine lv_if_ne (tgt := 173) hx hb dX1_joined_166 (by decide) (fun hc => ?_) (fun hc => ?_)
              · rw [if_neg hc] at hw
                refine lv_iload_n hx hb dX1_joined_173 rfl (lv_at hl 1 rfl) ?_
                refine lv_iload_n hx hb dX1_joined_174 rfl (lv_at hl 2 rfl) ?_
                obtain ⟨hne, hw⟩ := hw
                refine lv_idiv hx hb dX1_joined_175 hne ?_
                exact r_iret X h hw dX1_joined_176
              · rw [if_pos hc] at hw
                refine lv_iconst (v := (0 : Int32)) hx hb dX1_joined_169 (by decide) ?_
                refine lv_goto (tgt := 176) hx hb dX1_joined_170 (by decide) ?_
                exact r_iret X h hw dX1_joined_176
            · rw [if_neg hc47] at hw
              by_cases hc60 : a0 = (60 : Int32)
              · rw [if_pos hc60] at hw
                refine lv_lookup (off := 119) (tgt := 120) hx hb dX1_joined_1 (by decide) (by rw [hc60]; decide) (by decide) ?_
                refine lv_iload_n hx hb dX1_joined_120 rfl (lv_at hl 1 rfl) ?_
                refine lv_iload_n hx hb dX1_joined_121 rfl (lv_at hl 2 rfl) ?_
                refine lv_icmp_ge (tgt := 129) hx hb dX1_joined_122 (by decide) (fun hc => ?_) (fun hc => ?_)
                · rw [if_pos hc] at hw
                  refine lv_iconst (v := (0 : Int32)) hx hb dX1_joined_129 (by decide) ?_
                  exact r_iret X h hw dX1_joined_130
                · rw [if_neg hc] at hw
                  refine lv_iconst (v := (1 : Int32)) hx hb dX1_joined_125 (by decide) ?_
                  refine lv_goto (tgt := 130) hx hb dX1_joined_126 (by decide) ?_
                  exact r_iret X h hw dX1_joined_130
              · rw [if_neg hc60] at hw
                by_cases hc61 : a0 = (61 : Int32)
                · rw [if_pos hc61] at hw
                  refine lv_lookup (off := 130) (tgt := 131) hx hb dX1_joined_1 (by decide) (by rw [hc61]; decide) (by decide) ?_
                  refine lv_iload_n hx hb dX1_joined_131 rfl (lv_at hl 1 rfl) ?_
                  refine lv_iload_n hx hb dX1_joined_132 rfl (lv_at hl 2 rfl) ?_
                  refine lv_icmp_ne (tgt := 140) hx hb dX1_joined_133 (by decide) (fun hc => ?_) (fun hc => ?_)
                  · rw [if_neg hc] at hw
                    refine lv_iconst (v := (0 : Int32)) hx hb dX1_joined_140 (by decide) ?_
                    exact r_iret X h hw dX1_joined_141
                  · rw [if_pos hc] at hw
                    refine lv_iconst (v := (1 : Int32)) hx hb dX1_joined_136 (by decide) ?_
                    refine lv_goto (tgt := 141) hx hb dX1_joined_137 (by decide) ?_
                    exact r_iret X h hw dX1_joined_141
                · rw [if_neg hc61] at hw
                  by_cases hc62 : a0 = (62 : Int32)
                  · rw [if_pos hc62] at hw
                    refine lv_lookup (off := 141) (tgt := 142) hx hb dX1_joined_1 (by decide) (by rw [hc62]; decide) (by decide) ?_
                    refine lv_iload_n hx hb dX1_joined_142 rfl (lv_at hl 1 rfl) ?_
                    refine lv_iload_n hx hb dX1_joined_143 rfl (lv_at hl 2 rfl) ?_
                    refine lv_icmp_le (tgt := 151) hx hb dX1_joined_144 (by decide) (fun hc => ?_) (fun hc => ?_)
                    · rw [if_pos hc] at hw
                      refine lv_iconst (v := (0 : Int32)) hx hb dX1_joined_151 (by decide) ?_
                      exact r_iret X h hw dX1_joined_152
                    · rw [if_neg hc] at hw
                      refine lv_iconst (v := (1 : Int32)) hx hb dX1_joined_147 (by decide) ?_
                      refine lv_goto (tgt := 152) hx hb dX1_joined_148 (by decide) ?_
                      exact r_iret X h hw dX1_joined_152
                  · rw [if_neg hc62] at hw
                    by_cases hc124 : a0 = (124 : Int32)
                    · rw [if_pos hc124] at hw
                      refine lv_lookup (off := 91) (tgt := 92) hx hb dX1_joined_1 (by decide) (by rw [hc124]; decide) (by decide) ?_
                      refine lv_iload_n hx hb dX1_joined_92 rfl (lv_at hl 1 rfl) ?_
                      have s100 : ∀  (μ : vM), ∀ (H : Heap) (locs : List Loc) (ls : Array Slot), bw G s μ H locs → lv_has ls 3 [] → wp_X1_joined_100 a0 a1 a2 Q μ → W p l e ({ frames := 0, cells := 0, slots := 0, locals := 0 } : Room) s m ([.int a0, .int a1, .int a2] : List Value).toArray below meth c H locs 0 0 (MQ below (qI G Q) ([.int a0, .int a1, .int a2] : List Value).toArray s 0 0 (gA G)) (F0 m 100 ls []) := by
                        intro  μ H locs ls h hl hw
                        unfold wp_X1_joined_100 at hw
                        refine lv_iconst (v := (1 : Int32)) hx hb dX1_joined_100 (by decide) ?_
                        refine lv_goto (tgt := 105) hx hb dX1_joined_101 (by decide) ?_
                        exact r_iret X h hw dX1_joined_105
                      refine lv_if_ne (tgt := 100) hx hb dX1_joined_93 (by decide) (fun hc => ?_) (fun hc => ?_)
                      · rw [if_neg hc] at hw
                        exact s100 μ _ _ _ h (lv_sub hl [] rfl) hw
                      · rw [if_pos hc] at hw
                        refine lv_iload_n hx hb dX1_joined_96 rfl (lv_at hl 2 rfl) ?_
                        refine lv_if_eq (tgt := 104) hx hb dX1_joined_97 (by decide) (fun hc => ?_) (fun hc => ?_)
                        · rw [if_pos hc] at hw
                          refine lv_iconst (v := (0 : Int32)) hx hb dX1_joined_104 (by decide) ?_
                          exact r_iret X h hw dX1_joined_105
                        · rw [if_neg hc] at hw
                          exact s100 μ _ _ _ h (lv_sub hl [] rfl) hw
                    · rw [if_neg hc124] at hw
                      refine lv_lookup (off := 188) (tgt := 189) hx hb dX1_joined_1 (by decide) ((lv_osw hc37 (by decide)).trans ((lv_osw hc38 (by decide)).trans ((lv_osw hc42 (by decide)).trans ((lv_osw hc43 (by decide)).trans ((lv_osw hc45 (by decide)).trans ((lv_osw hc47 (by decide)).trans ((lv_osw hc60 (by decide)).trans ((lv_osw hc61 (by decide)).trans ((lv_osw hc62 (by decide)).trans ((lv_osw hc124 (by decide)).trans rfl)))))))))) (by decide) ?_
                      refine lv_iconst (v := (0 : Int32)) hx hb dX1_joined_189 (by decide) ?_
                      exact r_iret X h hw dX1_joined_190
def wp_X1_workedOut_176 (j : Nat) (a1 : Int32) (a2 : Int32) (a3 : Int32) (Q : Int32 → vM → Prop) (k6 : Int32 → Int32 → vM → Prop) (x4 : Int32) (x5 : Int32) (μ : vM) : Prop := ∃ x5_176 : Int32, x5_176 = x5 + (1 : Int32) ∧ k6 x4 x5_176 μ
def wp_X1_workedOut_175 (j : Nat) (a1 : Int32) (a2 : Int32) (a3 : Int32) (Q : Int32 → vM → Prop) (k6 : Int32 → Int32 → vM → Prop) (x4 : Int32) (x5 : Int32) (t1 : Int32) (t2 : Int32) (μ : vM) : Prop := vp_in t1 60 ∧ ∃ μ175 : vM, μ175 = st μ (j + 2) t1.toNatClampNeg t2 ∧ wp_X1_workedOut_176 j a1 a2 a3 Q k6 x4 x5 μ175
def wp_X1_workedOut_58 (j : Nat) (a1 : Int32) (a2 : Int32) (a3 : Int32) (Q : Int32 → vM → Prop) (k6 : Int32 → Int32 → vM → Prop) (x4 : Int32) (x5 : Int32) (t1 : Int32) (t2 : Int32) (μ : vM) : Prop := vp_in t1 60 ∧ ∃ μ58 : vM, μ58 = st μ (j + 2) t1.toNatClampNeg t2 ∧ wp_X1_workedOut_176 j a1 a2 a3 Q k6 x4 x5 μ58
def wp_X1_workedOut_6 (j : Nat) (a1 : Int32) (a2 : Int32) (a3 : Int32) (Q : Int32 → vM → Prop) : Nat → Int32 → Int32 → vM → Prop
  | 0, _, _, _ => False
  | n6 + 1, x4, x5, μ => if (μ j 4) ≤ x5 then if 0 ≤ x4 then vp_in x4 60 ∧ Q (μ (j + 2) x4.toNatClampNeg) μ else Q (0 : Int32) μ else vp_in x5 60 ∧ ∃ x6_22 : Int32, x6_22 = μ (j + 1) x5.toNatClampNeg ∧ if x6_22 = (20033 : Int32) then if x4 < 0 then wp_X1_workedOut_176 j a1 a2 a3 Q (fun x4 x5 μ => wp_X1_workedOut_6 j a1 a2 a3 Q n6 x4 x5 μ) x4 x5 μ else vp_in x4 60 ∧ wp_X1_workedOut_58 j a1 a2 a3 Q (fun x4 x5 μ => wp_X1_workedOut_6 j a1 a2 a3 Q n6 x4 x5 μ) x4 x5 x4 (if (μ (j + 2) x4.toNatClampNeg) = 0 then (1 : Int32) else (0 : Int32)) μ else if x6_22 < (20000 : Int32) then if (60 : Int32) ≤ (x4 + (1 : Int32)) then wp_X1_workedOut_176 j a1 a2 a3 Q (fun x4 x5 μ => wp_X1_workedOut_6 j a1 a2 a3 Q n6 x4 x5 μ) x4 x5 μ else ∃ x4_128 : Int32, x4_128 = x4 + (1 : Int32) ∧ wp_X1_workedOut_175 j a1 a2 a3 Q (fun x4 x5 μ => wp_X1_workedOut_6 j a1 a2 a3 Q n6 x4 x5 μ) x4_128 x5 x4_128 (if (10000 : Int32) ≤ x6_22 then (if x6_22 = (10000 : Int32) then a1 else (if x6_22 = (10001 : Int32) then a2 else a3)) else x6_22) μ else if (1 : Int32) ≤ x4 then ∃ x4_78 : Int32, x4_78 = x4 + (-1 : Int32) ∧ vp_in x4_78 60 ∧ vp_in (x4_78 + (1 : Int32)) 60 ∧ wp_X1_joined (x6_22 - (20000 : Int32)) (μ (j + 2) x4_78.toNatClampNeg) (μ (j + 2) (x4_78 + (1 : Int32)).toNatClampNeg) (fun r109 μ109 => vp_in x4_78 60 ∧ ∃ μ112 : vM, μ112 = st μ109 (j + 2) x4_78.toNatClampNeg r109 ∧ wp_X1_workedOut_176 j a1 a2 a3 Q (fun x4 x5 μ => wp_X1_workedOut_6 j a1 a2 a3 Q n6 x4 x5 μ) x4_78 x5 μ112) μ else Q (0 : Int32) μ
def wp_X1_workedOut (j : Nat) (a1 : Int32) (a2 : Int32) (a3 : Int32) (Q : Int32 → vM → Prop) (μ : vM) : Prop := ∃ n6, wp_X1_workedOut_6 j a1 a2 a3 Q n6 (-1 : Int32) (0 : Int32) μ
set_option maxRecDepth 100000 in
set_option maxHeartbeats 4000000 in
theorem c_X1_workedOut (l : Launch) (G : vG) (hG : gO G) (j : Nat) (a1 : Int32) (a2 : Int32) (a3 : Int32) (h0 : isX1 G j) (Q : Int32 → vM → Prop) (μ : vM) (hw : wp_X1_workedOut j a1 a2 a3 Q μ) : mt l G yX1_workedOut vX1_workedOut { frames := 1, cells := 0, slots := 0, locals := 22 } [.ref (ga G j), .int a1, .int a2, .int a3] μ (qI G Q) := by
  refine met_of (cc := cX1_workedOut) (maxL := 7) (ret := (some .int)) RX1 (by decide) rfl rfl hG (Nat.le_of_ble_eq_true rfl) ?_
  intro p e s m below meth c X h ls hl
  have hl : lv_has ls 7 [(0, .ref (ga G j)), (1, .int a1), (2, .int a2), (3, .int a3)] := hl
  have hx := X.1
  have hb := X.2.1
  unfold wp_X1_workedOut at hw
  refine lv_iconst (v := (-1 : Int32)) hx hb dX1_workedOut_0 (by decide) ?_
  refine lv_istore (lv' := [(4, .int (-1 : Int32)), (0, .ref (ga G j)), (1, .int a1), (2, .int a2), (3, .int a3)]) hx hb dX1_workedOut_1 hl (by decide) rfl (fun ls hl => ?_)
  refine lv_iconst (v := (0 : Int32)) hx hb dX1_workedOut_3 (by decide) ?_
  refine lv_istore (lv' := [(5, .int (0 : Int32)), (4, .int (-1 : Int32)), (0, .ref (ga G j)), (1, .int a1), (2, .int a2), (3, .int a3)]) hx hb dX1_workedOut_4 hl (by decide) rfl (fun ls hl => ?_)
  have s6 : ∀ (n6 : Nat) (x4 : Int32) (x5 : Int32) (μ : vM), ∀ (H : Heap) (locs : List Loc) (ls : Array Slot), bw G s μ H locs → lv_has ls 7 [(0, .ref (ga G j)), (1, .int a1), (2, .int a2), (3, .int a3), (4, .int x4), (5, .int x5)] → wp_X1_workedOut_6 j a1 a2 a3 Q n6 x4 x5 μ → W p l e ({ frames := 1, cells := 0, slots := 0, locals := 22 } : Room) s m ([.ref (ga G j), .int a1, .int a2, .int a3] : List Value).toArray below meth c H locs 0 0 (MQ below (qI G Q) ([.ref (ga G j), .int a1, .int a2, .int a3] : List Value).toArray s 0 0 (gA G)) (F0 m 6 ls []) := by
    intro n6
    induction n6 with
    | zero => intro x4 x5 μ H locs ls h hl hw; exact absurd hw (by unfold wp_X1_workedOut_6; exact id)
    | succ n6 ih6 =>
      intro x4 x5 μ H locs ls h hl hw
      unfold wp_X1_workedOut_6 at hw
      refine lv_iload hx hb dX1_workedOut_6 (lv_at hl 5 rfl) ?_
      refine lv_aload_n hx hb dX1_workedOut_8 rfl (lv_at hl 0 rfl) ?_
      refine r_getI X h (X1_o h0) rfl uX1 4 (by decide) lf_1_119 rfl dX1_workedOut_9 ?_
      refine lv_icmp_ge (tgt := 182) hx hb dX1_workedOut_12 (by decide) (fun hc => ?_) (fun hc => ?_)
      · rw [if_pos hc] at hw
        refine lv_iload hx hb dX1_workedOut_182 (lv_at hl 4 rfl) ?_
        refine lv_if_ge (tgt := 191) hx hb dX1_workedOut_184 (by decide) (fun hc => ?_) (fun hc => ?_)
        · rw [if_pos hc] at hw
          refine lv_aload_n hx hb dX1_workedOut_191 rfl (lv_at hl 0 rfl) ?_
          refine r_getR (q := (j + 2)) X h (X1_o h0) rfl uX1 3 (by decide) lf_1_118 rfl dX1_workedOut_192 ?_
          refine lv_iload hx hb dX1_workedOut_195 (lv_at hl 4 rfl) ?_
          obtain ⟨hi, hw⟩ := hw
          refine r_ald X h (X1_stack h0) hi dX1_workedOut_197 ?_
          exact r_iret X h hw dX1_workedOut_198
        · rw [if_neg hc] at hw
          refine lv_iconst (v := (0 : Int32)) hx hb dX1_workedOut_187 (by decide) ?_
          refine lv_goto (tgt := 198) hx hb dX1_workedOut_188 (by decide) ?_
          exact r_iret X h hw dX1_workedOut_198
      · rw [if_neg hc] at hw
        refine lv_aload_n hx hb dX1_workedOut_15 rfl (lv_at hl 0 rfl) ?_
        refine r_getR (q := (j + 1)) X h (X1_o h0) rfl uX1 2 (by decide) lf_1_116 rfl dX1_workedOut_16 ?_
        refine lv_iload hx hb dX1_workedOut_19 (lv_at hl 5 rfl) ?_
        obtain ⟨hi, hw⟩ := hw
        refine r_ald X h (X1_code h0) hi dX1_workedOut_21 ?_
        obtain ⟨x6_22, ex6_22, hw⟩ := hw
        refine topE ex6_22 ?_
        refine lv_istore (lv' := [(6, .int x6_22), (0, .ref (ga G j)), (1, .int a1), (2, .int a2), (3, .int a3), (4, .int x4), (5, .int x5)]) hx hb dX1_workedOut_22 hl (by decide) rfl (fun ls hl => ?_)
        refine lv_iload hx hb dX1_workedOut_24 (lv_at hl 0 rfl) ?_
        refine lv_sipush (v := (20033 : Int32)) hx hb dX1_workedOut_26 (by decide) ?_
        have s176 : ∀ (x4 : Int32) (x5 : Int32) (μ : vM), ∀ (H : Heap) (locs : List Loc) (ls : Array Slot), bw G s μ H locs → lv_has ls 7 [(0, .ref (ga G j)), (1, .int a1), (2, .int a2), (3, .int a3), (4, .int x4), (5, .int x5)] → wp_X1_workedOut_176 j a1 a2 a3 Q (fun x4 x5 μ => wp_X1_workedOut_6 j a1 a2 a3 Q n6 x4 x5 μ) x4 x5 μ → W p l e ({ frames := 1, cells := 0, slots := 0, locals := 22 } : Room) s m ([.ref (ga G j), .int a1, .int a2, .int a3] : List Value).toArray below meth c H locs 0 0 (MQ below (qI G Q) ([.ref (ga G j), .int a1, .int a2, .int a3] : List Value).toArray s 0 0 (gA G)) (F0 m 176 ls []) := by
          intro x4 x5 μ H locs ls h hl hw
          unfold wp_X1_workedOut_176 at hw
          obtain ⟨x5_176, ex5_176, hw⟩ := hw
          refine lv_iinc (v := x5_176) (lv' := [(5, .int x5_176), (0, .ref (ga G j)), (1, .int a1), (2, .int a2), (3, .int a3), (4, .int x4)]) hx hb dX1_workedOut_176 hl (k := 5) rfl (by rw [ex5_176]; rfl) (by decide) rfl (fun ls hl => ?_)
          refine lv_goto (tgt := 6) hx hb dX1_workedOut_179 (by decide) ?_
          exact ih6 x4 x5_176 μ _ _ _ h (lv_sub hl [1, 2, 3, 4, 5, 0] rfl) hw
        refine lv_icmp_ne (tgt := 62) hx hb dX1_workedOut_29 (by decide) (fun hc => ?_) (fun hc => ?_)
        · rw [if_neg hc] at hw
          refine lv_iload hx hb dX1_workedOut_62 (lv_at hl 0 rfl) ?_
          refine lv_sipush (v := (20000 : Int32)) hx hb dX1_workedOut_64 (by decide) ?_
          refine lv_icmp_lt (tgt := 116) hx hb dX1_workedOut_67 (by decide) (fun hc => ?_) (fun hc => ?_)
          · rw [if_pos hc] at hw
            refine lv_iload hx hb dX1_workedOut_116 (lv_at hl 5 rfl) ?_
            refine lv_iconst (v := (1 : Int32)) hx hb dX1_workedOut_118 (by decide) ?_
            refine lv_iadd hx hb dX1_workedOut_119 ?_
            refine lv_aload_n hx hb dX1_workedOut_120 rfl (lv_at hl 1 rfl) ?_
            refine r_getR (q := (j + 2)) X h (X1_o h0) rfl uX1 3 (by decide) lf_1_118 rfl dX1_workedOut_121 ?_
            refine r_alen X h (X1_stack h0) (v := (60 : Int32)) (by decide) dX1_workedOut_124 ?_
            refine lv_icmp_ge (tgt := 176) hx hb dX1_workedOut_125 (by decide) (fun hc => ?_) (fun hc => ?_)
            · rw [if_pos hc] at hw
              exact s176 x4 x5 μ _ _ _ h (lv_sub hl [1, 2, 3, 4, 5, 6] rfl) hw
            · rw [if_neg hc] at hw
              obtain ⟨x4_128, ex4_128, hw⟩ := hw
              refine lv_iinc (v := x4_128) (lv' := [(4, .int x4_128), (6, .int x6_22), (0, .ref (ga G j)), (1, .int a1), (2, .int a2), (3, .int a3), (5, .int x5)]) hx hb dX1_workedOut_128 hl (k := 5) rfl (by rw [ex4_128]; rfl) (by decide) rfl (fun ls hl => ?_)
              refine lv_aload_n hx hb dX1_workedOut_131 rfl (lv_at hl 2 rfl) ?_
              refine r_getR (q := (j + 2)) X h (X1_o h0) rfl uX1 3 (by decide) lf_1_118 rfl dX1_workedOut_132 ?_
              refine lv_iload hx hb dX1_workedOut_135 (lv_at hl 0 rfl) ?_
              refine lv_iload hx hb dX1_workedOut_137 (lv_at hl 1 rfl) ?_
              refine lv_sipush (v := (10000 : Int32)) hx hb dX1_workedOut_139 (by decide) ?_
              have s175 : ∀ (x4 : Int32) (x5 : Int32) (t1 : Int32) (t2 : Int32) (μ : vM), ∀ (H : Heap) (locs : List Loc) (ls : Array Slot), bw G s μ H locs → lv_has ls 7 [(0, .ref (ga G j)), (1, .int a1), (2, .int a2), (3, .int a3), (4, .int x4), (5, .int x5)] → wp_X1_workedOut_175 j a1 a2 a3 Q (fun x4 x5 μ => wp_X1_workedOut_6 j a1 a2 a3 Q n6 x4 x5 μ) x4 x5 t1 t2 μ → W p l e ({ frames := 1, cells := 0, slots := 0, locals := 22 } : Room) s m ([.ref (ga G j), .int a1, .int a2, .int a3] : List Value).toArray below meth c H locs 0 0 (MQ below (qI G Q) ([.ref (ga G j), .int a1, .int a2, .int a3] : List Value).toArray s 0 0 (gA G)) (F0 m 175 ls [.int t2, .int t1, .ref (ga G (j + 2))]) := by
                intro x4 x5 t1 t2 μ H locs ls h hl hw
                unfold wp_X1_workedOut_175 at hw
                obtain ⟨hi, μ175, eμ175, hw⟩ := hw
                refine r_ast X h (X1_stack h0) hi eμ175 dX1_workedOut_175 (fun H locs h => ?_)
                exact s176 x4 x5 μ175 _ _ _ h (lv_sub hl [0, 1, 2, 3, 4, 5] rfl) hw
              refine lv_icmp_ge (tgt := 150) hx hb dX1_workedOut_142 (by decide) (fun hc => ?_) (fun hc => ?_)
              · rw [if_pos hc] at hw
                refine lv_iload hx hb dX1_workedOut_150 (lv_at hl 1 rfl) ?_
                refine lv_sipush (v := (10000 : Int32)) hx hb dX1_workedOut_152 (by decide) ?_
                refine lv_icmp_ne (tgt := 162) hx hb dX1_workedOut_155 (by decide) (fun hc => ?_) (fun hc => ?_)
                · rw [if_neg hc] at hw
                  refine lv_iload hx hb dX1_workedOut_162 (lv_at hl 1 rfl) ?_
                  refine lv_sipush (v := (10001 : Int32)) hx hb dX1_workedOut_164 (by decide) ?_
                  refine lv_icmp_ne (tgt := 174) hx hb dX1_workedOut_167 (by decide) (fun hc => ?_) (fun hc => ?_)
                  · rw [if_neg hc] at hw
                    refine lv_iload_n hx hb dX1_workedOut_174 rfl (lv_at hl 5 rfl) ?_
                    exact s175 x4_128 x5 x4_128 a3 μ _ _ _ h (lv_sub hl [2, 3, 4, 5, 0, 6] rfl) hw
                  · rw [if_pos hc] at hw
                    refine lv_iload_n hx hb dX1_workedOut_170 rfl (lv_at hl 4 rfl) ?_
                    refine lv_goto (tgt := 175) hx hb dX1_workedOut_171 (by decide) ?_
                    exact s175 x4_128 x5 x4_128 a2 μ _ _ _ h (lv_sub hl [2, 3, 4, 5, 0, 6] rfl) hw
                · rw [if_pos hc] at hw
                  refine lv_iload_n hx hb dX1_workedOut_158 rfl (lv_at hl 3 rfl) ?_
                  refine lv_goto (tgt := 175) hx hb dX1_workedOut_159 (by decide) ?_
                  exact s175 x4_128 x5 x4_128 a1 μ _ _ _ h (lv_sub hl [2, 3, 4, 5, 0, 6] rfl) hw
              · rw [if_neg hc] at hw
                refine lv_iload hx hb dX1_workedOut_145 (lv_at hl 1 rfl) ?_
                refine lv_goto (tgt := 175) hx hb dX1_workedOut_147 (by decide) ?_
                exact s175 x4_128 x5 x4_128 x6_22 μ _ _ _ h (lv_sub hl [2, 3, 4, 5, 0, 6] rfl) hw
          · rw [if_neg hc] at hw
            refine lv_iload hx hb dX1_workedOut_70 (lv_at hl 5 rfl) ?_
            refine lv_iconst (v := (1 : Int32)) hx hb dX1_workedOut_72 (by decide) ?_
            refine lv_icmp_ge (tgt := 78) hx hb dX1_workedOut_73 (by decide) (fun hc => ?_) (fun hc => ?_)
            · rw [if_pos hc] at hw
              obtain ⟨x4_78, ex4_78, hw⟩ := hw
              refine lv_iinc (v := x4_78) (lv' := [(4, .int x4_78), (6, .int x6_22), (0, .ref (ga G j)), (1, .int a1), (2, .int a2), (3, .int a3), (5, .int x5)]) hx hb dX1_workedOut_78 hl (k := 5) rfl (by rw [ex4_78]; rfl) (by decide) rfl (fun ls hl => ?_)
              refine lv_aload_n hx hb dX1_workedOut_81 rfl (lv_at hl 2 rfl) ?_
              refine r_getR (q := (j + 2)) X h (X1_o h0) rfl uX1 3 (by decide) lf_1_118 rfl dX1_workedOut_82 ?_
              refine lv_iload hx hb dX1_workedOut_85 (lv_at hl 0 rfl) ?_
              refine lv_iload hx hb dX1_workedOut_87 (lv_at hl 1 rfl) ?_
              refine lv_sipush (v := (20000 : Int32)) hx hb dX1_workedOut_89 (by decide) ?_
              refine lv_isub hx hb dX1_workedOut_92 ?_
              refine lv_aload_n hx hb dX1_workedOut_93 rfl (lv_at hl 2 rfl) ?_
              refine r_getR (q := (j + 2)) X h (X1_o h0) rfl uX1 3 (by decide) lf_1_118 rfl dX1_workedOut_94 ?_
              refine lv_iload hx hb dX1_workedOut_97 (lv_at hl 0 rfl) ?_
              obtain ⟨hi, hw⟩ := hw
              refine r_ald X h (X1_stack h0) hi dX1_workedOut_99 ?_
              refine lv_aload_n hx hb dX1_workedOut_100 rfl (lv_at hl 2 rfl) ?_
              refine r_getR (q := (j + 2)) X h (X1_o h0) rfl uX1 3 (by decide) lf_1_118 rfl dX1_workedOut_101 ?_
              refine lv_iload hx hb dX1_workedOut_104 (lv_at hl 0 rfl) ?_
              refine lv_iconst (v := (1 : Int32)) hx hb dX1_workedOut_106 (by decide) ?_
              refine lv_iadd hx hb dX1_workedOut_107 ?_
              obtain ⟨hi, hw⟩ := hw
              refine r_ald X h (X1_stack h0) hi dX1_workedOut_108 ?_
              refine k_i h (n_T (rest := [.int x4_78, .ref (ga G (j + 2))]) (As := [.int (x6_22 - (20000 : Int32)), .int (μ (j + 2) x4_78.toNatClampNeg), .int (μ (j + 2) (x4_78 + (1 : Int32)).toNatClampNeg)]) X h hl.1 (c_X1_joined l G hG (x6_22 - (20000 : Int32)) (μ (j + 2) x4_78.toNatClampNeg) (μ (j + 2) (x4_78 + (1 : Int32)).toNatClampNeg) _ _ hw) gk_X1_48 rfl hd_X1_joined ⟨rfl, rfl⟩ ⟨Nat.le_of_ble_eq_true rfl, Nat.le_of_ble_eq_true rfl⟩ rfl (Nat.le_of_ble_eq_true rfl) dX1_workedOut_109 ⟨Nat.zero_le _, Nat.zero_le _⟩) (fun r109 μ109 H locs hw h => ?_)
              obtain ⟨hi, μ112, eμ112, hw⟩ := hw
              refine r_ast X h (X1_stack h0) hi eμ112 dX1_workedOut_112 (fun H locs h => ?_)
              refine lv_goto (tgt := 176) hx hb dX1_workedOut_113 (by decide) ?_
              exact s176 x4_78 x5 μ112 _ _ _ h (lv_sub hl [2, 3, 4, 5, 0, 6] rfl) hw
            · rw [if_neg hc] at hw
              refine lv_iconst (v := (0 : Int32)) hx hb dX1_workedOut_76 (by decide) ?_
              exact r_iret X h hw dX1_workedOut_77
        · rw [if_pos hc] at hw
          refine lv_iload hx hb dX1_workedOut_32 (lv_at hl 5 rfl) ?_
          refine lv_if_lt (tgt := 176) hx hb dX1_workedOut_34 (by decide) (fun hc => ?_) (fun hc => ?_)
          · rw [if_pos hc] at hw
            exact s176 x4 x5 μ _ _ _ h (lv_sub hl [1, 2, 3, 4, 5, 6] rfl) hw
          · rw [if_neg hc] at hw
            refine lv_aload_n hx hb dX1_workedOut_37 rfl (lv_at hl 1 rfl) ?_
            refine r_getR (q := (j + 2)) X h (X1_o h0) rfl uX1 3 (by decide) lf_1_118 rfl dX1_workedOut_38 ?_
            refine lv_iload hx hb dX1_workedOut_41 (lv_at hl 5 rfl) ?_
            refine lv_aload_n hx hb dX1_workedOut_43 rfl (lv_at hl 1 rfl) ?_
            refine r_getR (q := (j + 2)) X h (X1_o h0) rfl uX1 3 (by decide) lf_1_118 rfl dX1_workedOut_44 ?_
            refine lv_iload hx hb dX1_workedOut_47 (lv_at hl 5 rfl) ?_
            obtain ⟨hi, hw⟩ := hw
            refine r_ald X h (X1_stack h0) hi dX1_workedOut_49 ?_
            have s58 : ∀ (x4 : Int32) (x5 : Int32) (t1 : Int32) (t2 : Int32) (μ : vM), ∀ (H : Heap) (locs : List Loc) (ls : Array Slot), bw G s μ H locs → lv_has ls 7 [(0, .ref (ga G j)), (1, .int a1), (2, .int a2), (3, .int a3), (4, .int x4), (5, .int x5)] → wp_X1_workedOut_58 j a1 a2 a3 Q (fun x4 x5 μ => wp_X1_workedOut_6 j a1 a2 a3 Q n6 x4 x5 μ) x4 x5 t1 t2 μ → W p l e ({ frames := 1, cells := 0, slots := 0, locals := 22 } : Room) s m ([.ref (ga G j), .int a1, .int a2, .int a3] : List Value).toArray below meth c H locs 0 0 (MQ below (qI G Q) ([.ref (ga G j), .int a1, .int a2, .int a3] : List Value).toArray s 0 0 (gA G)) (F0 m 58 ls [.int t2, .int t1, .ref (ga G (j + 2))]) := by
              intro x4 x5 t1 t2 μ H locs ls h hl hw
              unfold wp_X1_workedOut_58 at hw
              obtain ⟨hi, μ58, eμ58, hw⟩ := hw
              refine r_ast X h (X1_stack h0) hi eμ58 dX1_workedOut_58 (fun H locs h => ?_)
              refine lv_goto (tgt := 176) hx hb dX1_workedOut_59 (by decide) ?_
              exact s176 x4 x5 μ58 _ _ _ h (lv_sub hl [0, 1, 2, 3, 4, 5] rfl) hw
            refine lv_if_ne (tgt := 57) hx hb dX1_workedOut_50 (by decide) (fun hc => ?_) (fun hc => ?_)
            · rw [if_neg hc] at hw
              refine lv_iconst (v := (0 : Int32)) hx hb dX1_workedOut_57 (by decide) ?_
              exact s58 x4 x5 x4 (0 : Int32) μ _ _ _ h (lv_sub hl [1, 2, 3, 4, 5, 6] rfl) hw
            · rw [if_pos hc] at hw
              refine lv_iconst (v := (1 : Int32)) hx hb dX1_workedOut_53 (by decide) ?_
              refine lv_goto (tgt := 58) hx hb dX1_workedOut_54 (by decide) ?_
              exact s58 x4 x5 x4 (1 : Int32) μ _ _ _ h (lv_sub hl [1, 2, 3, 4, 5, 6] rfl) hw
  obtain ⟨n, hw⟩ := hw
  exact s6 n (-1 : Int32) (0 : Int32) μ _ _ _ h (lv_sub hl [2, 3, 4, 5, 1, 0] rfl) hw
def wp_X1_gives_18 (j : Nat) (a1 : Int32) (a2 : Int32) (a3 : Int32) (Q : Int32 → vM → Prop) (t0 : Int32) (μ : vM) : Prop := Q (if (0 : Int32) < (if t0 < (μ j 1) then t0 else μ j 1) then (if t0 < (μ j 1) then t0 else μ j 1) else (0 : Int32)) μ
def wp_X1_gives (j : Nat) (a1 : Int32) (a2 : Int32) (a3 : Int32) (Q : Int32 → vM → Prop) (μ : vM) : Prop := if (μ j 4) = 0 then wp_X1_gives_18 j a1 a2 a3 Q a1 μ else wp_X1_workedOut j a1 a2 a3 (fun r15 μ15 => wp_X1_gives_18 j a1 a2 a3 Q r15 μ15) μ
set_option maxRecDepth 100000 in
set_option maxHeartbeats 4000000 in
theorem c_X1_gives (l : Launch) (G : vG) (hG : gO G) (j : Nat) (a1 : Int32) (a2 : Int32) (a3 : Int32) (h0 : isX1 G j) (Q : Int32 → vM → Prop) (μ : vM) (hw : wp_X1_gives j a1 a2 a3 Q μ) : mt l G yX1_gives vX1_gives { frames := 2, cells := 0, slots := 0, locals := 48 } [.ref (ga G j), .int a1, .int a2, .int a3] μ (qI G Q) := by
  refine met_of (cc := cX1_gives) (maxL := 5) (ret := (some .int)) RX1 (by decide) rfl rfl hG (Nat.le_of_ble_eq_true rfl) ?_
  intro p e s m below meth c X h ls hl
  have hl : lv_has ls 5 [(0, .ref (ga G j)), (1, .int a1), (2, .int a2), (3, .int a3)] := hl
  have hx := X.1
  have hb := X.2.1
  unfold wp_X1_gives at hw
  refine lv_aload_n hx hb dX1_gives_0 rfl (lv_at hl 0 rfl) ?_
  refine r_getI X h (X1_o h0) rfl uX1 4 (by decide) lf_1_119 rfl dX1_gives_1 ?_
  have s18 : ∀ (t0 : Int32) (μ : vM), ∀ (H : Heap) (locs : List Loc) (ls : Array Slot), bw G s μ H locs → lv_has ls 5 [(0, .ref (ga G j))] → wp_X1_gives_18 j a1 a2 a3 Q t0 μ → W p l e ({ frames := 2, cells := 0, slots := 0, locals := 48 } : Room) s m ([.ref (ga G j), .int a1, .int a2, .int a3] : List Value).toArray below meth c H locs 0 0 (MQ below (qI G Q) ([.ref (ga G j), .int a1, .int a2, .int a3] : List Value).toArray s 0 0 (gA G)) (F0 m 18 ls [.int t0]) := by
    intro t0 μ H locs ls h hl hw
    unfold wp_X1_gives_18 at hw
    refine lv_istore (lv' := [(4, .int t0), (0, .ref (ga G j))]) hx hb dX1_gives_18 hl (by decide) rfl (fun ls hl => ?_)
    refine lv_iconst (v := (0 : Int32)) hx hb dX1_gives_20 (by decide) ?_
    refine lv_aload_n hx hb dX1_gives_21 rfl (lv_at hl 1 rfl) ?_
    refine r_getI X h (X1_o h0) rfl uX1 1 (by decide) lf_1_115 rfl dX1_gives_22 ?_
    refine lv_iload hx hb dX1_gives_25 (lv_at hl 0 rfl) ?_
    refine r_min X hl.1 ww_2_105 ww_1_54 ww_1_4 ww_1_55 (Nat.le_of_ble_eq_true rfl) (Nat.le_of_ble_eq_true rfl) (Nat.le_of_ble_eq_true rfl) (Nat.le_of_ble_eq_true rfl) dX1_gives_27 ?_
    refine r_max X hl.1 ww_2_106 ww_2_107 ww_1_4 ww_2_108 (Nat.le_of_ble_eq_true rfl) (Nat.le_of_ble_eq_true rfl) (Nat.le_of_ble_eq_true rfl) (Nat.le_of_ble_eq_true rfl) dX1_gives_30 ?_
    exact r_iret X h hw dX1_gives_33
  refine lv_if_ne (tgt := 11) hx hb dX1_gives_4 (by decide) (fun hc => ?_) (fun hc => ?_)
  · rw [if_neg hc] at hw
    refine lv_aload_n hx hb dX1_gives_11 rfl (lv_at hl 0 rfl) ?_
    refine lv_iload_n hx hb dX1_gives_12 rfl (lv_at hl 1 rfl) ?_
    refine lv_iload_n hx hb dX1_gives_13 rfl (lv_at hl 2 rfl) ?_
    refine lv_iload_n hx hb dX1_gives_14 rfl (lv_at hl 3 rfl) ?_
    refine k_i h (n_V (rest := []) (As := [.int a1, .int a2, .int a3]) X h hl.1 (c_X1_workedOut l G hG j a1 a2 a3 h0 _ _ hw) gk_X1_35 rfl hd_X1_workedOut ⟨rfl, rfl⟩ ⟨Nat.le_of_ble_eq_true rfl, Nat.le_of_ble_eq_true rfl⟩ (X1_o h0) rfl rfl (Nat.le_of_ble_eq_true rfl) dX1_gives_15 ⟨Nat.zero_le _, Nat.zero_le _⟩) (fun r15 μ15 H locs hw h => ?_)
    exact s18 r15 μ15 _ _ _ h (lv_sub hl [0] rfl) hw
  · rw [if_pos hc] at hw
    refine lv_iload_n hx hb dX1_gives_7 rfl (lv_at hl 1 rfl) ?_
    refine lv_goto (tgt := 18) hx hb dX1_gives_8 (by decide) ?_
    exact s18 a1 μ _ _ _ h (lv_sub hl [0] rfl) hw
def wp_X3_copy (j : Nat) (p1 : Nat) (Q : vM → Prop) (μ : vM) : Prop := ¬ (0 : Int32) < 0 ∧ ¬ (0 : Int32) < 0 ∧ ¬ (10 : Int32) < 0 ∧ (0 : Int32).toNatClampNeg + (10 : Int32).toNatClampNeg ≤ 10 ∧ (0 : Int32).toNatClampNeg + (10 : Int32).toNatClampNeg ≤ 10 ∧ ∃ μ12 : vM, μ12 = sa μ (j + 1) (va_cpy (μ (p1 + 1)) (μ (j + 1)) (0 : Int32).toNatClampNeg (0 : Int32).toNatClampNeg (10 : Int32).toNatClampNeg) ∧ ¬ (0 : Int32) < 0 ∧ ¬ (0 : Int32) < 0 ∧ ¬ (100 : Int32) < 0 ∧ (0 : Int32).toNatClampNeg + (100 : Int32).toNatClampNeg ≤ 100 ∧ (0 : Int32).toNatClampNeg + (100 : Int32).toNatClampNeg ≤ 100 ∧ ∃ μ27 : vM, μ27 = sa μ12 (j + 2) (va_cpy (μ12 (p1 + 2)) (μ12 (j + 2)) (0 : Int32).toNatClampNeg (0 : Int32).toNatClampNeg (100 : Int32).toNatClampNeg) ∧ Q μ27
set_option maxRecDepth 100000 in
set_option maxHeartbeats 4000000 in
theorem c_X3_copy (l : Launch) (G : vG) (hG : gO G) (j : Nat) (p1 : Nat) (h0 : isX3 G j) (h1 : isX3 G p1) (Q : vM → Prop) (μ : vM) (hw : wp_X3_copy j p1 Q μ) : mt l G yX3_copy vX3_copy { frames := 1, cells := 0, slots := 0, locals := 60 } [.ref (ga G j), .ref (ga G p1)] μ (qV G Q) := by
  refine met_of (cc := cX3_copy) (maxL := 2) (ret := none) RX3 (by decide) rfl rfl hG (Nat.le_of_ble_eq_true rfl) ?_
  intro p e s m below meth c X h ls hl
  have hl : lv_has ls 2 [(0, .ref (ga G j)), (1, .ref (ga G p1))] := hl
  have hx := X.1
  have hb := X.2.1
  unfold wp_X3_copy at hw
  refine lv_aload_n hx hb dX3_copy_0 rfl (lv_at hl 1 rfl) ?_
  refine r_getR (q := (p1 + 1)) X h (X3_o h1) rfl uX3 0 (by decide) lf_1_56 rfl dX3_copy_1 ?_
  refine lv_iconst (v := (0 : Int32)) hx hb dX3_copy_4 (by decide) ?_
  refine lv_aload_n hx hb dX3_copy_5 rfl (lv_at hl 0 rfl) ?_
  refine r_getR (q := (j + 1)) X h (X3_o h0) rfl uX3 0 (by decide) lf_1_56 rfl dX3_copy_6 ?_
  refine lv_iconst (v := (0 : Int32)) hx hb dX3_copy_9 (by decide) ?_
  refine lv_bipush (v := (10 : Int32)) hx hb dX3_copy_10 (by decide) ?_
  obtain ⟨g1, g2, g3, g4, g5, μ12, eμ12, hw⟩ := hw
  refine r_copy X hl.1 h ww_3_166 ww_2_162 ww_2_161 ww_1_10 (X3_ways h1) (X3_ways h0) g1 g2 g3 g4 g5 (Nat.le_of_ble_eq_true rfl) (Nat.le_of_ble_eq_true rfl) eμ12 dX3_copy_12 (fun H locs h => ?_)
  refine lv_aload_n hx hb dX3_copy_15 rfl (lv_at hl 1 rfl) ?_
  refine r_getR (q := (p1 + 2)) X h (X3_o h1) rfl uX3 1 (by decide) lf_1_57 rfl dX3_copy_16 ?_
  refine lv_iconst (v := (0 : Int32)) hx hb dX3_copy_19 (by decide) ?_
  refine lv_aload_n hx hb dX3_copy_20 rfl (lv_at hl 0 rfl) ?_
  refine r_getR (q := (j + 2)) X h (X3_o h0) rfl uX3 1 (by decide) lf_1_57 rfl dX3_copy_21 ?_
  refine lv_iconst (v := (0 : Int32)) hx hb dX3_copy_24 (by decide) ?_
  refine lv_bipush (v := (100 : Int32)) hx hb dX3_copy_25 (by decide) ?_
  obtain ⟨g1, g2, g3, g4, g5, μ27, eμ27, hw⟩ := hw
  refine r_copy X hl.1 h ww_3_166 ww_2_162 ww_2_161 ww_1_10 (X3_far h1) (X3_far h0) g1 g2 g3 g4 g5 (Nat.le_of_ble_eq_true rfl) (Nat.le_of_ble_eq_true rfl) eμ27 dX3_copy_27 (fun H locs h => ?_)
  exact r_vret X h hw dX3_copy_30
def wp_X3_isOpen (j : Nat) (a1 : Int32) (a2 : Int32) (Q : Int32 → vM → Prop) (μ : vM) : Prop := vp_in a1 10 ∧ if (((μ (j + 1) a1.toNatClampNeg) >>> (a2 &&& 31)) &&& (1 : Int32)) = (1 : Int32) then Q (1 : Int32) μ else Q (0 : Int32) μ
set_option maxRecDepth 100000 in
set_option maxHeartbeats 4000000 in
theorem c_X3_isOpen (l : Launch) (G : vG) (hG : gO G) (j : Nat) (a1 : Int32) (a2 : Int32) (h0 : isX3 G j) (Q : Int32 → vM → Prop) (μ : vM) (hw : wp_X3_isOpen j a1 a2 Q μ) : mt l G yX3_isOpen vX3_isOpen { frames := 0, cells := 0, slots := 0, locals := 0 } [.ref (ga G j), .int a1, .int a2] μ (qI G Q) := by
  refine met_of (cc := cX3_isOpen) (maxL := 3) (ret := (some .boolean)) RX3 (by decide) rfl rfl hG (Nat.le_of_ble_eq_true rfl) ?_
  intro p e s m below meth c X h ls hl
  have hl : lv_has ls 3 [(0, .ref (ga G j)), (1, .int a1), (2, .int a2)] := hl
  have hx := X.1
  have hb := X.2.1
  unfold wp_X3_isOpen at hw
  refine lv_aload_n hx hb dX3_isOpen_0 rfl (lv_at hl 0 rfl) ?_
  refine r_getR (q := (j + 1)) X h (X3_o h0) rfl uX3 0 (by decide) lf_1_56 rfl dX3_isOpen_1 ?_
  refine lv_iload_n hx hb dX3_isOpen_4 rfl (lv_at hl 1 rfl) ?_
  obtain ⟨hi, hw⟩ := hw
  refine r_ald X h (X3_ways h0) hi dX3_isOpen_5 ?_
  refine lv_iload_n hx hb dX3_isOpen_6 rfl (lv_at hl 2 rfl) ?_
  refine lv_ishr hx hb dX3_isOpen_7 ?_
  refine lv_iconst (v := (1 : Int32)) hx hb dX3_isOpen_8 (by decide) ?_
  refine lv_iand hx hb dX3_isOpen_9 ?_
  refine lv_iconst (v := (1 : Int32)) hx hb dX3_isOpen_10 (by decide) ?_
  refine lv_icmp_ne (tgt := 18) hx hb dX3_isOpen_11 (by decide) (fun hc => ?_) (fun hc => ?_)
  · rw [if_neg hc] at hw
    refine lv_iconst (v := (0 : Int32)) hx hb dX3_isOpen_18 (by decide) ?_
    exact r_zret X h (Or.inl rfl) hw dX3_isOpen_19
  · rw [if_pos hc] at hw
    refine lv_iconst (v := (1 : Int32)) hx hb dX3_isOpen_14 (by decide) ?_
    refine lv_goto (tgt := 19) hx hb dX3_isOpen_15 (by decide) ?_
    exact r_zret X h (Or.inr rfl) hw dX3_isOpen_19
def wp_X3_leads (j : Nat) (a1 : Int32) (a2 : Int32) (Q : Int32 → vM → Prop) (μ : vM) : Prop := vp_in ((a1 * (10 : Int32)) + a2) 100 ∧ if (99 : Int32) ≤ (μ (j + 2) ((a1 * (10 : Int32)) + a2).toNatClampNeg) then Q (0 : Int32) μ else Q (1 : Int32) μ
set_option maxRecDepth 100000 in
set_option maxHeartbeats 4000000 in
theorem c_X3_leads (l : Launch) (G : vG) (hG : gO G) (j : Nat) (a1 : Int32) (a2 : Int32) (h0 : isX3 G j) (Q : Int32 → vM → Prop) (μ : vM) (hw : wp_X3_leads j a1 a2 Q μ) : mt l G yX3_leads vX3_leads { frames := 0, cells := 0, slots := 0, locals := 0 } [.ref (ga G j), .int a1, .int a2] μ (qI G Q) := by
  refine met_of (cc := cX3_leads) (maxL := 3) (ret := (some .boolean)) RX3 (by decide) rfl rfl hG (Nat.le_of_ble_eq_true rfl) ?_
  intro p e s m below meth c X h ls hl
  have hl : lv_has ls 3 [(0, .ref (ga G j)), (1, .int a1), (2, .int a2)] := hl
  have hx := X.1
  have hb := X.2.1
  unfold wp_X3_leads at hw
  refine lv_aload_n hx hb dX3_leads_0 rfl (lv_at hl 0 rfl) ?_
  refine r_getR (q := (j + 2)) X h (X3_o h0) rfl uX3 1 (by decide) lf_1_57 rfl dX3_leads_1 ?_
  refine lv_iload_n hx hb dX3_leads_4 rfl (lv_at hl 1 rfl) ?_
  refine lv_bipush (v := (10 : Int32)) hx hb dX3_leads_5 (by decide) ?_
  refine lv_imul hx hb dX3_leads_7 ?_
  refine lv_iload_n hx hb dX3_leads_8 rfl (lv_at hl 2 rfl) ?_
  refine lv_iadd hx hb dX3_leads_9 ?_
  obtain ⟨hi, hw⟩ := hw
  refine r_ald X h (X3_far h0) hi dX3_leads_10 ?_
  refine lv_bipush (v := (99 : Int32)) hx hb dX3_leads_11 (by decide) ?_
  refine lv_icmp_ge (tgt := 20) hx hb dX3_leads_13 (by decide) (fun hc => ?_) (fun hc => ?_)
  · rw [if_pos hc] at hw
    refine lv_iconst (v := (0 : Int32)) hx hb dX3_leads_20 (by decide) ?_
    exact r_zret X h (Or.inl rfl) hw dX3_leads_21
  · rw [if_neg hc] at hw
    refine lv_iconst (v := (1 : Int32)) hx hb dX3_leads_16 (by decide) ?_
    refine lv_goto (tgt := 21) hx hb dX3_leads_17 (by decide) ?_
    exact r_zret X h (Or.inr rfl) hw dX3_leads_21
def wp_X3_between (j : Nat) (a1 : Int32) (a2 : Int32) (Q : Int32 → vM → Prop) (μ : vM) : Prop := vp_in ((a1 * (10 : Int32)) + a2) 100 ∧ Q (μ (j + 2) ((a1 * (10 : Int32)) + a2).toNatClampNeg) μ
set_option maxRecDepth 100000 in
set_option maxHeartbeats 4000000 in
theorem c_X3_between (l : Launch) (G : vG) (hG : gO G) (j : Nat) (a1 : Int32) (a2 : Int32) (h0 : isX3 G j) (Q : Int32 → vM → Prop) (μ : vM) (hw : wp_X3_between j a1 a2 Q μ) : mt l G yX3_between vX3_between { frames := 0, cells := 0, slots := 0, locals := 0 } [.ref (ga G j), .int a1, .int a2] μ (qI G Q) := by
  refine met_of (cc := cX3_between) (maxL := 3) (ret := (some .int)) RX3 (by decide) rfl rfl hG (Nat.le_of_ble_eq_true rfl) ?_
  intro p e s m below meth c X h ls hl
  have hl : lv_has ls 3 [(0, .ref (ga G j)), (1, .int a1), (2, .int a2)] := hl
  have hx := X.1
  have hb := X.2.1
  unfold wp_X3_between at hw
  refine lv_aload_n hx hb dX3_between_0 rfl (lv_at hl 0 rfl) ?_
  refine r_getR (q := (j + 2)) X h (X3_o h0) rfl uX3 1 (by decide) lf_1_57 rfl dX3_between_1 ?_
  refine lv_iload_n hx hb dX3_between_4 rfl (lv_at hl 1 rfl) ?_
  refine lv_bipush (v := (10 : Int32)) hx hb dX3_between_5 (by decide) ?_
  refine lv_imul hx hb dX3_between_7 ?_
  refine lv_iload_n hx hb dX3_between_8 rfl (lv_at hl 2 rfl) ?_
  refine lv_iadd hx hb dX3_between_9 ?_
  obtain ⟨hi, hw⟩ := hw
  refine r_ald X h (X3_far h0) hi dX3_between_10 ?_
  exact r_iret X h hw dX3_between_11
def wp_X3_shorten_11 (j : Nat) (a1 : Int32) (a2 : Int32) (Q : vM → Prop) (k2 : Int32 → vM → Prop) : Nat → Int32 → Int32 → vM → Prop
  | 0, _, _, _ => False
  | n11 + 1, x3, x4, μ => if (10 : Int32) ≤ x4 then ∃ x3_89 : Int32, x3_89 = x3 + (1 : Int32) ∧ k2 x3_89 μ else wp_X3_between j x3 a1 (fun r21 μ21 => wp_X3_between j a2 x4 (fun r30 μ30 => ∃ x5_34 : Int32, x5_34 = (r21 + (1 : Int32)) + r30 ∧ wp_X3_between j x3 a2 (fun r39 μ39 => wp_X3_between j a1 x4 (fun r48 μ48 => ∃ x6_52 : Int32, x6_52 = (r39 + (1 : Int32)) + r48 ∧ wp_X3_between j x3 x4 (fun r69 μ69 => vp_in ((x3 * (10 : Int32)) + x4) 100 ∧ ∃ μ82 : vM, μ82 = st μ69 (j + 2) ((x3 * (10 : Int32)) + x4).toNatClampNeg (if (if x6_52 < x5_34 then x6_52 else x5_34) < r69 then (if x6_52 < x5_34 then x6_52 else x5_34) else r69) ∧ ∃ x4_83 : Int32, x4_83 = x4 + (1 : Int32) ∧ wp_X3_shorten_11 j a1 a2 Q k2 n11 x3 x4_83 μ82) μ48) μ39) μ30) μ21) μ
def wp_X3_shorten_2 (j : Nat) (a1 : Int32) (a2 : Int32) (Q : vM → Prop) : Nat → Int32 → vM → Prop
  | 0, _, _ => False
  | n2 + 1, x3, μ => if (10 : Int32) ≤ x3 then Q μ else ∃ n11, wp_X3_shorten_11 j a1 a2 Q (fun x3 μ => wp_X3_shorten_2 j a1 a2 Q n2 x3 μ) n11 x3 (0 : Int32) μ
def wp_X3_shorten (j : Nat) (a1 : Int32) (a2 : Int32) (Q : vM → Prop) (μ : vM) : Prop := ∃ n2, wp_X3_shorten_2 j a1 a2 Q n2 (0 : Int32) μ
set_option maxRecDepth 100000 in
set_option maxHeartbeats 4000000 in
theorem c_X3_shorten (l : Launch) (G : vG) (hG : gO G) (j : Nat) (a1 : Int32) (a2 : Int32) (h0 : isX3 G j) (Q : vM → Prop) (μ : vM) (hw : wp_X3_shorten j a1 a2 Q μ) : mt l G yX3_shorten vX3_shorten { frames := 1, cells := 0, slots := 0, locals := 30 } [.ref (ga G j), .int a1, .int a2] μ (qV G Q) := by
  refine met_of (cc := cX3_shorten) (maxL := 7) (ret := none) RX3 (by decide) rfl rfl hG (Nat.le_of_ble_eq_true rfl) ?_
  intro p e s m below meth c X h ls hl
  have hl : lv_has ls 7 [(0, .ref (ga G j)), (1, .int a1), (2, .int a2)] := hl
  have hx := X.1
  have hb := X.2.1
  unfold wp_X3_shorten at hw
  refine lv_iconst (v := (0 : Int32)) hx hb dX3_shorten_0 (by decide) ?_
  refine lv_istore_n (lv' := [(3, .int (0 : Int32)), (0, .ref (ga G j)), (1, .int a1), (2, .int a2)]) hx hb dX3_shorten_1 rfl hl (by decide) rfl (fun ls hl => ?_)
  have s2 : ∀ (n2 : Nat) (x3 : Int32) (μ : vM), ∀ (H : Heap) (locs : List Loc) (ls : Array Slot), bw G s μ H locs → lv_has ls 7 [(0, .ref (ga G j)), (1, .int a1), (2, .int a2), (3, .int x3)] → wp_X3_shorten_2 j a1 a2 Q n2 x3 μ → W p l e ({ frames := 1, cells := 0, slots := 0, locals := 30 } : Room) s m ([.ref (ga G j), .int a1, .int a2] : List Value).toArray below meth c H locs 0 0 (MQ below (qV G Q) ([.ref (ga G j), .int a1, .int a2] : List Value).toArray s 0 0 (gA G)) (F0 m 2 ls []) := by
    intro n2
    induction n2 with
    | zero => intro x3 μ H locs ls h hl hw; exact absurd hw (by unfold wp_X3_shorten_2; exact id)
    | succ n2 ih2 =>
      intro x3 μ H locs ls h hl hw
      unfold wp_X3_shorten_2 at hw
      refine lv_iload_n hx hb dX3_shorten_2 rfl (lv_at hl 3 rfl) ?_
      refine lv_bipush (v := (10 : Int32)) hx hb dX3_shorten_3 (by decide) ?_
      refine lv_icmp_ge (tgt := 95) hx hb dX3_shorten_5 (by decide) (fun hc => ?_) (fun hc => ?_)
      · rw [if_pos hc] at hw
        exact r_vret X h hw dX3_shorten_95
      · rw [if_neg hc] at hw
        refine lv_iconst (v := (0 : Int32)) hx hb dX3_shorten_8 (by decide) ?_
        refine lv_istore (lv' := [(4, .int (0 : Int32)), (0, .ref (ga G j)), (1, .int a1), (2, .int a2), (3, .int x3)]) hx hb dX3_shorten_9 hl (by decide) rfl (fun ls hl => ?_)
        have s11 : ∀ (n11 : Nat) (x3 : Int32) (x4 : Int32) (μ : vM), ∀ (H : Heap) (locs : List Loc) (ls : Array Slot), bw G s μ H locs → lv_has ls 7 [(0, .ref (ga G j)), (1, .int a1), (2, .int a2), (3, .int x3), (4, .int x4)] → wp_X3_shorten_11 j a1 a2 Q (fun x3 μ => wp_X3_shorten_2 j a1 a2 Q n2 x3 μ) n11 x3 x4 μ → W p l e ({ frames := 1, cells := 0, slots := 0, locals := 30 } : Room) s m ([.ref (ga G j), .int a1, .int a2] : List Value).toArray below meth c H locs 0 0 (MQ below (qV G Q) ([.ref (ga G j), .int a1, .int a2] : List Value).toArray s 0 0 (gA G)) (F0 m 11 ls []) := by
          intro n11
          induction n11 with
          | zero => intro x3 x4 μ H locs ls h hl hw; exact absurd hw (by unfold wp_X3_shorten_11; exact id)
          | succ n11 ih11 =>
            intro x3 x4 μ H locs ls h hl hw
            unfold wp_X3_shorten_11 at hw
            refine lv_iload hx hb dX3_shorten_11 (lv_at hl 4 rfl) ?_
            refine lv_bipush (v := (10 : Int32)) hx hb dX3_shorten_13 (by decide) ?_
            refine lv_icmp_ge (tgt := 89) hx hb dX3_shorten_15 (by decide) (fun hc => ?_) (fun hc => ?_)
            · rw [if_pos hc] at hw
              obtain ⟨x3_89, ex3_89, hw⟩ := hw
              refine lv_iinc (v := x3_89) (lv' := [(3, .int x3_89), (0, .ref (ga G j)), (1, .int a1), (2, .int a2), (4, .int x4)]) hx hb dX3_shorten_89 hl (k := 3) rfl (by rw [ex3_89]; rfl) (by decide) rfl (fun ls hl => ?_)
              refine lv_goto (tgt := 2) hx hb dX3_shorten_92 (by decide) ?_
              exact ih2 x3_89 μ _ _ _ h (lv_sub hl [1, 2, 3, 0] rfl) hw
            · rw [if_neg hc] at hw
              refine lv_aload_n hx hb dX3_shorten_18 rfl (lv_at hl 0 rfl) ?_
              refine lv_iload_n hx hb dX3_shorten_19 rfl (lv_at hl 3 rfl) ?_
              refine lv_iload_n hx hb dX3_shorten_20 rfl (lv_at hl 1 rfl) ?_
              refine k_i h (n_V (rest := []) (As := [.int x3, .int a1]) X h hl.1 (c_X3_between l G hG j x3 a1 h0 _ _ hw) gk_X3_35 rfl hd_X3_between ⟨rfl, rfl⟩ ⟨Nat.le_of_ble_eq_true rfl, Nat.le_of_ble_eq_true rfl⟩ (X3_o h0) rfl rfl (Nat.le_of_ble_eq_true rfl) dX3_shorten_21 ⟨Nat.zero_le _, Nat.zero_le _⟩) (fun r21 μ21 H locs hw h => ?_)
              refine lv_iconst (v := (1 : Int32)) hx hb dX3_shorten_24 (by decide) ?_
              refine lv_iadd hx hb dX3_shorten_25 ?_
              refine lv_aload_n hx hb dX3_shorten_26 rfl (lv_at hl 0 rfl) ?_
              refine lv_iload_n hx hb dX3_shorten_27 rfl (lv_at hl 2 rfl) ?_
              refine lv_iload hx hb dX3_shorten_28 (lv_at hl 4 rfl) ?_
              refine k_i h (n_V (rest := [.int (r21 + (1 : Int32))]) (As := [.int a2, .int x4]) X h hl.1 (c_X3_between l G hG j a2 x4 h0 _ _ hw) gk_X3_35 rfl hd_X3_between ⟨rfl, rfl⟩ ⟨Nat.le_of_ble_eq_true rfl, Nat.le_of_ble_eq_true rfl⟩ (X3_o h0) rfl rfl (Nat.le_of_ble_eq_true rfl) dX3_shorten_30 ⟨Nat.zero_le _, Nat.zero_le _⟩) (fun r30 μ30 H locs hw h => ?_)
              refine lv_iadd hx hb dX3_shorten_33 ?_
              obtain ⟨x5_34, ex5_34, hw⟩ := hw
              refine topE ex5_34 ?_
              refine lv_istore (lv' := [(5, .int x5_34), (0, .ref (ga G j)), (1, .int a1), (2, .int a2), (3, .int x3), (4, .int x4)]) hx hb dX3_shorten_34 hl (by decide) rfl (fun ls hl => ?_)
              refine lv_aload_n hx hb dX3_shorten_36 rfl (lv_at hl 1 rfl) ?_
              refine lv_iload_n hx hb dX3_shorten_37 rfl (lv_at hl 4 rfl) ?_
              refine lv_iload_n hx hb dX3_shorten_38 rfl (lv_at hl 3 rfl) ?_
              refine k_i h (n_V (rest := []) (As := [.int x3, .int a2]) X h hl.1 (c_X3_between l G hG j x3 a2 h0 _ _ hw) gk_X3_35 rfl hd_X3_between ⟨rfl, rfl⟩ ⟨Nat.le_of_ble_eq_true rfl, Nat.le_of_ble_eq_true rfl⟩ (X3_o h0) rfl rfl (Nat.le_of_ble_eq_true rfl) dX3_shorten_39 ⟨Nat.zero_le _, Nat.zero_le _⟩) (fun r39 μ39 H locs hw h => ?_)
              refine lv_iconst (v := (1 : Int32)) hx hb dX3_shorten_42 (by decide) ?_
              refine lv_iadd hx hb dX3_shorten_43 ?_
              refine lv_aload_n hx hb dX3_shorten_44 rfl (lv_at hl 1 rfl) ?_
              refine lv_iload_n hx hb dX3_shorten_45 rfl (lv_at hl 2 rfl) ?_
              refine lv_iload hx hb dX3_shorten_46 (lv_at hl 5 rfl) ?_
              refine k_i h (n_V (rest := [.int (r39 + (1 : Int32))]) (As := [.int a1, .int x4]) X h hl.1 (c_X3_between l G hG j a1 x4 h0 _ _ hw) gk_X3_35 rfl hd_X3_between ⟨rfl, rfl⟩ ⟨Nat.le_of_ble_eq_true rfl, Nat.le_of_ble_eq_true rfl⟩ (X3_o h0) rfl rfl (Nat.le_of_ble_eq_true rfl) dX3_shorten_48 ⟨Nat.zero_le _, Nat.zero_le _⟩) (fun r48 μ48 H locs hw h => ?_)
              refine lv_iadd hx hb dX3_shorten_51 ?_
              obtain ⟨x6_52, ex6_52, hw⟩ := hw
              refine topE ex6_52 ?_
              refine lv_istore (lv' := [(6, .int x6_52), (5, .int x5_34), (0, .ref (ga G j)), (1, .int a1), (2, .int a2), (3, .int x3), (4, .int x4)]) hx hb dX3_shorten_52 hl (by decide) rfl (fun ls hl => ?_)
              refine lv_aload_n hx hb dX3_shorten_54 rfl (lv_at hl 2 rfl) ?_
              refine r_getR (q := (j + 2)) X h (X3_o h0) rfl uX3 1 (by decide) lf_1_57 rfl dX3_shorten_55 ?_
              refine lv_iload_n hx hb dX3_shorten_58 rfl (lv_at hl 5 rfl) ?_
              refine lv_bipush (v := (10 : Int32)) hx hb dX3_shorten_59 (by decide) ?_
              refine lv_imul hx hb dX3_shorten_61 ?_
              refine lv_iload hx hb dX3_shorten_62 (lv_at hl 6 rfl) ?_
              refine lv_iadd hx hb dX3_shorten_64 ?_
              refine lv_aload_n hx hb dX3_shorten_65 rfl (lv_at hl 2 rfl) ?_
              refine lv_iload_n hx hb dX3_shorten_66 rfl (lv_at hl 5 rfl) ?_
              refine lv_iload hx hb dX3_shorten_67 (lv_at hl 6 rfl) ?_
              refine k_i h (n_V (rest := [.int ((x3 * (10 : Int32)) + x4), .ref (ga G (j + 2))]) (As := [.int x3, .int x4]) X h hl.1 (c_X3_between l G hG j x3 x4 h0 _ _ hw) gk_X3_35 rfl hd_X3_between ⟨rfl, rfl⟩ ⟨Nat.le_of_ble_eq_true rfl, Nat.le_of_ble_eq_true rfl⟩ (X3_o h0) rfl rfl (Nat.le_of_ble_eq_true rfl) dX3_shorten_69 ⟨Nat.zero_le _, Nat.zero_le _⟩) (fun r69 μ69 H locs hw h => ?_)
              refine lv_iload hx hb dX3_shorten_72 (lv_at hl 1 rfl) ?_
              refine lv_iload hx hb dX3_shorten_74 (lv_at hl 0 rfl) ?_
              refine r_min X hl.1 ww_1_53 ww_1_54 ww_1_4 ww_1_55 (Nat.le_of_ble_eq_true rfl) (Nat.le_of_ble_eq_true rfl) (Nat.le_of_ble_eq_true rfl) (Nat.le_of_ble_eq_true rfl) dX3_shorten_76 ?_
              refine r_min X hl.1 ww_1_53 ww_1_54 ww_1_4 ww_1_55 (Nat.le_of_ble_eq_true rfl) (Nat.le_of_ble_eq_true rfl) (Nat.le_of_ble_eq_true rfl) (Nat.le_of_ble_eq_true rfl) dX3_shorten_79 ?_
              obtain ⟨hi, μ82, eμ82, hw⟩ := hw
              refine r_ast X h (X3_far h0) hi eμ82 dX3_shorten_82 (fun H locs h => ?_)
              obtain ⟨x4_83, ex4_83, hw⟩ := hw
              refine lv_iinc (v := x4_83) (lv' := [(4, .int x4_83), (6, .int x6_52), (5, .int x5_34), (0, .ref (ga G j)), (1, .int a1), (2, .int a2), (3, .int x3)]) hx hb dX3_shorten_83 hl (k := 6) rfl (by rw [ex4_83]; rfl) (by decide) rfl (fun ls hl => ?_)
              refine lv_goto (tgt := 11) hx hb dX3_shorten_86 (by decide) ?_
              exact ih11 x3 x4_83 μ82 _ _ _ h (lv_sub hl [3, 4, 5, 6, 0] rfl) hw
        obtain ⟨n, hw⟩ := hw
        exact s11 n x3 (0 : Int32) μ _ _ _ h (lv_sub hl [1, 2, 3, 4, 0] rfl) hw
  obtain ⟨n, hw⟩ := hw
  exact s2 n (0 : Int32) μ _ _ _ h (lv_sub hl [1, 2, 3, 0] rfl) hw
def wp_X3_join (j : Nat) (a1 : Int32) (a2 : Int32) (Q : vM → Prop) (μ : vM) : Prop := vp_in a1 10 ∧ vp_in a1 10 ∧ ∃ μ11 : vM, μ11 = st μ (j + 1) a1.toNatClampNeg ((μ (j + 1) a1.toNatClampNeg) ||| ((1 : Int32) <<< (a2 &&& 31))) ∧ vp_in a2 10 ∧ vp_in a2 10 ∧ ∃ μ23 : vM, μ23 = st μ11 (j + 1) a2.toNatClampNeg ((μ11 (j + 1) a2.toNatClampNeg) ||| ((1 : Int32) <<< (a1 &&& 31))) ∧ wp_X3_shorten j a1 a2 (fun μ27 => Q μ27) μ23
set_option maxRecDepth 100000 in
set_option maxHeartbeats 4000000 in
theorem c_X3_join (l : Launch) (G : vG) (hG : gO G) (j : Nat) (a1 : Int32) (a2 : Int32) (h0 : isX3 G j) (Q : vM → Prop) (μ : vM) (hw : wp_X3_join j a1 a2 Q μ) : mt l G yX3_join vX3_join { frames := 2, cells := 0, slots := 0, locals := 56 } [.ref (ga G j), .int a1, .int a2] μ (qV G Q) := by
  refine met_of (cc := cX3_join) (maxL := 3) (ret := none) RX3 (by decide) rfl rfl hG (Nat.le_of_ble_eq_true rfl) ?_
  intro p e s m below meth c X h ls hl
  have hl : lv_has ls 3 [(0, .ref (ga G j)), (1, .int a1), (2, .int a2)] := hl
  have hx := X.1
  have hb := X.2.1
  unfold wp_X3_join at hw
  refine lv_aload_n hx hb dX3_join_0 rfl (lv_at hl 0 rfl) ?_
  refine r_getR (q := (j + 1)) X h (X3_o h0) rfl uX3 0 (by decide) lf_1_56 rfl dX3_join_1 ?_
  refine lv_iload_n hx hb dX3_join_4 rfl (lv_at hl 1 rfl) ?_
  refine lv_dup2_11 hx hb dX3_join_5 rfl rfl ?_
  obtain ⟨hi, hw⟩ := hw
  refine r_ald X h (X3_ways h0) hi dX3_join_6 ?_
  refine lv_iconst (v := (1 : Int32)) hx hb dX3_join_7 (by decide) ?_
  refine lv_iload_n hx hb dX3_join_8 rfl (lv_at hl 2 rfl) ?_
  refine lv_ishl hx hb dX3_join_9 ?_
  refine lv_ior hx hb dX3_join_10 ?_
  obtain ⟨hi, μ11, eμ11, hw⟩ := hw
  refine r_ast X h (X3_ways h0) hi eμ11 dX3_join_11 (fun H locs h => ?_)
  refine lv_aload_n hx hb dX3_join_12 rfl (lv_at hl 0 rfl) ?_
  refine r_getR (q := (j + 1)) X h (X3_o h0) rfl uX3 0 (by decide) lf_1_56 rfl dX3_join_13 ?_
  refine lv_iload_n hx hb dX3_join_16 rfl (lv_at hl 2 rfl) ?_
  refine lv_dup2_11 hx hb dX3_join_17 rfl rfl ?_
  obtain ⟨hi, hw⟩ := hw
  refine r_ald X h (X3_ways h0) hi dX3_join_18 ?_
  refine lv_iconst (v := (1 : Int32)) hx hb dX3_join_19 (by decide) ?_
  refine lv_iload_n hx hb dX3_join_20 rfl (lv_at hl 1 rfl) ?_
  refine lv_ishl hx hb dX3_join_21 ?_
  refine lv_ior hx hb dX3_join_22 ?_
  obtain ⟨hi, μ23, eμ23, hw⟩ := hw
  refine r_ast X h (X3_ways h0) hi eμ23 dX3_join_23 (fun H locs h => ?_)
  refine lv_aload_n hx hb dX3_join_24 rfl (lv_at hl 0 rfl) ?_
  refine lv_iload_n hx hb dX3_join_25 rfl (lv_at hl 1 rfl) ?_
  refine lv_iload_n hx hb dX3_join_26 rfl (lv_at hl 2 rfl) ?_
  refine k_v h (n_V (rest := []) (As := [.int a1, .int a2]) X h hl.1 (c_X3_shorten l G hG j a1 a2 h0 _ _ hw) gk_X3_27 rfl hd_X3_shorten ⟨rfl, rfl⟩ ⟨Nat.le_of_ble_eq_true rfl, Nat.le_of_ble_eq_true rfl⟩ (X3_o h0) rfl rfl (Nat.le_of_ble_eq_true rfl) dX3_join_27 ⟨Nat.zero_le _, Nat.zero_le _⟩) (fun μ27 H locs hw h => ?_)
  exact r_vret X h hw dX3_join_30
def wp_X3_measure_73 (j : Nat) (Q : vM → Prop) (k52 : Int32 → Int32 → vM → Prop) (x1 : Int32) (x2 : Int32) (μ : vM) : Prop := ∃ x2_73 : Int32, x2_73 = x2 + (1 : Int32) ∧ k52 x1 x2_73 μ
def wp_X3_measure_52 (j : Nat) (Q : vM → Prop) (k42 : Int32 → vM → Prop) : Nat → Int32 → Int32 → vM → Prop
  | 0, _, _, _ => False
  | n52 + 1, x1, x2, μ => if (10 : Int32) ≤ x2 then ∃ x1_79 : Int32, x1_79 = x1 + (1 : Int32) ∧ k42 x1_79 μ else wp_X3_isOpen j x1 x2 (fun r61 μ61 => if r61 = 0 then wp_X3_measure_73 j Q (fun x1 x2 μ => wp_X3_measure_52 j Q k42 n52 x1 x2 μ) x1 x2 μ61 else wp_X3_shorten j x1 x2 (fun μ70 => wp_X3_measure_73 j Q (fun x1 x2 μ => wp_X3_measure_52 j Q k42 n52 x1 x2 μ) x1 x2 μ70) μ61) μ
def wp_X3_measure_42 (j : Nat) (Q : vM → Prop) : Nat → Int32 → vM → Prop
  | 0, _, _ => False
  | n42 + 1, x1, μ => if (10 : Int32) ≤ x1 then Q μ else ∃ x2_51 : Int32, x2_51 = x1 + (1 : Int32) ∧ ∃ n52, wp_X3_measure_52 j Q (fun x1 μ => wp_X3_measure_42 j Q n42 x1 μ) n52 x1 x2_51 μ
def wp_X3_measure_33 (j : Nat) (Q : vM → Prop) (k2 : Int32 → vM → Prop) (x1 : Int32) (t1 : Int32) (t2 : Int32) (μ : vM) : Prop := vp_in t1 100 ∧ ∃ μ33 : vM, μ33 = st μ (j + 2) t1.toNatClampNeg t2 ∧ ∃ x1_34 : Int32, x1_34 = x1 + (1 : Int32) ∧ k2 x1_34 μ33
def wp_X3_measure_2 (j : Nat) (Q : vM → Prop) : Nat → Int32 → vM → Prop
  | 0, _, _ => False
  | n2 + 1, x1, μ => if (100 : Int32) ≤ x1 then ∃ n42, wp_X3_measure_42 j Q n42 (0 : Int32) μ else wp_X3_measure_33 j Q (fun x1 μ => wp_X3_measure_2 j Q n2 x1 μ) x1 x1 (if (x1 / (10 : Int32)) = (x1 % (10 : Int32)) then (0 : Int32) else (99 : Int32)) μ
def wp_X3_measure (j : Nat) (Q : vM → Prop) (μ : vM) : Prop := ∃ n2, wp_X3_measure_2 j Q n2 (0 : Int32) μ
set_option maxRecDepth 100000 in
set_option maxHeartbeats 4000000 in
theorem c_X3_measure (l : Launch) (G : vG) (hG : gO G) (j : Nat) (h0 : isX3 G j) (Q : vM → Prop) (μ : vM) (hw : wp_X3_measure j Q μ) : mt l G yX3_measure vX3_measure { frames := 2, cells := 0, slots := 0, locals := 56 } [.ref (ga G j)] μ (qV G Q) := by
  refine met_of (cc := cX3_measure) (maxL := 3) (ret := none) RX3 (by decide) rfl rfl hG (Nat.le_of_ble_eq_true rfl) ?_
  intro p e s m below meth c X h ls hl
  have hl : lv_has ls 3 [(0, .ref (ga G j))] := hl
  have hx := X.1
  have hb := X.2.1
  unfold wp_X3_measure at hw
  refine lv_iconst (v := (0 : Int32)) hx hb dX3_measure_0 (by decide) ?_
  refine lv_istore_n (lv' := [(1, .int (0 : Int32)), (0, .ref (ga G j))]) hx hb dX3_measure_1 rfl hl (by decide) rfl (fun ls hl => ?_)
  have s2 : ∀ (n2 : Nat) (x1 : Int32) (μ : vM), ∀ (H : Heap) (locs : List Loc) (ls : Array Slot), bw G s μ H locs → lv_has ls 3 [(0, .ref (ga G j)), (1, .int x1)] → wp_X3_measure_2 j Q n2 x1 μ → W p l e ({ frames := 2, cells := 0, slots := 0, locals := 56 } : Room) s m ([.ref (ga G j)] : List Value).toArray below meth c H locs 0 0 (MQ below (qV G Q) ([.ref (ga G j)] : List Value).toArray s 0 0 (gA G)) (F0 m 2 ls []) := by
    intro n2
    induction n2 with
    | zero => intro x1 μ H locs ls h hl hw; exact absurd hw (by unfold wp_X3_measure_2; exact id)
    | succ n2 ih2 =>
      intro x1 μ H locs ls h hl hw
      unfold wp_X3_measure_2 at hw
      refine lv_iload_n hx hb dX3_measure_2 rfl (lv_at hl 1 rfl) ?_
      refine lv_aload_n hx hb dX3_measure_3 rfl (lv_at hl 0 rfl) ?_
      refine r_getR (q := (j + 2)) X h (X3_o h0) rfl uX3 1 (by decide) lf_1_57 rfl dX3_measure_4 ?_
      refine r_alen X h (X3_far h0) (v := (100 : Int32)) (by decide) dX3_measure_7 ?_
      refine lv_icmp_ge (tgt := 40) hx hb dX3_measure_8 (by decide) (fun hc => ?_) (fun hc => ?_)
      · rw [if_pos hc] at hw
        refine lv_iconst (v := (0 : Int32)) hx hb dX3_measure_40 (by decide) ?_
        refine lv_istore_n (lv' := [(1, .int (0 : Int32)), (0, .ref (ga G j))]) hx hb dX3_measure_41 rfl hl (by decide) rfl (fun ls hl => ?_)
        have s42 : ∀ (n42 : Nat) (x1 : Int32) (μ : vM), ∀ (H : Heap) (locs : List Loc) (ls : Array Slot), bw G s μ H locs → lv_has ls 3 [(0, .ref (ga G j)), (1, .int x1)] → wp_X3_measure_42 j Q n42 x1 μ → W p l e ({ frames := 2, cells := 0, slots := 0, locals := 56 } : Room) s m ([.ref (ga G j)] : List Value).toArray below meth c H locs 0 0 (MQ below (qV G Q) ([.ref (ga G j)] : List Value).toArray s 0 0 (gA G)) (F0 m 42 ls []) := by
          intro n42
          induction n42 with
          | zero => intro x1 μ H locs ls h hl hw; exact absurd hw (by unfold wp_X3_measure_42; exact id)
          | succ n42 ih42 =>
            intro x1 μ H locs ls h hl hw
            unfold wp_X3_measure_42 at hw
            refine lv_iload_n hx hb dX3_measure_42 rfl (lv_at hl 1 rfl) ?_
            refine lv_bipush (v := (10 : Int32)) hx hb dX3_measure_43 (by decide) ?_
            refine lv_icmp_ge (tgt := 85) hx hb dX3_measure_45 (by decide) (fun hc => ?_) (fun hc => ?_)
            · rw [if_pos hc] at hw
              exact r_vret X h hw dX3_measure_85
            · rw [if_neg hc] at hw
              refine lv_iload_n hx hb dX3_measure_48 rfl (lv_at hl 1 rfl) ?_
              refine lv_iconst (v := (1 : Int32)) hx hb dX3_measure_49 (by decide) ?_
              refine lv_iadd hx hb dX3_measure_50 ?_
              obtain ⟨x2_51, ex2_51, hw⟩ := hw
              refine topE ex2_51 ?_
              refine lv_istore_n (lv' := [(2, .int x2_51), (0, .ref (ga G j)), (1, .int x1)]) hx hb dX3_measure_51 rfl hl (by decide) rfl (fun ls hl => ?_)
              have s52 : ∀ (n52 : Nat) (x1 : Int32) (x2 : Int32) (μ : vM), ∀ (H : Heap) (locs : List Loc) (ls : Array Slot), bw G s μ H locs → lv_has ls 3 [(0, .ref (ga G j)), (1, .int x1), (2, .int x2)] → wp_X3_measure_52 j Q (fun x1 μ => wp_X3_measure_42 j Q n42 x1 μ) n52 x1 x2 μ → W p l e ({ frames := 2, cells := 0, slots := 0, locals := 56 } : Room) s m ([.ref (ga G j)] : List Value).toArray below meth c H locs 0 0 (MQ below (qV G Q) ([.ref (ga G j)] : List Value).toArray s 0 0 (gA G)) (F0 m 52 ls []) := by
                intro n52
                induction n52 with
                | zero => intro x1 x2 μ H locs ls h hl hw; exact absurd hw (by unfold wp_X3_measure_52; exact id)
                | succ n52 ih52 =>
                  intro x1 x2 μ H locs ls h hl hw
                  unfold wp_X3_measure_52 at hw
                  refine lv_iload_n hx hb dX3_measure_52 rfl (lv_at hl 2 rfl) ?_
                  refine lv_bipush (v := (10 : Int32)) hx hb dX3_measure_53 (by decide) ?_
                  refine lv_icmp_ge (tgt := 79) hx hb dX3_measure_55 (by decide) (fun hc => ?_) (fun hc => ?_)
                  · rw [if_pos hc] at hw
                    obtain ⟨x1_79, ex1_79, hw⟩ := hw
                    refine lv_iinc (v := x1_79) (lv' := [(1, .int x1_79), (0, .ref (ga G j)), (2, .int x2)]) hx hb dX3_measure_79 hl (k := 1) rfl (by rw [ex1_79]; rfl) (by decide) rfl (fun ls hl => ?_)
                    refine lv_goto (tgt := 42) hx hb dX3_measure_82 (by decide) ?_
                    exact ih42 x1_79 μ _ _ _ h (lv_sub hl [1, 0] rfl) hw
                  · rw [if_neg hc] at hw
                    refine lv_aload_n hx hb dX3_measure_58 rfl (lv_at hl 0 rfl) ?_
                    refine lv_iload_n hx hb dX3_measure_59 rfl (lv_at hl 1 rfl) ?_
                    refine lv_iload_n hx hb dX3_measure_60 rfl (lv_at hl 2 rfl) ?_
                    refine k_i h (n_V (rest := []) (As := [.int x1, .int x2]) X h hl.1 (c_X3_isOpen l G hG j x1 x2 h0 _ _ hw) gk_X3_31 rfl hd_X3_isOpen ⟨rfl, rfl⟩ ⟨Nat.le_of_ble_eq_true rfl, Nat.le_of_ble_eq_true rfl⟩ (X3_o h0) rfl rfl (Nat.le_of_ble_eq_true rfl) dX3_measure_61 ⟨Nat.zero_le _, Nat.zero_le _⟩) (fun r61 μ61 H locs hw h => ?_)
                    have s73 : ∀ (x1 : Int32) (x2 : Int32) (μ : vM), ∀ (H : Heap) (locs : List Loc) (ls : Array Slot), bw G s μ H locs → lv_has ls 3 [(0, .ref (ga G j)), (1, .int x1), (2, .int x2)] → wp_X3_measure_73 j Q (fun x1 x2 μ => wp_X3_measure_52 j Q (fun x1 μ => wp_X3_measure_42 j Q n42 x1 μ) n52 x1 x2 μ) x1 x2 μ → W p l e ({ frames := 2, cells := 0, slots := 0, locals := 56 } : Room) s m ([.ref (ga G j)] : List Value).toArray below meth c H locs 0 0 (MQ below (qV G Q) ([.ref (ga G j)] : List Value).toArray s 0 0 (gA G)) (F0 m 73 ls []) := by
                      intro x1 x2 μ H locs ls h hl hw
                      unfold wp_X3_measure_73 at hw
                      obtain ⟨x2_73, ex2_73, hw⟩ := hw
                      refine lv_iinc (v := x2_73) (lv' := [(2, .int x2_73), (0, .ref (ga G j)), (1, .int x1)]) hx hb dX3_measure_73 hl (k := 2) rfl (by rw [ex2_73]; rfl) (by decide) rfl (fun ls hl => ?_)
                      refine lv_goto (tgt := 52) hx hb dX3_measure_76 (by decide) ?_
                      exact ih52 x1 x2_73 μ _ _ _ h (lv_sub hl [1, 2, 0] rfl) hw
                    refine lv_if_eq (tgt := 73) hx hb dX3_measure_64 (by decide) (fun hc => ?_) (fun hc => ?_)
                    · rw [if_pos hc] at hw
                      exact s73 x1 x2 μ61 _ _ _ h (lv_sub hl [0, 1, 2] rfl) hw
                    · rw [if_neg hc] at hw
                      refine lv_aload_n hx hb dX3_measure_67 rfl (lv_at hl 0 rfl) ?_
                      refine lv_iload_n hx hb dX3_measure_68 rfl (lv_at hl 1 rfl) ?_
                      refine lv_iload_n hx hb dX3_measure_69 rfl (lv_at hl 2 rfl) ?_
                      refine k_v h (n_V (rest := []) (As := [.int x1, .int x2]) X h hl.1 (c_X3_shorten l G hG j x1 x2 h0 _ _ hw) gk_X3_27 rfl hd_X3_shorten ⟨rfl, rfl⟩ ⟨Nat.le_of_ble_eq_true rfl, Nat.le_of_ble_eq_true rfl⟩ (X3_o h0) rfl rfl (Nat.le_of_ble_eq_true rfl) dX3_measure_70 ⟨Nat.zero_le _, Nat.zero_le _⟩) (fun μ70 H locs hw h => ?_)
                      exact s73 x1 x2 μ70 _ _ _ h (lv_sub hl [0, 1, 2] rfl) hw
              obtain ⟨n, hw⟩ := hw
              exact s52 n x1 x2_51 μ _ _ _ h (lv_sub hl [1, 2, 0] rfl) hw
        obtain ⟨n, hw⟩ := hw
        exact s42 n (0 : Int32) μ _ _ _ h (lv_sub hl [1, 0] rfl) hw
      · rw [if_neg hc] at hw
        refine lv_aload_n hx hb dX3_measure_11 rfl (lv_at hl 0 rfl) ?_
        refine r_getR (q := (j + 2)) X h (X3_o h0) rfl uX3 1 (by decide) lf_1_57 rfl dX3_measure_12 ?_
        refine lv_iload_n hx hb dX3_measure_15 rfl (lv_at hl 1 rfl) ?_
        refine lv_iload_n hx hb dX3_measure_16 rfl (lv_at hl 1 rfl) ?_
        refine lv_bipush (v := (10 : Int32)) hx hb dX3_measure_17 (by decide) ?_
        refine lv_idiv hx hb dX3_measure_19 (by decide) ?_
        refine lv_iload_n hx hb dX3_measure_20 rfl (lv_at hl 1 rfl) ?_
        refine lv_bipush (v := (10 : Int32)) hx hb dX3_measure_21 (by decide) ?_
        refine r_irem hx hb dX3_measure_23 (by decide) ?_
        have s33 : ∀ (x1 : Int32) (t1 : Int32) (t2 : Int32) (μ : vM), ∀ (H : Heap) (locs : List Loc) (ls : Array Slot), bw G s μ H locs → lv_has ls 3 [(0, .ref (ga G j)), (1, .int x1)] → wp_X3_measure_33 j Q (fun x1 μ => wp_X3_measure_2 j Q n2 x1 μ) x1 t1 t2 μ → W p l e ({ frames := 2, cells := 0, slots := 0, locals := 56 } : Room) s m ([.ref (ga G j)] : List Value).toArray below meth c H locs 0 0 (MQ below (qV G Q) ([.ref (ga G j)] : List Value).toArray s 0 0 (gA G)) (F0 m 33 ls [.int t2, .int t1, .ref (ga G (j + 2))]) := by
          intro x1 t1 t2 μ H locs ls h hl hw
          unfold wp_X3_measure_33 at hw
          obtain ⟨hi, μ33, eμ33, hw⟩ := hw
          refine r_ast X h (X3_far h0) hi eμ33 dX3_measure_33 (fun H locs h => ?_)
          obtain ⟨x1_34, ex1_34, hw⟩ := hw
          refine lv_iinc (v := x1_34) (lv' := [(1, .int x1_34), (0, .ref (ga G j))]) hx hb dX3_measure_34 hl (k := 1) rfl (by rw [ex1_34]; rfl) (by decide) rfl (fun ls hl => ?_)
          refine lv_goto (tgt := 2) hx hb dX3_measure_37 (by decide) ?_
          exact ih2 x1_34 μ33 _ _ _ h (lv_sub hl [1, 0] rfl) hw
        refine lv_icmp_ne (tgt := 31) hx hb dX3_measure_24 (by decide) (fun hc => ?_) (fun hc => ?_)
        · rw [if_neg hc] at hw
          refine lv_bipush (v := (99 : Int32)) hx hb dX3_measure_31 (by decide) ?_
          exact s33 x1 x1 (99 : Int32) μ _ _ _ h (lv_sub hl [0, 1] rfl) hw
        · rw [if_pos hc] at hw
          refine lv_iconst (v := (0 : Int32)) hx hb dX3_measure_27 (by decide) ?_
          refine lv_goto (tgt := 33) hx hb dX3_measure_28 (by decide) ?_
          exact s33 x1 x1 (0 : Int32) μ _ _ _ h (lv_sub hl [0, 1] rfl) hw
  obtain ⟨n, hw⟩ := hw
  exact s2 n (0 : Int32) μ _ _ _ h (lv_sub hl [1, 0] rfl) hw
def wp_X3_shut (j : Nat) (a1 : Int32) (a2 : Int32) (Q : vM → Prop) (μ : vM) : Prop := vp_in a1 10 ∧ vp_in a1 10 ∧ ∃ μ13 : vM, μ13 = st μ (j + 1) a1.toNatClampNeg ((μ (j + 1) a1.toNatClampNeg) &&& (((1 : Int32) <<< (a2 &&& 31)) ^^^ (-1 : Int32))) ∧ vp_in a2 10 ∧ vp_in a2 10 ∧ ∃ μ27 : vM, μ27 = st μ13 (j + 1) a2.toNatClampNeg ((μ13 (j + 1) a2.toNatClampNeg) &&& (((1 : Int32) <<< (a1 &&& 31)) ^^^ (-1 : Int32))) ∧ wp_X3_measure j (fun μ29 => Q μ29) μ27
set_option maxRecDepth 100000 in
set_option maxHeartbeats 4000000 in
theorem c_X3_shut (l : Launch) (G : vG) (hG : gO G) (j : Nat) (a1 : Int32) (a2 : Int32) (h0 : isX3 G j) (Q : vM → Prop) (μ : vM) (hw : wp_X3_shut j a1 a2 Q μ) : mt l G yX3_shut vX3_shut { frames := 3, cells := 0, slots := 0, locals := 78 } [.ref (ga G j), .int a1, .int a2] μ (qV G Q) := by
  refine met_of (cc := cX3_shut) (maxL := 3) (ret := none) RX3 (by decide) rfl rfl hG (Nat.le_of_ble_eq_true rfl) ?_
  intro p e s m below meth c X h ls hl
  have hl : lv_has ls 3 [(0, .ref (ga G j)), (1, .int a1), (2, .int a2)] := hl
  have hx := X.1
  have hb := X.2.1
  unfold wp_X3_shut at hw
  refine lv_aload_n hx hb dX3_shut_0 rfl (lv_at hl 0 rfl) ?_
  refine r_getR (q := (j + 1)) X h (X3_o h0) rfl uX3 0 (by decide) lf_1_56 rfl dX3_shut_1 ?_
  refine lv_iload_n hx hb dX3_shut_4 rfl (lv_at hl 1 rfl) ?_
  refine lv_dup2_11 hx hb dX3_shut_5 rfl rfl ?_
  obtain ⟨hi, hw⟩ := hw
  refine r_ald X h (X3_ways h0) hi dX3_shut_6 ?_
  refine lv_iconst (v := (1 : Int32)) hx hb dX3_shut_7 (by decide) ?_
  refine lv_iload_n hx hb dX3_shut_8 rfl (lv_at hl 2 rfl) ?_
  refine lv_ishl hx hb dX3_shut_9 ?_
  refine lv_iconst (v := (-1 : Int32)) hx hb dX3_shut_10 (by decide) ?_
  refine lv_ixor hx hb dX3_shut_11 ?_
  refine lv_iand hx hb dX3_shut_12 ?_
  obtain ⟨hi, μ13, eμ13, hw⟩ := hw
  refine r_ast X h (X3_ways h0) hi eμ13 dX3_shut_13 (fun H locs h => ?_)
  refine lv_aload_n hx hb dX3_shut_14 rfl (lv_at hl 0 rfl) ?_
  refine r_getR (q := (j + 1)) X h (X3_o h0) rfl uX3 0 (by decide) lf_1_56 rfl dX3_shut_15 ?_
  refine lv_iload_n hx hb dX3_shut_18 rfl (lv_at hl 2 rfl) ?_
  refine lv_dup2_11 hx hb dX3_shut_19 rfl rfl ?_
  obtain ⟨hi, hw⟩ := hw
  refine r_ald X h (X3_ways h0) hi dX3_shut_20 ?_
  refine lv_iconst (v := (1 : Int32)) hx hb dX3_shut_21 (by decide) ?_
  refine lv_iload_n hx hb dX3_shut_22 rfl (lv_at hl 1 rfl) ?_
  refine lv_ishl hx hb dX3_shut_23 ?_
  refine lv_iconst (v := (-1 : Int32)) hx hb dX3_shut_24 (by decide) ?_
  refine lv_ixor hx hb dX3_shut_25 ?_
  refine lv_iand hx hb dX3_shut_26 ?_
  obtain ⟨hi, μ27, eμ27, hw⟩ := hw
  refine r_ast X h (X3_ways h0) hi eμ27 dX3_shut_27 (fun H locs h => ?_)
  refine lv_aload_n hx hb dX3_shut_28 rfl (lv_at hl 0 rfl) ?_
  refine k_v h (n_V (rest := []) (As := []) X h hl.1 (c_X3_measure l G hG j h0 _ _ hw) gk_X3_18 rfl hd_X3_measure ⟨rfl, rfl⟩ ⟨Nat.le_of_ble_eq_true rfl, Nat.le_of_ble_eq_true rfl⟩ (X3_o h0) rfl rfl (Nat.le_of_ble_eq_true rfl) dX3_shut_29 ⟨Nat.zero_le _, Nat.zero_le _⟩) (fun μ29 H locs hw h => ?_)
  exact r_vret X h hw dX3_shut_32
def wp_X3_nextToward_36 (j : Nat) (a1 : Int32) (a2 : Int32) (Q : Int32 → vM → Prop) (k2 : Int32 → vM → Prop) (x3 : Int32) (μ : vM) : Prop := ∃ x3_36 : Int32, x3_36 = x3 + (1 : Int32) ∧ k2 x3_36 μ
def wp_X3_nextToward_2 (j : Nat) (a1 : Int32) (a2 : Int32) (Q : Int32 → vM → Prop) : Nat → Int32 → vM → Prop
  | 0, _, _ => False
  | n2 + 1, x3, μ => if (10 : Int32) ≤ x3 then Q a1 μ else wp_X3_isOpen j a1 x3 (fun r11 μ11 => if r11 = 0 then wp_X3_nextToward_36 j a1 a2 Q (fun x3 μ => wp_X3_nextToward_2 j a1 a2 Q n2 x3 μ) x3 μ11 else wp_X3_between j x3 a2 (fun r20 μ20 => wp_X3_between j a1 a2 (fun r26 μ26 => if r20 = (r26 - (1 : Int32)) then Q x3 μ26 else wp_X3_nextToward_36 j a1 a2 Q (fun x3 μ => wp_X3_nextToward_2 j a1 a2 Q n2 x3 μ) x3 μ26) μ20) μ11) μ
def wp_X3_nextToward (j : Nat) (a1 : Int32) (a2 : Int32) (Q : Int32 → vM → Prop) (μ : vM) : Prop := ∃ n2, wp_X3_nextToward_2 j a1 a2 Q n2 (0 : Int32) μ
set_option maxRecDepth 100000 in
set_option maxHeartbeats 4000000 in
theorem c_X3_nextToward (l : Launch) (G : vG) (hG : gO G) (j : Nat) (a1 : Int32) (a2 : Int32) (h0 : isX3 G j) (Q : Int32 → vM → Prop) (μ : vM) (hw : wp_X3_nextToward j a1 a2 Q μ) : mt l G yX3_nextToward vX3_nextToward { frames := 1, cells := 0, slots := 0, locals := 22 } [.ref (ga G j), .int a1, .int a2] μ (qI G Q) := by
  refine met_of (cc := cX3_nextToward) (maxL := 4) (ret := (some .int)) RX3 (by decide) rfl rfl hG (Nat.le_of_ble_eq_true rfl) ?_
  intro p e s m below meth c X h ls hl
  have hl : lv_has ls 4 [(0, .ref (ga G j)), (1, .int a1), (2, .int a2)] := hl
  have hx := X.1
  have hb := X.2.1
  unfold wp_X3_nextToward at hw
  refine lv_iconst (v := (0 : Int32)) hx hb dX3_nextToward_0 (by decide) ?_
  refine lv_istore_n (lv' := [(3, .int (0 : Int32)), (0, .ref (ga G j)), (1, .int a1), (2, .int a2)]) hx hb dX3_nextToward_1 rfl hl (by decide) rfl (fun ls hl => ?_)
  have s2 : ∀ (n2 : Nat) (x3 : Int32) (μ : vM), ∀ (H : Heap) (locs : List Loc) (ls : Array Slot), bw G s μ H locs → lv_has ls 4 [(0, .ref (ga G j)), (1, .int a1), (2, .int a2), (3, .int x3)] → wp_X3_nextToward_2 j a1 a2 Q n2 x3 μ → W p l e ({ frames := 1, cells := 0, slots := 0, locals := 22 } : Room) s m ([.ref (ga G j), .int a1, .int a2] : List Value).toArray below meth c H locs 0 0 (MQ below (qI G Q) ([.ref (ga G j), .int a1, .int a2] : List Value).toArray s 0 0 (gA G)) (F0 m 2 ls []) := by
    intro n2
    induction n2 with
    | zero => intro x3 μ H locs ls h hl hw; exact absurd hw (by unfold wp_X3_nextToward_2; exact id)
    | succ n2 ih2 =>
      intro x3 μ H locs ls h hl hw
      unfold wp_X3_nextToward_2 at hw
      refine lv_iload_n hx hb dX3_nextToward_2 rfl (lv_at hl 3 rfl) ?_
      refine lv_bipush (v := (10 : Int32)) hx hb dX3_nextToward_3 (by decide) ?_
      refine lv_icmp_ge (tgt := 42) hx hb dX3_nextToward_5 (by decide) (fun hc => ?_) (fun hc => ?_)
      · rw [if_pos hc] at hw
        refine lv_iload_n hx hb dX3_nextToward_42 rfl (lv_at hl 1 rfl) ?_
        exact r_iret X h hw dX3_nextToward_43
      · rw [if_neg hc] at hw
        refine lv_aload_n hx hb dX3_nextToward_8 rfl (lv_at hl 0 rfl) ?_
        refine lv_iload_n hx hb dX3_nextToward_9 rfl (lv_at hl 1 rfl) ?_
        refine lv_iload_n hx hb dX3_nextToward_10 rfl (lv_at hl 3 rfl) ?_
        refine k_i h (n_V (rest := []) (As := [.int a1, .int x3]) X h hl.1 (c_X3_isOpen l G hG j a1 x3 h0 _ _ hw) gk_X3_31 rfl hd_X3_isOpen ⟨rfl, rfl⟩ ⟨Nat.le_of_ble_eq_true rfl, Nat.le_of_ble_eq_true rfl⟩ (X3_o h0) rfl rfl (Nat.le_of_ble_eq_true rfl) dX3_nextToward_11 ⟨Nat.zero_le _, Nat.zero_le _⟩) (fun r11 μ11 H locs hw h => ?_)
        have s36 : ∀ (x3 : Int32) (μ : vM), ∀ (H : Heap) (locs : List Loc) (ls : Array Slot), bw G s μ H locs → lv_has ls 4 [(0, .ref (ga G j)), (1, .int a1), (2, .int a2), (3, .int x3)] → wp_X3_nextToward_36 j a1 a2 Q (fun x3 μ => wp_X3_nextToward_2 j a1 a2 Q n2 x3 μ) x3 μ → W p l e ({ frames := 1, cells := 0, slots := 0, locals := 22 } : Room) s m ([.ref (ga G j), .int a1, .int a2] : List Value).toArray below meth c H locs 0 0 (MQ below (qI G Q) ([.ref (ga G j), .int a1, .int a2] : List Value).toArray s 0 0 (gA G)) (F0 m 36 ls []) := by
          intro x3 μ H locs ls h hl hw
          unfold wp_X3_nextToward_36 at hw
          obtain ⟨x3_36, ex3_36, hw⟩ := hw
          refine lv_iinc (v := x3_36) (lv' := [(3, .int x3_36), (0, .ref (ga G j)), (1, .int a1), (2, .int a2)]) hx hb dX3_nextToward_36 hl (k := 3) rfl (by rw [ex3_36]; rfl) (by decide) rfl (fun ls hl => ?_)
          refine lv_goto (tgt := 2) hx hb dX3_nextToward_39 (by decide) ?_
          exact ih2 x3_36 μ _ _ _ h (lv_sub hl [1, 2, 3, 0] rfl) hw
        refine lv_if_eq (tgt := 36) hx hb dX3_nextToward_14 (by decide) (fun hc => ?_) (fun hc => ?_)
        · rw [if_pos hc] at hw
          exact s36 x3 μ11 _ _ _ h (lv_sub hl [0, 1, 2, 3] rfl) hw
        · rw [if_neg hc] at hw
          refine lv_aload_n hx hb dX3_nextToward_17 rfl (lv_at hl 0 rfl) ?_
          refine lv_iload_n hx hb dX3_nextToward_18 rfl (lv_at hl 3 rfl) ?_
          refine lv_iload_n hx hb dX3_nextToward_19 rfl (lv_at hl 2 rfl) ?_
          refine k_i h (n_V (rest := []) (As := [.int x3, .int a2]) X h hl.1 (c_X3_between l G hG j x3 a2 h0 _ _ hw) gk_X3_35 rfl hd_X3_between ⟨rfl, rfl⟩ ⟨Nat.le_of_ble_eq_true rfl, Nat.le_of_ble_eq_true rfl⟩ (X3_o h0) rfl rfl (Nat.le_of_ble_eq_true rfl) dX3_nextToward_20 ⟨Nat.zero_le _, Nat.zero_le _⟩) (fun r20 μ20 H locs hw h => ?_)
          refine lv_aload_n hx hb dX3_nextToward_23 rfl (lv_at hl 0 rfl) ?_
          refine lv_iload_n hx hb dX3_nextToward_24 rfl (lv_at hl 1 rfl) ?_
          refine lv_iload_n hx hb dX3_nextToward_25 rfl (lv_at hl 2 rfl) ?_
          refine k_i h (n_V (rest := [.int r20]) (As := [.int a1, .int a2]) X h hl.1 (c_X3_between l G hG j a1 a2 h0 _ _ hw) gk_X3_35 rfl hd_X3_between ⟨rfl, rfl⟩ ⟨Nat.le_of_ble_eq_true rfl, Nat.le_of_ble_eq_true rfl⟩ (X3_o h0) rfl rfl (Nat.le_of_ble_eq_true rfl) dX3_nextToward_26 ⟨Nat.zero_le _, Nat.zero_le _⟩) (fun r26 μ26 H locs hw h => ?_)
          refine lv_iconst (v := (1 : Int32)) hx hb dX3_nextToward_29 (by decide) ?_
          refine lv_isub hx hb dX3_nextToward_30 ?_
          refine lv_icmp_ne (tgt := 36) hx hb dX3_nextToward_31 (by decide) (fun hc => ?_) (fun hc => ?_)
          · rw [if_neg hc] at hw
            exact s36 x3 μ26 _ _ _ h (lv_sub hl [0, 1, 2, 3] rfl) hw
          · rw [if_pos hc] at hw
            refine lv_iload_n hx hb dX3_nextToward_34 rfl (lv_at hl 3 rfl) ?_
            exact r_iret X h hw dX3_nextToward_35
  obtain ⟨n, hw⟩ := hw
  exact s2 n (0 : Int32) μ _ _ _ h (lv_sub hl [1, 2, 3, 0] rfl) hw
def wp_X3_walked_6 (j : Nat) (a1 : Int32) (a2 : Int32) (a3 : Int32) (Q : Int32 → vM → Prop) : Nat → Int32 → Int32 → vM → Prop
  | 0, _, _, _ => False
  | n6 + 1, x4, x5, μ => if a3 ≤ x5 then Q x4 μ else if x4 = a2 then Q x4 μ else wp_X3_nextToward j x4 a2 (fun r22 μ22 => ∃ x5_27 : Int32, x5_27 = x5 + (1 : Int32) ∧ wp_X3_walked_6 j a1 a2 a3 Q n6 r22 x5_27 μ22) μ
def wp_X3_walked (j : Nat) (a1 : Int32) (a2 : Int32) (a3 : Int32) (Q : Int32 → vM → Prop) (μ : vM) : Prop := ∃ n6, wp_X3_walked_6 j a1 a2 a3 Q n6 a1 (0 : Int32) μ
set_option maxRecDepth 100000 in
set_option maxHeartbeats 4000000 in
theorem c_X3_walked (l : Launch) (G : vG) (hG : gO G) (j : Nat) (a1 : Int32) (a2 : Int32) (a3 : Int32) (h0 : isX3 G j) (Q : Int32 → vM → Prop) (μ : vM) (hw : wp_X3_walked j a1 a2 a3 Q μ) : mt l G yX3_walked vX3_walked { frames := 2, cells := 0, slots := 0, locals := 45 } [.ref (ga G j), .int a1, .int a2, .int a3] μ (qI G Q) := by
  refine met_of (cc := cX3_walked) (maxL := 6) (ret := (some .int)) RX3 (by decide) rfl rfl hG (Nat.le_of_ble_eq_true rfl) ?_
  intro p e s m below meth c X h ls hl
  have hl : lv_has ls 6 [(0, .ref (ga G j)), (1, .int a1), (2, .int a2), (3, .int a3)] := hl
  have hx := X.1
  have hb := X.2.1
  unfold wp_X3_walked at hw
  refine lv_iload_n hx hb dX3_walked_0 rfl (lv_at hl 1 rfl) ?_
  refine lv_istore (lv' := [(4, .int a1), (0, .ref (ga G j)), (1, .int a1), (2, .int a2), (3, .int a3)]) hx hb dX3_walked_1 hl (by decide) rfl (fun ls hl => ?_)
  refine lv_iconst (v := (0 : Int32)) hx hb dX3_walked_3 (by decide) ?_
  refine lv_istore (lv' := [(5, .int (0 : Int32)), (4, .int a1), (0, .ref (ga G j)), (1, .int a1), (2, .int a2), (3, .int a3)]) hx hb dX3_walked_4 hl (by decide) rfl (fun ls hl => ?_)
  have s6 : ∀ (n6 : Nat) (x4 : Int32) (x5 : Int32) (μ : vM), ∀ (H : Heap) (locs : List Loc) (ls : Array Slot), bw G s μ H locs → lv_has ls 6 [(0, .ref (ga G j)), (2, .int a2), (3, .int a3), (4, .int x4), (5, .int x5)] → wp_X3_walked_6 j a1 a2 a3 Q n6 x4 x5 μ → W p l e ({ frames := 2, cells := 0, slots := 0, locals := 45 } : Room) s m ([.ref (ga G j), .int a1, .int a2, .int a3] : List Value).toArray below meth c H locs 0 0 (MQ below (qI G Q) ([.ref (ga G j), .int a1, .int a2, .int a3] : List Value).toArray s 0 0 (gA G)) (F0 m 6 ls []) := by
    intro n6
    induction n6 with
    | zero => intro x4 x5 μ H locs ls h hl hw; exact absurd hw (by unfold wp_X3_walked_6; exact id)
    | succ n6 ih6 =>
      intro x4 x5 μ H locs ls h hl hw
      unfold wp_X3_walked_6 at hw
      refine lv_iload hx hb dX3_walked_6 (lv_at hl 4 rfl) ?_
      refine lv_iload_n hx hb dX3_walked_8 rfl (lv_at hl 2 rfl) ?_
      refine lv_icmp_ge (tgt := 33) hx hb dX3_walked_9 (by decide) (fun hc => ?_) (fun hc => ?_)
      · rw [if_pos hc] at hw
        refine lv_iload hx hb dX3_walked_33 (lv_at hl 3 rfl) ?_
        exact r_iret X h hw dX3_walked_35
      · rw [if_neg hc] at hw
        refine lv_iload hx hb dX3_walked_12 (lv_at hl 3 rfl) ?_
        refine lv_iload_n hx hb dX3_walked_14 rfl (lv_at hl 1 rfl) ?_
        refine lv_icmp_eq (tgt := 33) hx hb dX3_walked_15 (by decide) (fun hc => ?_) (fun hc => ?_)
        · rw [if_pos hc] at hw
          refine lv_iload hx hb dX3_walked_33 (lv_at hl 3 rfl) ?_
          exact r_iret X h hw dX3_walked_35
        · rw [if_neg hc] at hw
          refine lv_aload_n hx hb dX3_walked_18 rfl (lv_at hl 0 rfl) ?_
          refine lv_iload hx hb dX3_walked_19 (lv_at hl 3 rfl) ?_
          refine lv_iload_n hx hb dX3_walked_21 rfl (lv_at hl 1 rfl) ?_
          refine k_i h (n_V (rest := []) (As := [.int x4, .int a2]) X h hl.1 (c_X3_nextToward l G hG j x4 a2 h0 _ _ hw) gk_X3_44 rfl hd_X3_nextToward ⟨rfl, rfl⟩ ⟨Nat.le_of_ble_eq_true rfl, Nat.le_of_ble_eq_true rfl⟩ (X3_o h0) rfl rfl (Nat.le_of_ble_eq_true rfl) dX3_walked_22 ⟨Nat.zero_le _, Nat.zero_le _⟩) (fun r22 μ22 H locs hw h => ?_)
          refine lv_istore (lv' := [(4, .int r22), (0, .ref (ga G j)), (2, .int a2), (3, .int a3), (5, .int x5)]) hx hb dX3_walked_25 hl (by decide) rfl (fun ls hl => ?_)
          obtain ⟨x5_27, ex5_27, hw⟩ := hw
          refine lv_iinc (v := x5_27) (lv' := [(5, .int x5_27), (4, .int r22), (0, .ref (ga G j)), (2, .int a2), (3, .int a3)]) hx hb dX3_walked_27 hl (k := 4) rfl (by rw [ex5_27]; rfl) (by decide) rfl (fun ls hl => ?_)
          refine lv_goto (tgt := 6) hx hb dX3_walked_30 (by decide) ?_
          exact ih6 r22 x5_27 μ22 _ _ _ h (lv_sub hl [2, 3, 4, 1, 0] rfl) hw
  obtain ⟨n, hw⟩ := hw
  exact s6 n a1 (0 : Int32) μ _ _ _ h (lv_sub hl [2, 4, 5, 1, 0] rfl) hw
def wp_X4_isMissing (j : Nat) (a1 : Int32) (Q : Int32 → vM → Prop) (μ : vM) : Prop := vp_in a1 4 ∧ if (μ (j + 1) a1.toNatClampNeg) = 0 then Q (1 : Int32) μ else Q (0 : Int32) μ
set_option maxRecDepth 100000 in
set_option maxHeartbeats 4000000 in
theorem c_X4_isMissing (l : Launch) (G : vG) (hG : gO G) (j : Nat) (a1 : Int32) (h0 : isX4 G j) (Q : Int32 → vM → Prop) (μ : vM) (hw : wp_X4_isMissing j a1 Q μ) : mt l G yX4_isMissing vX4_isMissing { frames := 0, cells := 0, slots := 0, locals := 0 } [.ref (ga G j), .int a1] μ (qI G Q) := by
  refine met_of (cc := cX4_isMissing) (maxL := 2) (ret := (some .boolean)) RX4 (by decide) rfl rfl hG (Nat.le_of_ble_eq_true rfl) ?_
  intro p e s m below meth c X h ls hl
  have hl : lv_has ls 2 [(0, .ref (ga G j)), (1, .int a1)] := hl
  have hx := X.1
  have hb := X.2.1
  unfold wp_X4_isMissing at hw
  refine lv_aload_n hx hb dX4_isMissing_0 rfl (lv_at hl 0 rfl) ?_
  refine r_getR (q := (j + 1)) X h (X4_o h0) rfl uX4 0 (by decide) lf_1_213 rfl dX4_isMissing_1 ?_
  refine lv_iload_n hx hb dX4_isMissing_4 rfl (lv_at hl 1 rfl) ?_
  obtain ⟨hi, hw⟩ := hw
  refine r_ald X h (X4_bits h0) hi dX4_isMissing_5 ?_
  refine lv_if_ne (tgt := 13) hx hb dX4_isMissing_6 (by decide) (fun hc => ?_) (fun hc => ?_)
  · rw [if_neg hc] at hw
    refine lv_iconst (v := (0 : Int32)) hx hb dX4_isMissing_13 (by decide) ?_
    exact r_zret X h (Or.inl rfl) hw dX4_isMissing_14
  · rw [if_pos hc] at hw
    refine lv_iconst (v := (1 : Int32)) hx hb dX4_isMissing_9 (by decide) ?_
    refine lv_goto (tgt := 14) hx hb dX4_isMissing_10 (by decide) ?_
    exact r_zret X h (Or.inr rfl) hw dX4_isMissing_14
def wp_X4_make_17 (j : Nat) (a1 : Int32) (a2 : Int32) (a3 : Int32) (Q : vM → Prop) : Nat → Int32 → vM → Prop
  | 0, _, _ => False
  | n17 + 1, x4, μ => if (24 : Int32) ≤ x4 then Q μ else vp_in ((a1 * (24 : Int32)) + x4) 96 ∧ ∃ μ36 : vM, μ36 = st μ (j + 3) ((a1 * (24 : Int32)) + x4).toNatClampNeg (0 : Int32) ∧ ∃ x4_37 : Int32, x4_37 = x4 + (1 : Int32) ∧ wp_X4_make_17 j a1 a2 a3 Q n17 x4_37 μ36
def wp_X4_make (j : Nat) (a1 : Int32) (a2 : Int32) (a3 : Int32) (Q : vM → Prop) (μ : vM) : Prop := vp_in a1 4 ∧ ∃ μ6 : vM, μ6 = st μ (j + 1) a1.toNatClampNeg a2 ∧ vp_in a1 4 ∧ ∃ μ13 : vM, μ13 = st μ6 (j + 2) a1.toNatClampNeg a3 ∧ ∃ n17, wp_X4_make_17 j a1 a2 a3 Q n17 (0 : Int32) μ13
set_option maxRecDepth 100000 in
set_option maxHeartbeats 4000000 in
theorem c_X4_make (l : Launch) (G : vG) (hG : gO G) (j : Nat) (a1 : Int32) (a2 : Int32) (a3 : Int32) (h0 : isX4 G j) (Q : vM → Prop) (μ : vM) (hw : wp_X4_make j a1 a2 a3 Q μ) : mt l G yX4_make vX4_make { frames := 0, cells := 0, slots := 0, locals := 0 } [.ref (ga G j), .int a1, .int a2, .int a3] μ (qV G Q) := by
  refine met_of (cc := cX4_make) (maxL := 5) (ret := none) RX4 (by decide) rfl rfl hG (Nat.le_of_ble_eq_true rfl) ?_
  intro p e s m below meth c X h ls hl
  have hl : lv_has ls 5 [(0, .ref (ga G j)), (1, .int a1), (2, .int a2), (3, .int a3)] := hl
  have hx := X.1
  have hb := X.2.1
  unfold wp_X4_make at hw
  refine lv_aload_n hx hb dX4_make_0 rfl (lv_at hl 0 rfl) ?_
  refine r_getR (q := (j + 1)) X h (X4_o h0) rfl uX4 0 (by decide) lf_1_213 rfl dX4_make_1 ?_
  refine lv_iload_n hx hb dX4_make_4 rfl (lv_at hl 1 rfl) ?_
  refine lv_iload_n hx hb dX4_make_5 rfl (lv_at hl 2 rfl) ?_
  obtain ⟨hi, μ6, eμ6, hw⟩ := hw
  refine r_ast X h (X4_bits h0) hi eμ6 dX4_make_6 (fun H locs h => ?_)
  refine lv_aload_n hx hb dX4_make_7 rfl (lv_at hl 0 rfl) ?_
  refine r_getR (q := (j + 2)) X h (X4_o h0) rfl uX4 1 (by decide) lf_1_215 rfl dX4_make_8 ?_
  refine lv_iload_n hx hb dX4_make_11 rfl (lv_at hl 1 rfl) ?_
  refine lv_iload_n hx hb dX4_make_12 rfl (lv_at hl 3 rfl) ?_
  obtain ⟨hi, μ13, eμ13, hw⟩ := hw
  refine r_ast X h (X4_length h0) hi eμ13 dX4_make_13 (fun H locs h => ?_)
  refine lv_iconst (v := (0 : Int32)) hx hb dX4_make_14 (by decide) ?_
  refine lv_istore (lv' := [(4, .int (0 : Int32)), (0, .ref (ga G j)), (1, .int a1), (2, .int a2), (3, .int a3)]) hx hb dX4_make_15 hl (by decide) rfl (fun ls hl => ?_)
  have s17 : ∀ (n17 : Nat) (x4 : Int32) (μ : vM), ∀ (H : Heap) (locs : List Loc) (ls : Array Slot), bw G s μ H locs → lv_has ls 5 [(0, .ref (ga G j)), (1, .int a1), (4, .int x4)] → wp_X4_make_17 j a1 a2 a3 Q n17 x4 μ → W p l e ({ frames := 0, cells := 0, slots := 0, locals := 0 } : Room) s m ([.ref (ga G j), .int a1, .int a2, .int a3] : List Value).toArray below meth c H locs 0 0 (MQ below (qV G Q) ([.ref (ga G j), .int a1, .int a2, .int a3] : List Value).toArray s 0 0 (gA G)) (F0 m 17 ls []) := by
    intro n17
    induction n17 with
    | zero => intro x4 μ H locs ls h hl hw; exact absurd hw (by unfold wp_X4_make_17; exact id)
    | succ n17 ih17 =>
      intro x4 μ H locs ls h hl hw
      unfold wp_X4_make_17 at hw
      refine lv_iload hx hb dX4_make_17 (lv_at hl 2 rfl) ?_
      refine lv_bipush (v := (24 : Int32)) hx hb dX4_make_19 (by decide) ?_
      refine lv_icmp_ge (tgt := 43) hx hb dX4_make_21 (by decide) (fun hc => ?_) (fun hc => ?_)
      · rw [if_pos hc] at hw
        exact r_vret X h hw dX4_make_43
      · rw [if_neg hc] at hw
        refine lv_aload_n hx hb dX4_make_24 rfl (lv_at hl 0 rfl) ?_
        refine r_getR (q := (j + 3)) X h (X4_o h0) rfl uX4 2 (by decide) lf_1_217 rfl dX4_make_25 ?_
        refine lv_iload_n hx hb dX4_make_28 rfl (lv_at hl 1 rfl) ?_
        refine lv_bipush (v := (24 : Int32)) hx hb dX4_make_29 (by decide) ?_
        refine lv_imul hx hb dX4_make_31 ?_
        refine lv_iload hx hb dX4_make_32 (lv_at hl 2 rfl) ?_
        refine lv_iadd hx hb dX4_make_34 ?_
        refine lv_iconst (v := (0 : Int32)) hx hb dX4_make_35 (by decide) ?_
        obtain ⟨hi, μ36, eμ36, hw⟩ := hw
        refine r_ast X h (X4_numbers h0) hi eμ36 dX4_make_36 (fun H locs h => ?_)
        obtain ⟨x4_37, ex4_37, hw⟩ := hw
        refine lv_iinc (v := x4_37) (lv' := [(4, .int x4_37), (0, .ref (ga G j)), (1, .int a1)]) hx hb dX4_make_37 hl (k := 2) rfl (by rw [ex4_37]; rfl) (by decide) rfl (fun ls hl => ?_)
        refine lv_goto (tgt := 17) hx hb dX4_make_40 (by decide) ?_
        exact ih17 x4_37 μ36 _ _ _ h (lv_sub hl [1, 2, 0] rfl) hw
  obtain ⟨n, hw⟩ := hw
  exact s17 n (0 : Int32) μ13 _ _ _ h (lv_sub hl [1, 2, 0] rfl) hw
def wp_X4_number (j : Nat) (a1 : Int32) (a2 : Int32) (Q : Int32 → vM → Prop) (μ : vM) : Prop := vp_in ((a1 * (24 : Int32)) + a2) 96 ∧ Q (μ (j + 3) ((a1 * (24 : Int32)) + a2).toNatClampNeg) μ
set_option maxRecDepth 100000 in
set_option maxHeartbeats 4000000 in
theorem c_X4_number (l : Launch) (G : vG) (hG : gO G) (j : Nat) (a1 : Int32) (a2 : Int32) (h0 : isX4 G j) (Q : Int32 → vM → Prop) (μ : vM) (hw : wp_X4_number j a1 a2 Q μ) : mt l G yX4_number vX4_number { frames := 0, cells := 0, slots := 0, locals := 0 } [.ref (ga G j), .int a1, .int a2] μ (qI G Q) := by
  refine met_of (cc := cX4_number) (maxL := 3) (ret := (some .int)) RX4 (by decide) rfl rfl hG (Nat.le_of_ble_eq_true rfl) ?_
  intro p e s m below meth c X h ls hl
  have hl : lv_has ls 3 [(0, .ref (ga G j)), (1, .int a1), (2, .int a2)] := hl
  have hx := X.1
  have hb := X.2.1
  unfold wp_X4_number at hw
  refine lv_aload_n hx hb dX4_number_0 rfl (lv_at hl 0 rfl) ?_
  refine r_getR (q := (j + 3)) X h (X4_o h0) rfl uX4 2 (by decide) lf_1_217 rfl dX4_number_1 ?_
  refine lv_iload_n hx hb dX4_number_4 rfl (lv_at hl 1 rfl) ?_
  refine lv_bipush (v := (24 : Int32)) hx hb dX4_number_5 (by decide) ?_
  refine lv_imul hx hb dX4_number_7 ?_
  refine lv_iload_n hx hb dX4_number_8 rfl (lv_at hl 2 rfl) ?_
  refine lv_iadd hx hb dX4_number_9 ?_
  obtain ⟨hi, hw⟩ := hw
  refine r_ald X h (X4_numbers h0) hi dX4_number_10 ?_
  exact r_iret X h hw dX4_number_11
def wp_X4_write_33 (j : Nat) (a1 : Int32) (a2 : Int32) (a3 : Int32) (Q : vM → Prop) (t0 : Int32) (μ : vM) : Prop := vp_in ((a1 * (24 : Int32)) + a2) 96 ∧ ∃ μ47 : vM, μ47 = st μ (j + 3) ((a1 * (24 : Int32)) + a2).toNatClampNeg t0 ∧ Q μ47
def wp_X4_write (j : Nat) (a1 : Int32) (a2 : Int32) (a3 : Int32) (Q : vM → Prop) (μ : vM) : Prop := vp_in a1 4 ∧ if (μ (j + 1) a1.toNatClampNeg) = (8 : Int32) then wp_X4_write_33 j a1 a2 a3 Q a3.toInt8.toInt32 μ else vp_in a1 4 ∧ if (μ (j + 1) a1.toNatClampNeg) = (16 : Int32) then wp_X4_write_33 j a1 a2 a3 Q a3.toInt16.toInt32 μ else wp_X4_write_33 j a1 a2 a3 Q a3 μ
set_option maxRecDepth 100000 in
set_option maxHeartbeats 4000000 in
theorem c_X4_write (l : Launch) (G : vG) (hG : gO G) (j : Nat) (a1 : Int32) (a2 : Int32) (a3 : Int32) (h0 : isX4 G j) (Q : vM → Prop) (μ : vM) (hw : wp_X4_write j a1 a2 a3 Q μ) : mt l G yX4_write vX4_write { frames := 0, cells := 0, slots := 0, locals := 0 } [.ref (ga G j), .int a1, .int a2, .int a3] μ (qV G Q) := by
  refine met_of (cc := cX4_write) (maxL := 5) (ret := none) RX4 (by decide) rfl rfl hG (Nat.le_of_ble_eq_true rfl) ?_
  intro p e s m below meth c X h ls hl
  have hl : lv_has ls 5 [(0, .ref (ga G j)), (1, .int a1), (2, .int a2), (3, .int a3)] := hl
  have hx := X.1
  have hb := X.2.1
  unfold wp_X4_write at hw
  refine lv_aload_n hx hb dX4_write_0 rfl (lv_at hl 0 rfl) ?_
  refine r_getR (q := (j + 1)) X h (X4_o h0) rfl uX4 0 (by decide) lf_1_213 rfl dX4_write_1 ?_
  refine lv_iload_n hx hb dX4_write_4 rfl (lv_at hl 1 rfl) ?_
  obtain ⟨hi, hw⟩ := hw
  refine r_ald X h (X4_bits h0) hi dX4_write_5 ?_
  refine lv_bipush (v := (8 : Int32)) hx hb dX4_write_6 (by decide) ?_
  have s33 : ∀ (t0 : Int32) (μ : vM), ∀ (H : Heap) (locs : List Loc) (ls : Array Slot), bw G s μ H locs → lv_has ls 5 [(0, .ref (ga G j)), (1, .int a1), (2, .int a2)] → wp_X4_write_33 j a1 a2 a3 Q t0 μ → W p l e ({ frames := 0, cells := 0, slots := 0, locals := 0 } : Room) s m ([.ref (ga G j), .int a1, .int a2, .int a3] : List Value).toArray below meth c H locs 0 0 (MQ below (qV G Q) ([.ref (ga G j), .int a1, .int a2, .int a3] : List Value).toArray s 0 0 (gA G)) (F0 m 33 ls [.int t0]) := by
    intro t0 μ H locs ls h hl hw
    unfold wp_X4_write_33 at hw
    refine lv_istore (lv' := [(4, .int t0), (0, .ref (ga G j)), (1, .int a1), (2, .int a2)]) hx hb dX4_write_33 hl (by decide) rfl (fun ls hl => ?_)
    refine lv_aload_n hx hb dX4_write_35 rfl (lv_at hl 1 rfl) ?_
    refine r_getR (q := (j + 3)) X h (X4_o h0) rfl uX4 2 (by decide) lf_1_217 rfl dX4_write_36 ?_
    refine lv_iload_n hx hb dX4_write_39 rfl (lv_at hl 2 rfl) ?_
    refine lv_bipush (v := (24 : Int32)) hx hb dX4_write_40 (by decide) ?_
    refine lv_imul hx hb dX4_write_42 ?_
    refine lv_iload_n hx hb dX4_write_43 rfl (lv_at hl 3 rfl) ?_
    refine lv_iadd hx hb dX4_write_44 ?_
    refine lv_iload hx hb dX4_write_45 (lv_at hl 0 rfl) ?_
    obtain ⟨hi, μ47, eμ47, hw⟩ := hw
    refine r_ast X h (X4_numbers h0) hi eμ47 dX4_write_47 (fun H locs h => ?_)
    exact r_vret X h hw dX4_write_48
  refine lv_icmp_ne (tgt := 16) hx hb dX4_write_8 (by decide) (fun hc => ?_) (fun hc => ?_)
  · rw [if_neg hc] at hw
    refine lv_aload_n hx hb dX4_write_16 rfl (lv_at hl 0 rfl) ?_
    refine r_getR (q := (j + 1)) X h (X4_o h0) rfl uX4 0 (by decide) lf_1_213 rfl dX4_write_17 ?_
    refine lv_iload_n hx hb dX4_write_20 rfl (lv_at hl 1 rfl) ?_
    obtain ⟨hi, hw⟩ := hw
    refine r_ald X h (X4_bits h0) hi dX4_write_21 ?_
    refine lv_bipush (v := (16 : Int32)) hx hb dX4_write_22 (by decide) ?_
    refine lv_icmp_ne (tgt := 32) hx hb dX4_write_24 (by decide) (fun hc => ?_) (fun hc => ?_)
    · rw [if_neg hc] at hw
      refine lv_iload_n hx hb dX4_write_32 rfl (lv_at hl 3 rfl) ?_
      exact s33 a3 μ _ _ _ h (lv_sub hl [0, 1, 2] rfl) hw
    · rw [if_pos hc] at hw
      refine lv_iload_n hx hb dX4_write_27 rfl (lv_at hl 3 rfl) ?_
      refine lv_i2s hx hb dX4_write_28 rfl ?_
      refine lv_goto (tgt := 33) hx hb dX4_write_29 (by decide) ?_
      exact s33 a3.toInt16.toInt32 μ _ _ _ h (lv_sub hl [0, 1, 2] rfl) hw
  · rw [if_pos hc] at hw
    refine lv_iload_n hx hb dX4_write_11 rfl (lv_at hl 3 rfl) ?_
    refine lv_i2b hx hb dX4_write_12 rfl ?_
    refine lv_goto (tgt := 33) hx hb dX4_write_13 (by decide) ?_
    exact s33 a3.toInt8.toInt32 μ _ _ _ h (lv_sub hl [0, 1, 2] rfl) hw
def wp_X4_stands_28 (j : Nat) (a1 : Int32) (a2 : Int32) (a3 : Int32) (Q : Int32 → vM → Prop)  (μ : vM) : Prop := Q (0 : Int32) μ
def wp_X4_stands (j : Nat) (a1 : Int32) (a2 : Int32) (a3 : Int32) (Q : Int32 → vM → Prop) (μ : vM) : Prop := if a2 < 0 then wp_X4_stands_28 j a1 a2 a3 Q μ else if a3 < 0 then wp_X4_stands_28 j a1 a2 a3 Q μ else vp_in a1 4 ∧ if 0 < (lg_cmp (a2.toInt64 + a3.toInt64) ((μ (j + 2) a1.toNatClampNeg).toInt64)) then wp_X4_stands_28 j a1 a2 a3 Q μ else Q (1 : Int32) μ
set_option maxRecDepth 100000 in
set_option maxHeartbeats 4000000 in
theorem c_X4_stands (l : Launch) (G : vG) (hG : gO G) (j : Nat) (a1 : Int32) (a2 : Int32) (a3 : Int32) (h0 : isX4 G j) (Q : Int32 → vM → Prop) (μ : vM) (hw : wp_X4_stands j a1 a2 a3 Q μ) : mt l G yX4_stands vX4_stands { frames := 0, cells := 0, slots := 0, locals := 0 } [.ref (ga G j), .int a1, .int a2, .int a3] μ (qI G Q) := by
  refine met_of (cc := cX4_stands) (maxL := 4) (ret := (some .boolean)) RX4 (by decide) rfl rfl hG (Nat.le_of_ble_eq_true rfl) ?_
  intro p e s m below meth c X h ls hl
  have hl : lv_has ls 4 [(0, .ref (ga G j)), (1, .int a1), (2, .int a2), (3, .int a3)] := hl
  have hx := X.1
  have hb := X.2.1
  unfold wp_X4_stands at hw
  refine lv_iload_n hx hb dX4_stands_0 rfl (lv_at hl 2 rfl) ?_
  have s28 : ∀  (μ : vM), ∀ (H : Heap) (locs : List Loc) (ls : Array Slot), bw G s μ H locs → lv_has ls 4 [] → wp_X4_stands_28 j a1 a2 a3 Q μ → W p l e ({ frames := 0, cells := 0, slots := 0, locals := 0 } : Room) s m ([.ref (ga G j), .int a1, .int a2, .int a3] : List Value).toArray below meth c H locs 0 0 (MQ below (qI G Q) ([.ref (ga G j), .int a1, .int a2, .int a3] : List Value).toArray s 0 0 (gA G)) (F0 m 28 ls []) := by
    intro  μ H locs ls h hl hw
    unfold wp_X4_stands_28 at hw
    refine lv_iconst (v := (0 : Int32)) hx hb dX4_stands_28 (by decide) ?_
    exact r_zret X h (Or.inl rfl) hw dX4_stands_29
  refine lv_if_lt (tgt := 28) hx hb dX4_stands_1 (by decide) (fun hc => ?_) (fun hc => ?_)
  · rw [if_pos hc] at hw
    exact s28 μ _ _ _ h (lv_sub hl [] rfl) hw
  · rw [if_neg hc] at hw
    refine lv_iload_n hx hb dX4_stands_4 rfl (lv_at hl 3 rfl) ?_
    refine lv_if_lt (tgt := 28) hx hb dX4_stands_5 (by decide) (fun hc => ?_) (fun hc => ?_)
    · rw [if_pos hc] at hw
      exact s28 μ _ _ _ h (lv_sub hl [] rfl) hw
    · rw [if_neg hc] at hw
      refine lv_iload_n hx hb dX4_stands_8 rfl (lv_at hl 2 rfl) ?_
      refine lv_i2l hx hb dX4_stands_9 rfl ?_
      refine lv_iload_n hx hb dX4_stands_10 rfl (lv_at hl 3 rfl) ?_
      refine lv_i2l hx hb dX4_stands_11 rfl ?_
      refine lv_ladd hx hb dX4_stands_12 ?_
      refine lv_aload_n hx hb dX4_stands_13 rfl (lv_at hl 0 rfl) ?_
      refine r_getR (q := (j + 2)) X h (X4_o h0) rfl uX4 1 (by decide) lf_1_215 rfl dX4_stands_14 ?_
      refine lv_iload_n hx hb dX4_stands_17 rfl (lv_at hl 1 rfl) ?_
      obtain ⟨hi, hw⟩ := hw
      refine r_ald X h (X4_length h0) hi dX4_stands_18 ?_
      refine lv_i2l hx hb dX4_stands_19 rfl ?_
      refine W.lcmp hx hb dX4_stands_20 ?_
      refine lv_if_gt (tgt := 28) hx hb dX4_stands_21 (by decide) (fun hc => ?_) (fun hc => ?_)
      · rw [if_pos hc] at hw
        exact s28 μ _ _ _ h (lv_sub hl [] rfl) hw
      · rw [if_neg hc] at hw
        refine lv_iconst (v := (1 : Int32)) hx hb dX4_stands_24 (by decide) ?_
        refine lv_goto (tgt := 29) hx hb dX4_stands_25 (by decide) ?_
        exact r_zret X h (Or.inr rfl) hw dX4_stands_29
def wp_X4_shift (j : Nat) (a1 : Int32) (a2 : Int32) (a3 : Int32) (a4 : Int32) (a5 : Int32) (Q : vM → Prop) (μ : vM) : Prop := ¬ ((a1 * (24 : Int32)) + a2) < 0 ∧ ¬ ((a3 * (24 : Int32)) + a4) < 0 ∧ ¬ a5 < 0 ∧ ((a1 * (24 : Int32)) + a2).toNatClampNeg + a5.toNatClampNeg ≤ 96 ∧ ((a3 * (24 : Int32)) + a4).toNatClampNeg + a5.toNatClampNeg ≤ 96 ∧ ∃ μ23 : vM, μ23 = sa μ (j + 3) (va_cpy (μ (j + 3)) (μ (j + 3)) ((a1 * (24 : Int32)) + a2).toNatClampNeg ((a3 * (24 : Int32)) + a4).toNatClampNeg a5.toNatClampNeg) ∧ Q μ23
set_option maxRecDepth 100000 in
set_option maxHeartbeats 4000000 in
theorem c_X4_shift (l : Launch) (G : vG) (hG : gO G) (j : Nat) (a1 : Int32) (a2 : Int32) (a3 : Int32) (a4 : Int32) (a5 : Int32) (h0 : isX4 G j) (Q : vM → Prop) (μ : vM) (hw : wp_X4_shift j a1 a2 a3 a4 a5 Q μ) : mt l G yX4_shift vX4_shift { frames := 1, cells := 0, slots := 0, locals := 60 } [.ref (ga G j), .int a1, .int a2, .int a3, .int a4, .int a5] μ (qV G Q) := by
  refine met_of (cc := cX4_shift) (maxL := 6) (ret := none) RX4 (by decide) rfl rfl hG (Nat.le_of_ble_eq_true rfl) ?_
  intro p e s m below meth c X h ls hl
  have hl : lv_has ls 6 [(0, .ref (ga G j)), (1, .int a1), (2, .int a2), (3, .int a3), (4, .int a4), (5, .int a5)] := hl
  have hx := X.1
  have hb := X.2.1
  unfold wp_X4_shift at hw
  refine lv_aload_n hx hb dX4_shift_0 rfl (lv_at hl 0 rfl) ?_
  refine r_getR (q := (j + 3)) X h (X4_o h0) rfl uX4 2 (by decide) lf_1_217 rfl dX4_shift_1 ?_
  refine lv_iload_n hx hb dX4_shift_4 rfl (lv_at hl 1 rfl) ?_
  refine lv_bipush (v := (24 : Int32)) hx hb dX4_shift_5 (by decide) ?_
  refine lv_imul hx hb dX4_shift_7 ?_
  refine lv_iload_n hx hb dX4_shift_8 rfl (lv_at hl 2 rfl) ?_
  refine lv_iadd hx hb dX4_shift_9 ?_
  refine lv_aload_n hx hb dX4_shift_10 rfl (lv_at hl 0 rfl) ?_
  refine r_getR (q := (j + 3)) X h (X4_o h0) rfl uX4 2 (by decide) lf_1_217 rfl dX4_shift_11 ?_
  refine lv_iload_n hx hb dX4_shift_14 rfl (lv_at hl 3 rfl) ?_
  refine lv_bipush (v := (24 : Int32)) hx hb dX4_shift_15 (by decide) ?_
  refine lv_imul hx hb dX4_shift_17 ?_
  refine lv_iload hx hb dX4_shift_18 (lv_at hl 4 rfl) ?_
  refine lv_iadd hx hb dX4_shift_20 ?_
  refine lv_iload hx hb dX4_shift_21 (lv_at hl 5 rfl) ?_
  obtain ⟨g1, g2, g3, g4, g5, μ23, eμ23, hw⟩ := hw
  refine r_copy X hl.1 h ww_4_4 ww_2_162 ww_2_161 ww_1_10 (X4_numbers h0) (X4_numbers h0) g1 g2 g3 g4 g5 (Nat.le_of_ble_eq_true rfl) (Nat.le_of_ble_eq_true rfl) eμ23 dX4_shift_23 (fun H locs h => ?_)
  exact r_vret X h hw dX4_shift_26
def wp_X5_copy (j : Nat) (p1 : Nat) (Q : vM → Prop) (μ : vM) : Prop := wp_X3_copy (j + 1) (p1 + 1) (fun μ8 => wp_X0_copy (j + 4) (p1 + 4) (fun μ19 => wp_X1_take (j + 11) (p1 + 12) 60 (μ19 (p1 + 11) 4) (fun μ40 => wp_X1_take (j + 14) (p1 + 15) 60 (μ40 (p1 + 14) 4) (fun μ61 => ¬ (0 : Int32) < 0 ∧ ¬ (0 : Int32) < 0 ∧ ¬ (60 : Int32) < 0 ∧ (0 : Int32).toNatClampNeg + (60 : Int32).toNatClampNeg ≤ 60 ∧ (0 : Int32).toNatClampNeg + (60 : Int32).toNatClampNeg ≤ 60 ∧ ∃ μ76 : vM, μ76 = sa μ61 (j + 17) (va_cpy (μ61 (p1 + 17)) (μ61 (j + 17)) (0 : Int32).toNatClampNeg (0 : Int32).toNatClampNeg (60 : Int32).toNatClampNeg) ∧ ∃ μ84 : vM, μ84 = st μ76 j 5 (μ76 p1 5) ∧ ¬ (0 : Int32) < 0 ∧ ¬ (0 : Int32) < 0 ∧ ¬ (24 : Int32) < 0 ∧ (0 : Int32).toNatClampNeg + (24 : Int32).toNatClampNeg ≤ 24 ∧ (0 : Int32).toNatClampNeg + (24 : Int32).toNatClampNeg ≤ 24 ∧ ∃ μ99 : vM, μ99 = sa μ84 (j + 18) (va_cpy (μ84 (p1 + 18)) (μ84 (j + 18)) (0 : Int32).toNatClampNeg (0 : Int32).toNatClampNeg (24 : Int32).toNatClampNeg) ∧ ∃ μ107 : vM, μ107 = st μ99 j 7 (μ99 p1 7) ∧ ∃ μ115 : vM, μ115 = st μ107 j 8 (μ107 p1 8) ∧ Q μ115) μ40) μ19) μ8) μ
set_option maxRecDepth 100000 in
set_option maxHeartbeats 4000000 in
theorem c_X5_copy (l : Launch) (G : vG) (hG : gO G) (j : Nat) (p1 : Nat) (h0 : isX5 G j) (h1 : isX5 G p1) (Q : vM → Prop) (μ : vM) (hw : wp_X5_copy j p1 Q μ) : mt l G yX5_copy vX5_copy { frames := 2, cells := 0, slots := 0, locals := 82 } [.ref (ga G j), .ref (ga G p1)] μ (qV G Q) := by
  refine met_of (cc := cX5_copy) (maxL := 2) (ret := none) RX5 (by decide) rfl rfl hG (Nat.le_of_ble_eq_true rfl) ?_
  intro p e s m below meth c X h ls hl
  have hl : lv_has ls 2 [(0, .ref (ga G j)), (1, .ref (ga G p1))] := hl
  have hx := X.1
  have hb := X.2.1
  unfold wp_X5_copy at hw
  refine lv_aload_n hx hb dX5_copy_0 rfl (lv_at hl 0 rfl) ?_
  refine r_getR (q := (j + 1)) X h (X5_o h0) rfl uX5 0 (by decide) lf_1_135 rfl dX5_copy_1 ?_
  refine lv_aload_n hx hb dX5_copy_4 rfl (lv_at hl 1 rfl) ?_
  refine r_getR (q := (p1 + 1)) X h (X5_o h1) rfl uX5 0 (by decide) lf_1_135 rfl dX5_copy_5 ?_
  refine k_v h (n_V (rest := []) (As := [.ref (ga G (p1 + 1))]) X h hl.1 (c_X3_copy l G hG (j + 1) (p1 + 1) (X5_roads h0) (X5_roads h1) _ _ hw) gk_X5_58 rfl hd_X3_copy ⟨rfl, rfl⟩ ⟨Nat.le_of_ble_eq_true rfl, Nat.le_of_ble_eq_true rfl⟩ (X3_o (X5_roads h0)) rfl rfl (Nat.le_of_ble_eq_true rfl) dX5_copy_8 ⟨Nat.zero_le _, Nat.zero_le _⟩) (fun μ8 H locs hw h => ?_)
  refine lv_aload_n hx hb dX5_copy_11 rfl (lv_at hl 0 rfl) ?_
  refine r_getR (q := (j + 4)) X h (X5_o h0) rfl uX5 1 (by decide) lf_1_137 rfl dX5_copy_12 ?_
  refine lv_aload_n hx hb dX5_copy_15 rfl (lv_at hl 1 rfl) ?_
  refine r_getR (q := (p1 + 4)) X h (X5_o h1) rfl uX5 1 (by decide) lf_1_137 rfl dX5_copy_16 ?_
  refine k_v h (n_V (rest := []) (As := [.ref (ga G (p1 + 4))]) X h hl.1 (c_X0_copy l G hG (j + 4) (p1 + 4) (X5_harvest h0) (X5_harvest h1) _ _ hw) gk_X5_62 rfl hd_X0_copy ⟨rfl, rfl⟩ ⟨Nat.le_of_ble_eq_true rfl, Nat.le_of_ble_eq_true rfl⟩ (X0_o (X5_harvest h0)) rfl rfl (Nat.le_of_ble_eq_true rfl) dX5_copy_19 ⟨Nat.zero_le _, Nat.zero_le _⟩) (fun μ19 H locs hw h => ?_)
  refine lv_aload_n hx hb dX5_copy_22 rfl (lv_at hl 0 rfl) ?_
  refine r_getR (q := (j + 11)) X h (X5_o h0) rfl uX5 2 (by decide) lf_1_139 rfl dX5_copy_23 ?_
  refine lv_aload_n hx hb dX5_copy_26 rfl (lv_at hl 1 rfl) ?_
  refine r_getR (q := (p1 + 11)) X h (X5_o h1) rfl uX5 2 (by decide) lf_1_139 rfl dX5_copy_27 ?_
  refine r_getR (q := (p1 + 12)) X h (X1_o (X5_steps h1)) rfl uX1 2 (by decide) fn_12 rfl dX5_copy_30 ?_
  refine lv_aload_n hx hb dX5_copy_33 rfl (lv_at hl 1 rfl) ?_
  refine r_getR (q := (p1 + 11)) X h (X5_o h1) rfl uX5 2 (by decide) lf_1_139 rfl dX5_copy_34 ?_
  refine r_getI X h (X1_o (X5_steps h1)) rfl uX1 4 (by decide) fn_13 rfl dX5_copy_37 ?_
  refine k_v h (n_V (rest := []) (As := [.ref (ga G (p1 + 12)), .int (μ19 (p1 + 11) 4)]) X h hl.1 (c_X1_take l G hG (j + 11) (p1 + 12) 60 (μ19 (p1 + 11) 4) (X5_steps h0) (X1_code (X5_steps h1)) _ _ hw) gk_X5_71 rfl hd_X1_take ⟨rfl, rfl⟩ ⟨Nat.le_of_ble_eq_true rfl, Nat.le_of_ble_eq_true rfl⟩ (X1_o (X5_steps h0)) rfl rfl (Nat.le_of_ble_eq_true rfl) dX5_copy_40 ⟨Nat.zero_le _, Nat.zero_le _⟩) (fun μ40 H locs hw h => ?_)
  refine lv_aload_n hx hb dX5_copy_43 rfl (lv_at hl 0 rfl) ?_
  refine r_getR (q := (j + 14)) X h (X5_o h0) rfl uX5 3 (by decide) lf_1_141 rfl dX5_copy_44 ?_
  refine lv_aload_n hx hb dX5_copy_47 rfl (lv_at hl 1 rfl) ?_
  refine r_getR (q := (p1 + 14)) X h (X5_o h1) rfl uX5 3 (by decide) lf_1_141 rfl dX5_copy_48 ?_
  refine r_getR (q := (p1 + 15)) X h (X1_o (X5_worth h1)) rfl uX1 2 (by decide) fn_12 rfl dX5_copy_51 ?_
  refine lv_aload_n hx hb dX5_copy_54 rfl (lv_at hl 1 rfl) ?_
  refine r_getR (q := (p1 + 14)) X h (X5_o h1) rfl uX5 3 (by decide) lf_1_141 rfl dX5_copy_55 ?_
  refine r_getI X h (X1_o (X5_worth h1)) rfl uX1 4 (by decide) fn_13 rfl dX5_copy_58 ?_
  refine k_v h (n_V (rest := []) (As := [.ref (ga G (p1 + 15)), .int (μ40 (p1 + 14) 4)]) X h hl.1 (c_X1_take l G hG (j + 14) (p1 + 15) 60 (μ40 (p1 + 14) 4) (X5_worth h0) (X1_code (X5_worth h1)) _ _ hw) gk_X5_71 rfl hd_X1_take ⟨rfl, rfl⟩ ⟨Nat.le_of_ble_eq_true rfl, Nat.le_of_ble_eq_true rfl⟩ (X1_o (X5_worth h0)) rfl rfl (Nat.le_of_ble_eq_true rfl) dX5_copy_61 ⟨Nat.zero_le _, Nat.zero_le _⟩) (fun μ61 H locs hw h => ?_)
  refine lv_aload_n hx hb dX5_copy_64 rfl (lv_at hl 1 rfl) ?_
  refine r_getR (q := (p1 + 17)) X h (X5_o h1) rfl uX5 4 (by decide) lf_1_143 rfl dX5_copy_65 ?_
  refine lv_iconst (v := (0 : Int32)) hx hb dX5_copy_68 (by decide) ?_
  refine lv_aload_n hx hb dX5_copy_69 rfl (lv_at hl 0 rfl) ?_
  refine r_getR (q := (j + 17)) X h (X5_o h0) rfl uX5 4 (by decide) lf_1_143 rfl dX5_copy_70 ?_
  refine lv_iconst (v := (0 : Int32)) hx hb dX5_copy_73 (by decide) ?_
  refine lv_bipush (v := (60 : Int32)) hx hb dX5_copy_74 (by decide) ?_
  obtain ⟨g1, g2, g3, g4, g5, μ76, eμ76, hw⟩ := hw
  refine r_copy X hl.1 h ww_4_24 ww_2_162 ww_2_161 ww_1_10 (X5_tape h1) (X5_tape h0) g1 g2 g3 g4 g5 (Nat.le_of_ble_eq_true rfl) (Nat.le_of_ble_eq_true rfl) eμ76 dX5_copy_76 (fun H locs h => ?_)
  refine lv_aload_n hx hb dX5_copy_79 rfl (lv_at hl 0 rfl) ?_
  refine lv_aload_n hx hb dX5_copy_80 rfl (lv_at hl 1 rfl) ?_
  refine r_getI X h (X5_o h1) rfl uX5 5 (by decide) lf_1_145 rfl dX5_copy_81 ?_
  obtain ⟨μ84, eμ84, hw⟩ := hw
  refine r_putI X h (X5_o h0) rfl uX5 tyX5 tyX5_ok nmX5 5 (by decide) lf_1_145 rfl rfl rfl  eμ84 dX5_copy_84 (fun H locs h => ?_)
  refine lv_aload_n hx hb dX5_copy_87 rfl (lv_at hl 1 rfl) ?_
  refine r_getR (q := (p1 + 18)) X h (X5_o h1) rfl uX5 6 (by decide) lf_1_147 rfl dX5_copy_88 ?_
  refine lv_iconst (v := (0 : Int32)) hx hb dX5_copy_91 (by decide) ?_
  refine lv_aload_n hx hb dX5_copy_92 rfl (lv_at hl 0 rfl) ?_
  refine r_getR (q := (j + 18)) X h (X5_o h0) rfl uX5 6 (by decide) lf_1_147 rfl dX5_copy_93 ?_
  refine lv_iconst (v := (0 : Int32)) hx hb dX5_copy_96 (by decide) ?_
  refine lv_bipush (v := (24 : Int32)) hx hb dX5_copy_97 (by decide) ?_
  obtain ⟨g1, g2, g3, g4, g5, μ99, eμ99, hw⟩ := hw
  refine r_copy X hl.1 h ww_4_24 ww_2_162 ww_2_161 ww_1_10 (X5_waiting h1) (X5_waiting h0) g1 g2 g3 g4 g5 (Nat.le_of_ble_eq_true rfl) (Nat.le_of_ble_eq_true rfl) eμ99 dX5_copy_99 (fun H locs h => ?_)
  refine lv_aload_n hx hb dX5_copy_102 rfl (lv_at hl 0 rfl) ?_
  refine lv_aload_n hx hb dX5_copy_103 rfl (lv_at hl 1 rfl) ?_
  refine r_getI X h (X5_o h1) rfl uX5 7 (by decide) lf_1_149 rfl dX5_copy_104 ?_
  obtain ⟨μ107, eμ107, hw⟩ := hw
  refine r_putI X h (X5_o h0) rfl uX5 tyX5 tyX5_ok nmX5 7 (by decide) lf_1_149 rfl rfl rfl  eμ107 dX5_copy_107 (fun H locs h => ?_)
  refine lv_aload_n hx hb dX5_copy_110 rfl (lv_at hl 0 rfl) ?_
  refine lv_aload_n hx hb dX5_copy_111 rfl (lv_at hl 1 rfl) ?_
  refine r_getI X h (X5_o h1) rfl uX5 8 (by decide) lf_1_151 rfl dX5_copy_112 ?_
  obtain ⟨μ115, eμ115, hw⟩ := hw
  refine r_putI X h (X5_o h0) rfl uX5 tyX5 tyX5_ok nmX5 8 (by decide) lf_1_151 rfl rfl rfl  eμ115 dX5_copy_115 (fun H locs h => ?_)
  exact r_vret X h hw dX5_copy_118
def wp_X5_draw (j : Nat) (Q : Int32 → vM → Prop) (μ : vM) : Prop := ∃ μ12 : vM, μ12 = st μ j 8 (((μ j 8) * (1103515245 : Int32)) + (12345 : Int32)) ∧ Q (((μ12 j 8).toUInt32 >>> ((8 : Int32).toUInt32 &&& Int32.toUInt32 31)).toInt32) μ12
set_option maxRecDepth 100000 in
set_option maxHeartbeats 4000000 in
theorem c_X5_draw (l : Launch) (G : vG) (hG : gO G) (j : Nat) (h0 : isX5 G j) (Q : Int32 → vM → Prop) (μ : vM) (hw : wp_X5_draw j Q μ) : mt l G yX5_draw vX5_draw { frames := 0, cells := 0, slots := 0, locals := 0 } [.ref (ga G j)] μ (qI G Q) := by
  refine met_of (cc := cX5_draw) (maxL := 1) (ret := (some .int)) RX5 (by decide) rfl rfl hG (Nat.le_of_ble_eq_true rfl) ?_
  intro p e s m below meth c X h ls hl
  have hl : lv_has ls 1 [(0, .ref (ga G j))] := hl
  have hx := X.1
  have hb := X.2.1
  unfold wp_X5_draw at hw
  refine lv_aload_n hx hb dX5_draw_0 rfl (lv_at hl 0 rfl) ?_
  refine lv_aload_n hx hb dX5_draw_1 rfl (lv_at hl 0 rfl) ?_
  refine r_getI X h (X5_o h0) rfl uX5 8 (by decide) lf_1_151 rfl dX5_draw_2 ?_
  refine r_ldc X (v := (1103515245 : Int32)) ww_3_102 dX5_draw_5 ?_
  refine lv_imul hx hb dX5_draw_7 ?_
  refine lv_sipush (v := (12345 : Int32)) hx hb dX5_draw_8 (by decide) ?_
  refine lv_iadd hx hb dX5_draw_11 ?_
  obtain ⟨μ12, eμ12, hw⟩ := hw
  refine r_putI X h (X5_o h0) rfl uX5 tyX5 tyX5_ok nmX5 8 (by decide) lf_1_151 rfl rfl rfl  eμ12 dX5_draw_12 (fun H locs h => ?_)
  refine lv_aload_n hx hb dX5_draw_15 rfl (lv_at hl 0 rfl) ?_
  refine r_getI X h (X5_o h0) rfl uX5 8 (by decide) lf_1_151 rfl dX5_draw_16 ?_
  refine lv_bipush (v := (8 : Int32)) hx hb dX5_draw_19 (by decide) ?_
  refine lv_iushr hx hb dX5_draw_21 rfl ?_
  exact r_iret X h hw dX5_draw_22
def wp_X5_stir (j : Nat) (Q : vM → Prop) (μ : vM) : Prop := if (μ (j + 4) 0) = 0 then Q μ else wp_X5_draw j (fun r12 μ12 => ¬ (μ12 (j + 4) 0) = 0 ∧ ∃ x1_23 : Int32, x1_23 = r12 % (μ12 (j + 4) 0) ∧ wp_X5_draw j (fun r33 μ33 => vp_in x1_23 8 ∧ ∃ μ39 : vM, μ39 = st μ33 (j + 9) x1_23.toNatClampNeg (r33 % (10 : Int32)) ∧ wp_X5_draw j (fun r41 μ41 => if (r41 % (8 : Int32)) = 0 then wp_X5_draw j (fun r59 μ59 => vp_in x1_23 8 ∧ ∃ μ65 : vM, μ65 = st μ59 (j + 8) x1_23.toNatClampNeg (r59 % (10 : Int32)) ∧ Q μ65) μ41 else Q μ41) μ39) μ12) μ
set_option maxRecDepth 100000 in
set_option maxHeartbeats 4000000 in
theorem c_X5_stir (l : Launch) (G : vG) (hG : gO G) (j : Nat) (h0 : isX5 G j) (Q : vM → Prop) (μ : vM) (hw : wp_X5_stir j Q μ) : mt l G yX5_stir vX5_stir { frames := 1, cells := 0, slots := 0, locals := 20 } [.ref (ga G j)] μ (qV G Q) := by
  refine met_of (cc := cX5_stir) (maxL := 2) (ret := none) RX5 (by decide) rfl rfl hG (Nat.le_of_ble_eq_true rfl) ?_
  intro p e s m below meth c X h ls hl
  have hl : lv_has ls 2 [(0, .ref (ga G j))] := hl
  have hx := X.1
  have hb := X.2.1
  unfold wp_X5_stir at hw
  refine lv_aload_n hx hb dX5_stir_0 rfl (lv_at hl 0 rfl) ?_
  refine r_getR (q := (j + 4)) X h (X5_o h0) rfl uX5 1 (by decide) lf_1_137 rfl dX5_stir_1 ?_
  refine r_getI X h (X0_o (X5_harvest h0)) rfl uX0 0 (by decide) fn_0 rfl dX5_stir_4 ?_
  refine lv_if_ne (tgt := 11) hx hb dX5_stir_7 (by decide) (fun hc => ?_) (fun hc => ?_)
  · rw [if_neg hc] at hw
    refine lv_aload_n hx hb dX5_stir_11 rfl (lv_at hl 0 rfl) ?_
    refine k_i h (n_V (rest := []) (As := []) X h hl.1 (c_X5_draw l G hG j h0 _ _ hw) gk_X5_85 rfl hd_X5_draw ⟨rfl, rfl⟩ ⟨Nat.le_of_ble_eq_true rfl, Nat.le_of_ble_eq_true rfl⟩ (X5_o h0) rfl rfl (Nat.le_of_ble_eq_true rfl) dX5_stir_12 ⟨Nat.zero_le _, Nat.zero_le _⟩) (fun r12 μ12 H locs hw h => ?_)
    refine lv_aload_n hx hb dX5_stir_15 rfl (lv_at hl 0 rfl) ?_
    refine r_getR (q := (j + 4)) X h (X5_o h0) rfl uX5 1 (by decide) lf_1_137 rfl dX5_stir_16 ?_
    refine r_getI X h (X0_o (X5_harvest h0)) rfl uX0 0 (by decide) fn_0 rfl dX5_stir_19 ?_
    obtain ⟨hne, hw⟩ := hw
    refine r_irem hx hb dX5_stir_22 hne ?_
    obtain ⟨x1_23, ex1_23, hw⟩ := hw
    refine topE ex1_23 ?_
    refine lv_istore_n (lv' := [(1, .int x1_23), (0, .ref (ga G j))]) hx hb dX5_stir_23 rfl hl (by decide) rfl (fun ls hl => ?_)
    refine lv_aload_n hx hb dX5_stir_24 rfl (lv_at hl 1 rfl) ?_
    refine r_getR (q := (j + 4)) X h (X5_o h0) rfl uX5 1 (by decide) lf_1_137 rfl dX5_stir_25 ?_
    refine r_getR (q := (j + 9)) X h (X0_o (X5_harvest h0)) rfl uX0 6 (by decide) fn_8 rfl dX5_stir_28 ?_
    refine lv_iload_n hx hb dX5_stir_31 rfl (lv_at hl 0 rfl) ?_
    refine lv_aload_n hx hb dX5_stir_32 rfl (lv_at hl 1 rfl) ?_
    refine k_i h (n_V (rest := [.int x1_23, .ref (ga G (j + 9))]) (As := []) X h hl.1 (c_X5_draw l G hG j h0 _ _ hw) gk_X5_85 rfl hd_X5_draw ⟨rfl, rfl⟩ ⟨Nat.le_of_ble_eq_true rfl, Nat.le_of_ble_eq_true rfl⟩ (X5_o h0) rfl rfl (Nat.le_of_ble_eq_true rfl) dX5_stir_33 ⟨Nat.zero_le _, Nat.zero_le _⟩) (fun r33 μ33 H locs hw h => ?_)
    refine lv_bipush (v := (10 : Int32)) hx hb dX5_stir_36 (by decide) ?_
    refine r_irem hx hb dX5_stir_38 (by decide) ?_
    obtain ⟨hi, μ39, eμ39, hw⟩ := hw
    refine r_ast X h (X0_heard (X5_harvest h0)) hi eμ39 dX5_stir_39 (fun H locs h => ?_)
    refine lv_aload_n hx hb dX5_stir_40 rfl (lv_at hl 1 rfl) ?_
    refine k_i h (n_V (rest := []) (As := []) X h hl.1 (c_X5_draw l G hG j h0 _ _ hw) gk_X5_85 rfl hd_X5_draw ⟨rfl, rfl⟩ ⟨Nat.le_of_ble_eq_true rfl, Nat.le_of_ble_eq_true rfl⟩ (X5_o h0) rfl rfl (Nat.le_of_ble_eq_true rfl) dX5_stir_41 ⟨Nat.zero_le _, Nat.zero_le _⟩) (fun r41 μ41 H locs hw h => ?_)
    refine lv_bipush (v := (8 : Int32)) hx hb dX5_stir_44 (by decide) ?_
    refine r_irem hx hb dX5_stir_46 (by decide) ?_
    refine lv_if_ne (tgt := 66) hx hb dX5_stir_47 (by decide) (fun hc => ?_) (fun hc => ?_)
    · rw [if_neg hc] at hw
      exact r_vret X h hw dX5_stir_66
    · rw [if_pos hc] at hw
      refine lv_aload_n hx hb dX5_stir_50 rfl (lv_at hl 1 rfl) ?_
      refine r_getR (q := (j + 4)) X h (X5_o h0) rfl uX5 1 (by decide) lf_1_137 rfl dX5_stir_51 ?_
      refine r_getR (q := (j + 8)) X h (X0_o (X5_harvest h0)) rfl uX0 5 (by decide) fn_6 rfl dX5_stir_54 ?_
      refine lv_iload_n hx hb dX5_stir_57 rfl (lv_at hl 0 rfl) ?_
      refine lv_aload_n hx hb dX5_stir_58 rfl (lv_at hl 1 rfl) ?_
      refine k_i h (n_V (rest := [.int x1_23, .ref (ga G (j + 8))]) (As := []) X h hl.1 (c_X5_draw l G hG j h0 _ _ hw) gk_X5_85 rfl hd_X5_draw ⟨rfl, rfl⟩ ⟨Nat.le_of_ble_eq_true rfl, Nat.le_of_ble_eq_true rfl⟩ (X5_o h0) rfl rfl (Nat.le_of_ble_eq_true rfl) dX5_stir_59 ⟨Nat.zero_le _, Nat.zero_le _⟩) (fun r59 μ59 H locs hw h => ?_)
      refine lv_bipush (v := (10 : Int32)) hx hb dX5_stir_62 (by decide) ?_
      refine r_irem hx hb dX5_stir_64 (by decide) ?_
      obtain ⟨hi, μ65, eμ65, hw⟩ := hw
      refine r_ast X h (X0_at (X5_harvest h0)) hi eμ65 dX5_stir_65 (fun H locs h => ?_)
      exact r_vret X h hw dX5_stir_66
  · rw [if_pos hc] at hw
    exact r_vret X h hw dX5_stir_10
