def wp_X6_isPlace_14 (a0 : Int32) (Q : Int32 → vM → Prop)  (μ : vM) : Prop := Q (0 : Int32) μ
def wp_X6_isPlace (a0 : Int32) (Q : Int32 → vM → Prop) (μ : vM) : Prop := if a0 < 0 then wp_X6_isPlace_14 a0 Q μ else if (10 : Int32) ≤ a0 then wp_X6_isPlace_14 a0 Q μ else Q (1 : Int32) μ
set_option maxRecDepth 100000 in
set_option maxHeartbeats 4000000 in
theorem c_X6_isPlace (l : Launch) (G : vG) (hG : gO G) (a0 : Int32)  (Q : Int32 → vM → Prop) (μ : vM) (hw : wp_X6_isPlace a0 Q μ) : mt l G yX6_isPlace vX6_isPlace { frames := 0, cells := 0, slots := 0, locals := 0 } [.int a0] μ (qI G Q) := by
  refine met_of (cc := cX6_isPlace) (maxL := 1) (ret := (some .boolean)) RX6 (by decide) rfl rfl hG (Nat.le_of_ble_eq_true rfl) ?_
  intro p e s m below meth c X h ls hl
  have hl : lv_has ls 1 [(0, .int a0)] := hl
  have hx := X.1
  have hb := X.2.1
  unfold wp_X6_isPlace at hw
  refine lv_iload_n hx hb dX6_isPlace_0 rfl (lv_at hl 0 rfl) ?_
  have s14 : ∀  (μ : vM), ∀ (H : Heap) (locs : List Loc) (ls : Array Slot), bw G s μ H locs → lv_has ls 1 [] → wp_X6_isPlace_14 a0 Q μ → W p l e ({ frames := 0, cells := 0, slots := 0, locals := 0 } : Room) s m ([.int a0] : List Value).toArray below meth c H locs 0 0 (MQ below (qI G Q) ([.int a0] : List Value).toArray s 0 0 (gA G)) (F0 m 14 ls []) := by
    intro  μ H locs ls h hl hw
    unfold wp_X6_isPlace_14 at hw
    refine lv_iconst (v := (0 : Int32)) hx hb dX6_isPlace_14 (by decide) ?_
    exact r_zret X h (Or.inl rfl) hw dX6_isPlace_15
  refine lv_if_lt (tgt := 14) hx hb dX6_isPlace_1 (by decide) (fun hc => ?_) (fun hc => ?_)
  · rw [if_pos hc] at hw
    exact s14 μ _ _ _ h (lv_sub hl [] rfl) hw
  · rw [if_neg hc] at hw
    refine lv_iload_n hx hb dX6_isPlace_4 rfl (lv_at hl 0 rfl) ?_
    refine lv_bipush (v := (10 : Int32)) hx hb dX6_isPlace_5 (by decide) ?_
    refine lv_icmp_ge (tgt := 14) hx hb dX6_isPlace_7 (by decide) (fun hc => ?_) (fun hc => ?_)
    · rw [if_pos hc] at hw
      exact s14 μ _ _ _ h (lv_sub hl [] rfl) hw
    · rw [if_neg hc] at hw
      refine lv_iconst (v := (1 : Int32)) hx hb dX6_isPlace_10 (by decide) ?_
      refine lv_goto (tgt := 15) hx hb dX6_isPlace_11 (by decide) ?_
      exact r_zret X h (Or.inr rfl) hw dX6_isPlace_15
def wp_X6_error (a1 : Int32) (Q : Int32 → vM → Prop) (μ : vM) : Prop := vp_in a1 7 ∧ vp_in a1 7 ∧ ∃ μ9 : vM, μ9 = st μ 57 a1.toNatClampNeg ((μ 57 a1.toNatClampNeg) + (1 : Int32)) ∧ Q ((-1000000000 : Int32) - a1) μ9
set_option maxRecDepth 100000 in
set_option maxHeartbeats 4000000 in
theorem c_X6_error (l : Launch) (G : vG) (hG : gO G) (a1 : Int32) (h0 : isX6 G) (Q : Int32 → vM → Prop) (μ : vM) (hw : wp_X6_error a1 Q μ) : mt l G yX6_error vX6_error { frames := 0, cells := 0, slots := 0, locals := 0 } [.ref (ga G 0), .int a1] μ (qI G Q) := by
  refine met_of (cc := cX6_error) (maxL := 2) (ret := (some .int)) RX6 (by decide) rfl rfl hG (Nat.le_of_ble_eq_true rfl) ?_
  intro p e s m below meth c X h ls hl
  have hl : lv_has ls 2 [(0, .ref (ga G 0)), (1, .int a1)] := hl
  have hx := X.1
  have hb := X.2.1
  unfold wp_X6_error at hw
  refine lv_aload_n hx hb dX6_error_0 rfl (lv_at hl 0 rfl) ?_
  refine r_getR (q := 57) X h (X6_o h0) rfl uX6 8 (by decide) lf_1_233 rfl dX6_error_1 ?_
  refine lv_iload_n hx hb dX6_error_4 rfl (lv_at hl 1 rfl) ?_
  refine lv_dup2_11 hx hb dX6_error_5 rfl rfl ?_
  obtain ⟨hi, hw⟩ := hw
  refine r_ald X h (X6_errors h0) hi dX6_error_6 ?_
  refine lv_iconst (v := (1 : Int32)) hx hb dX6_error_7 (by decide) ?_
  refine lv_iadd hx hb dX6_error_8 ?_
  obtain ⟨hi, μ9, eμ9, hw⟩ := hw
  refine r_ast X h (X6_errors h0) hi eμ9 dX6_error_9 (fun H locs h => ?_)
  refine r_ldcw X (v := (-1000000000 : Int32)) ww_2_33 dX6_error_10 ?_
  refine lv_iload_n hx hb dX6_error_13 rfl (lv_at hl 1 rfl) ?_
  refine lv_isub hx hb dX6_error_14 ?_
  exact r_iret X h hw dX6_error_15
def wp_X6_opens_74 (a1 : Int32) (a2 : Int32) (a3 : Int32) (Q : Int32 → vM → Prop) (x4 : Int32) (μ : vM) : Prop := if x4 ≤ a3 then Q x4 μ else wp_X3_shut 2 a1 a2 (fun μ89 => Q x4 μ89) μ
def wp_X6_opens_54 (a1 : Int32) (a2 : Int32) (a3 : Int32) (Q : Int32 → vM → Prop) (t0 : Int32) (μ : vM) : Prop := if a3 ≤ t0 then wp_X6_opens_74 a1 a2 a3 Q t0 μ else wp_X3_join 2 a1 a2 (fun μ71 => wp_X6_opens_74 a1 a2 a3 Q t0 μ71) μ
def wp_X6_opens (a1 : Int32) (a2 : Int32) (a3 : Int32) (Q : Int32 → vM → Prop) (μ : vM) : Prop := wp_X6_isPlace a1 (fun r1 μ1 => if r1 = 0 then wp_X6_error (1 : Int32) (fun r30 μ30 => Q r30 μ30) μ1 else wp_X6_isPlace a2 (fun r8 μ8 => if r8 = 0 then wp_X6_error (1 : Int32) (fun r30 μ30 => Q r30 μ30) μ8 else if a1 = a2 then wp_X6_error (1 : Int32) (fun r30 μ30 => Q r30 μ30) μ8 else if a3 < 0 then wp_X6_error (1 : Int32) (fun r30 μ30 => Q r30 μ30) μ8 else if a3 ≤ (1 : Int32) then wp_X3_isOpen 2 a1 a2 (fun r43 μ43 => wp_X6_opens_54 a1 a2 a3 Q (if r43 = 0 then (0 : Int32) else (1 : Int32)) μ43) μ8 else wp_X6_error (1 : Int32) (fun r30 μ30 => Q r30 μ30) μ8) μ1) μ
set_option maxRecDepth 100000 in
set_option maxHeartbeats 4000000 in
theorem c_X6_opens (l : Launch) (G : vG) (hG : gO G) (a1 : Int32) (a2 : Int32) (a3 : Int32) (h0 : isX6 G) (Q : Int32 → vM → Prop) (μ : vM) (hw : wp_X6_opens a1 a2 a3 Q μ) : mt l G yX6_opens vX6_opens { frames := 4, cells := 0, slots := 0, locals := 100 } [.ref (ga G 0), .int a1, .int a2, .int a3] μ (qI G Q) := by
  refine met_of (cc := cX6_opens) (maxL := 5) (ret := (some .int)) RX6 (by decide) rfl rfl hG (Nat.le_of_ble_eq_true rfl) ?_
  intro p e s m below meth c X h ls hl
  have hl : lv_has ls 5 [(0, .ref (ga G 0)), (1, .int a1), (2, .int a2), (3, .int a3)] := hl
  have hx := X.1
  have hb := X.2.1
  unfold wp_X6_opens at hw
  refine lv_iload_n hx hb dX6_opens_0 rfl (lv_at hl 1 rfl) ?_
  refine k_i h (n_T (rest := []) (As := [.int a1]) X h hl.1 (c_X6_isPlace l G hG a1 _ _ hw) gk_X6_68 rfl hd_X6_isPlace ⟨rfl, rfl⟩ ⟨Nat.le_of_ble_eq_true rfl, Nat.le_of_ble_eq_true rfl⟩ rfl (Nat.le_of_ble_eq_true rfl) dX6_opens_1 ⟨Nat.zero_le _, Nat.zero_le _⟩) (fun r1 μ1 H locs hw h => ?_)
  refine lv_if_eq (tgt := 28) hx hb dX6_opens_4 (by decide) (fun hc => ?_) (fun hc => ?_)
  · rw [if_pos hc] at hw
    refine lv_aload_n hx hb dX6_opens_28 rfl (lv_at hl 0 rfl) ?_
    refine lv_iconst (v := (1 : Int32)) hx hb dX6_opens_29 (by decide) ?_
    refine k_i h (n_V (rest := []) (As := [.int (1 : Int32)]) X h hl.1 (c_X6_error l G hG (1 : Int32) h0 _ _ hw) gk_X6_72 rfl hd_X6_error ⟨rfl, rfl⟩ ⟨Nat.le_of_ble_eq_true rfl, Nat.le_of_ble_eq_true rfl⟩ (X6_o h0) rfl rfl (Nat.le_of_ble_eq_true rfl) dX6_opens_30 ⟨Nat.zero_le _, Nat.zero_le _⟩) (fun r30 μ30 H locs hw h => ?_)
    exact r_iret X h hw dX6_opens_33
  · rw [if_neg hc] at hw
    refine lv_iload_n hx hb dX6_opens_7 rfl (lv_at hl 2 rfl) ?_
    refine k_i h (n_T (rest := []) (As := [.int a2]) X h hl.1 (c_X6_isPlace l G hG a2 _ _ hw) gk_X6_68 rfl hd_X6_isPlace ⟨rfl, rfl⟩ ⟨Nat.le_of_ble_eq_true rfl, Nat.le_of_ble_eq_true rfl⟩ rfl (Nat.le_of_ble_eq_true rfl) dX6_opens_8 ⟨Nat.zero_le _, Nat.zero_le _⟩) (fun r8 μ8 H locs hw h => ?_)
    refine lv_if_eq (tgt := 28) hx hb dX6_opens_11 (by decide) (fun hc => ?_) (fun hc => ?_)
    · rw [if_pos hc] at hw
      refine lv_aload_n hx hb dX6_opens_28 rfl (lv_at hl 0 rfl) ?_
      refine lv_iconst (v := (1 : Int32)) hx hb dX6_opens_29 (by decide) ?_
      refine k_i h (n_V (rest := []) (As := [.int (1 : Int32)]) X h hl.1 (c_X6_error l G hG (1 : Int32) h0 _ _ hw) gk_X6_72 rfl hd_X6_error ⟨rfl, rfl⟩ ⟨Nat.le_of_ble_eq_true rfl, Nat.le_of_ble_eq_true rfl⟩ (X6_o h0) rfl rfl (Nat.le_of_ble_eq_true rfl) dX6_opens_30 ⟨Nat.zero_le _, Nat.zero_le _⟩) (fun r30 μ30 H locs hw h => ?_)
      exact r_iret X h hw dX6_opens_33
    · rw [if_neg hc] at hw
      refine lv_iload_n hx hb dX6_opens_14 rfl (lv_at hl 1 rfl) ?_
      refine lv_iload_n hx hb dX6_opens_15 rfl (lv_at hl 2 rfl) ?_
      refine lv_icmp_eq (tgt := 28) hx hb dX6_opens_16 (by decide) (fun hc => ?_) (fun hc => ?_)
      · rw [if_pos hc] at hw
        refine lv_aload_n hx hb dX6_opens_28 rfl (lv_at hl 0 rfl) ?_
        refine lv_iconst (v := (1 : Int32)) hx hb dX6_opens_29 (by decide) ?_
        refine k_i h (n_V (rest := []) (As := [.int (1 : Int32)]) X h hl.1 (c_X6_error l G hG (1 : Int32) h0 _ _ hw) gk_X6_72 rfl hd_X6_error ⟨rfl, rfl⟩ ⟨Nat.le_of_ble_eq_true rfl, Nat.le_of_ble_eq_true rfl⟩ (X6_o h0) rfl rfl (Nat.le_of_ble_eq_true rfl) dX6_opens_30 ⟨Nat.zero_le _, Nat.zero_le _⟩) (fun r30 μ30 H locs hw h => ?_)
        exact r_iret X h hw dX6_opens_33
      · rw [if_neg hc] at hw
        refine lv_iload_n hx hb dX6_opens_19 rfl (lv_at hl 3 rfl) ?_
        refine lv_if_lt (tgt := 28) hx hb dX6_opens_20 (by decide) (fun hc => ?_) (fun hc => ?_)
        · rw [if_pos hc] at hw
          refine lv_aload_n hx hb dX6_opens_28 rfl (lv_at hl 0 rfl) ?_
          refine lv_iconst (v := (1 : Int32)) hx hb dX6_opens_29 (by decide) ?_
          refine k_i h (n_V (rest := []) (As := [.int (1 : Int32)]) X h hl.1 (c_X6_error l G hG (1 : Int32) h0 _ _ hw) gk_X6_72 rfl hd_X6_error ⟨rfl, rfl⟩ ⟨Nat.le_of_ble_eq_true rfl, Nat.le_of_ble_eq_true rfl⟩ (X6_o h0) rfl rfl (Nat.le_of_ble_eq_true rfl) dX6_opens_30 ⟨Nat.zero_le _, Nat.zero_le _⟩) (fun r30 μ30 H locs hw h => ?_)
          exact r_iret X h hw dX6_opens_33
        · rw [if_neg hc] at hw
          refine lv_iload_n hx hb dX6_opens_23 rfl (lv_at hl 3 rfl) ?_
          refine lv_iconst (v := (1 : Int32)) hx hb dX6_opens_24 (by decide) ?_
          refine lv_icmp_le (tgt := 34) hx hb dX6_opens_25 (by decide) (fun hc => ?_) (fun hc => ?_)
          · rw [if_pos hc] at hw
            refine lv_aload_n hx hb dX6_opens_34 rfl (lv_at hl 0 rfl) ?_
            refine r_getR (q := 1) X h (X6_o h0) rfl uX6 0 (by decide) lf_1_225 rfl dX6_opens_35 ?_
            refine r_getR (q := 2) X h (X5_o (X6_now h0)) rfl uX5 0 (by decide) fn_15 rfl dX6_opens_38 ?_
            refine lv_iload_n hx hb dX6_opens_41 rfl (lv_at hl 1 rfl) ?_
            refine lv_iload_n hx hb dX6_opens_42 rfl (lv_at hl 2 rfl) ?_
            refine k_i h (n_V (rest := []) (As := [.int a1, .int a2]) X h hl.1 (c_X3_isOpen l G hG 2 a1 a2 (X5_roads (X6_now h0)) _ _ hw) gk_X6_79 rfl hd_X3_isOpen ⟨rfl, rfl⟩ ⟨Nat.le_of_ble_eq_true rfl, Nat.le_of_ble_eq_true rfl⟩ (X3_o (X5_roads (X6_now h0))) rfl rfl (Nat.le_of_ble_eq_true rfl) dX6_opens_43 ⟨Nat.zero_le _, Nat.zero_le _⟩) (fun r43 μ43 H locs hw h => ?_)
            have s54 : ∀ (t0 : Int32) (μ : vM), ∀ (H : Heap) (locs : List Loc) (ls : Array Slot), bw G s μ H locs → lv_has ls 5 [(0, .ref (ga G 0)), (1, .int a1), (2, .int a2), (3, .int a3)] → wp_X6_opens_54 a1 a2 a3 Q t0 μ → W p l e ({ frames := 4, cells := 0, slots := 0, locals := 100 } : Room) s m ([.ref (ga G 0), .int a1, .int a2, .int a3] : List Value).toArray below meth c H locs 0 0 (MQ below (qI G Q) ([.ref (ga G 0), .int a1, .int a2, .int a3] : List Value).toArray s 0 0 (gA G)) (F0 m 54 ls [.int t0]) := by
              intro t0 μ H locs ls h hl hw
              unfold wp_X6_opens_54 at hw
              refine lv_istore (lv' := [(4, .int t0), (0, .ref (ga G 0)), (1, .int a1), (2, .int a2), (3, .int a3)]) hx hb dX6_opens_54 hl (by decide) rfl (fun ls hl => ?_)
              refine lv_iload_n hx hb dX6_opens_56 rfl (lv_at hl 4 rfl) ?_
              refine lv_iload hx hb dX6_opens_57 (lv_at hl 0 rfl) ?_
              have s74 : ∀ (x4 : Int32) (μ : vM), ∀ (H : Heap) (locs : List Loc) (ls : Array Slot), bw G s μ H locs → lv_has ls 5 [(0, .ref (ga G 0)), (1, .int a1), (2, .int a2), (3, .int a3), (4, .int x4)] → wp_X6_opens_74 a1 a2 a3 Q x4 μ → W p l e ({ frames := 4, cells := 0, slots := 0, locals := 100 } : Room) s m ([.ref (ga G 0), .int a1, .int a2, .int a3] : List Value).toArray below meth c H locs 0 0 (MQ below (qI G Q) ([.ref (ga G 0), .int a1, .int a2, .int a3] : List Value).toArray s 0 0 (gA G)) (F0 m 74 ls []) := by
                intro x4 μ H locs ls h hl hw
                unfold wp_X6_opens_74 at hw
                refine lv_iload_n hx hb dX6_opens_74 rfl (lv_at hl 3 rfl) ?_
                refine lv_iload hx hb dX6_opens_75 (lv_at hl 4 rfl) ?_
                refine lv_icmp_ge (tgt := 92) hx hb dX6_opens_77 (by decide) (fun hc => ?_) (fun hc => ?_)
                · rw [if_pos hc] at hw
                  refine lv_iload hx hb dX6_opens_92 (lv_at hl 4 rfl) ?_
                  exact r_iret X h hw dX6_opens_94
                · rw [if_neg hc] at hw
                  refine lv_aload_n hx hb dX6_opens_80 rfl (lv_at hl 0 rfl) ?_
                  refine r_getR (q := 1) X h (X6_o h0) rfl uX6 0 (by decide) lf_1_225 rfl dX6_opens_81 ?_
                  refine r_getR (q := 2) X h (X5_o (X6_now h0)) rfl uX5 0 (by decide) fn_15 rfl dX6_opens_84 ?_
                  refine lv_iload_n hx hb dX6_opens_87 rfl (lv_at hl 1 rfl) ?_
                  refine lv_iload_n hx hb dX6_opens_88 rfl (lv_at hl 2 rfl) ?_
                  refine k_v h (n_V (rest := []) (As := [.int a1, .int a2]) X h hl.1 (c_X3_shut l G hG 2 a1 a2 (X5_roads (X6_now h0)) _ _ hw) gk_X6_87 rfl hd_X3_shut ⟨rfl, rfl⟩ ⟨Nat.le_of_ble_eq_true rfl, Nat.le_of_ble_eq_true rfl⟩ (X3_o (X5_roads (X6_now h0))) rfl rfl (Nat.le_of_ble_eq_true rfl) dX6_opens_89 ⟨Nat.zero_le _, Nat.zero_le _⟩) (fun μ89 H locs hw h => ?_)
                  refine lv_iload hx hb dX6_opens_92 (lv_at hl 4 rfl) ?_
                  exact r_iret X h hw dX6_opens_94
              refine lv_icmp_le (tgt := 74) hx hb dX6_opens_59 (by decide) (fun hc => ?_) (fun hc => ?_)
              · rw [if_pos hc] at hw
                exact s74 t0 μ _ _ _ h (lv_sub hl [1, 2, 3, 4, 0] rfl) hw
              · rw [if_neg hc] at hw
                refine lv_aload_n hx hb dX6_opens_62 rfl (lv_at hl 1 rfl) ?_
                refine r_getR (q := 1) X h (X6_o h0) rfl uX6 0 (by decide) lf_1_225 rfl dX6_opens_63 ?_
                refine r_getR (q := 2) X h (X5_o (X6_now h0)) rfl uX5 0 (by decide) fn_15 rfl dX6_opens_66 ?_
                refine lv_iload_n hx hb dX6_opens_69 rfl (lv_at hl 2 rfl) ?_
                refine lv_iload_n hx hb dX6_opens_70 rfl (lv_at hl 3 rfl) ?_
                refine k_v h (n_V (rest := []) (As := [.int a1, .int a2]) X h hl.1 (c_X3_join l G hG 2 a1 a2 (X5_roads (X6_now h0)) _ _ hw) gk_X6_83 rfl hd_X3_join ⟨rfl, rfl⟩ ⟨Nat.le_of_ble_eq_true rfl, Nat.le_of_ble_eq_true rfl⟩ (X3_o (X5_roads (X6_now h0))) rfl rfl (Nat.le_of_ble_eq_true rfl) dX6_opens_71 ⟨Nat.zero_le _, Nat.zero_le _⟩) (fun μ71 H locs hw h => ?_)
                exact s74 t0 μ71 _ _ _ h (lv_sub hl [1, 2, 3, 4, 0] rfl) hw
            refine lv_if_eq (tgt := 53) hx hb dX6_opens_46 (by decide) (fun hc => ?_) (fun hc => ?_)
            · rw [if_pos hc] at hw
              refine lv_iconst (v := (0 : Int32)) hx hb dX6_opens_53 (by decide) ?_
              exact s54 (0 : Int32) μ43 _ _ _ h (lv_sub hl [0, 1, 2, 3] rfl) hw
            · rw [if_neg hc] at hw
              refine lv_iconst (v := (1 : Int32)) hx hb dX6_opens_49 (by decide) ?_
              refine lv_goto (tgt := 54) hx hb dX6_opens_50 (by decide) ?_
              exact s54 (1 : Int32) μ43 _ _ _ h (lv_sub hl [0, 1, 2, 3] rfl) hw
          · rw [if_neg hc] at hw
            refine lv_aload_n hx hb dX6_opens_28 rfl (lv_at hl 0 rfl) ?_
            refine lv_iconst (v := (1 : Int32)) hx hb dX6_opens_29 (by decide) ?_
            refine k_i h (n_V (rest := []) (As := [.int (1 : Int32)]) X h hl.1 (c_X6_error l G hG (1 : Int32) h0 _ _ hw) gk_X6_72 rfl hd_X6_error ⟨rfl, rfl⟩ ⟨Nat.le_of_ble_eq_true rfl, Nat.le_of_ble_eq_true rfl⟩ (X6_o h0) rfl rfl (Nat.le_of_ble_eq_true rfl) dX6_opens_30 ⟨Nat.zero_le _, Nat.zero_le _⟩) (fun r30 μ30 H locs hw h => ?_)
            exact r_iret X h hw dX6_opens_33
def wp_X6_isField_13 (a0 : Int32) (Q : Int32 → vM → Prop)  (μ : vM) : Prop := Q (0 : Int32) μ
def wp_X6_isField (a0 : Int32) (Q : Int32 → vM → Prop) (μ : vM) : Prop := if a0 < 0 then wp_X6_isField_13 a0 Q μ else if (4 : Int32) ≤ a0 then wp_X6_isField_13 a0 Q μ else Q (1 : Int32) μ
set_option maxRecDepth 100000 in
set_option maxHeartbeats 4000000 in
theorem c_X6_isField (l : Launch) (G : vG) (hG : gO G) (a0 : Int32)  (Q : Int32 → vM → Prop) (μ : vM) (hw : wp_X6_isField a0 Q μ) : mt l G yX6_isField vX6_isField { frames := 0, cells := 0, slots := 0, locals := 0 } [.int a0] μ (qI G Q) := by
  refine met_of (cc := cX6_isField) (maxL := 1) (ret := (some .boolean)) RX6 (by decide) rfl rfl hG (Nat.le_of_ble_eq_true rfl) ?_
  intro p e s m below meth c X h ls hl
  have hl : lv_has ls 1 [(0, .int a0)] := hl
  have hx := X.1
  have hb := X.2.1
  unfold wp_X6_isField at hw
  refine lv_iload_n hx hb dX6_isField_0 rfl (lv_at hl 0 rfl) ?_
  have s13 : ∀  (μ : vM), ∀ (H : Heap) (locs : List Loc) (ls : Array Slot), bw G s μ H locs → lv_has ls 1 [] → wp_X6_isField_13 a0 Q μ → W p l e ({ frames := 0, cells := 0, slots := 0, locals := 0 } : Room) s m ([.int a0] : List Value).toArray below meth c H locs 0 0 (MQ below (qI G Q) ([.int a0] : List Value).toArray s 0 0 (gA G)) (F0 m 13 ls []) := by
    intro  μ H locs ls h hl hw
    unfold wp_X6_isField_13 at hw
    refine lv_iconst (v := (0 : Int32)) hx hb dX6_isField_13 (by decide) ?_
    exact r_zret X h (Or.inl rfl) hw dX6_isField_14
  refine lv_if_lt (tgt := 13) hx hb dX6_isField_1 (by decide) (fun hc => ?_) (fun hc => ?_)
  · rw [if_pos hc] at hw
    exact s13 μ _ _ _ h (lv_sub hl [] rfl) hw
  · rw [if_neg hc] at hw
    refine lv_iload_n hx hb dX6_isField_4 rfl (lv_at hl 0 rfl) ?_
    refine lv_iconst (v := (4 : Int32)) hx hb dX6_isField_5 (by decide) ?_
    refine lv_icmp_ge (tgt := 13) hx hb dX6_isField_6 (by decide) (fun hc => ?_) (fun hc => ?_)
    · rw [if_pos hc] at hw
      exact s13 μ _ _ _ h (lv_sub hl [] rfl) hw
    · rw [if_neg hc] at hw
      refine lv_iconst (v := (1 : Int32)) hx hb dX6_isField_9 (by decide) ?_
      refine lv_goto (tgt := 14) hx hb dX6_isField_10 (by decide) ?_
      exact r_zret X h (Or.inr rfl) hw dX6_isField_14
def wp_X6_field (a1 : Int32) (a2 : Int32) (Q : Int32 → vM → Prop) (μ : vM) : Prop := wp_X6_isField a1 (fun r1 μ1 => if r1 = 0 then wp_X6_error (1 : Int32) (fun r16 μ16 => Q r16 μ16) μ1 else wp_X6_isPlace a2 (fun r8 μ8 => if r8 = 0 then wp_X6_error (1 : Int32) (fun r16 μ16 => Q r16 μ16) μ8 else vp_in a1 4 ∧ ∃ x3_32 : Int32, x3_32 = μ8 11 a1.toNatClampNeg ∧ vp_in a1 4 ∧ ∃ μ45 : vM, μ45 = st μ8 11 a1.toNatClampNeg a2 ∧ Q x3_32 μ45) μ1) μ
set_option maxRecDepth 100000 in
set_option maxHeartbeats 4000000 in
theorem c_X6_field (l : Launch) (G : vG) (hG : gO G) (a1 : Int32) (a2 : Int32) (h0 : isX6 G) (Q : Int32 → vM → Prop) (μ : vM) (hw : wp_X6_field a1 a2 Q μ) : mt l G yX6_field vX6_field { frames := 1, cells := 0, slots := 0, locals := 21 } [.ref (ga G 0), .int a1, .int a2] μ (qI G Q) := by
  refine met_of (cc := cX6_field) (maxL := 4) (ret := (some .int)) RX6 (by decide) rfl rfl hG (Nat.le_of_ble_eq_true rfl) ?_
  intro p e s m below meth c X h ls hl
  have hl : lv_has ls 4 [(0, .ref (ga G 0)), (1, .int a1), (2, .int a2)] := hl
  have hx := X.1
  have hb := X.2.1
  unfold wp_X6_field at hw
  refine lv_iload_n hx hb dX6_field_0 rfl (lv_at hl 1 rfl) ?_
  refine k_i h (n_T (rest := []) (As := [.int a1]) X h hl.1 (c_X6_isField l G hG a1 _ _ hw) gk_X6_90 rfl hd_X6_isField ⟨rfl, rfl⟩ ⟨Nat.le_of_ble_eq_true rfl, Nat.le_of_ble_eq_true rfl⟩ rfl (Nat.le_of_ble_eq_true rfl) dX6_field_1 ⟨Nat.zero_le _, Nat.zero_le _⟩) (fun r1 μ1 H locs hw h => ?_)
  refine lv_if_eq (tgt := 14) hx hb dX6_field_4 (by decide) (fun hc => ?_) (fun hc => ?_)
  · rw [if_pos hc] at hw
    refine lv_aload_n hx hb dX6_field_14 rfl (lv_at hl 0 rfl) ?_
    refine lv_iconst (v := (1 : Int32)) hx hb dX6_field_15 (by decide) ?_
    refine k_i h (n_V (rest := []) (As := [.int (1 : Int32)]) X h hl.1 (c_X6_error l G hG (1 : Int32) h0 _ _ hw) gk_X6_72 rfl hd_X6_error ⟨rfl, rfl⟩ ⟨Nat.le_of_ble_eq_true rfl, Nat.le_of_ble_eq_true rfl⟩ (X6_o h0) rfl rfl (Nat.le_of_ble_eq_true rfl) dX6_field_16 ⟨Nat.zero_le _, Nat.zero_le _⟩) (fun r16 μ16 H locs hw h => ?_)
    exact r_iret X h hw dX6_field_19
  · rw [if_neg hc] at hw
    refine lv_iload_n hx hb dX6_field_7 rfl (lv_at hl 2 rfl) ?_
    refine k_i h (n_T (rest := []) (As := [.int a2]) X h hl.1 (c_X6_isPlace l G hG a2 _ _ hw) gk_X6_68 rfl hd_X6_isPlace ⟨rfl, rfl⟩ ⟨Nat.le_of_ble_eq_true rfl, Nat.le_of_ble_eq_true rfl⟩ rfl (Nat.le_of_ble_eq_true rfl) dX6_field_8 ⟨Nat.zero_le _, Nat.zero_le _⟩) (fun r8 μ8 H locs hw h => ?_)
    refine lv_if_ne (tgt := 20) hx hb dX6_field_11 (by decide) (fun hc => ?_) (fun hc => ?_)
    · rw [if_neg hc] at hw
      refine lv_aload_n hx hb dX6_field_20 rfl (lv_at hl 0 rfl) ?_
      refine r_getR (q := 1) X h (X6_o h0) rfl uX6 0 (by decide) lf_1_225 rfl dX6_field_21 ?_
      refine r_getR (q := 5) X h (X5_o (X6_now h0)) rfl uX5 1 (by decide) fn_16 rfl dX6_field_24 ?_
      refine r_getR (q := 11) X h (X0_o (X5_harvest (X6_now h0))) rfl uX0 7 (by decide) fn_10 rfl dX6_field_27 ?_
      refine lv_iload_n hx hb dX6_field_30 rfl (lv_at hl 1 rfl) ?_
      obtain ⟨hi, hw⟩ := hw
      refine r_ald X h (X0_fieldAt (X5_harvest (X6_now h0))) hi dX6_field_31 ?_
      obtain ⟨x3_32, ex3_32, hw⟩ := hw
      refine topE ex3_32 ?_
      refine lv_istore_n (lv' := [(3, .int x3_32), (0, .ref (ga G 0)), (1, .int a1), (2, .int a2)]) hx hb dX6_field_32 rfl hl (by decide) rfl (fun ls hl => ?_)
      refine lv_aload_n hx hb dX6_field_33 rfl (lv_at hl 1 rfl) ?_
      refine r_getR (q := 1) X h (X6_o h0) rfl uX6 0 (by decide) lf_1_225 rfl dX6_field_34 ?_
      refine r_getR (q := 5) X h (X5_o (X6_now h0)) rfl uX5 1 (by decide) fn_16 rfl dX6_field_37 ?_
      refine r_getR (q := 11) X h (X0_o (X5_harvest (X6_now h0))) rfl uX0 7 (by decide) fn_10 rfl dX6_field_40 ?_
      refine lv_iload_n hx hb dX6_field_43 rfl (lv_at hl 2 rfl) ?_
      refine lv_iload_n hx hb dX6_field_44 rfl (lv_at hl 3 rfl) ?_
      obtain ⟨hi, μ45, eμ45, hw⟩ := hw
      refine r_ast X h (X0_fieldAt (X5_harvest (X6_now h0))) hi eμ45 dX6_field_45 (fun H locs h => ?_)
      refine lv_iload_n hx hb dX6_field_46 rfl (lv_at hl 0 rfl) ?_
      exact r_iret X h hw dX6_field_47
    · rw [if_pos hc] at hw
      refine lv_aload_n hx hb dX6_field_14 rfl (lv_at hl 0 rfl) ?_
      refine lv_iconst (v := (1 : Int32)) hx hb dX6_field_15 (by decide) ?_
      refine k_i h (n_V (rest := []) (As := [.int (1 : Int32)]) X h hl.1 (c_X6_error l G hG (1 : Int32) h0 _ _ hw) gk_X6_72 rfl hd_X6_error ⟨rfl, rfl⟩ ⟨Nat.le_of_ble_eq_true rfl, Nat.le_of_ble_eq_true rfl⟩ (X6_o h0) rfl rfl (Nat.le_of_ble_eq_true rfl) dX6_field_16 ⟨Nat.zero_le _, Nat.zero_le _⟩) (fun r16 μ16 H locs hw h => ?_)
      exact r_iret X h hw dX6_field_19
def wp_X6_far (a1 : Int32) (a2 : Int32) (Q : Int32 → vM → Prop) (μ : vM) : Prop := wp_X6_isPlace a1 (fun r1 μ1 => if r1 = 0 then wp_X6_error (1 : Int32) (fun r16 μ16 => Q r16 μ16) μ1 else wp_X6_isPlace a2 (fun r8 μ8 => if r8 = 0 then wp_X6_error (1 : Int32) (fun r16 μ16 => Q r16 μ16) μ8 else wp_X3_leads 2 a1 a2 (fun r29 μ29 => if r29 = 0 then wp_X6_error (2 : Int32) (fun r37 μ37 => Q r37 μ37) μ29 else wp_X3_between 2 a1 a2 (fun r50 μ50 => Q r50 μ50) μ29) μ8) μ1) μ
set_option maxRecDepth 100000 in
set_option maxHeartbeats 4000000 in
theorem c_X6_far (l : Launch) (G : vG) (hG : gO G) (a1 : Int32) (a2 : Int32) (h0 : isX6 G) (Q : Int32 → vM → Prop) (μ : vM) (hw : wp_X6_far a1 a2 Q μ) : mt l G yX6_far vX6_far { frames := 1, cells := 0, slots := 0, locals := 22 } [.ref (ga G 0), .int a1, .int a2] μ (qI G Q) := by
  refine met_of (cc := cX6_far) (maxL := 3) (ret := (some .int)) RX6 (by decide) rfl rfl hG (Nat.le_of_ble_eq_true rfl) ?_
  intro p e s m below meth c X h ls hl
  have hl : lv_has ls 3 [(0, .ref (ga G 0)), (1, .int a1), (2, .int a2)] := hl
  have hx := X.1
  have hb := X.2.1
  unfold wp_X6_far at hw
  refine lv_iload_n hx hb dX6_far_0 rfl (lv_at hl 1 rfl) ?_
  refine k_i h (n_T (rest := []) (As := [.int a1]) X h hl.1 (c_X6_isPlace l G hG a1 _ _ hw) gk_X6_68 rfl hd_X6_isPlace ⟨rfl, rfl⟩ ⟨Nat.le_of_ble_eq_true rfl, Nat.le_of_ble_eq_true rfl⟩ rfl (Nat.le_of_ble_eq_true rfl) dX6_far_1 ⟨Nat.zero_le _, Nat.zero_le _⟩) (fun r1 μ1 H locs hw h => ?_)
  refine lv_if_eq (tgt := 14) hx hb dX6_far_4 (by decide) (fun hc => ?_) (fun hc => ?_)
  · rw [if_pos hc] at hw
    refine lv_aload_n hx hb dX6_far_14 rfl (lv_at hl 0 rfl) ?_
    refine lv_iconst (v := (1 : Int32)) hx hb dX6_far_15 (by decide) ?_
    refine k_i h (n_V (rest := []) (As := [.int (1 : Int32)]) X h hl.1 (c_X6_error l G hG (1 : Int32) h0 _ _ hw) gk_X6_72 rfl hd_X6_error ⟨rfl, rfl⟩ ⟨Nat.le_of_ble_eq_true rfl, Nat.le_of_ble_eq_true rfl⟩ (X6_o h0) rfl rfl (Nat.le_of_ble_eq_true rfl) dX6_far_16 ⟨Nat.zero_le _, Nat.zero_le _⟩) (fun r16 μ16 H locs hw h => ?_)
    exact r_iret X h hw dX6_far_19
  · rw [if_neg hc] at hw
    refine lv_iload_n hx hb dX6_far_7 rfl (lv_at hl 2 rfl) ?_
    refine k_i h (n_T (rest := []) (As := [.int a2]) X h hl.1 (c_X6_isPlace l G hG a2 _ _ hw) gk_X6_68 rfl hd_X6_isPlace ⟨rfl, rfl⟩ ⟨Nat.le_of_ble_eq_true rfl, Nat.le_of_ble_eq_true rfl⟩ rfl (Nat.le_of_ble_eq_true rfl) dX6_far_8 ⟨Nat.zero_le _, Nat.zero_le _⟩) (fun r8 μ8 H locs hw h => ?_)
    refine lv_if_ne (tgt := 20) hx hb dX6_far_11 (by decide) (fun hc => ?_) (fun hc => ?_)
    · rw [if_neg hc] at hw
      refine lv_aload_n hx hb dX6_far_20 rfl (lv_at hl 0 rfl) ?_
      refine r_getR (q := 1) X h (X6_o h0) rfl uX6 0 (by decide) lf_1_225 rfl dX6_far_21 ?_
      refine r_getR (q := 2) X h (X5_o (X6_now h0)) rfl uX5 0 (by decide) fn_15 rfl dX6_far_24 ?_
      refine lv_iload_n hx hb dX6_far_27 rfl (lv_at hl 1 rfl) ?_
      refine lv_iload_n hx hb dX6_far_28 rfl (lv_at hl 2 rfl) ?_
      refine k_i h (n_V (rest := []) (As := [.int a1, .int a2]) X h hl.1 (c_X3_leads l G hG 2 a1 a2 (X5_roads (X6_now h0)) _ _ hw) gk_X6_99 rfl hd_X3_leads ⟨rfl, rfl⟩ ⟨Nat.le_of_ble_eq_true rfl, Nat.le_of_ble_eq_true rfl⟩ (X3_o (X5_roads (X6_now h0))) rfl rfl (Nat.le_of_ble_eq_true rfl) dX6_far_29 ⟨Nat.zero_le _, Nat.zero_le _⟩) (fun r29 μ29 H locs hw h => ?_)
      refine lv_if_ne (tgt := 41) hx hb dX6_far_32 (by decide) (fun hc => ?_) (fun hc => ?_)
      · rw [if_neg hc] at hw
        refine lv_aload_n hx hb dX6_far_41 rfl (lv_at hl 0 rfl) ?_
        refine r_getR (q := 1) X h (X6_o h0) rfl uX6 0 (by decide) lf_1_225 rfl dX6_far_42 ?_
        refine r_getR (q := 2) X h (X5_o (X6_now h0)) rfl uX5 0 (by decide) fn_15 rfl dX6_far_45 ?_
        refine lv_iload_n hx hb dX6_far_48 rfl (lv_at hl 1 rfl) ?_
        refine lv_iload_n hx hb dX6_far_49 rfl (lv_at hl 2 rfl) ?_
        refine k_i h (n_V (rest := []) (As := [.int a1, .int a2]) X h hl.1 (c_X3_between l G hG 2 a1 a2 (X5_roads (X6_now h0)) _ _ hw) gk_X6_102 rfl hd_X3_between ⟨rfl, rfl⟩ ⟨Nat.le_of_ble_eq_true rfl, Nat.le_of_ble_eq_true rfl⟩ (X3_o (X5_roads (X6_now h0))) rfl rfl (Nat.le_of_ble_eq_true rfl) dX6_far_50 ⟨Nat.zero_le _, Nat.zero_le _⟩) (fun r50 μ50 H locs hw h => ?_)
        exact r_iret X h hw dX6_far_53
      · rw [if_pos hc] at hw
        refine lv_aload_n hx hb dX6_far_35 rfl (lv_at hl 0 rfl) ?_
        refine lv_iconst (v := (2 : Int32)) hx hb dX6_far_36 (by decide) ?_
        refine k_i h (n_V (rest := []) (As := [.int (2 : Int32)]) X h hl.1 (c_X6_error l G hG (2 : Int32) h0 _ _ hw) gk_X6_72 rfl hd_X6_error ⟨rfl, rfl⟩ ⟨Nat.le_of_ble_eq_true rfl, Nat.le_of_ble_eq_true rfl⟩ (X6_o h0) rfl rfl (Nat.le_of_ble_eq_true rfl) dX6_far_37 ⟨Nat.zero_le _, Nat.zero_le _⟩) (fun r37 μ37 H locs hw h => ?_)
        exact r_iret X h hw dX6_far_40
    · rw [if_pos hc] at hw
      refine lv_aload_n hx hb dX6_far_14 rfl (lv_at hl 0 rfl) ?_
      refine lv_iconst (v := (1 : Int32)) hx hb dX6_far_15 (by decide) ?_
      refine k_i h (n_V (rest := []) (As := [.int (1 : Int32)]) X h hl.1 (c_X6_error l G hG (1 : Int32) h0 _ _ hw) gk_X6_72 rfl hd_X6_error ⟨rfl, rfl⟩ ⟨Nat.le_of_ble_eq_true rfl, Nat.le_of_ble_eq_true rfl⟩ (X6_o h0) rfl rfl (Nat.le_of_ble_eq_true rfl) dX6_far_16 ⟨Nat.zero_le _, Nat.zero_le _⟩) (fun r16 μ16 H locs hw h => ?_)
      exact r_iret X h hw dX6_far_19
def wp_X6_isKindAndM_14 (a0 : Int32) (Q : Int32 → vM → Prop)  (μ : vM) : Prop := Q (0 : Int32) μ
def wp_X6_isKindAndM (a0 : Int32) (Q : Int32 → vM → Prop) (μ : vM) : Prop := if a0 < 0 then wp_X6_isKindAndM_14 a0 Q μ else if (70 : Int32) ≤ a0 then wp_X6_isKindAndM_14 a0 Q μ else Q (1 : Int32) μ
set_option maxRecDepth 100000 in
set_option maxHeartbeats 4000000 in
theorem c_X6_isKindAndM (l : Launch) (G : vG) (hG : gO G) (a0 : Int32)  (Q : Int32 → vM → Prop) (μ : vM) (hw : wp_X6_isKindAndM a0 Q μ) : mt l G yX6_isKindAndM vX6_isKindAndM { frames := 0, cells := 0, slots := 0, locals := 0 } [.int a0] μ (qI G Q) := by
  refine met_of (cc := cX6_isKindAndM) (maxL := 1) (ret := (some .boolean)) RX6 (by decide) rfl rfl hG (Nat.le_of_ble_eq_true rfl) ?_
  intro p e s m below meth c X h ls hl
  have hl : lv_has ls 1 [(0, .int a0)] := hl
  have hx := X.1
  have hb := X.2.1
  unfold wp_X6_isKindAndM at hw
  refine lv_iload_n hx hb dX6_isKindAndM_0 rfl (lv_at hl 0 rfl) ?_
  have s14 : ∀  (μ : vM), ∀ (H : Heap) (locs : List Loc) (ls : Array Slot), bw G s μ H locs → lv_has ls 1 [] → wp_X6_isKindAndM_14 a0 Q μ → W p l e ({ frames := 0, cells := 0, slots := 0, locals := 0 } : Room) s m ([.int a0] : List Value).toArray below meth c H locs 0 0 (MQ below (qI G Q) ([.int a0] : List Value).toArray s 0 0 (gA G)) (F0 m 14 ls []) := by
    intro  μ H locs ls h hl hw
    unfold wp_X6_isKindAndM_14 at hw
    refine lv_iconst (v := (0 : Int32)) hx hb dX6_isKindAndM_14 (by decide) ?_
    exact r_zret X h (Or.inl rfl) hw dX6_isKindAndM_15
  refine lv_if_lt (tgt := 14) hx hb dX6_isKindAndM_1 (by decide) (fun hc => ?_) (fun hc => ?_)
  · rw [if_pos hc] at hw
    exact s14 μ _ _ _ h (lv_sub hl [] rfl) hw
  · rw [if_neg hc] at hw
    refine lv_iload_n hx hb dX6_isKindAndM_4 rfl (lv_at hl 0 rfl) ?_
    refine lv_bipush (v := (70 : Int32)) hx hb dX6_isKindAndM_5 (by decide) ?_
    refine lv_icmp_ge (tgt := 14) hx hb dX6_isKindAndM_7 (by decide) (fun hc => ?_) (fun hc => ?_)
    · rw [if_pos hc] at hw
      exact s14 μ _ _ _ h (lv_sub hl [] rfl) hw
    · rw [if_neg hc] at hw
      refine lv_iconst (v := (1 : Int32)) hx hb dX6_isKindAndM_10 (by decide) ?_
      refine lv_goto (tgt := 15) hx hb dX6_isKindAndM_11 (by decide) ?_
      exact r_zret X h (Or.inr rfl) hw dX6_isKindAndM_15
def wp_X6_bit (a1 : Int32) (a2 : Int32) (a3 : Int32) (Q : Int32 → vM → Prop) (μ : vM) : Prop := wp_X6_isKindAndM a1 (fun r1 μ1 => if r1 = 0 then wp_X6_error (1 : Int32) (fun r23 μ23 => Q r23 μ23) μ1 else wp_X6_isField a2 (fun r8 μ8 => if r8 = 0 then wp_X6_error (1 : Int32) (fun r23 μ23 => Q r23 μ23) μ8 else wp_X6_isPlace a3 (fun r15 μ15 => if r15 = 0 then wp_X6_error (1 : Int32) (fun r23 μ23 => Q r23 μ23) μ15 else if (μ15 5 0) < (8 : Int32) then wp_X0_grow 5 a1 a2 a3 (fun r58 μ58 => Q r58 μ58) μ15 else wp_X6_error (4 : Int32) (fun r44 μ44 => Q r44 μ44) μ15) μ8) μ1) μ
set_option maxRecDepth 100000 in
set_option maxHeartbeats 4000000 in
theorem c_X6_bit (l : Launch) (G : vG) (hG : gO G) (a1 : Int32) (a2 : Int32) (a3 : Int32) (h0 : isX6 G) (Q : Int32 → vM → Prop) (μ : vM) (hw : wp_X6_bit a1 a2 a3 Q μ) : mt l G yX6_bit vX6_bit { frames := 1, cells := 0, slots := 0, locals := 24 } [.ref (ga G 0), .int a1, .int a2, .int a3] μ (qI G Q) := by
  refine met_of (cc := cX6_bit) (maxL := 4) (ret := (some .int)) RX6 (by decide) rfl rfl hG (Nat.le_of_ble_eq_true rfl) ?_
  intro p e s m below meth c X h ls hl
  have hl : lv_has ls 4 [(0, .ref (ga G 0)), (1, .int a1), (2, .int a2), (3, .int a3)] := hl
  have hx := X.1
  have hb := X.2.1
  unfold wp_X6_bit at hw
  refine lv_iload_n hx hb dX6_bit_0 rfl (lv_at hl 1 rfl) ?_
  refine k_i h (n_T (rest := []) (As := [.int a1]) X h hl.1 (c_X6_isKindAndM l G hG a1 _ _ hw) gk_X6_106 rfl hd_X6_isKindAndM ⟨rfl, rfl⟩ ⟨Nat.le_of_ble_eq_true rfl, Nat.le_of_ble_eq_true rfl⟩ rfl (Nat.le_of_ble_eq_true rfl) dX6_bit_1 ⟨Nat.zero_le _, Nat.zero_le _⟩) (fun r1 μ1 H locs hw h => ?_)
  refine lv_if_eq (tgt := 21) hx hb dX6_bit_4 (by decide) (fun hc => ?_) (fun hc => ?_)
  · rw [if_pos hc] at hw
    refine lv_aload_n hx hb dX6_bit_21 rfl (lv_at hl 0 rfl) ?_
    refine lv_iconst (v := (1 : Int32)) hx hb dX6_bit_22 (by decide) ?_
    refine k_i h (n_V (rest := []) (As := [.int (1 : Int32)]) X h hl.1 (c_X6_error l G hG (1 : Int32) h0 _ _ hw) gk_X6_72 rfl hd_X6_error ⟨rfl, rfl⟩ ⟨Nat.le_of_ble_eq_true rfl, Nat.le_of_ble_eq_true rfl⟩ (X6_o h0) rfl rfl (Nat.le_of_ble_eq_true rfl) dX6_bit_23 ⟨Nat.zero_le _, Nat.zero_le _⟩) (fun r23 μ23 H locs hw h => ?_)
    exact r_iret X h hw dX6_bit_26
  · rw [if_neg hc] at hw
    refine lv_iload_n hx hb dX6_bit_7 rfl (lv_at hl 2 rfl) ?_
    refine k_i h (n_T (rest := []) (As := [.int a2]) X h hl.1 (c_X6_isField l G hG a2 _ _ hw) gk_X6_90 rfl hd_X6_isField ⟨rfl, rfl⟩ ⟨Nat.le_of_ble_eq_true rfl, Nat.le_of_ble_eq_true rfl⟩ rfl (Nat.le_of_ble_eq_true rfl) dX6_bit_8 ⟨Nat.zero_le _, Nat.zero_le _⟩) (fun r8 μ8 H locs hw h => ?_)
    refine lv_if_eq (tgt := 21) hx hb dX6_bit_11 (by decide) (fun hc => ?_) (fun hc => ?_)
    · rw [if_pos hc] at hw
      refine lv_aload_n hx hb dX6_bit_21 rfl (lv_at hl 0 rfl) ?_
      refine lv_iconst (v := (1 : Int32)) hx hb dX6_bit_22 (by decide) ?_
      refine k_i h (n_V (rest := []) (As := [.int (1 : Int32)]) X h hl.1 (c_X6_error l G hG (1 : Int32) h0 _ _ hw) gk_X6_72 rfl hd_X6_error ⟨rfl, rfl⟩ ⟨Nat.le_of_ble_eq_true rfl, Nat.le_of_ble_eq_true rfl⟩ (X6_o h0) rfl rfl (Nat.le_of_ble_eq_true rfl) dX6_bit_23 ⟨Nat.zero_le _, Nat.zero_le _⟩) (fun r23 μ23 H locs hw h => ?_)
      exact r_iret X h hw dX6_bit_26
    · rw [if_neg hc] at hw
      refine lv_iload_n hx hb dX6_bit_14 rfl (lv_at hl 3 rfl) ?_
      refine k_i h (n_T (rest := []) (As := [.int a3]) X h hl.1 (c_X6_isPlace l G hG a3 _ _ hw) gk_X6_68 rfl hd_X6_isPlace ⟨rfl, rfl⟩ ⟨Nat.le_of_ble_eq_true rfl, Nat.le_of_ble_eq_true rfl⟩ rfl (Nat.le_of_ble_eq_true rfl) dX6_bit_15 ⟨Nat.zero_le _, Nat.zero_le _⟩) (fun r15 μ15 H locs hw h => ?_)
      refine lv_if_ne (tgt := 27) hx hb dX6_bit_18 (by decide) (fun hc => ?_) (fun hc => ?_)
      · rw [if_neg hc] at hw
        refine lv_aload_n hx hb dX6_bit_27 rfl (lv_at hl 0 rfl) ?_
        refine r_getR (q := 1) X h (X6_o h0) rfl uX6 0 (by decide) lf_1_225 rfl dX6_bit_28 ?_
        refine r_getR (q := 5) X h (X5_o (X6_now h0)) rfl uX5 1 (by decide) fn_16 rfl dX6_bit_31 ?_
        refine r_getI X h (X0_o (X5_harvest (X6_now h0))) rfl uX0 0 (by decide) fn_1 rfl dX6_bit_34 ?_
        refine lv_bipush (v := (8 : Int32)) hx hb dX6_bit_37 (by decide) ?_
        refine lv_icmp_lt (tgt := 48) hx hb dX6_bit_39 (by decide) (fun hc => ?_) (fun hc => ?_)
        · rw [if_pos hc] at hw
          refine lv_aload_n hx hb dX6_bit_48 rfl (lv_at hl 0 rfl) ?_
          refine r_getR (q := 1) X h (X6_o h0) rfl uX6 0 (by decide) lf_1_225 rfl dX6_bit_49 ?_
          refine r_getR (q := 5) X h (X5_o (X6_now h0)) rfl uX5 1 (by decide) fn_16 rfl dX6_bit_52 ?_
          refine lv_iload_n hx hb dX6_bit_55 rfl (lv_at hl 1 rfl) ?_
          refine lv_iload_n hx hb dX6_bit_56 rfl (lv_at hl 2 rfl) ?_
          refine lv_iload_n hx hb dX6_bit_57 rfl (lv_at hl 3 rfl) ?_
          refine k_i h (n_V (rest := []) (As := [.int a1, .int a2, .int a3]) X h hl.1 (c_X0_grow l G hG 5 a1 a2 a3 (X5_harvest (X6_now h0)) _ _ hw) gk_X6_112 rfl hd_X0_grow ⟨rfl, rfl⟩ ⟨Nat.le_of_ble_eq_true rfl, Nat.le_of_ble_eq_true rfl⟩ (X0_o (X5_harvest (X6_now h0))) rfl rfl (Nat.le_of_ble_eq_true rfl) dX6_bit_58 ⟨Nat.zero_le _, Nat.zero_le _⟩) (fun r58 μ58 H locs hw h => ?_)
          exact r_iret X h hw dX6_bit_61
        · rw [if_neg hc] at hw
          refine lv_aload_n hx hb dX6_bit_42 rfl (lv_at hl 0 rfl) ?_
          refine lv_iconst (v := (4 : Int32)) hx hb dX6_bit_43 (by decide) ?_
          refine k_i h (n_V (rest := []) (As := [.int (4 : Int32)]) X h hl.1 (c_X6_error l G hG (4 : Int32) h0 _ _ hw) gk_X6_72 rfl hd_X6_error ⟨rfl, rfl⟩ ⟨Nat.le_of_ble_eq_true rfl, Nat.le_of_ble_eq_true rfl⟩ (X6_o h0) rfl rfl (Nat.le_of_ble_eq_true rfl) dX6_bit_44 ⟨Nat.zero_le _, Nat.zero_le _⟩) (fun r44 μ44 H locs hw h => ?_)
          exact r_iret X h hw dX6_bit_47
      · rw [if_pos hc] at hw
        refine lv_aload_n hx hb dX6_bit_21 rfl (lv_at hl 0 rfl) ?_
        refine lv_iconst (v := (1 : Int32)) hx hb dX6_bit_22 (by decide) ?_
        refine k_i h (n_V (rest := []) (As := [.int (1 : Int32)]) X h hl.1 (c_X6_error l G hG (1 : Int32) h0 _ _ hw) gk_X6_72 rfl hd_X6_error ⟨rfl, rfl⟩ ⟨Nat.le_of_ble_eq_true rfl, Nat.le_of_ble_eq_true rfl⟩ (X6_o h0) rfl rfl (Nat.le_of_ble_eq_true rfl) dX6_bit_23 ⟨Nat.zero_le _, Nat.zero_le _⟩) (fun r23 μ23 H locs hw h => ?_)
        exact r_iret X h hw dX6_bit_26
def wp_X6_isBit_22 (a1 : Int32) (Q : Int32 → vM → Prop)  (μ : vM) : Prop := Q (0 : Int32) μ
def wp_X6_isBit (a1 : Int32) (Q : Int32 → vM → Prop) (μ : vM) : Prop := if a1 < 0 then wp_X6_isBit_22 a1 Q μ else if (μ 5 0) ≤ a1 then wp_X6_isBit_22 a1 Q μ else Q (1 : Int32) μ
set_option maxRecDepth 100000 in
set_option maxHeartbeats 4000000 in
theorem c_X6_isBit (l : Launch) (G : vG) (hG : gO G) (a1 : Int32) (h0 : isX6 G) (Q : Int32 → vM → Prop) (μ : vM) (hw : wp_X6_isBit a1 Q μ) : mt l G yX6_isBit vX6_isBit { frames := 0, cells := 0, slots := 0, locals := 0 } [.ref (ga G 0), .int a1] μ (qI G Q) := by
  refine met_of (cc := cX6_isBit) (maxL := 2) (ret := (some .boolean)) RX6 (by decide) rfl rfl hG (Nat.le_of_ble_eq_true rfl) ?_
  intro p e s m below meth c X h ls hl
  have hl : lv_has ls 2 [(0, .ref (ga G 0)), (1, .int a1)] := hl
  have hx := X.1
  have hb := X.2.1
  unfold wp_X6_isBit at hw
  refine lv_iload_n hx hb dX6_isBit_0 rfl (lv_at hl 1 rfl) ?_
  have s22 : ∀  (μ : vM), ∀ (H : Heap) (locs : List Loc) (ls : Array Slot), bw G s μ H locs → lv_has ls 2 [] → wp_X6_isBit_22 a1 Q μ → W p l e ({ frames := 0, cells := 0, slots := 0, locals := 0 } : Room) s m ([.ref (ga G 0), .int a1] : List Value).toArray below meth c H locs 0 0 (MQ below (qI G Q) ([.ref (ga G 0), .int a1] : List Value).toArray s 0 0 (gA G)) (F0 m 22 ls []) := by
    intro  μ H locs ls h hl hw
    unfold wp_X6_isBit_22 at hw
    refine lv_iconst (v := (0 : Int32)) hx hb dX6_isBit_22 (by decide) ?_
    exact r_zret X h (Or.inl rfl) hw dX6_isBit_23
  refine lv_if_lt (tgt := 22) hx hb dX6_isBit_1 (by decide) (fun hc => ?_) (fun hc => ?_)
  · rw [if_pos hc] at hw
    exact s22 μ _ _ _ h (lv_sub hl [] rfl) hw
  · rw [if_neg hc] at hw
    refine lv_iload_n hx hb dX6_isBit_4 rfl (lv_at hl 1 rfl) ?_
    refine lv_aload_n hx hb dX6_isBit_5 rfl (lv_at hl 0 rfl) ?_
    refine r_getR (q := 1) X h (X6_o h0) rfl uX6 0 (by decide) lf_1_225 rfl dX6_isBit_6 ?_
    refine r_getR (q := 5) X h (X5_o (X6_now h0)) rfl uX5 1 (by decide) fn_16 rfl dX6_isBit_9 ?_
    refine r_getI X h (X0_o (X5_harvest (X6_now h0))) rfl uX0 0 (by decide) fn_1 rfl dX6_isBit_12 ?_
    refine lv_icmp_ge (tgt := 22) hx hb dX6_isBit_15 (by decide) (fun hc => ?_) (fun hc => ?_)
    · rw [if_pos hc] at hw
      exact s22 μ _ _ _ h (lv_sub hl [] rfl) hw
    · rw [if_neg hc] at hw
      refine lv_iconst (v := (1 : Int32)) hx hb dX6_isBit_18 (by decide) ?_
      refine lv_goto (tgt := 23) hx hb dX6_isBit_19 (by decide) ?_
      exact r_zret X h (Or.inr rfl) hw dX6_isBit_23
def wp_X6_stepsOf_38 (p1 : Nat) (p2 : Nat) (a3 : Int32) (Q : Int32 → vM → Prop) (t0 : Int32) (μ : vM) : Prop := wp_X0_walks p1 a3 (fun r49 μ49 => wp_X1_gives 12 r49 ((μ49 p1 1) % (7 : Int32)) t0 (fun r61 μ61 => Q r61 μ61) μ49) μ
def wp_X6_stepsOf (p1 : Nat) (p2 : Nat) (a3 : Int32) (Q : Int32 → vM → Prop) (μ : vM) : Prop := wp_X0_goal p1 a3 (fun r2 μ2 => vp_in a3 8 ∧ wp_X3_leads p2 (μ2 (p1 + 4) a3.toNatClampNeg) r2 (fun r16 μ16 => if r16 = 0 then wp_X6_stepsOf_38 p1 p2 a3 Q (0 : Int32) μ16 else vp_in a3 8 ∧ wp_X3_between p2 (μ16 (p1 + 4) a3.toNatClampNeg) r2 (fun r31 μ31 => wp_X6_stepsOf_38 p1 p2 a3 Q r31 μ31) μ16) μ2) μ
set_option maxRecDepth 100000 in
set_option maxHeartbeats 4000000 in
theorem c_X6_stepsOf (l : Launch) (G : vG) (hG : gO G) (p1 : Nat) (p2 : Nat) (a3 : Int32) (h0 : isX6 G) (h1 : isX0 G p1) (h2 : isX3 G p2) (Q : Int32 → vM → Prop) (μ : vM) (hw : wp_X6_stepsOf p1 p2 a3 Q μ) : mt l G yX6_stepsOf vX6_stepsOf { frames := 3, cells := 0, slots := 0, locals := 72 } [.ref (ga G 0), .ref (ga G p1), .ref (ga G p2), .int a3] μ (qI G Q) := by
  refine met_of (cc := cX6_stepsOf) (maxL := 6) (ret := (some .int)) RX6 (by decide) rfl rfl hG (Nat.le_of_ble_eq_true rfl) ?_
  intro p e s m below meth c X h ls hl
  have hl : lv_has ls 6 [(0, .ref (ga G 0)), (1, .ref (ga G p1)), (2, .ref (ga G p2)), (3, .int a3)] := hl
  have hx := X.1
  have hb := X.2.1
  unfold wp_X6_stepsOf at hw
  refine lv_aload_n hx hb dX6_stepsOf_0 rfl (lv_at hl 1 rfl) ?_
  refine lv_iload_n hx hb dX6_stepsOf_1 rfl (lv_at hl 3 rfl) ?_
  refine k_i h (n_V (rest := []) (As := [.int a3]) X h hl.1 (c_X0_goal l G hG p1 a3 h1 _ _ hw) gk_X6_300 rfl hd_X0_goal ⟨rfl, rfl⟩ ⟨Nat.le_of_ble_eq_true rfl, Nat.le_of_ble_eq_true rfl⟩ (X0_o h1) rfl rfl (Nat.le_of_ble_eq_true rfl) dX6_stepsOf_2 ⟨Nat.zero_le _, Nat.zero_le _⟩) (fun r2 μ2 H locs hw h => ?_)
  refine lv_istore (lv' := [(4, .int r2), (0, .ref (ga G 0)), (1, .ref (ga G p1)), (2, .ref (ga G p2)), (3, .int a3)]) hx hb dX6_stepsOf_5 hl (by decide) rfl (fun ls hl => ?_)
  refine lv_aload_n hx hb dX6_stepsOf_7 rfl (lv_at hl 3 rfl) ?_
  refine lv_aload_n hx hb dX6_stepsOf_8 rfl (lv_at hl 2 rfl) ?_
  refine r_getR (q := (p1 + 4)) X h (X0_o h1) rfl uX0 5 (by decide) fn_7 rfl dX6_stepsOf_9 ?_
  refine lv_iload_n hx hb dX6_stepsOf_12 rfl (lv_at hl 4 rfl) ?_
  obtain ⟨hi, hw⟩ := hw
  refine r_ald X h (X0_at h1) hi dX6_stepsOf_13 ?_
  refine lv_iload hx hb dX6_stepsOf_14 (lv_at hl 0 rfl) ?_
  refine k_i h (n_V (rest := []) (As := [.int (μ2 (p1 + 4) a3.toNatClampNeg), .int r2]) X h hl.1 (c_X3_leads l G hG p2 (μ2 (p1 + 4) a3.toNatClampNeg) r2 h2 _ _ hw) gk_X6_99 rfl hd_X3_leads ⟨rfl, rfl⟩ ⟨Nat.le_of_ble_eq_true rfl, Nat.le_of_ble_eq_true rfl⟩ (X3_o h2) rfl rfl (Nat.le_of_ble_eq_true rfl) dX6_stepsOf_16 ⟨Nat.zero_le _, Nat.zero_le _⟩) (fun r16 μ16 H locs hw h => ?_)
  have s38 : ∀ (t0 : Int32) (μ : vM), ∀ (H : Heap) (locs : List Loc) (ls : Array Slot), bw G s μ H locs → lv_has ls 6 [(0, .ref (ga G 0)), (1, .ref (ga G p1)), (3, .int a3)] → wp_X6_stepsOf_38 p1 p2 a3 Q t0 μ → W p l e ({ frames := 3, cells := 0, slots := 0, locals := 72 } : Room) s m ([.ref (ga G 0), .ref (ga G p1), .ref (ga G p2), .int a3] : List Value).toArray below meth c H locs 0 0 (MQ below (qI G Q) ([.ref (ga G 0), .ref (ga G p1), .ref (ga G p2), .int a3] : List Value).toArray s 0 0 (gA G)) (F0 m 38 ls [.int t0]) := by
    intro t0 μ H locs ls h hl hw
    unfold wp_X6_stepsOf_38 at hw
    refine lv_istore (lv' := [(5, .int t0), (0, .ref (ga G 0)), (1, .ref (ga G p1)), (3, .int a3)]) hx hb dX6_stepsOf_38 hl (by decide) rfl (fun ls hl => ?_)
    refine lv_aload_n hx hb dX6_stepsOf_40 rfl (lv_at hl 1 rfl) ?_
    refine r_getR (q := 1) X h (X6_o h0) rfl uX6 0 (by decide) lf_1_225 rfl dX6_stepsOf_41 ?_
    refine r_getR (q := 12) X h (X5_o (X6_now h0)) rfl uX5 2 (by decide) fn_17 rfl dX6_stepsOf_44 ?_
    refine lv_aload_n hx hb dX6_stepsOf_47 rfl (lv_at hl 2 rfl) ?_
    refine lv_iload_n hx hb dX6_stepsOf_48 rfl (lv_at hl 3 rfl) ?_
    refine k_i h (n_V (rest := [.ref (ga G 12)]) (As := [.int a3]) X h hl.1 (c_X0_walks l G hG p1 a3 h1 _ _ hw) gk_X6_303 rfl hd_X0_walks ⟨rfl, rfl⟩ ⟨Nat.le_of_ble_eq_true rfl, Nat.le_of_ble_eq_true rfl⟩ (X0_o h1) rfl rfl (Nat.le_of_ble_eq_true rfl) dX6_stepsOf_49 ⟨Nat.zero_le _, Nat.zero_le _⟩) (fun r49 μ49 H locs hw h => ?_)
    refine lv_aload_n hx hb dX6_stepsOf_52 rfl (lv_at hl 2 rfl) ?_
    refine r_getI X h (X0_o h1) rfl uX0 1 (by decide) fn_2 rfl dX6_stepsOf_53 ?_
    refine lv_bipush (v := (7 : Int32)) hx hb dX6_stepsOf_56 (by decide) ?_
    refine r_irem hx hb dX6_stepsOf_58 (by decide) ?_
    refine lv_iload hx hb dX6_stepsOf_59 (lv_at hl 0 rfl) ?_
    refine k_i h (n_V (rest := []) (As := [.int r49, .int ((μ49 p1 1) % (7 : Int32)), .int t0]) X h hl.1 (c_X1_gives l G hG 12 r49 ((μ49 p1 1) % (7 : Int32)) t0 (X5_steps (X6_now h0)) _ _ hw) gk_X6_184 rfl hd_X1_gives ⟨rfl, rfl⟩ ⟨Nat.le_of_ble_eq_true rfl, Nat.le_of_ble_eq_true rfl⟩ (X1_o (X5_steps (X6_now h0))) rfl rfl (Nat.le_of_ble_eq_true rfl) dX6_stepsOf_61 ⟨Nat.zero_le _, Nat.zero_le _⟩) (fun r61 μ61 H locs hw h => ?_)
    exact r_iret X h hw dX6_stepsOf_64
  refine lv_if_eq (tgt := 37) hx hb dX6_stepsOf_19 (by decide) (fun hc => ?_) (fun hc => ?_)
  · rw [if_pos hc] at hw
    refine lv_iconst (v := (0 : Int32)) hx hb dX6_stepsOf_37 (by decide) ?_
    exact s38 (0 : Int32) μ16 _ _ _ h (lv_sub hl [1, 2, 4] rfl) hw
  · rw [if_neg hc] at hw
    refine lv_aload_n hx hb dX6_stepsOf_22 rfl (lv_at hl 3 rfl) ?_
    refine lv_aload_n hx hb dX6_stepsOf_23 rfl (lv_at hl 2 rfl) ?_
    refine r_getR (q := (p1 + 4)) X h (X0_o h1) rfl uX0 5 (by decide) fn_7 rfl dX6_stepsOf_24 ?_
    refine lv_iload_n hx hb dX6_stepsOf_27 rfl (lv_at hl 4 rfl) ?_
    obtain ⟨hi, hw⟩ := hw
    refine r_ald X h (X0_at h1) hi dX6_stepsOf_28 ?_
    refine lv_iload hx hb dX6_stepsOf_29 (lv_at hl 0 rfl) ?_
    refine k_i h (n_V (rest := []) (As := [.int (μ16 (p1 + 4) a3.toNatClampNeg), .int r2]) X h hl.1 (c_X3_between l G hG p2 (μ16 (p1 + 4) a3.toNatClampNeg) r2 h2 _ _ hw) gk_X6_102 rfl hd_X3_between ⟨rfl, rfl⟩ ⟨Nat.le_of_ble_eq_true rfl, Nat.le_of_ble_eq_true rfl⟩ (X3_o h2) rfl rfl (Nat.le_of_ble_eq_true rfl) dX6_stepsOf_31 ⟨Nat.zero_le _, Nat.zero_le _⟩) (fun r31 μ31 H locs hw h => ?_)
    refine lv_goto (tgt := 38) hx hb dX6_stepsOf_34 (by decide) ?_
    exact s38 r31 μ31 _ _ _ h (lv_sub hl [1, 2, 4] rfl) hw
def wp_X6_worthOf (p1 : Nat) (a2 : Int32) (Q : Int32 → vM → Prop) (μ : vM) : Prop := wp_X0_weighs p1 a2 (fun r9 μ9 => vp_in a2 8 ∧ wp_X1_gives 15 r9 (μ9 (p1 + 5) a2.toNatClampNeg) ((μ9 p1 1) % (10 : Int32)) (fun r25 μ25 => Q r25 μ25) μ9) μ
set_option maxRecDepth 100000 in
set_option maxHeartbeats 4000000 in
theorem c_X6_worthOf (l : Launch) (G : vG) (hG : gO G) (p1 : Nat) (a2 : Int32) (h0 : isX6 G) (h1 : isX0 G p1) (Q : Int32 → vM → Prop) (μ : vM) (hw : wp_X6_worthOf p1 a2 Q μ) : mt l G yX6_worthOf vX6_worthOf { frames := 3, cells := 0, slots := 0, locals := 72 } [.ref (ga G 0), .ref (ga G p1), .int a2] μ (qI G Q) := by
  refine met_of (cc := cX6_worthOf) (maxL := 3) (ret := (some .int)) RX6 (by decide) rfl rfl hG (Nat.le_of_ble_eq_true rfl) ?_
  intro p e s m below meth c X h ls hl
  have hl : lv_has ls 3 [(0, .ref (ga G 0)), (1, .ref (ga G p1)), (2, .int a2)] := hl
  have hx := X.1
  have hb := X.2.1
  unfold wp_X6_worthOf at hw
  refine lv_aload_n hx hb dX6_worthOf_0 rfl (lv_at hl 0 rfl) ?_
  refine r_getR (q := 1) X h (X6_o h0) rfl uX6 0 (by decide) lf_1_225 rfl dX6_worthOf_1 ?_
  refine r_getR (q := 15) X h (X5_o (X6_now h0)) rfl uX5 3 (by decide) fn_18 rfl dX6_worthOf_4 ?_
  refine lv_aload_n hx hb dX6_worthOf_7 rfl (lv_at hl 1 rfl) ?_
  refine lv_iload_n hx hb dX6_worthOf_8 rfl (lv_at hl 2 rfl) ?_
  refine k_i h (n_V (rest := [.ref (ga G 15)]) (As := [.int a2]) X h hl.1 (c_X0_weighs l G hG p1 a2 h1 _ _ hw) gk_X6_306 rfl hd_X0_weighs ⟨rfl, rfl⟩ ⟨Nat.le_of_ble_eq_true rfl, Nat.le_of_ble_eq_true rfl⟩ (X0_o h1) rfl rfl (Nat.le_of_ble_eq_true rfl) dX6_worthOf_9 ⟨Nat.zero_le _, Nat.zero_le _⟩) (fun r9 μ9 H locs hw h => ?_)
  refine lv_aload_n hx hb dX6_worthOf_12 rfl (lv_at hl 1 rfl) ?_
  refine r_getR (q := (p1 + 5)) X h (X0_o h1) rfl uX0 6 (by decide) fn_9 rfl dX6_worthOf_13 ?_
  refine lv_iload_n hx hb dX6_worthOf_16 rfl (lv_at hl 2 rfl) ?_
  obtain ⟨hi, hw⟩ := hw
  refine r_ald X h (X0_heard h1) hi dX6_worthOf_17 ?_
  refine lv_aload_n hx hb dX6_worthOf_18 rfl (lv_at hl 1 rfl) ?_
  refine r_getI X h (X0_o h1) rfl uX0 1 (by decide) fn_2 rfl dX6_worthOf_19 ?_
  refine lv_bipush (v := (10 : Int32)) hx hb dX6_worthOf_22 (by decide) ?_
  refine r_irem hx hb dX6_worthOf_24 (by decide) ?_
  refine k_i h (n_V (rest := []) (As := [.int r9, .int (μ9 (p1 + 5) a2.toNatClampNeg), .int ((μ9 p1 1) % (10 : Int32))]) X h hl.1 (c_X1_gives l G hG 15 r9 (μ9 (p1 + 5) a2.toNatClampNeg) ((μ9 p1 1) % (10 : Int32)) (X5_worth (X6_now h0)) _ _ hw) gk_X6_184 rfl hd_X1_gives ⟨rfl, rfl⟩ ⟨Nat.le_of_ble_eq_true rfl, Nat.le_of_ble_eq_true rfl⟩ (X1_o (X5_worth (X6_now h0))) rfl rfl (Nat.le_of_ble_eq_true rfl) dX6_worthOf_25 ⟨Nat.zero_le _, Nat.zero_le _⟩) (fun r25 μ25 H locs hw h => ?_)
  exact r_iret X h hw dX6_worthOf_28
def wp_X6_warmthOf (p0 : Nat) (p1 : Nat) (a2 : Int32) (Q : Int32 → vM → Prop) (μ : vM) : Prop := wp_X0_goal p0 a2 (fun r2 μ2 => vp_in a2 8 ∧ wp_X3_leads p1 (μ2 (p0 + 4) a2.toNatClampNeg) r2 (fun r14 μ14 => if r14 = 0 then Q (0 : Int32) μ14 else vp_in a2 8 ∧ wp_X3_between p1 (μ14 (p0 + 4) a2.toNatClampNeg) r2 (fun r30 μ30 => Q ((9 : Int32) - r30) μ30) μ14) μ2) μ
set_option maxRecDepth 100000 in
set_option maxHeartbeats 4000000 in
theorem c_X6_warmthOf (l : Launch) (G : vG) (hG : gO G) (p0 : Nat) (p1 : Nat) (a2 : Int32) (h0 : isX0 G p0) (h1 : isX3 G p1) (Q : Int32 → vM → Prop) (μ : vM) (hw : wp_X6_warmthOf p0 p1 a2 Q μ) : mt l G yX6_warmthOf vX6_warmthOf { frames := 1, cells := 0, slots := 0, locals := 22 } [.ref (ga G p0), .ref (ga G p1), .int a2] μ (qI G Q) := by
  refine met_of (cc := cX6_warmthOf) (maxL := 4) (ret := (some .int)) RX6 (by decide) rfl rfl hG (Nat.le_of_ble_eq_true rfl) ?_
  intro p e s m below meth c X h ls hl
  have hl : lv_has ls 4 [(0, .ref (ga G p0)), (1, .ref (ga G p1)), (2, .int a2)] := hl
  have hx := X.1
  have hb := X.2.1
  unfold wp_X6_warmthOf at hw
  refine lv_aload_n hx hb dX6_warmthOf_0 rfl (lv_at hl 0 rfl) ?_
  refine lv_iload_n hx hb dX6_warmthOf_1 rfl (lv_at hl 2 rfl) ?_
  refine k_i h (n_V (rest := []) (As := [.int a2]) X h hl.1 (c_X0_goal l G hG p0 a2 h0 _ _ hw) gk_X6_300 rfl hd_X0_goal ⟨rfl, rfl⟩ ⟨Nat.le_of_ble_eq_true rfl, Nat.le_of_ble_eq_true rfl⟩ (X0_o h0) rfl rfl (Nat.le_of_ble_eq_true rfl) dX6_warmthOf_2 ⟨Nat.zero_le _, Nat.zero_le _⟩) (fun r2 μ2 H locs hw h => ?_)
  refine lv_istore_n (lv' := [(3, .int r2), (0, .ref (ga G p0)), (1, .ref (ga G p1)), (2, .int a2)]) hx hb dX6_warmthOf_5 rfl hl (by decide) rfl (fun ls hl => ?_)
  refine lv_aload_n hx hb dX6_warmthOf_6 rfl (lv_at hl 2 rfl) ?_
  refine lv_aload_n hx hb dX6_warmthOf_7 rfl (lv_at hl 1 rfl) ?_
  refine r_getR (q := (p0 + 4)) X h (X0_o h0) rfl uX0 5 (by decide) fn_7 rfl dX6_warmthOf_8 ?_
  refine lv_iload_n hx hb dX6_warmthOf_11 rfl (lv_at hl 3 rfl) ?_
  obtain ⟨hi, hw⟩ := hw
  refine r_ald X h (X0_at h0) hi dX6_warmthOf_12 ?_
  refine lv_iload_n hx hb dX6_warmthOf_13 rfl (lv_at hl 0 rfl) ?_
  refine k_i h (n_V (rest := []) (As := [.int (μ2 (p0 + 4) a2.toNatClampNeg), .int r2]) X h hl.1 (c_X3_leads l G hG p1 (μ2 (p0 + 4) a2.toNatClampNeg) r2 h1 _ _ hw) gk_X6_99 rfl hd_X3_leads ⟨rfl, rfl⟩ ⟨Nat.le_of_ble_eq_true rfl, Nat.le_of_ble_eq_true rfl⟩ (X3_o h1) rfl rfl (Nat.le_of_ble_eq_true rfl) dX6_warmthOf_14 ⟨Nat.zero_le _, Nat.zero_le _⟩) (fun r14 μ14 H locs hw h => ?_)
  refine lv_if_eq (tgt := 37) hx hb dX6_warmthOf_17 (by decide) (fun hc => ?_) (fun hc => ?_)
  · rw [if_pos hc] at hw
    refine lv_iconst (v := (0 : Int32)) hx hb dX6_warmthOf_37 (by decide) ?_
    exact r_iret X h hw dX6_warmthOf_38
  · rw [if_neg hc] at hw
    refine lv_bipush (v := (9 : Int32)) hx hb dX6_warmthOf_20 (by decide) ?_
    refine lv_aload_n hx hb dX6_warmthOf_22 rfl (lv_at hl 2 rfl) ?_
    refine lv_aload_n hx hb dX6_warmthOf_23 rfl (lv_at hl 1 rfl) ?_
    refine r_getR (q := (p0 + 4)) X h (X0_o h0) rfl uX0 5 (by decide) fn_7 rfl dX6_warmthOf_24 ?_
    refine lv_iload_n hx hb dX6_warmthOf_27 rfl (lv_at hl 3 rfl) ?_
    obtain ⟨hi, hw⟩ := hw
    refine r_ald X h (X0_at h0) hi dX6_warmthOf_28 ?_
    refine lv_iload_n hx hb dX6_warmthOf_29 rfl (lv_at hl 0 rfl) ?_
    refine k_i h (n_V (rest := [.int (9 : Int32)]) (As := [.int (μ14 (p0 + 4) a2.toNatClampNeg), .int r2]) X h hl.1 (c_X3_between l G hG p1 (μ14 (p0 + 4) a2.toNatClampNeg) r2 h1 _ _ hw) gk_X6_102 rfl hd_X3_between ⟨rfl, rfl⟩ ⟨Nat.le_of_ble_eq_true rfl, Nat.le_of_ble_eq_true rfl⟩ (X3_o h1) rfl rfl (Nat.le_of_ble_eq_true rfl) dX6_warmthOf_30 ⟨Nat.zero_le _, Nat.zero_le _⟩) (fun r30 μ30 H locs hw h => ?_)
    refine lv_isub hx hb dX6_warmthOf_33 ?_
    refine lv_goto (tgt := 38) hx hb dX6_warmthOf_34 (by decide) ?_
    exact r_iret X h hw dX6_warmthOf_38
def wp_X6_bitIs (a1 : Int32) (a2 : Int32) (Q : Int32 → vM → Prop) (μ : vM) : Prop := wp_X6_isBit a1 (fun r2 μ2 => if r2 = 0 then wp_X6_error (1 : Int32) (fun r10 μ10 => Q r10 μ10) μ2 else if a2 = (0 : Int32) then vp_in a1 8 ∧ Q (μ2 6 a1.toNatClampNeg) μ2 else if a2 = (1 : Int32) then vp_in a1 8 ∧ Q (μ2 7 a1.toNatClampNeg) μ2 else if a2 = (2 : Int32) then vp_in a1 8 ∧ Q (μ2 8 a1.toNatClampNeg) μ2 else if a2 = (3 : Int32) then vp_in a1 8 ∧ Q (μ2 9 a1.toNatClampNeg) μ2 else if a2 = (4 : Int32) then vp_in a1 8 ∧ Q (μ2 10 a1.toNatClampNeg) μ2 else if a2 = (5 : Int32) then wp_X6_stepsOf 5 2 a1 (fun r113 μ113 => Q r113 μ113) μ2 else if a2 = (6 : Int32) then wp_X6_worthOf 5 a1 (fun r120 μ120 => Q r120 μ120) μ2 else if a2 = (7 : Int32) then wp_X6_warmthOf 5 2 a1 (fun r133 μ133 => Q r133 μ133) μ2 else wp_X6_error (1 : Int32) (fun r139 μ139 => Q r139 μ139) μ2) μ
set_option maxRecDepth 100000 in
set_option maxHeartbeats 4000000 in
theorem c_X6_bitIs (l : Launch) (G : vG) (hG : gO G) (a1 : Int32) (a2 : Int32) (h0 : isX6 G) (Q : Int32 → vM → Prop) (μ : vM) (hw : wp_X6_bitIs a1 a2 Q μ) : mt l G yX6_bitIs vX6_bitIs { frames := 4, cells := 0, slots := 0, locals := 97 } [.ref (ga G 0), .int a1, .int a2] μ (qI G Q) := by
  refine met_of (cc := cX6_bitIs) (maxL := 4) (ret := (some .int)) RX6 (by decide) rfl rfl hG (Nat.le_of_ble_eq_true rfl) ?_
  intro p e s m below meth c X h ls hl
  have hl : lv_has ls 4 [(0, .ref (ga G 0)), (1, .int a1), (2, .int a2)] := hl
  have hx := X.1
  have hb := X.2.1
  unfold wp_X6_bitIs at hw
  refine lv_aload_n hx hb dX6_bitIs_0 rfl (lv_at hl 0 rfl) ?_
  refine lv_iload_n hx hb dX6_bitIs_1 rfl (lv_at hl 1 rfl) ?_
  refine k_i h (n_V (rest := []) (As := [.int a1]) X h hl.1 (c_X6_isBit l G hG a1 h0 _ _ hw) gk_X6_116 rfl hd_X6_isBit ⟨rfl, rfl⟩ ⟨Nat.le_of_ble_eq_true rfl, Nat.le_of_ble_eq_true rfl⟩ (X6_o h0) rfl rfl (Nat.le_of_ble_eq_true rfl) dX6_bitIs_2 ⟨Nat.zero_le _, Nat.zero_le _⟩) (fun r2 μ2 H locs hw h => ?_)
  refine lv_if_ne (tgt := 14) hx hb dX6_bitIs_5 (by decide) (fun hc => ?_) (fun hc => ?_)
  · rw [if_neg hc] at hw
    refine lv_aload_n hx hb dX6_bitIs_14 rfl (lv_at hl 0 rfl) ?_
    refine r_getR (q := 1) X h (X6_o h0) rfl uX6 0 (by decide) lf_1_225 rfl dX6_bitIs_15 ?_
    refine r_getR (q := 5) X h (X5_o (X6_now h0)) rfl uX5 1 (by decide) fn_16 rfl dX6_bitIs_18 ?_
    refine lv_astore_n (lv' := [(3, .ref (ga G 5)), (0, .ref (ga G 0)), (1, .int a1), (2, .int a2)]) hx hb dX6_bitIs_21 rfl hl (by decide) rfl (fun ls hl => ?_)
    refine lv_iload_n hx hb dX6_bitIs_22 rfl (lv_at hl 3 rfl) ?_
    by_cases hc0 : a2 = (0 : Int32)
    · rw [if_pos hc0] at hw
      refine lv_tableIn (off := 45) (tgt := 68) hx hb dX6_bitIs_23 (by rw [hc0]; decide) (by rw [hc0]; decide) (by rw [hc0]; rfl) (by decide) ?_
      refine lv_aload_n hx hb dX6_bitIs_68 rfl (lv_at hl 0 rfl) ?_
      refine r_getR (q := 6) X h (X0_o (X5_harvest (X6_now h0))) rfl uX0 2 (by decide) fn_3 rfl dX6_bitIs_69 ?_
      refine lv_iload_n hx hb dX6_bitIs_72 rfl (lv_at hl 2 rfl) ?_
      obtain ⟨hi, hw⟩ := hw
      refine r_ald X h (X0_kind (X5_harvest (X6_now h0))) hi dX6_bitIs_73 ?_
      exact r_iret X h hw dX6_bitIs_74
    · rw [if_neg hc0] at hw
      by_cases hc1 : a2 = (1 : Int32)
      · rw [if_pos hc1] at hw
        refine lv_tableIn (off := 52) (tgt := 75) hx hb dX6_bitIs_23 (by rw [hc1]; decide) (by rw [hc1]; decide) (by rw [hc1]; rfl) (by decide) ?_
        refine lv_aload_n hx hb dX6_bitIs_75 rfl (lv_at hl 0 rfl) ?_
        refine r_getR (q := 7) X h (X0_o (X5_harvest (X6_now h0))) rfl uX0 3 (by decide) fn_4 rfl dX6_bitIs_76 ?_
        refine lv_iload_n hx hb dX6_bitIs_79 rfl (lv_at hl 2 rfl) ?_
        obtain ⟨hi, hw⟩ := hw
        refine r_ald X h (X0_m (X5_harvest (X6_now h0))) hi dX6_bitIs_80 ?_
        exact r_iret X h hw dX6_bitIs_81
      · rw [if_neg hc1] at hw
        by_cases hc2 : a2 = (2 : Int32)
        · rw [if_pos hc2] at hw
          refine lv_tableIn (off := 59) (tgt := 82) hx hb dX6_bitIs_23 (by rw [hc2]; decide) (by rw [hc2]; decide) (by rw [hc2]; rfl) (by decide) ?_
          refine lv_aload_n hx hb dX6_bitIs_82 rfl (lv_at hl 0 rfl) ?_
          refine r_getR (q := 8) X h (X0_o (X5_harvest (X6_now h0))) rfl uX0 4 (by decide) fn_5 rfl dX6_bitIs_83 ?_
          refine lv_iload_n hx hb dX6_bitIs_86 rfl (lv_at hl 2 rfl) ?_
          obtain ⟨hi, hw⟩ := hw
          refine r_ald X h (X0_of (X5_harvest (X6_now h0))) hi dX6_bitIs_87 ?_
          exact r_iret X h hw dX6_bitIs_88
        · rw [if_neg hc2] at hw
          by_cases hc3 : a2 = (3 : Int32)
          · rw [if_pos hc3] at hw
            refine lv_tableIn (off := 66) (tgt := 89) hx hb dX6_bitIs_23 (by rw [hc3]; decide) (by rw [hc3]; decide) (by rw [hc3]; rfl) (by decide) ?_
            refine lv_aload_n hx hb dX6_bitIs_89 rfl (lv_at hl 0 rfl) ?_
            refine r_getR (q := 9) X h (X0_o (X5_harvest (X6_now h0))) rfl uX0 5 (by decide) fn_7 rfl dX6_bitIs_90 ?_
            refine lv_iload_n hx hb dX6_bitIs_93 rfl (lv_at hl 2 rfl) ?_
            obtain ⟨hi, hw⟩ := hw
            refine r_ald X h (X0_at (X5_harvest (X6_now h0))) hi dX6_bitIs_94 ?_
            exact r_iret X h hw dX6_bitIs_95
          · rw [if_neg hc3] at hw
            by_cases hc4 : a2 = (4 : Int32)
            · rw [if_pos hc4] at hw
              refine lv_tableIn (off := 73) (tgt := 96) hx hb dX6_bitIs_23 (by rw [hc4]; decide) (by rw [hc4]; decide) (by rw [hc4]; rfl) (by decide) ?_
              refine lv_aload_n hx hb dX6_bitIs_96 rfl (lv_at hl 0 rfl) ?_
              refine r_getR (q := 10) X h (X0_o (X5_harvest (X6_now h0))) rfl uX0 6 (by decide) fn_9 rfl dX6_bitIs_97 ?_
              refine lv_iload_n hx hb dX6_bitIs_100 rfl (lv_at hl 2 rfl) ?_
              obtain ⟨hi, hw⟩ := hw
              refine r_ald X h (X0_heard (X5_harvest (X6_now h0))) hi dX6_bitIs_101 ?_
              exact r_iret X h hw dX6_bitIs_102
            · rw [if_neg hc4] at hw
              by_cases hc5 : a2 = (5 : Int32)
              · rw [if_pos hc5] at hw
                refine lv_tableIn (off := 80) (tgt := 103) hx hb dX6_bitIs_23 (by rw [hc5]; decide) (by rw [hc5]; decide) (by rw [hc5]; rfl) (by decide) ?_
                refine lv_aload_n hx hb dX6_bitIs_103 rfl (lv_at hl 1 rfl) ?_
                refine lv_aload_n hx hb dX6_bitIs_104 rfl (lv_at hl 0 rfl) ?_
                refine lv_aload_n hx hb dX6_bitIs_105 rfl (lv_at hl 1 rfl) ?_
                refine r_getR (q := 1) X h (X6_o h0) rfl uX6 0 (by decide) lf_1_225 rfl dX6_bitIs_106 ?_
                refine r_getR (q := 2) X h (X5_o (X6_now h0)) rfl uX5 0 (by decide) fn_15 rfl dX6_bitIs_109 ?_
                refine lv_iload_n hx hb dX6_bitIs_112 rfl (lv_at hl 2 rfl) ?_
                refine k_i h (n_V (rest := []) (As := [.ref (ga G 5), .ref (ga G 2), .int a1]) X h hl.1 (c_X6_stepsOf l G hG 5 2 a1 h0 (X5_harvest (X6_now h0)) (X5_roads (X6_now h0)) _ _ hw) gk_X6_134 rfl hd_X6_stepsOf ⟨rfl, rfl⟩ ⟨Nat.le_of_ble_eq_true rfl, Nat.le_of_ble_eq_true rfl⟩ (X6_o h0) rfl rfl (Nat.le_of_ble_eq_true rfl) dX6_bitIs_113 ⟨Nat.zero_le _, Nat.zero_le _⟩) (fun r113 μ113 H locs hw h => ?_)
                exact r_iret X h hw dX6_bitIs_116
              · rw [if_neg hc5] at hw
                by_cases hc6 : a2 = (6 : Int32)
                · rw [if_pos hc6] at hw
                  refine lv_tableIn (off := 94) (tgt := 117) hx hb dX6_bitIs_23 (by rw [hc6]; decide) (by rw [hc6]; decide) (by rw [hc6]; rfl) (by decide) ?_
                  refine lv_aload_n hx hb dX6_bitIs_117 rfl (lv_at hl 1 rfl) ?_
                  refine lv_aload_n hx hb dX6_bitIs_118 rfl (lv_at hl 0 rfl) ?_
                  refine lv_iload_n hx hb dX6_bitIs_119 rfl (lv_at hl 2 rfl) ?_
                  refine k_i h (n_V (rest := []) (As := [.ref (ga G 5), .int a1]) X h hl.1 (c_X6_worthOf l G hG 5 a1 h0 (X5_harvest (X6_now h0)) _ _ hw) gk_X6_138 rfl hd_X6_worthOf ⟨rfl, rfl⟩ ⟨Nat.le_of_ble_eq_true rfl, Nat.le_of_ble_eq_true rfl⟩ (X6_o h0) rfl rfl (Nat.le_of_ble_eq_true rfl) dX6_bitIs_120 ⟨Nat.zero_le _, Nat.zero_le _⟩) (fun r120 μ120 H locs hw h => ?_)
                  exact r_iret X h hw dX6_bitIs_123
                · rw [if_neg hc6] at hw
                  by_cases hc7 : a2 = (7 : Int32)
                  · rw [if_pos hc7] at hw
                    refine lv_tableIn (off := 101) (tgt := 124) hx hb dX6_bitIs_23 (by rw [hc7]; decide) (by rw [hc7]; decide) (by rw [hc7]; rfl) (by decide) ?_
                    refine lv_aload_n hx hb dX6_bitIs_124 rfl (lv_at hl 0 rfl) ?_
                    refine lv_aload_n hx hb dX6_bitIs_125 rfl (lv_at hl 1 rfl) ?_
                    refine r_getR (q := 1) X h (X6_o h0) rfl uX6 0 (by decide) lf_1_225 rfl dX6_bitIs_126 ?_
                    refine r_getR (q := 2) X h (X5_o (X6_now h0)) rfl uX5 0 (by decide) fn_15 rfl dX6_bitIs_129 ?_
                    refine lv_iload_n hx hb dX6_bitIs_132 rfl (lv_at hl 2 rfl) ?_
                    refine k_i h (n_T (rest := []) (As := [.ref (ga G 5), .ref (ga G 2), .int a1]) X h hl.1 (c_X6_warmthOf l G hG 5 2 a1 (X5_harvest (X6_now h0)) (X5_roads (X6_now h0)) _ _ hw) gk_X6_142 rfl hd_X6_warmthOf ⟨rfl, rfl⟩ ⟨Nat.le_of_ble_eq_true rfl, Nat.le_of_ble_eq_true rfl⟩ rfl (Nat.le_of_ble_eq_true rfl) dX6_bitIs_133 ⟨Nat.zero_le _, Nat.zero_le _⟩) (fun r133 μ133 H locs hw h => ?_)
                    exact r_iret X h hw dX6_bitIs_136
                  · rw [if_neg hc7] at hw
                    refine lv_tableOut (tgt := 137) hx hb dX6_bitIs_23 (by have q0 := lv_neT hc0 (a := 0) (by decide); have q1 := lv_neT hc1 (a := 1) (by decide); have q2 := lv_neT hc2 (a := 2) (by decide); have q3 := lv_neT hc3 (a := 3) (by decide); have q4 := lv_neT hc4 (a := 4) (by decide); have q5 := lv_neT hc5 (a := 5) (by decide); have q6 := lv_neT hc6 (a := 6) (by decide); have q7 := lv_neT hc7 (a := 7) (by decide); omega) (by decide) ?_
                    refine lv_aload_n hx hb dX6_bitIs_137 rfl (lv_at hl 1 rfl) ?_
                    refine lv_iconst (v := (1 : Int32)) hx hb dX6_bitIs_138 (by decide) ?_
                    refine k_i h (n_V (rest := []) (As := [.int (1 : Int32)]) X h hl.1 (c_X6_error l G hG (1 : Int32) h0 _ _ hw) gk_X6_72 rfl hd_X6_error ⟨rfl, rfl⟩ ⟨Nat.le_of_ble_eq_true rfl, Nat.le_of_ble_eq_true rfl⟩ (X6_o h0) rfl rfl (Nat.le_of_ble_eq_true rfl) dX6_bitIs_139 ⟨Nat.zero_le _, Nat.zero_le _⟩) (fun r139 μ139 H locs hw h => ?_)
                    exact r_iret X h hw dX6_bitIs_142
  · rw [if_pos hc] at hw
    refine lv_aload_n hx hb dX6_bitIs_8 rfl (lv_at hl 0 rfl) ?_
    refine lv_iconst (v := (1 : Int32)) hx hb dX6_bitIs_9 (by decide) ?_
    refine k_i h (n_V (rest := []) (As := [.int (1 : Int32)]) X h hl.1 (c_X6_error l G hG (1 : Int32) h0 _ _ hw) gk_X6_72 rfl hd_X6_error ⟨rfl, rfl⟩ ⟨Nat.le_of_ble_eq_true rfl, Nat.le_of_ble_eq_true rfl⟩ (X6_o h0) rfl rfl (Nat.le_of_ble_eq_true rfl) dX6_bitIs_10 ⟨Nat.zero_le _, Nat.zero_le _⟩) (fun r10 μ10 H locs hw h => ?_)
    exact r_iret X h hw dX6_bitIs_13
def wp_X6_become (a1 : Int32) (a2 : Int32) (Q : Int32 → vM → Prop) (μ : vM) : Prop := wp_X6_isBit a1 (fun r2 μ2 => if r2 = 0 then wp_X6_error (1 : Int32) (fun r17 μ17 => Q r17 μ17) μ2 else wp_X6_isKindAndM a2 (fun r9 μ9 => if r9 = 0 then wp_X6_error (1 : Int32) (fun r17 μ17 => Q r17 μ17) μ9 else vp_in a1 8 ∧ ∃ x3_33 : Int32, x3_33 = μ9 6 a1.toNatClampNeg ∧ vp_in a1 8 ∧ ∃ μ49 : vM, μ49 = st μ9 6 a1.toNatClampNeg (a2 / (10 : Int32)) ∧ vp_in a1 8 ∧ ∃ μ65 : vM, μ65 = st μ49 7 a1.toNatClampNeg (a2 % (10 : Int32)) ∧ Q x3_33 μ65) μ2) μ
set_option maxRecDepth 100000 in
set_option maxHeartbeats 4000000 in
theorem c_X6_become (l : Launch) (G : vG) (hG : gO G) (a1 : Int32) (a2 : Int32) (h0 : isX6 G) (Q : Int32 → vM → Prop) (μ : vM) (hw : wp_X6_become a1 a2 Q μ) : mt l G yX6_become vX6_become { frames := 1, cells := 0, slots := 0, locals := 21 } [.ref (ga G 0), .int a1, .int a2] μ (qI G Q) := by
  refine met_of (cc := cX6_become) (maxL := 4) (ret := (some .int)) RX6 (by decide) rfl rfl hG (Nat.le_of_ble_eq_true rfl) ?_
  intro p e s m below meth c X h ls hl
  have hl : lv_has ls 4 [(0, .ref (ga G 0)), (1, .int a1), (2, .int a2)] := hl
  have hx := X.1
  have hb := X.2.1
  unfold wp_X6_become at hw
  refine lv_aload_n hx hb dX6_become_0 rfl (lv_at hl 0 rfl) ?_
  refine lv_iload_n hx hb dX6_become_1 rfl (lv_at hl 1 rfl) ?_
  refine k_i h (n_V (rest := []) (As := [.int a1]) X h hl.1 (c_X6_isBit l G hG a1 h0 _ _ hw) gk_X6_116 rfl hd_X6_isBit ⟨rfl, rfl⟩ ⟨Nat.le_of_ble_eq_true rfl, Nat.le_of_ble_eq_true rfl⟩ (X6_o h0) rfl rfl (Nat.le_of_ble_eq_true rfl) dX6_become_2 ⟨Nat.zero_le _, Nat.zero_le _⟩) (fun r2 μ2 H locs hw h => ?_)
  refine lv_if_eq (tgt := 15) hx hb dX6_become_5 (by decide) (fun hc => ?_) (fun hc => ?_)
  · rw [if_pos hc] at hw
    refine lv_aload_n hx hb dX6_become_15 rfl (lv_at hl 0 rfl) ?_
    refine lv_iconst (v := (1 : Int32)) hx hb dX6_become_16 (by decide) ?_
    refine k_i h (n_V (rest := []) (As := [.int (1 : Int32)]) X h hl.1 (c_X6_error l G hG (1 : Int32) h0 _ _ hw) gk_X6_72 rfl hd_X6_error ⟨rfl, rfl⟩ ⟨Nat.le_of_ble_eq_true rfl, Nat.le_of_ble_eq_true rfl⟩ (X6_o h0) rfl rfl (Nat.le_of_ble_eq_true rfl) dX6_become_17 ⟨Nat.zero_le _, Nat.zero_le _⟩) (fun r17 μ17 H locs hw h => ?_)
    exact r_iret X h hw dX6_become_20
  · rw [if_neg hc] at hw
    refine lv_iload_n hx hb dX6_become_8 rfl (lv_at hl 2 rfl) ?_
    refine k_i h (n_T (rest := []) (As := [.int a2]) X h hl.1 (c_X6_isKindAndM l G hG a2 _ _ hw) gk_X6_106 rfl hd_X6_isKindAndM ⟨rfl, rfl⟩ ⟨Nat.le_of_ble_eq_true rfl, Nat.le_of_ble_eq_true rfl⟩ rfl (Nat.le_of_ble_eq_true rfl) dX6_become_9 ⟨Nat.zero_le _, Nat.zero_le _⟩) (fun r9 μ9 H locs hw h => ?_)
    refine lv_if_ne (tgt := 21) hx hb dX6_become_12 (by decide) (fun hc => ?_) (fun hc => ?_)
    · rw [if_neg hc] at hw
      refine lv_aload_n hx hb dX6_become_21 rfl (lv_at hl 0 rfl) ?_
      refine r_getR (q := 1) X h (X6_o h0) rfl uX6 0 (by decide) lf_1_225 rfl dX6_become_22 ?_
      refine r_getR (q := 5) X h (X5_o (X6_now h0)) rfl uX5 1 (by decide) fn_16 rfl dX6_become_25 ?_
      refine r_getR (q := 6) X h (X0_o (X5_harvest (X6_now h0))) rfl uX0 2 (by decide) fn_3 rfl dX6_become_28 ?_
      refine lv_iload_n hx hb dX6_become_31 rfl (lv_at hl 1 rfl) ?_
      obtain ⟨hi, hw⟩ := hw
      refine r_ald X h (X0_kind (X5_harvest (X6_now h0))) hi dX6_become_32 ?_
      obtain ⟨x3_33, ex3_33, hw⟩ := hw
      refine topE ex3_33 ?_
      refine lv_istore_n (lv' := [(3, .int x3_33), (0, .ref (ga G 0)), (1, .int a1), (2, .int a2)]) hx hb dX6_become_33 rfl hl (by decide) rfl (fun ls hl => ?_)
      refine lv_aload_n hx hb dX6_become_34 rfl (lv_at hl 1 rfl) ?_
      refine r_getR (q := 1) X h (X6_o h0) rfl uX6 0 (by decide) lf_1_225 rfl dX6_become_35 ?_
      refine r_getR (q := 5) X h (X5_o (X6_now h0)) rfl uX5 1 (by decide) fn_16 rfl dX6_become_38 ?_
      refine r_getR (q := 6) X h (X0_o (X5_harvest (X6_now h0))) rfl uX0 2 (by decide) fn_3 rfl dX6_become_41 ?_
      refine lv_iload_n hx hb dX6_become_44 rfl (lv_at hl 2 rfl) ?_
      refine lv_iload_n hx hb dX6_become_45 rfl (lv_at hl 3 rfl) ?_
      refine lv_bipush (v := (10 : Int32)) hx hb dX6_become_46 (by decide) ?_
      refine lv_idiv hx hb dX6_become_48 (by decide) ?_
      obtain ⟨hi, μ49, eμ49, hw⟩ := hw
      refine r_ast X h (X0_kind (X5_harvest (X6_now h0))) hi eμ49 dX6_become_49 (fun H locs h => ?_)
      refine lv_aload_n hx hb dX6_become_50 rfl (lv_at hl 1 rfl) ?_
      refine r_getR (q := 1) X h (X6_o h0) rfl uX6 0 (by decide) lf_1_225 rfl dX6_become_51 ?_
      refine r_getR (q := 5) X h (X5_o (X6_now h0)) rfl uX5 1 (by decide) fn_16 rfl dX6_become_54 ?_
      refine r_getR (q := 7) X h (X0_o (X5_harvest (X6_now h0))) rfl uX0 3 (by decide) fn_4 rfl dX6_become_57 ?_
      refine lv_iload_n hx hb dX6_become_60 rfl (lv_at hl 2 rfl) ?_
      refine lv_iload_n hx hb dX6_become_61 rfl (lv_at hl 3 rfl) ?_
      refine lv_bipush (v := (10 : Int32)) hx hb dX6_become_62 (by decide) ?_
      refine r_irem hx hb dX6_become_64 (by decide) ?_
      obtain ⟨hi, μ65, eμ65, hw⟩ := hw
      refine r_ast X h (X0_m (X5_harvest (X6_now h0))) hi eμ65 dX6_become_65 (fun H locs h => ?_)
      refine lv_iload_n hx hb dX6_become_66 rfl (lv_at hl 0 rfl) ?_
      exact r_iret X h hw dX6_become_67
    · rw [if_pos hc] at hw
      refine lv_aload_n hx hb dX6_become_15 rfl (lv_at hl 0 rfl) ?_
      refine lv_iconst (v := (1 : Int32)) hx hb dX6_become_16 (by decide) ?_
      refine k_i h (n_V (rest := []) (As := [.int (1 : Int32)]) X h hl.1 (c_X6_error l G hG (1 : Int32) h0 _ _ hw) gk_X6_72 rfl hd_X6_error ⟨rfl, rfl⟩ ⟨Nat.le_of_ble_eq_true rfl, Nat.le_of_ble_eq_true rfl⟩ (X6_o h0) rfl rfl (Nat.le_of_ble_eq_true rfl) dX6_become_17 ⟨Nat.zero_le _, Nat.zero_le _⟩) (fun r17 μ17 H locs hw h => ?_)
      exact r_iret X h hw dX6_become_20
def wp_X6_isOrIsUnder_4 (a0 : Int32) (a1 : Int32) (Q : Int32 → vM → Prop) : Nat → Int32 → Int32 → vM → Prop
  | 0, _, _, _ => False
  | n4 + 1, x2, x3, μ => if (7 : Int32) ≤ x3 then Q (0 : Int32) μ else if x2 < 0 then Q (0 : Int32) μ else if x2 = a1 then Q (1 : Int32) μ else vp_in x2 7 ∧ ∃ x2_26 : Int32, x2_26 = c_ABOVE x2.toNatClampNeg ∧ ∃ x3_27 : Int32, x3_27 = x3 + (1 : Int32) ∧ wp_X6_isOrIsUnder_4 a0 a1 Q n4 x2_26 x3_27 μ
def wp_X6_isOrIsUnder (a0 : Int32) (a1 : Int32) (Q : Int32 → vM → Prop) (μ : vM) : Prop := ∃ n4, wp_X6_isOrIsUnder_4 a0 a1 Q n4 a0 (0 : Int32) μ
set_option maxRecDepth 100000 in
set_option maxHeartbeats 4000000 in
theorem c_X6_isOrIsUnder (l : Launch) (G : vG) (hG : gO G) (a0 : Int32) (a1 : Int32)  (Q : Int32 → vM → Prop) (μ : vM) (hw : wp_X6_isOrIsUnder a0 a1 Q μ) : mt l G yX6_isOrIsUnder vX6_isOrIsUnder { frames := 0, cells := 0, slots := 0, locals := 0 } [.int a0, .int a1] μ (qI G Q) := by
  refine met_of (cc := cX6_isOrIsUnder) (maxL := 4) (ret := (some .boolean)) RX6 (by decide) rfl rfl hG (Nat.le_of_ble_eq_true rfl) ?_
  intro p e s m below meth c X h ls hl
  have hl : lv_has ls 4 [(0, .int a0), (1, .int a1)] := hl
  have hx := X.1
  have hb := X.2.1
  obtain ⟨tABOVE, hZABOVE, hTABOVE⟩ := X.2.2.2.2.2.2.2.2.2.1
  unfold wp_X6_isOrIsUnder at hw
  refine lv_iload_n hx hb dX6_isOrIsUnder_0 rfl (lv_at hl 0 rfl) ?_
  refine lv_istore_n (lv' := [(2, .int a0), (0, .int a0), (1, .int a1)]) hx hb dX6_isOrIsUnder_1 rfl hl (by decide) rfl (fun ls hl => ?_)
  refine lv_iconst (v := (0 : Int32)) hx hb dX6_isOrIsUnder_2 (by decide) ?_
  refine lv_istore_n (lv' := [(3, .int (0 : Int32)), (2, .int a0), (0, .int a0), (1, .int a1)]) hx hb dX6_isOrIsUnder_3 rfl hl (by decide) rfl (fun ls hl => ?_)
  have s4 : ∀ (n4 : Nat) (x2 : Int32) (x3 : Int32) (μ : vM), ∀ (H : Heap) (locs : List Loc) (ls : Array Slot), bw G s μ H locs → lv_has ls 4 [(1, .int a1), (2, .int x2), (3, .int x3)] → wp_X6_isOrIsUnder_4 a0 a1 Q n4 x2 x3 μ → W p l e ({ frames := 0, cells := 0, slots := 0, locals := 0 } : Room) s m ([.int a0, .int a1] : List Value).toArray below meth c H locs 0 0 (MQ below (qI G Q) ([.int a0, .int a1] : List Value).toArray s 0 0 (gA G)) (F0 m 4 ls []) := by
    intro n4
    induction n4 with
    | zero => intro x2 x3 μ H locs ls h hl hw; exact absurd hw (by unfold wp_X6_isOrIsUnder_4; exact id)
    | succ n4 ih4 =>
      intro x2 x3 μ H locs ls h hl hw
      unfold wp_X6_isOrIsUnder_4 at hw
      refine lv_iload_n hx hb dX6_isOrIsUnder_4 rfl (lv_at hl 2 rfl) ?_
      refine lv_bipush (v := (7 : Int32)) hx hb dX6_isOrIsUnder_5 (by decide) ?_
      refine lv_icmp_ge (tgt := 33) hx hb dX6_isOrIsUnder_7 (by decide) (fun hc => ?_) (fun hc => ?_)
      · rw [if_pos hc] at hw
        refine lv_iconst (v := (0 : Int32)) hx hb dX6_isOrIsUnder_33 (by decide) ?_
        exact r_zret X h (Or.inl rfl) hw dX6_isOrIsUnder_34
      · rw [if_neg hc] at hw
        refine lv_iload_n hx hb dX6_isOrIsUnder_10 rfl (lv_at hl 1 rfl) ?_
        refine lv_if_lt (tgt := 33) hx hb dX6_isOrIsUnder_11 (by decide) (fun hc => ?_) (fun hc => ?_)
        · rw [if_pos hc] at hw
          refine lv_iconst (v := (0 : Int32)) hx hb dX6_isOrIsUnder_33 (by decide) ?_
          exact r_zret X h (Or.inl rfl) hw dX6_isOrIsUnder_34
        · rw [if_neg hc] at hw
          refine lv_iload_n hx hb dX6_isOrIsUnder_14 rfl (lv_at hl 1 rfl) ?_
          refine lv_iload_n hx hb dX6_isOrIsUnder_15 rfl (lv_at hl 0 rfl) ?_
          refine lv_icmp_ne (tgt := 21) hx hb dX6_isOrIsUnder_16 (by decide) (fun hc => ?_) (fun hc => ?_)
          · rw [if_neg hc] at hw
            refine r_gets X h hZABOVE ww_2_131 dX6_isOrIsUnder_21 ?_
            refine lv_iload_n hx hb dX6_isOrIsUnder_24 rfl (lv_at hl 1 rfl) ?_
            obtain ⟨hi, hw⟩ := hw
            refine r_ti X h hTABOVE hi dX6_isOrIsUnder_25 ?_
            obtain ⟨x2_26, ex2_26, hw⟩ := hw
            refine topE ex2_26 ?_
            refine lv_istore_n (lv' := [(2, .int x2_26), (1, .int a1), (3, .int x3)]) hx hb dX6_isOrIsUnder_26 rfl hl (by decide) rfl (fun ls hl => ?_)
            obtain ⟨x3_27, ex3_27, hw⟩ := hw
            refine lv_iinc (v := x3_27) (lv' := [(3, .int x3_27), (2, .int x2_26), (1, .int a1)]) hx hb dX6_isOrIsUnder_27 hl (k := 2) rfl (by rw [ex3_27]; rfl) (by decide) rfl (fun ls hl => ?_)
            refine lv_goto (tgt := 4) hx hb dX6_isOrIsUnder_30 (by decide) ?_
            exact ih4 x2_26 x3_27 μ _ _ _ h (lv_sub hl [2, 1, 0] rfl) hw
          · rw [if_pos hc] at hw
            refine lv_iconst (v := (1 : Int32)) hx hb dX6_isOrIsUnder_19 (by decide) ?_
            exact r_zret X h (Or.inr rfl) hw dX6_isOrIsUnder_20
  obtain ⟨n, hw⟩ := hw
  exact s4 n a0 (0 : Int32) μ _ _ _ h (lv_sub hl [3, 1, 0] rfl) hw
def wp_X6_as (a1 : Int32) (a2 : Int32) (Q : Int32 → vM → Prop) (μ : vM) : Prop := wp_X6_isBit a1 (fun r2 μ2 => if r2 = 0 then wp_X6_error (1 : Int32) (fun r20 μ20 => Q r20 μ20) μ2 else if a2 < 0 then wp_X6_error (1 : Int32) (fun r20 μ20 => Q r20 μ20) μ2 else if a2 < (7 : Int32) then vp_in a1 8 ∧ wp_X6_isOrIsUnder (μ2 6 a1.toNatClampNeg) a2 (fun r37 μ37 => if r37 = 0 then wp_X6_error (5 : Int32) (fun r45 μ45 => Q r45 μ45) μ37 else vp_in a1 8 ∧ Q (μ37 7 a1.toNatClampNeg) μ37) μ2 else wp_X6_error (1 : Int32) (fun r20 μ20 => Q r20 μ20) μ2) μ
set_option maxRecDepth 100000 in
set_option maxHeartbeats 4000000 in
theorem c_X6_as (l : Launch) (G : vG) (hG : gO G) (a1 : Int32) (a2 : Int32) (h0 : isX6 G) (Q : Int32 → vM → Prop) (μ : vM) (hw : wp_X6_as a1 a2 Q μ) : mt l G yX6_as vX6_as { frames := 1, cells := 0, slots := 0, locals := 23 } [.ref (ga G 0), .int a1, .int a2] μ (qI G Q) := by
  refine met_of (cc := cX6_as) (maxL := 3) (ret := (some .int)) RX6 (by decide) rfl rfl hG (Nat.le_of_ble_eq_true rfl) ?_
  intro p e s m below meth c X h ls hl
  have hl : lv_has ls 3 [(0, .ref (ga G 0)), (1, .int a1), (2, .int a2)] := hl
  have hx := X.1
  have hb := X.2.1
  unfold wp_X6_as at hw
  refine lv_aload_n hx hb dX6_as_0 rfl (lv_at hl 0 rfl) ?_
  refine lv_iload_n hx hb dX6_as_1 rfl (lv_at hl 1 rfl) ?_
  refine k_i h (n_V (rest := []) (As := [.int a1]) X h hl.1 (c_X6_isBit l G hG a1 h0 _ _ hw) gk_X6_116 rfl hd_X6_isBit ⟨rfl, rfl⟩ ⟨Nat.le_of_ble_eq_true rfl, Nat.le_of_ble_eq_true rfl⟩ (X6_o h0) rfl rfl (Nat.le_of_ble_eq_true rfl) dX6_as_2 ⟨Nat.zero_le _, Nat.zero_le _⟩) (fun r2 μ2 H locs hw h => ?_)
  refine lv_if_eq (tgt := 18) hx hb dX6_as_5 (by decide) (fun hc => ?_) (fun hc => ?_)
  · rw [if_pos hc] at hw
    refine lv_aload_n hx hb dX6_as_18 rfl (lv_at hl 0 rfl) ?_
    refine lv_iconst (v := (1 : Int32)) hx hb dX6_as_19 (by decide) ?_
    refine k_i h (n_V (rest := []) (As := [.int (1 : Int32)]) X h hl.1 (c_X6_error l G hG (1 : Int32) h0 _ _ hw) gk_X6_72 rfl hd_X6_error ⟨rfl, rfl⟩ ⟨Nat.le_of_ble_eq_true rfl, Nat.le_of_ble_eq_true rfl⟩ (X6_o h0) rfl rfl (Nat.le_of_ble_eq_true rfl) dX6_as_20 ⟨Nat.zero_le _, Nat.zero_le _⟩) (fun r20 μ20 H locs hw h => ?_)
    exact r_iret X h hw dX6_as_23
  · rw [if_neg hc] at hw
    refine lv_iload_n hx hb dX6_as_8 rfl (lv_at hl 2 rfl) ?_
    refine lv_if_lt (tgt := 18) hx hb dX6_as_9 (by decide) (fun hc => ?_) (fun hc => ?_)
    · rw [if_pos hc] at hw
      refine lv_aload_n hx hb dX6_as_18 rfl (lv_at hl 0 rfl) ?_
      refine lv_iconst (v := (1 : Int32)) hx hb dX6_as_19 (by decide) ?_
      refine k_i h (n_V (rest := []) (As := [.int (1 : Int32)]) X h hl.1 (c_X6_error l G hG (1 : Int32) h0 _ _ hw) gk_X6_72 rfl hd_X6_error ⟨rfl, rfl⟩ ⟨Nat.le_of_ble_eq_true rfl, Nat.le_of_ble_eq_true rfl⟩ (X6_o h0) rfl rfl (Nat.le_of_ble_eq_true rfl) dX6_as_20 ⟨Nat.zero_le _, Nat.zero_le _⟩) (fun r20 μ20 H locs hw h => ?_)
      exact r_iret X h hw dX6_as_23
    · rw [if_neg hc] at hw
      refine lv_iload_n hx hb dX6_as_12 rfl (lv_at hl 2 rfl) ?_
      refine lv_bipush (v := (7 : Int32)) hx hb dX6_as_13 (by decide) ?_
      refine lv_icmp_lt (tgt := 24) hx hb dX6_as_15 (by decide) (fun hc => ?_) (fun hc => ?_)
      · rw [if_pos hc] at hw
        refine lv_aload_n hx hb dX6_as_24 rfl (lv_at hl 0 rfl) ?_
        refine r_getR (q := 1) X h (X6_o h0) rfl uX6 0 (by decide) lf_1_225 rfl dX6_as_25 ?_
        refine r_getR (q := 5) X h (X5_o (X6_now h0)) rfl uX5 1 (by decide) fn_16 rfl dX6_as_28 ?_
        refine r_getR (q := 6) X h (X0_o (X5_harvest (X6_now h0))) rfl uX0 2 (by decide) fn_3 rfl dX6_as_31 ?_
        refine lv_iload_n hx hb dX6_as_34 rfl (lv_at hl 1 rfl) ?_
        obtain ⟨hi, hw⟩ := hw
        refine r_ald X h (X0_kind (X5_harvest (X6_now h0))) hi dX6_as_35 ?_
        refine lv_iload_n hx hb dX6_as_36 rfl (lv_at hl 2 rfl) ?_
        refine k_i h (n_T (rest := []) (As := [.int (μ2 6 a1.toNatClampNeg), .int a2]) X h hl.1 (c_X6_isOrIsUnder l G hG (μ2 6 a1.toNatClampNeg) a2 _ _ hw) gk_X6_145 rfl hd_X6_isOrIsUnder ⟨rfl, rfl⟩ ⟨Nat.le_of_ble_eq_true rfl, Nat.le_of_ble_eq_true rfl⟩ rfl (Nat.le_of_ble_eq_true rfl) dX6_as_37 ⟨Nat.zero_le _, Nat.zero_le _⟩) (fun r37 μ37 H locs hw h => ?_)
        refine lv_if_ne (tgt := 49) hx hb dX6_as_40 (by decide) (fun hc => ?_) (fun hc => ?_)
        · rw [if_neg hc] at hw
          refine lv_aload_n hx hb dX6_as_49 rfl (lv_at hl 0 rfl) ?_
          refine r_getR (q := 1) X h (X6_o h0) rfl uX6 0 (by decide) lf_1_225 rfl dX6_as_50 ?_
          refine r_getR (q := 5) X h (X5_o (X6_now h0)) rfl uX5 1 (by decide) fn_16 rfl dX6_as_53 ?_
          refine r_getR (q := 7) X h (X0_o (X5_harvest (X6_now h0))) rfl uX0 3 (by decide) fn_4 rfl dX6_as_56 ?_
          refine lv_iload_n hx hb dX6_as_59 rfl (lv_at hl 1 rfl) ?_
          obtain ⟨hi, hw⟩ := hw
          refine r_ald X h (X0_m (X5_harvest (X6_now h0))) hi dX6_as_60 ?_
          exact r_iret X h hw dX6_as_61
        · rw [if_pos hc] at hw
          refine lv_aload_n hx hb dX6_as_43 rfl (lv_at hl 0 rfl) ?_
          refine lv_iconst (v := (5 : Int32)) hx hb dX6_as_44 (by decide) ?_
          refine k_i h (n_V (rest := []) (As := [.int (5 : Int32)]) X h hl.1 (c_X6_error l G hG (5 : Int32) h0 _ _ hw) gk_X6_72 rfl hd_X6_error ⟨rfl, rfl⟩ ⟨Nat.le_of_ble_eq_true rfl, Nat.le_of_ble_eq_true rfl⟩ (X6_o h0) rfl rfl (Nat.le_of_ble_eq_true rfl) dX6_as_45 ⟨Nat.zero_le _, Nat.zero_le _⟩) (fun r45 μ45 H locs hw h => ?_)
          exact r_iret X h hw dX6_as_48
      · rw [if_neg hc] at hw
        refine lv_aload_n hx hb dX6_as_18 rfl (lv_at hl 0 rfl) ?_
        refine lv_iconst (v := (1 : Int32)) hx hb dX6_as_19 (by decide) ?_
        refine k_i h (n_V (rest := []) (As := [.int (1 : Int32)]) X h hl.1 (c_X6_error l G hG (1 : Int32) h0 _ _ hw) gk_X6_72 rfl hd_X6_error ⟨rfl, rfl⟩ ⟨Nat.le_of_ble_eq_true rfl, Nat.le_of_ble_eq_true rfl⟩ (X6_o h0) rfl rfl (Nat.le_of_ble_eq_true rfl) dX6_as_20 ⟨Nat.zero_le _, Nat.zero_le _⟩) (fun r20 μ20 H locs hw h => ?_)
        exact r_iret X h hw dX6_as_23
def wp_X6_hears (a1 : Int32) (a2 : Int32) (Q : Int32 → vM → Prop) (μ : vM) : Prop := wp_X6_isBit a1 (fun r2 μ2 => if r2 = 0 then wp_X6_error (1 : Int32) (fun r20 μ20 => Q r20 μ20) μ2 else if a2 < 0 then wp_X6_error (1 : Int32) (fun r20 μ20 => Q r20 μ20) μ2 else if a2 ≤ (9 : Int32) then vp_in a1 8 ∧ ∃ x3_36 : Int32, x3_36 = μ2 10 a1.toNatClampNeg ∧ vp_in a1 8 ∧ ∃ μ49 : vM, μ49 = st μ2 10 a1.toNatClampNeg a2 ∧ Q x3_36 μ49 else wp_X6_error (1 : Int32) (fun r20 μ20 => Q r20 μ20) μ2) μ
set_option maxRecDepth 100000 in
set_option maxHeartbeats 4000000 in
theorem c_X6_hears (l : Launch) (G : vG) (hG : gO G) (a1 : Int32) (a2 : Int32) (h0 : isX6 G) (Q : Int32 → vM → Prop) (μ : vM) (hw : wp_X6_hears a1 a2 Q μ) : mt l G yX6_hears vX6_hears { frames := 1, cells := 0, slots := 0, locals := 21 } [.ref (ga G 0), .int a1, .int a2] μ (qI G Q) := by
  refine met_of (cc := cX6_hears) (maxL := 4) (ret := (some .int)) RX6 (by decide) rfl rfl hG (Nat.le_of_ble_eq_true rfl) ?_
  intro p e s m below meth c X h ls hl
  have hl : lv_has ls 4 [(0, .ref (ga G 0)), (1, .int a1), (2, .int a2)] := hl
  have hx := X.1
  have hb := X.2.1
  unfold wp_X6_hears at hw
  refine lv_aload_n hx hb dX6_hears_0 rfl (lv_at hl 0 rfl) ?_
  refine lv_iload_n hx hb dX6_hears_1 rfl (lv_at hl 1 rfl) ?_
  refine k_i h (n_V (rest := []) (As := [.int a1]) X h hl.1 (c_X6_isBit l G hG a1 h0 _ _ hw) gk_X6_116 rfl hd_X6_isBit ⟨rfl, rfl⟩ ⟨Nat.le_of_ble_eq_true rfl, Nat.le_of_ble_eq_true rfl⟩ (X6_o h0) rfl rfl (Nat.le_of_ble_eq_true rfl) dX6_hears_2 ⟨Nat.zero_le _, Nat.zero_le _⟩) (fun r2 μ2 H locs hw h => ?_)
  refine lv_if_eq (tgt := 18) hx hb dX6_hears_5 (by decide) (fun hc => ?_) (fun hc => ?_)
  · rw [if_pos hc] at hw
    refine lv_aload_n hx hb dX6_hears_18 rfl (lv_at hl 0 rfl) ?_
    refine lv_iconst (v := (1 : Int32)) hx hb dX6_hears_19 (by decide) ?_
    refine k_i h (n_V (rest := []) (As := [.int (1 : Int32)]) X h hl.1 (c_X6_error l G hG (1 : Int32) h0 _ _ hw) gk_X6_72 rfl hd_X6_error ⟨rfl, rfl⟩ ⟨Nat.le_of_ble_eq_true rfl, Nat.le_of_ble_eq_true rfl⟩ (X6_o h0) rfl rfl (Nat.le_of_ble_eq_true rfl) dX6_hears_20 ⟨Nat.zero_le _, Nat.zero_le _⟩) (fun r20 μ20 H locs hw h => ?_)
    exact r_iret X h hw dX6_hears_23
  · rw [if_neg hc] at hw
    refine lv_iload_n hx hb dX6_hears_8 rfl (lv_at hl 2 rfl) ?_
    refine lv_if_lt (tgt := 18) hx hb dX6_hears_9 (by decide) (fun hc => ?_) (fun hc => ?_)
    · rw [if_pos hc] at hw
      refine lv_aload_n hx hb dX6_hears_18 rfl (lv_at hl 0 rfl) ?_
      refine lv_iconst (v := (1 : Int32)) hx hb dX6_hears_19 (by decide) ?_
      refine k_i h (n_V (rest := []) (As := [.int (1 : Int32)]) X h hl.1 (c_X6_error l G hG (1 : Int32) h0 _ _ hw) gk_X6_72 rfl hd_X6_error ⟨rfl, rfl⟩ ⟨Nat.le_of_ble_eq_true rfl, Nat.le_of_ble_eq_true rfl⟩ (X6_o h0) rfl rfl (Nat.le_of_ble_eq_true rfl) dX6_hears_20 ⟨Nat.zero_le _, Nat.zero_le _⟩) (fun r20 μ20 H locs hw h => ?_)
      exact r_iret X h hw dX6_hears_23
    · rw [if_neg hc] at hw
      refine lv_iload_n hx hb dX6_hears_12 rfl (lv_at hl 2 rfl) ?_
      refine lv_bipush (v := (9 : Int32)) hx hb dX6_hears_13 (by decide) ?_
      refine lv_icmp_le (tgt := 24) hx hb dX6_hears_15 (by decide) (fun hc => ?_) (fun hc => ?_)
      · rw [if_pos hc] at hw
        refine lv_aload_n hx hb dX6_hears_24 rfl (lv_at hl 0 rfl) ?_
        refine r_getR (q := 1) X h (X6_o h0) rfl uX6 0 (by decide) lf_1_225 rfl dX6_hears_25 ?_
        refine r_getR (q := 5) X h (X5_o (X6_now h0)) rfl uX5 1 (by decide) fn_16 rfl dX6_hears_28 ?_
        refine r_getR (q := 10) X h (X0_o (X5_harvest (X6_now h0))) rfl uX0 6 (by decide) fn_9 rfl dX6_hears_31 ?_
        refine lv_iload_n hx hb dX6_hears_34 rfl (lv_at hl 1 rfl) ?_
        obtain ⟨hi, hw⟩ := hw
        refine r_ald X h (X0_heard (X5_harvest (X6_now h0))) hi dX6_hears_35 ?_
        obtain ⟨x3_36, ex3_36, hw⟩ := hw
        refine topE ex3_36 ?_
        refine lv_istore_n (lv' := [(3, .int x3_36), (0, .ref (ga G 0)), (1, .int a1), (2, .int a2)]) hx hb dX6_hears_36 rfl hl (by decide) rfl (fun ls hl => ?_)
        refine lv_aload_n hx hb dX6_hears_37 rfl (lv_at hl 1 rfl) ?_
        refine r_getR (q := 1) X h (X6_o h0) rfl uX6 0 (by decide) lf_1_225 rfl dX6_hears_38 ?_
        refine r_getR (q := 5) X h (X5_o (X6_now h0)) rfl uX5 1 (by decide) fn_16 rfl dX6_hears_41 ?_
        refine r_getR (q := 10) X h (X0_o (X5_harvest (X6_now h0))) rfl uX0 6 (by decide) fn_9 rfl dX6_hears_44 ?_
        refine lv_iload_n hx hb dX6_hears_47 rfl (lv_at hl 2 rfl) ?_
        refine lv_iload_n hx hb dX6_hears_48 rfl (lv_at hl 3 rfl) ?_
        obtain ⟨hi, μ49, eμ49, hw⟩ := hw
        refine r_ast X h (X0_heard (X5_harvest (X6_now h0))) hi eμ49 dX6_hears_49 (fun H locs h => ?_)
        refine lv_iload_n hx hb dX6_hears_50 rfl (lv_at hl 0 rfl) ?_
        exact r_iret X h hw dX6_hears_51
      · rw [if_neg hc] at hw
        refine lv_aload_n hx hb dX6_hears_18 rfl (lv_at hl 0 rfl) ?_
        refine lv_iconst (v := (1 : Int32)) hx hb dX6_hears_19 (by decide) ?_
        refine k_i h (n_V (rest := []) (As := [.int (1 : Int32)]) X h hl.1 (c_X6_error l G hG (1 : Int32) h0 _ _ hw) gk_X6_72 rfl hd_X6_error ⟨rfl, rfl⟩ ⟨Nat.le_of_ble_eq_true rfl, Nat.le_of_ble_eq_true rfl⟩ (X6_o h0) rfl rfl (Nat.le_of_ble_eq_true rfl) dX6_hears_20 ⟨Nat.zero_le _, Nat.zero_le _⟩) (fun r20 μ20 H locs hw h => ?_)
        exact r_iret X h hw dX6_hears_23
def wp_X6_lay (a1 : Int32) (a2 : Int32) (Q : Int32 → vM → Prop) (μ : vM) : Prop := wp_X6_isBit a1 (fun r2 μ2 => if r2 = 0 then wp_X6_error (1 : Int32) (fun r17 μ17 => Q r17 μ17) μ2 else wp_X6_isPlace a2 (fun r9 μ9 => if r9 = 0 then wp_X6_error (1 : Int32) (fun r17 μ17 => Q r17 μ17) μ9 else vp_in a1 8 ∧ ∃ x3_33 : Int32, x3_33 = μ9 9 a1.toNatClampNeg ∧ vp_in a1 8 ∧ ∃ μ46 : vM, μ46 = st μ9 9 a1.toNatClampNeg a2 ∧ Q x3_33 μ46) μ2) μ
set_option maxRecDepth 100000 in
set_option maxHeartbeats 4000000 in
theorem c_X6_lay (l : Launch) (G : vG) (hG : gO G) (a1 : Int32) (a2 : Int32) (h0 : isX6 G) (Q : Int32 → vM → Prop) (μ : vM) (hw : wp_X6_lay a1 a2 Q μ) : mt l G yX6_lay vX6_lay { frames := 1, cells := 0, slots := 0, locals := 21 } [.ref (ga G 0), .int a1, .int a2] μ (qI G Q) := by
  refine met_of (cc := cX6_lay) (maxL := 4) (ret := (some .int)) RX6 (by decide) rfl rfl hG (Nat.le_of_ble_eq_true rfl) ?_
  intro p e s m below meth c X h ls hl
  have hl : lv_has ls 4 [(0, .ref (ga G 0)), (1, .int a1), (2, .int a2)] := hl
  have hx := X.1
  have hb := X.2.1
  unfold wp_X6_lay at hw
  refine lv_aload_n hx hb dX6_lay_0 rfl (lv_at hl 0 rfl) ?_
  refine lv_iload_n hx hb dX6_lay_1 rfl (lv_at hl 1 rfl) ?_
  refine k_i h (n_V (rest := []) (As := [.int a1]) X h hl.1 (c_X6_isBit l G hG a1 h0 _ _ hw) gk_X6_116 rfl hd_X6_isBit ⟨rfl, rfl⟩ ⟨Nat.le_of_ble_eq_true rfl, Nat.le_of_ble_eq_true rfl⟩ (X6_o h0) rfl rfl (Nat.le_of_ble_eq_true rfl) dX6_lay_2 ⟨Nat.zero_le _, Nat.zero_le _⟩) (fun r2 μ2 H locs hw h => ?_)
  refine lv_if_eq (tgt := 15) hx hb dX6_lay_5 (by decide) (fun hc => ?_) (fun hc => ?_)
  · rw [if_pos hc] at hw
    refine lv_aload_n hx hb dX6_lay_15 rfl (lv_at hl 0 rfl) ?_
    refine lv_iconst (v := (1 : Int32)) hx hb dX6_lay_16 (by decide) ?_
    refine k_i h (n_V (rest := []) (As := [.int (1 : Int32)]) X h hl.1 (c_X6_error l G hG (1 : Int32) h0 _ _ hw) gk_X6_72 rfl hd_X6_error ⟨rfl, rfl⟩ ⟨Nat.le_of_ble_eq_true rfl, Nat.le_of_ble_eq_true rfl⟩ (X6_o h0) rfl rfl (Nat.le_of_ble_eq_true rfl) dX6_lay_17 ⟨Nat.zero_le _, Nat.zero_le _⟩) (fun r17 μ17 H locs hw h => ?_)
    exact r_iret X h hw dX6_lay_20
  · rw [if_neg hc] at hw
    refine lv_iload_n hx hb dX6_lay_8 rfl (lv_at hl 2 rfl) ?_
    refine k_i h (n_T (rest := []) (As := [.int a2]) X h hl.1 (c_X6_isPlace l G hG a2 _ _ hw) gk_X6_68 rfl hd_X6_isPlace ⟨rfl, rfl⟩ ⟨Nat.le_of_ble_eq_true rfl, Nat.le_of_ble_eq_true rfl⟩ rfl (Nat.le_of_ble_eq_true rfl) dX6_lay_9 ⟨Nat.zero_le _, Nat.zero_le _⟩) (fun r9 μ9 H locs hw h => ?_)
    refine lv_if_ne (tgt := 21) hx hb dX6_lay_12 (by decide) (fun hc => ?_) (fun hc => ?_)
    · rw [if_neg hc] at hw
      refine lv_aload_n hx hb dX6_lay_21 rfl (lv_at hl 0 rfl) ?_
      refine r_getR (q := 1) X h (X6_o h0) rfl uX6 0 (by decide) lf_1_225 rfl dX6_lay_22 ?_
      refine r_getR (q := 5) X h (X5_o (X6_now h0)) rfl uX5 1 (by decide) fn_16 rfl dX6_lay_25 ?_
      refine r_getR (q := 9) X h (X0_o (X5_harvest (X6_now h0))) rfl uX0 5 (by decide) fn_7 rfl dX6_lay_28 ?_
      refine lv_iload_n hx hb dX6_lay_31 rfl (lv_at hl 1 rfl) ?_
      obtain ⟨hi, hw⟩ := hw
      refine r_ald X h (X0_at (X5_harvest (X6_now h0))) hi dX6_lay_32 ?_
      obtain ⟨x3_33, ex3_33, hw⟩ := hw
      refine topE ex3_33 ?_
      refine lv_istore_n (lv' := [(3, .int x3_33), (0, .ref (ga G 0)), (1, .int a1), (2, .int a2)]) hx hb dX6_lay_33 rfl hl (by decide) rfl (fun ls hl => ?_)
      refine lv_aload_n hx hb dX6_lay_34 rfl (lv_at hl 1 rfl) ?_
      refine r_getR (q := 1) X h (X6_o h0) rfl uX6 0 (by decide) lf_1_225 rfl dX6_lay_35 ?_
      refine r_getR (q := 5) X h (X5_o (X6_now h0)) rfl uX5 1 (by decide) fn_16 rfl dX6_lay_38 ?_
      refine r_getR (q := 9) X h (X0_o (X5_harvest (X6_now h0))) rfl uX0 5 (by decide) fn_7 rfl dX6_lay_41 ?_
      refine lv_iload_n hx hb dX6_lay_44 rfl (lv_at hl 2 rfl) ?_
      refine lv_iload_n hx hb dX6_lay_45 rfl (lv_at hl 3 rfl) ?_
      obtain ⟨hi, μ46, eμ46, hw⟩ := hw
      refine r_ast X h (X0_at (X5_harvest (X6_now h0))) hi eμ46 dX6_lay_46 (fun H locs h => ?_)
      refine lv_iload_n hx hb dX6_lay_47 rfl (lv_at hl 0 rfl) ?_
      exact r_iret X h hw dX6_lay_48
    · rw [if_pos hc] at hw
      refine lv_aload_n hx hb dX6_lay_15 rfl (lv_at hl 0 rfl) ?_
      refine lv_iconst (v := (1 : Int32)) hx hb dX6_lay_16 (by decide) ?_
      refine k_i h (n_V (rest := []) (As := [.int (1 : Int32)]) X h hl.1 (c_X6_error l G hG (1 : Int32) h0 _ _ hw) gk_X6_72 rfl hd_X6_error ⟨rfl, rfl⟩ ⟨Nat.le_of_ble_eq_true rfl, Nat.le_of_ble_eq_true rfl⟩ (X6_o h0) rfl rfl (Nat.le_of_ble_eq_true rfl) dX6_lay_17 ⟨Nat.zero_le _, Nat.zero_le _⟩) (fun r17 μ17 H locs hw h => ?_)
      exact r_iret X h hw dX6_lay_20
def wp_X6_feed_40 (a1 : Int64) (a3 : Int32) (Q : Int32 → vM → Prop) : Nat → Int32 → vM → Prop
  | 0, _, _ => False
  | n40 + 1, x4, μ => if a3 ≤ x4 then ∃ μ92 : vM, μ92 = st μ 1 5 ((μ 1 5) + a3) ∧ Q (μ92 1 5) μ92 else vp_in ((μ 1 5) + x4) 60 ∧ ∃ μ75 : vM, μ75 = st μ 18 ((μ 1 5) + x4).toNatClampNeg ((((a1.toUInt64 >>> (((8 : Int32) * x4).toInt64.toUInt64 &&& Int64.toUInt64 63)).toInt64).toInt32) &&& (255 : Int32)) ∧ ∃ x4_76 : Int32, x4_76 = x4 + (1 : Int32) ∧ wp_X6_feed_40 a1 a3 Q n40 x4_76 μ75
def wp_X6_feed (a1 : Int64) (a3 : Int32) (Q : Int32 → vM → Prop) (μ : vM) : Prop := if a3 < (1 : Int32) then wp_X6_error (1 : Int32) (fun r13 μ13 => Q r13 μ13) μ else if a3 ≤ (8 : Int32) then if ((μ 1 5) + a3) ≤ (60 : Int32) then ∃ n40, wp_X6_feed_40 a1 a3 Q n40 (0 : Int32) μ else wp_X6_error (4 : Int32) (fun r33 μ33 => Q r33 μ33) μ else wp_X6_error (1 : Int32) (fun r13 μ13 => Q r13 μ13) μ
set_option maxRecDepth 100000 in
set_option maxHeartbeats 4000000 in
theorem c_X6_feed (l : Launch) (G : vG) (hG : gO G) (a1 : Int64) (a3 : Int32) (h0 : isX6 G) (Q : Int32 → vM → Prop) (μ : vM) (hw : wp_X6_feed a1 a3 Q μ) : mt l G yX6_feed vX6_feed { frames := 1, cells := 0, slots := 0, locals := 21 } [.ref (ga G 0), .long a1, .int a3] μ (qI G Q) := by
  refine met_of (cc := cX6_feed) (maxL := 5) (ret := (some .int)) RX6 (by decide) rfl rfl hG (Nat.le_of_ble_eq_true rfl) ?_
  intro p e s m below meth c X h ls hl
  have hl : lv_has ls 5 [(0, .ref (ga G 0)), (1, .long a1), (3, .int a3)] := hl
  have hx := X.1
  have hb := X.2.1
  unfold wp_X6_feed at hw
  refine lv_iload_n hx hb dX6_feed_0 rfl (lv_at hl 2 rfl) ?_
  refine lv_iconst (v := (1 : Int32)) hx hb dX6_feed_1 (by decide) ?_
  refine lv_icmp_lt (tgt := 11) hx hb dX6_feed_2 (by decide) (fun hc => ?_) (fun hc => ?_)
  · rw [if_pos hc] at hw
    refine lv_aload_n hx hb dX6_feed_11 rfl (lv_at hl 0 rfl) ?_
    refine lv_iconst (v := (1 : Int32)) hx hb dX6_feed_12 (by decide) ?_
    refine k_i h (n_V (rest := []) (As := [.int (1 : Int32)]) X h hl.1 (c_X6_error l G hG (1 : Int32) h0 _ _ hw) gk_X6_72 rfl hd_X6_error ⟨rfl, rfl⟩ ⟨Nat.le_of_ble_eq_true rfl, Nat.le_of_ble_eq_true rfl⟩ (X6_o h0) rfl rfl (Nat.le_of_ble_eq_true rfl) dX6_feed_13 ⟨Nat.zero_le _, Nat.zero_le _⟩) (fun r13 μ13 H locs hw h => ?_)
    exact r_iret X h hw dX6_feed_16
  · rw [if_neg hc] at hw
    refine lv_iload_n hx hb dX6_feed_5 rfl (lv_at hl 2 rfl) ?_
    refine lv_bipush (v := (8 : Int32)) hx hb dX6_feed_6 (by decide) ?_
    refine lv_icmp_le (tgt := 17) hx hb dX6_feed_8 (by decide) (fun hc => ?_) (fun hc => ?_)
    · rw [if_pos hc] at hw
      refine lv_aload_n hx hb dX6_feed_17 rfl (lv_at hl 0 rfl) ?_
      refine r_getR (q := 1) X h (X6_o h0) rfl uX6 0 (by decide) lf_1_225 rfl dX6_feed_18 ?_
      refine r_getI X h (X5_o (X6_now h0)) rfl uX5 5 (by decide) fn_20 rfl dX6_feed_21 ?_
      refine lv_iload_n hx hb dX6_feed_24 rfl (lv_at hl 2 rfl) ?_
      refine lv_iadd hx hb dX6_feed_25 ?_
      refine lv_bipush (v := (60 : Int32)) hx hb dX6_feed_26 (by decide) ?_
      refine lv_icmp_le (tgt := 37) hx hb dX6_feed_28 (by decide) (fun hc => ?_) (fun hc => ?_)
      · rw [if_pos hc] at hw
        refine lv_iconst (v := (0 : Int32)) hx hb dX6_feed_37 (by decide) ?_
        refine lv_istore (lv' := [(4, .int (0 : Int32)), (0, .ref (ga G 0)), (1, .long a1), (3, .int a3)]) hx hb dX6_feed_38 hl (by decide) rfl (fun ls hl => ?_)
        have s40 : ∀ (n40 : Nat) (x4 : Int32) (μ : vM), ∀ (H : Heap) (locs : List Loc) (ls : Array Slot), bw G s μ H locs → lv_has ls 5 [(0, .ref (ga G 0)), (1, .long a1), (3, .int a3), (4, .int x4)] → wp_X6_feed_40 a1 a3 Q n40 x4 μ → W p l e ({ frames := 1, cells := 0, slots := 0, locals := 21 } : Room) s m ([.ref (ga G 0), .long a1, .int a3] : List Value).toArray below meth c H locs 0 0 (MQ below (qI G Q) ([.ref (ga G 0), .long a1, .int a3] : List Value).toArray s 0 0 (gA G)) (F0 m 40 ls []) := by
          intro n40
          induction n40 with
          | zero => intro x4 μ H locs ls h hl hw; exact absurd hw (by unfold wp_X6_feed_40; exact id)
          | succ n40 ih40 =>
            intro x4 μ H locs ls h hl hw
            unfold wp_X6_feed_40 at hw
            refine lv_iload hx hb dX6_feed_40 (lv_at hl 3 rfl) ?_
            refine lv_iload_n hx hb dX6_feed_42 rfl (lv_at hl 2 rfl) ?_
            refine lv_icmp_ge (tgt := 82) hx hb dX6_feed_43 (by decide) (fun hc => ?_) (fun hc => ?_)
            · rw [if_pos hc] at hw
              refine lv_aload_n hx hb dX6_feed_82 rfl (lv_at hl 0 rfl) ?_
              refine r_getR (q := 1) X h (X6_o h0) rfl uX6 0 (by decide) lf_1_225 rfl dX6_feed_83 ?_
              refine lv_dup hx hb dX6_feed_86 rfl ?_
              refine r_getI X h (X5_o (X6_now h0)) rfl uX5 5 (by decide) fn_20 rfl dX6_feed_87 ?_
              refine lv_iload_n hx hb dX6_feed_90 rfl (lv_at hl 2 rfl) ?_
              refine lv_iadd hx hb dX6_feed_91 ?_
              obtain ⟨μ92, eμ92, hw⟩ := hw
              refine r_putI X h (X5_o (X6_now h0)) rfl uX5 tyX5 tyX5_ok nmX5 5 (by decide) fn_20 rfl rfl rfl  eμ92 dX6_feed_92 (fun H locs h => ?_)
              refine lv_aload_n hx hb dX6_feed_95 rfl (lv_at hl 0 rfl) ?_
              refine r_getR (q := 1) X h (X6_o h0) rfl uX6 0 (by decide) lf_1_225 rfl dX6_feed_96 ?_
              refine r_getI X h (X5_o (X6_now h0)) rfl uX5 5 (by decide) fn_20 rfl dX6_feed_99 ?_
              exact r_iret X h hw dX6_feed_102
            · rw [if_neg hc] at hw
              refine lv_aload_n hx hb dX6_feed_46 rfl (lv_at hl 0 rfl) ?_
              refine r_getR (q := 1) X h (X6_o h0) rfl uX6 0 (by decide) lf_1_225 rfl dX6_feed_47 ?_
              refine r_getR (q := 18) X h (X5_o (X6_now h0)) rfl uX5 4 (by decide) fn_19 rfl dX6_feed_50 ?_
              refine lv_aload_n hx hb dX6_feed_53 rfl (lv_at hl 0 rfl) ?_
              refine r_getR (q := 1) X h (X6_o h0) rfl uX6 0 (by decide) lf_1_225 rfl dX6_feed_54 ?_
              refine r_getI X h (X5_o (X6_now h0)) rfl uX5 5 (by decide) fn_20 rfl dX6_feed_57 ?_
              refine lv_iload hx hb dX6_feed_60 (lv_at hl 3 rfl) ?_
              refine lv_iadd hx hb dX6_feed_62 ?_
              refine lv_lload_n hx hb dX6_feed_63 rfl (lv_at hl 1 rfl) ?_
              refine lv_bipush (v := (8 : Int32)) hx hb dX6_feed_64 (by decide) ?_
              refine lv_iload hx hb dX6_feed_66 (lv_at hl 3 rfl) ?_
              refine lv_imul hx hb dX6_feed_68 ?_
              refine lv_lushr hx hb dX6_feed_69 rfl ?_
              refine lv_l2i hx hb dX6_feed_70 rfl ?_
              refine lv_sipush (v := (255 : Int32)) hx hb dX6_feed_71 (by decide) ?_
              refine lv_iand hx hb dX6_feed_74 ?_
              obtain ⟨hi, μ75, eμ75, hw⟩ := hw
              refine r_ast X h (X5_tape (X6_now h0)) hi eμ75 dX6_feed_75 (fun H locs h => ?_)
              obtain ⟨x4_76, ex4_76, hw⟩ := hw
              refine lv_iinc (v := x4_76) (lv' := [(4, .int x4_76), (0, .ref (ga G 0)), (1, .long a1), (3, .int a3)]) hx hb dX6_feed_76 hl (k := 3) rfl (by rw [ex4_76]; rfl) (by decide) rfl (fun ls hl => ?_)
              refine lv_goto (tgt := 40) hx hb dX6_feed_79 (by decide) ?_
              exact ih40 x4_76 μ75 _ _ _ h (lv_sub hl [1, 2, 3, 0] rfl) hw
        obtain ⟨n, hw⟩ := hw
        exact s40 n (0 : Int32) μ _ _ _ h (lv_sub hl [1, 2, 3, 0] rfl) hw
      · rw [if_neg hc] at hw
        refine lv_aload_n hx hb dX6_feed_31 rfl (lv_at hl 0 rfl) ?_
        refine lv_iconst (v := (4 : Int32)) hx hb dX6_feed_32 (by decide) ?_
        refine k_i h (n_V (rest := []) (As := [.int (4 : Int32)]) X h hl.1 (c_X6_error l G hG (4 : Int32) h0 _ _ hw) gk_X6_72 rfl hd_X6_error ⟨rfl, rfl⟩ ⟨Nat.le_of_ble_eq_true rfl, Nat.le_of_ble_eq_true rfl⟩ (X6_o h0) rfl rfl (Nat.le_of_ble_eq_true rfl) dX6_feed_33 ⟨Nat.zero_le _, Nat.zero_le _⟩) (fun r33 μ33 H locs hw h => ?_)
        exact r_iret X h hw dX6_feed_36
    · rw [if_neg hc] at hw
      refine lv_aload_n hx hb dX6_feed_11 rfl (lv_at hl 0 rfl) ?_
      refine lv_iconst (v := (1 : Int32)) hx hb dX6_feed_12 (by decide) ?_
      refine k_i h (n_V (rest := []) (As := [.int (1 : Int32)]) X h hl.1 (c_X6_error l G hG (1 : Int32) h0 _ _ hw) gk_X6_72 rfl hd_X6_error ⟨rfl, rfl⟩ ⟨Nat.le_of_ble_eq_true rfl, Nat.le_of_ble_eq_true rfl⟩ (X6_o h0) rfl rfl (Nat.le_of_ble_eq_true rfl) dX6_feed_13 ⟨Nat.zero_le _, Nat.zero_le _⟩) (fun r13 μ13 H locs hw h => ?_)
      exact r_iret X h hw dX6_feed_16
def wp_X6_isUse_13 (a0 : Int32) (Q : Int32 → vM → Prop)  (μ : vM) : Prop := Q (0 : Int32) μ
def wp_X6_isUse (a0 : Int32) (Q : Int32 → vM → Prop) (μ : vM) : Prop := if a0 < 0 then wp_X6_isUse_13 a0 Q μ else if (2 : Int32) ≤ a0 then wp_X6_isUse_13 a0 Q μ else Q (1 : Int32) μ
set_option maxRecDepth 100000 in
set_option maxHeartbeats 4000000 in
theorem c_X6_isUse (l : Launch) (G : vG) (hG : gO G) (a0 : Int32)  (Q : Int32 → vM → Prop) (μ : vM) (hw : wp_X6_isUse a0 Q μ) : mt l G yX6_isUse vX6_isUse { frames := 0, cells := 0, slots := 0, locals := 0 } [.int a0] μ (qI G Q) := by
  refine met_of (cc := cX6_isUse) (maxL := 1) (ret := (some .boolean)) RX6 (by decide) rfl rfl hG (Nat.le_of_ble_eq_true rfl) ?_
  intro p e s m below meth c X h ls hl
  have hl : lv_has ls 1 [(0, .int a0)] := hl
  have hx := X.1
  have hb := X.2.1
  unfold wp_X6_isUse at hw
  refine lv_iload_n hx hb dX6_isUse_0 rfl (lv_at hl 0 rfl) ?_
  have s13 : ∀  (μ : vM), ∀ (H : Heap) (locs : List Loc) (ls : Array Slot), bw G s μ H locs → lv_has ls 1 [] → wp_X6_isUse_13 a0 Q μ → W p l e ({ frames := 0, cells := 0, slots := 0, locals := 0 } : Room) s m ([.int a0] : List Value).toArray below meth c H locs 0 0 (MQ below (qI G Q) ([.int a0] : List Value).toArray s 0 0 (gA G)) (F0 m 13 ls []) := by
    intro  μ H locs ls h hl hw
    unfold wp_X6_isUse_13 at hw
    refine lv_iconst (v := (0 : Int32)) hx hb dX6_isUse_13 (by decide) ?_
    exact r_zret X h (Or.inl rfl) hw dX6_isUse_14
  refine lv_if_lt (tgt := 13) hx hb dX6_isUse_1 (by decide) (fun hc => ?_) (fun hc => ?_)
  · rw [if_pos hc] at hw
    exact s13 μ _ _ _ h (lv_sub hl [] rfl) hw
  · rw [if_neg hc] at hw
    refine lv_iload_n hx hb dX6_isUse_4 rfl (lv_at hl 0 rfl) ?_
    refine lv_iconst (v := (2 : Int32)) hx hb dX6_isUse_5 (by decide) ?_
    refine lv_icmp_ge (tgt := 13) hx hb dX6_isUse_6 (by decide) (fun hc => ?_) (fun hc => ?_)
    · rw [if_pos hc] at hw
      exact s13 μ _ _ _ h (lv_sub hl [] rfl) hw
    · rw [if_neg hc] at hw
      refine lv_iconst (v := (1 : Int32)) hx hb dX6_isUse_9 (by decide) ?_
      refine lv_goto (tgt := 14) hx hb dX6_isUse_10 (by decide) ?_
      exact r_zret X h (Or.inr rfl) hw dX6_isUse_14
def wp_X6_lawOf (a1 : Int32) (Q : Nat → vM → Prop) (μ : vM) : Prop := if a1 = 0 then Q 12 μ else Q 15 μ
set_option maxRecDepth 100000 in
set_option maxHeartbeats 4000000 in
theorem c_X6_lawOf (l : Launch) (G : vG) (hG : gO G) (a1 : Int32) (h0 : isX6 G) (Q : Nat → vM → Prop) (μ : vM) (hw : wp_X6_lawOf a1 Q μ) : mt l G yX6_lawOf vX6_lawOf { frames := 0, cells := 0, slots := 0, locals := 0 } [.ref (ga G 0), .int a1] μ (qP G (fun r μ => (r = 12 ∨ r = 15) ∧ Q r μ)) := by
  refine met_of (cc := cX6_lawOf) (maxL := 2) (ret := (some (.object "CrumbsHome$Law"))) RX6 (by decide) rfl rfl hG (Nat.le_of_ble_eq_true rfl) ?_
  intro p e s m below meth c X h ls hl
  have hl : lv_has ls 2 [(0, .ref (ga G 0)), (1, .int a1)] := hl
  have hx := X.1
  have hb := X.2.1
  unfold wp_X6_lawOf at hw
  refine lv_iload_n hx hb dX6_lawOf_0 rfl (lv_at hl 1 rfl) ?_
  refine lv_if_ne (tgt := 14) hx hb dX6_lawOf_1 (by decide) (fun hc => ?_) (fun hc => ?_)
  · rw [if_neg hc] at hw
    refine lv_aload_n hx hb dX6_lawOf_14 rfl (lv_at hl 0 rfl) ?_
    refine r_getR (q := 1) X h (X6_o h0) rfl uX6 0 (by decide) lf_1_225 rfl dX6_lawOf_15 ?_
    refine r_getR (q := 15) X h (X5_o (X6_now h0)) rfl uX5 3 (by decide) fn_18 rfl dX6_lawOf_18 ?_
    exact r_pret X h ⟨Or.inr rfl, hw⟩ dX6_lawOf_21
  · rw [if_pos hc] at hw
    refine lv_aload_n hx hb dX6_lawOf_4 rfl (lv_at hl 0 rfl) ?_
    refine r_getR (q := 1) X h (X6_o h0) rfl uX6 0 (by decide) lf_1_225 rfl dX6_lawOf_5 ?_
    refine r_getR (q := 12) X h (X5_o (X6_now h0)) rfl uX5 2 (by decide) fn_17 rfl dX6_lawOf_8 ?_
    refine lv_goto (tgt := 21) hx hb dX6_lawOf_11 (by decide) ?_
    exact r_pret X h ⟨Or.inl rfl, hw⟩ dX6_lawOf_21
def wp_X6_text (a1 : Int32) (Q : Int32 → vM → Prop) (μ : vM) : Prop := wp_X6_isUse a1 (fun r1 μ1 => if r1 = 0 then wp_X6_error (1 : Int32) (fun r9 μ9 => Q r9 μ9) μ1 else wp_X6_lawOf a1 (fun r15 μ15 => wp_X2_reads 50 18 60 (μ15 1 5) (μ15 r15 0) (fun r41 μ41 => ∃ μ50 : vM, μ50 = st μ41 1 5 (0 : Int32) ∧ if r41 < 0 then wp_X1_take r15 51 60 (μ50 50 1) (fun μ77 => Q (1 : Int32) μ77) μ50 else Q ((-10 : Int32) - r41) μ50) μ15) μ1) μ
set_option maxRecDepth 100000 in
set_option maxHeartbeats 4000000 in
theorem c_X6_text (l : Launch) (G : vG) (hG : gO G) (a1 : Int32) (h0 : isX6 G) (Q : Int32 → vM → Prop) (μ : vM) (hw : wp_X6_text a1 Q μ) : mt l G yX6_text vX6_text { frames := 252, cells := 0, slots := 0, locals := 7885 } [.ref (ga G 0), .int a1] μ (qI G Q) := by
  refine met_of (cc := cX6_text) (maxL := 4) (ret := (some .int)) RX6 (by decide) rfl rfl hG (Nat.le_of_ble_eq_true rfl) ?_
  intro p e s m below meth c X h ls hl
  have hl : lv_has ls 4 [(0, .ref (ga G 0)), (1, .int a1)] := hl
  have hx := X.1
  have hb := X.2.1
  unfold wp_X6_text at hw
  refine lv_iload_n hx hb dX6_text_0 rfl (lv_at hl 1 rfl) ?_
  refine k_i h (n_T (rest := []) (As := [.int a1]) X h hl.1 (c_X6_isUse l G hG a1 _ _ hw) gk_X6_154 rfl hd_X6_isUse ⟨rfl, rfl⟩ ⟨Nat.le_of_ble_eq_true rfl, Nat.le_of_ble_eq_true rfl⟩ rfl (Nat.le_of_ble_eq_true rfl) dX6_text_1 ⟨Nat.zero_le _, Nat.zero_le _⟩) (fun r1 μ1 H locs hw h => ?_)
  refine lv_if_ne (tgt := 13) hx hb dX6_text_4 (by decide) (fun hc => ?_) (fun hc => ?_)
  · rw [if_neg hc] at hw
    refine lv_aload_n hx hb dX6_text_13 rfl (lv_at hl 0 rfl) ?_
    refine lv_iload_n hx hb dX6_text_14 rfl (lv_at hl 1 rfl) ?_
    refine k_p h (n_V (rest := []) (As := [.int a1]) X h hl.1 (c_X6_lawOf l G hG a1 h0 _ _ hw) gk_X6_157 rfl hd_X6_lawOf ⟨rfl, rfl⟩ ⟨Nat.le_of_ble_eq_true rfl, Nat.le_of_ble_eq_true rfl⟩ (X6_o h0) rfl rfl (Nat.le_of_ble_eq_true rfl) dX6_text_15 ⟨Nat.zero_le _, Nat.zero_le _⟩) (fun r15 μ15 H locs hw h => ?_)
    obtain ⟨hrp, hw⟩ := hw
    have hL15 : isX1 G r15 := by rcases hrp with rfl | rfl; exact X5_steps (X6_now h0); exact X5_worth (X6_now h0)
    refine lv_astore_n (lv' := [(2, .ref (ga G r15)), (0, .ref (ga G 0)), (1, .int a1)]) hx hb dX6_text_18 rfl hl (by decide) rfl (fun ls hl => ?_)
    refine lv_aload_n hx hb dX6_text_19 rfl (lv_at hl 1 rfl) ?_
    refine r_getR (q := 50) X h (X6_o h0) rfl uX6 6 (by decide) lf_1_231 rfl dX6_text_20 ?_
    refine lv_aload_n hx hb dX6_text_23 rfl (lv_at hl 1 rfl) ?_
    refine r_getR (q := 1) X h (X6_o h0) rfl uX6 0 (by decide) lf_1_225 rfl dX6_text_24 ?_
    refine r_getR (q := 18) X h (X5_o (X6_now h0)) rfl uX5 4 (by decide) fn_19 rfl dX6_text_27 ?_
    refine lv_aload_n hx hb dX6_text_30 rfl (lv_at hl 1 rfl) ?_
    refine r_getR (q := 1) X h (X6_o h0) rfl uX6 0 (by decide) lf_1_225 rfl dX6_text_31 ?_
    refine r_getI X h (X5_o (X6_now h0)) rfl uX5 5 (by decide) fn_20 rfl dX6_text_34 ?_
    refine lv_aload_n hx hb dX6_text_37 rfl (lv_at hl 0 rfl) ?_
    refine r_getS X h (X1_o hL15) rfl uX1 0 (by decide) fn_11 rfl dX6_text_38 ?_
    refine k_i h (n_V (rest := []) (As := [.ref (ga G 18), .int (μ15 1 5), .ref (gS G (μ15 r15 0).toNatClampNeg)]) X h hl.1 (c_X2_reads l G hG 50 18 60 (μ15 1 5) (μ15 r15 0) (X6_reader h0) (X5_tape (X6_now h0)) _ _ hw) gk_X6_167 rfl hd_X2_reads ⟨rfl, rfl⟩ ⟨Nat.le_of_ble_eq_true rfl, Nat.le_of_ble_eq_true rfl⟩ (X2_o (X6_reader h0)) rfl rfl (Nat.le_of_ble_eq_true rfl) dX6_text_41 ⟨Nat.zero_le _, Nat.zero_le _⟩) (fun r41 μ41 H locs hw h => ?_)
    refine lv_istore_n (lv' := [(3, .int r41), (2, .ref (ga G r15)), (0, .ref (ga G 0)), (1, .int a1)]) hx hb dX6_text_44 rfl hl (by decide) rfl (fun ls hl => ?_)
    refine lv_aload_n hx hb dX6_text_45 rfl (lv_at hl 2 rfl) ?_
    refine r_getR (q := 1) X h (X6_o h0) rfl uX6 0 (by decide) lf_1_225 rfl dX6_text_46 ?_
    refine lv_iconst (v := (0 : Int32)) hx hb dX6_text_49 (by decide) ?_
    obtain ⟨μ50, eμ50, hw⟩ := hw
    refine r_putI X h (X5_o (X6_now h0)) rfl uX5 tyX5 tyX5_ok nmX5 5 (by decide) fn_20 rfl rfl rfl  eμ50 dX6_text_50 (fun H locs h => ?_)
    refine lv_iload_n hx hb dX6_text_53 rfl (lv_at hl 0 rfl) ?_
    refine lv_if_lt (tgt := 62) hx hb dX6_text_54 (by decide) (fun hc => ?_) (fun hc => ?_)
    · rw [if_pos hc] at hw
      refine lv_aload_n hx hb dX6_text_62 rfl (lv_at hl 1 rfl) ?_
      refine lv_aload_n hx hb dX6_text_63 rfl (lv_at hl 2 rfl) ?_
      refine r_getR (q := 50) X h (X6_o h0) rfl uX6 6 (by decide) lf_1_231 rfl dX6_text_64 ?_
      refine r_getR (q := 51) X h (X2_o (X6_reader h0)) rfl uX2 0 (by decide) fn_24 rfl dX6_text_67 ?_
      refine lv_aload_n hx hb dX6_text_70 rfl (lv_at hl 2 rfl) ?_
      refine r_getR (q := 50) X h (X6_o h0) rfl uX6 6 (by decide) lf_1_231 rfl dX6_text_71 ?_
      refine r_getI X h (X2_o (X6_reader h0)) rfl uX2 1 (by decide) fn_25 rfl dX6_text_74 ?_
      refine k_v h (n_V (rest := []) (As := [.ref (ga G 51), .int (μ50 50 1)]) X h hl.1 (c_X1_take l G hG r15 51 60 (μ50 50 1) hL15 (X2_code (X6_reader h0)) _ _ hw) gk_X6_177 rfl hd_X1_take ⟨rfl, rfl⟩ ⟨Nat.le_of_ble_eq_true rfl, Nat.le_of_ble_eq_true rfl⟩ (X1_o hL15) rfl rfl (Nat.le_of_ble_eq_true rfl) dX6_text_77 ⟨Nat.zero_le _, Nat.zero_le _⟩) (fun μ77 H locs hw h => ?_)
      refine lv_iconst (v := (1 : Int32)) hx hb dX6_text_80 (by decide) ?_
      exact r_iret X h hw dX6_text_81
    · rw [if_neg hc] at hw
      refine lv_bipush (v := (-10 : Int32)) hx hb dX6_text_57 (by decide) ?_
      refine lv_iload_n hx hb dX6_text_59 rfl (lv_at hl 0 rfl) ?_
      refine lv_isub hx hb dX6_text_60 ?_
      exact r_iret X h hw dX6_text_61
  · rw [if_pos hc] at hw
    refine lv_aload_n hx hb dX6_text_7 rfl (lv_at hl 0 rfl) ?_
    refine lv_iconst (v := (1 : Int32)) hx hb dX6_text_8 (by decide) ?_
    refine k_i h (n_V (rest := []) (As := [.int (1 : Int32)]) X h hl.1 (c_X6_error l G hG (1 : Int32) h0 _ _ hw) gk_X6_72 rfl hd_X6_error ⟨rfl, rfl⟩ ⟨Nat.le_of_ble_eq_true rfl, Nat.le_of_ble_eq_true rfl⟩ (X6_o h0) rfl rfl (Nat.le_of_ble_eq_true rfl) dX6_text_9 ⟨Nat.zero_le _, Nat.zero_le _⟩) (fun r9 μ9 H locs hw h => ?_)
    exact r_iret X h hw dX6_text_12
def wp_X6_untell (a1 : Int32) (Q : Int32 → vM → Prop) (μ : vM) : Prop := wp_X6_isUse a1 (fun r1 μ1 => if r1 = 0 then wp_X6_error (1 : Int32) (fun r9 μ9 => Q r9 μ9) μ1 else wp_X6_lawOf a1 (fun r15 μ15 => if (μ15 r15 4) ≤ 0 then ∃ μ34 : vM, μ34 = st μ15 r15 4 (0 : Int32) ∧ Q (0 : Int32) μ34 else ∃ μ34 : vM, μ34 = st μ15 r15 4 (0 : Int32) ∧ Q (1 : Int32) μ34) μ1) μ
set_option maxRecDepth 100000 in
set_option maxHeartbeats 4000000 in
theorem c_X6_untell (l : Launch) (G : vG) (hG : gO G) (a1 : Int32) (h0 : isX6 G) (Q : Int32 → vM → Prop) (μ : vM) (hw : wp_X6_untell a1 Q μ) : mt l G yX6_untell vX6_untell { frames := 1, cells := 0, slots := 0, locals := 21 } [.ref (ga G 0), .int a1] μ (qI G Q) := by
  refine met_of (cc := cX6_untell) (maxL := 4) (ret := (some .int)) RX6 (by decide) rfl rfl hG (Nat.le_of_ble_eq_true rfl) ?_
  intro p e s m below meth c X h ls hl
  have hl : lv_has ls 4 [(0, .ref (ga G 0)), (1, .int a1)] := hl
  have hx := X.1
  have hb := X.2.1
  unfold wp_X6_untell at hw
  refine lv_iload_n hx hb dX6_untell_0 rfl (lv_at hl 1 rfl) ?_
  refine k_i h (n_T (rest := []) (As := [.int a1]) X h hl.1 (c_X6_isUse l G hG a1 _ _ hw) gk_X6_154 rfl hd_X6_isUse ⟨rfl, rfl⟩ ⟨Nat.le_of_ble_eq_true rfl, Nat.le_of_ble_eq_true rfl⟩ rfl (Nat.le_of_ble_eq_true rfl) dX6_untell_1 ⟨Nat.zero_le _, Nat.zero_le _⟩) (fun r1 μ1 H locs hw h => ?_)
  refine lv_if_ne (tgt := 13) hx hb dX6_untell_4 (by decide) (fun hc => ?_) (fun hc => ?_)
  · rw [if_neg hc] at hw
    refine lv_aload_n hx hb dX6_untell_13 rfl (lv_at hl 0 rfl) ?_
    refine lv_iload_n hx hb dX6_untell_14 rfl (lv_at hl 1 rfl) ?_
    refine k_p h (n_V (rest := []) (As := [.int a1]) X h hl.1 (c_X6_lawOf l G hG a1 h0 _ _ hw) gk_X6_157 rfl hd_X6_lawOf ⟨rfl, rfl⟩ ⟨Nat.le_of_ble_eq_true rfl, Nat.le_of_ble_eq_true rfl⟩ (X6_o h0) rfl rfl (Nat.le_of_ble_eq_true rfl) dX6_untell_15 ⟨Nat.zero_le _, Nat.zero_le _⟩) (fun r15 μ15 H locs hw h => ?_)
    obtain ⟨hrp, hw⟩ := hw
    have hL15 : isX1 G r15 := by rcases hrp with rfl | rfl; exact X5_steps (X6_now h0); exact X5_worth (X6_now h0)
    refine lv_astore_n (lv' := [(2, .ref (ga G r15)), (0, .ref (ga G 0)), (1, .int a1)]) hx hb dX6_untell_18 rfl hl (by decide) rfl (fun ls hl => ?_)
    refine lv_aload_n hx hb dX6_untell_19 rfl (lv_at hl 0 rfl) ?_
    refine r_getI X h (X1_o hL15) rfl uX1 4 (by decide) fn_14 rfl dX6_untell_20 ?_
    refine lv_if_le (tgt := 30) hx hb dX6_untell_23 (by decide) (fun hc => ?_) (fun hc => ?_)
    · rw [if_pos hc] at hw
      refine lv_iconst (v := (0 : Int32)) hx hb dX6_untell_30 (by decide) ?_
      refine lv_istore_n (lv' := [(3, .int (0 : Int32)), (2, .ref (ga G r15)), (0, .ref (ga G 0)), (1, .int a1)]) hx hb dX6_untell_31 rfl hl (by decide) rfl (fun ls hl => ?_)
      refine lv_aload_n hx hb dX6_untell_32 rfl (lv_at hl 1 rfl) ?_
      refine lv_iconst (v := (0 : Int32)) hx hb dX6_untell_33 (by decide) ?_
      obtain ⟨μ34, eμ34, hw⟩ := hw
      refine r_putI X h (X1_o hL15) rfl uX1 tyX1 tyX1_ok nmX1 4 (by decide) fn_14 rfl rfl rfl  eμ34 dX6_untell_34 (fun H locs h => ?_)
      refine lv_iload_n hx hb dX6_untell_37 rfl (lv_at hl 0 rfl) ?_
      exact r_iret X h hw dX6_untell_38
    · rw [if_neg hc] at hw
      refine lv_iconst (v := (1 : Int32)) hx hb dX6_untell_26 (by decide) ?_
      refine lv_goto (tgt := 31) hx hb dX6_untell_27 (by decide) ?_
      refine lv_istore_n (lv' := [(3, .int (1 : Int32)), (2, .ref (ga G r15)), (0, .ref (ga G 0)), (1, .int a1)]) hx hb dX6_untell_31 rfl hl (by decide) rfl (fun ls hl => ?_)
      refine lv_aload_n hx hb dX6_untell_32 rfl (lv_at hl 1 rfl) ?_
      refine lv_iconst (v := (0 : Int32)) hx hb dX6_untell_33 (by decide) ?_
      obtain ⟨μ34, eμ34, hw⟩ := hw
      refine r_putI X h (X1_o hL15) rfl uX1 tyX1 tyX1_ok nmX1 4 (by decide) fn_14 rfl rfl rfl  eμ34 dX6_untell_34 (fun H locs h => ?_)
      refine lv_iload_n hx hb dX6_untell_37 rfl (lv_at hl 0 rfl) ?_
      exact r_iret X h hw dX6_untell_38
  · rw [if_pos hc] at hw
    refine lv_aload_n hx hb dX6_untell_7 rfl (lv_at hl 0 rfl) ?_
    refine lv_iconst (v := (1 : Int32)) hx hb dX6_untell_8 (by decide) ?_
    refine k_i h (n_V (rest := []) (As := [.int (1 : Int32)]) X h hl.1 (c_X6_error l G hG (1 : Int32) h0 _ _ hw) gk_X6_72 rfl hd_X6_error ⟨rfl, rfl⟩ ⟨Nat.le_of_ble_eq_true rfl, Nat.le_of_ble_eq_true rfl⟩ (X6_o h0) rfl rfl (Nat.le_of_ble_eq_true rfl) dX6_untell_9 ⟨Nat.zero_le _, Nat.zero_le _⟩) (fun r9 μ9 H locs hw h => ?_)
    exact r_iret X h hw dX6_untell_12
def wp_X6_law (a1 : Int32) (a2 : Int32) (a3 : Int32) (a4 : Int32) (Q : Int32 → vM → Prop) (μ : vM) : Prop := wp_X6_isUse a1 (fun r1 μ1 => if r1 = 0 then wp_X6_error (1 : Int32) (fun r9 μ9 => Q r9 μ9) μ1 else wp_X6_lawOf a1 (fun r15 μ15 => wp_X1_gives r15 a2 a3 a4 (fun r22 μ22 => Q r22 μ22) μ15) μ1) μ
set_option maxRecDepth 100000 in
set_option maxHeartbeats 4000000 in
theorem c_X6_law (l : Launch) (G : vG) (hG : gO G) (a1 : Int32) (a2 : Int32) (a3 : Int32) (a4 : Int32) (h0 : isX6 G) (Q : Int32 → vM → Prop) (μ : vM) (hw : wp_X6_law a1 a2 a3 a4 Q μ) : mt l G yX6_law vX6_law { frames := 3, cells := 0, slots := 0, locals := 72 } [.ref (ga G 0), .int a1, .int a2, .int a3, .int a4] μ (qI G Q) := by
  refine met_of (cc := cX6_law) (maxL := 5) (ret := (some .int)) RX6 (by decide) rfl rfl hG (Nat.le_of_ble_eq_true rfl) ?_
  intro p e s m below meth c X h ls hl
  have hl : lv_has ls 5 [(0, .ref (ga G 0)), (1, .int a1), (2, .int a2), (3, .int a3), (4, .int a4)] := hl
  have hx := X.1
  have hb := X.2.1
  unfold wp_X6_law at hw
  refine lv_iload_n hx hb dX6_law_0 rfl (lv_at hl 1 rfl) ?_
  refine k_i h (n_T (rest := []) (As := [.int a1]) X h hl.1 (c_X6_isUse l G hG a1 _ _ hw) gk_X6_154 rfl hd_X6_isUse ⟨rfl, rfl⟩ ⟨Nat.le_of_ble_eq_true rfl, Nat.le_of_ble_eq_true rfl⟩ rfl (Nat.le_of_ble_eq_true rfl) dX6_law_1 ⟨Nat.zero_le _, Nat.zero_le _⟩) (fun r1 μ1 H locs hw h => ?_)
  refine lv_if_ne (tgt := 13) hx hb dX6_law_4 (by decide) (fun hc => ?_) (fun hc => ?_)
  · rw [if_neg hc] at hw
    refine lv_aload_n hx hb dX6_law_13 rfl (lv_at hl 0 rfl) ?_
    refine lv_iload_n hx hb dX6_law_14 rfl (lv_at hl 1 rfl) ?_
    refine k_p h (n_V (rest := []) (As := [.int a1]) X h hl.1 (c_X6_lawOf l G hG a1 h0 _ _ hw) gk_X6_157 rfl hd_X6_lawOf ⟨rfl, rfl⟩ ⟨Nat.le_of_ble_eq_true rfl, Nat.le_of_ble_eq_true rfl⟩ (X6_o h0) rfl rfl (Nat.le_of_ble_eq_true rfl) dX6_law_15 ⟨Nat.zero_le _, Nat.zero_le _⟩) (fun r15 μ15 H locs hw h => ?_)
    obtain ⟨hrp, hw⟩ := hw
    have hL15 : isX1 G r15 := by rcases hrp with rfl | rfl; exact X5_steps (X6_now h0); exact X5_worth (X6_now h0)
    refine lv_iload_n hx hb dX6_law_18 rfl (lv_at hl 2 rfl) ?_
    refine lv_iload_n hx hb dX6_law_19 rfl (lv_at hl 3 rfl) ?_
    refine lv_iload hx hb dX6_law_20 (lv_at hl 4 rfl) ?_
    refine k_i h (n_V (rest := []) (As := [.int a2, .int a3, .int a4]) X h hl.1 (c_X1_gives l G hG r15 a2 a3 a4 hL15 _ _ hw) gk_X6_184 rfl hd_X1_gives ⟨rfl, rfl⟩ ⟨Nat.le_of_ble_eq_true rfl, Nat.le_of_ble_eq_true rfl⟩ (X1_o hL15) rfl rfl (Nat.le_of_ble_eq_true rfl) dX6_law_22 ⟨Nat.zero_le _, Nat.zero_le _⟩) (fun r22 μ22 H locs hw h => ?_)
    exact r_iret X h hw dX6_law_25
  · rw [if_pos hc] at hw
    refine lv_aload_n hx hb dX6_law_7 rfl (lv_at hl 0 rfl) ?_
    refine lv_iconst (v := (1 : Int32)) hx hb dX6_law_8 (by decide) ?_
    refine k_i h (n_V (rest := []) (As := [.int (1 : Int32)]) X h hl.1 (c_X6_error l G hG (1 : Int32) h0 _ _ hw) gk_X6_72 rfl hd_X6_error ⟨rfl, rfl⟩ ⟨Nat.le_of_ble_eq_true rfl, Nat.le_of_ble_eq_true rfl⟩ (X6_o h0) rfl rfl (Nat.le_of_ble_eq_true rfl) dX6_law_9 ⟨Nat.zero_le _, Nat.zero_le _⟩) (fun r9 μ9 H locs hw h => ?_)
    exact r_iret X h hw dX6_law_12
def wp_X6_passDay_88 (p1 : Nat) (p2 : Nat) (Q : Int32 → vM → Prop) : Nat → Int32 → Int32 → vM → Prop
  | 0, _, _, _ => False
  | n88 + 1, x3, x4, μ => if (μ p1 0) ≤ x4 then ∃ μ141 : vM, μ141 = st μ p1 1 ((μ p1 1) + (1 : Int32)) ∧ bz x3 ∧ Q x3 μ141 else vp_in x4 8 ∧ wp_X0_goal p1 x4 (fun r114 μ114 => vp_in x4 8 ∧ wp_X3_walked p2 (μ (p1 + 4) x4.toNatClampNeg) r114 (μ114 49 x4.toNatClampNeg) (fun r124 μ124 => vp_in x4 8 ∧ ∃ μ127 : vM, μ127 = st μ124 (p1 + 4) x4.toNatClampNeg r124 ∧ ∃ x4_128 : Int32, x4_128 = x4 + (1 : Int32) ∧ wp_X6_passDay_88 p1 p2 Q n88 x3 x4_128 μ127) μ114) μ
def wp_X6_passDay_73 (p1 : Nat) (p2 : Nat) (Q : Int32 → vM → Prop) (k5 : Int32 → Int32 → vM → Prop) (x3 : Int32) (x4 : Int32) (x5 : Int32) (t1 : Int32) (t2 : Int32) (μ : vM) : Prop := vp_in t1 8 ∧ ∃ μ73 : vM, μ73 = st μ 49 t1.toNatClampNeg t2 ∧ ∃ x3_78 : Int32, x3_78 = x3 ||| x5 ∧ ∃ x4_79 : Int32, x4_79 = x4 + (1 : Int32) ∧ k5 x3_78 x4_79 μ73
def wp_X6_passDay_48 (p1 : Nat) (p2 : Nat) (Q : Int32 → vM → Prop) (k5 : Int32 → Int32 → vM → Prop) (x3 : Int32) (x4 : Int32) (t0 : Int32) (μ : vM) : Prop := if t0 = 0 then wp_X6_passDay_73 p1 p2 Q k5 x3 x4 t0 x4 (0 : Int32) μ else wp_X6_stepsOf p1 p2 x4 (fun r66 μ66 => wp_X6_passDay_73 p1 p2 Q k5 x3 x4 t0 x4 r66 μ66) μ
def wp_X6_passDay_47 (p1 : Nat) (p2 : Nat) (Q : Int32 → vM → Prop) (k5 : Int32 → Int32 → vM → Prop) (x3 : Int32) (x4 : Int32) (μ : vM) : Prop := wp_X6_passDay_48 p1 p2 Q k5 x3 x4 (0 : Int32) μ
def wp_X6_passDay_5 (p1 : Nat) (p2 : Nat) (Q : Int32 → vM → Prop) : Nat → Int32 → Int32 → vM → Prop
  | 0, _, _, _ => False
  | n5 + 1, x3, x4, μ => if (μ p1 0) ≤ x4 then ∃ n88, wp_X6_passDay_88 p1 p2 Q n88 x3 (0 : Int32) μ else wp_X0_isHome p1 x4 (fun r17 μ17 => if r17 = 0 then vp_in x4 8 ∧ wp_X0_goal p1 x4 (fun r34 μ34 => wp_X3_leads p2 (μ17 (p1 + 4) x4.toNatClampNeg) r34 (fun r37 μ37 => if r37 = 0 then wp_X6_passDay_47 p1 p2 Q (fun x3 x4 μ => wp_X6_passDay_5 p1 p2 Q n5 x3 x4 μ) x3 x4 μ37 else wp_X6_passDay_48 p1 p2 Q (fun x3 x4 μ => wp_X6_passDay_5 p1 p2 Q n5 x3 x4 μ) x3 x4 (1 : Int32) μ37) μ34) μ17 else wp_X6_passDay_47 p1 p2 Q (fun x3 x4 μ => wp_X6_passDay_5 p1 p2 Q n5 x3 x4 μ) x3 x4 μ17) μ
def wp_X6_passDay (p1 : Nat) (p2 : Nat) (Q : Int32 → vM → Prop) (μ : vM) : Prop := ∃ n5, wp_X6_passDay_5 p1 p2 Q n5 (0 : Int32) (0 : Int32) μ
set_option maxRecDepth 100000 in
set_option maxHeartbeats 4000000 in
theorem c_X6_passDay (l : Launch) (G : vG) (hG : gO G) (p1 : Nat) (p2 : Nat) (h0 : isX6 G) (h1 : isX0 G p1) (h2 : isX3 G p2) (Q : Int32 → vM → Prop) (μ : vM) (hw : wp_X6_passDay p1 p2 Q μ) : mt l G yX6_passDay vX6_passDay { frames := 4, cells := 0, slots := 0, locals := 97 } [.ref (ga G 0), .ref (ga G p1), .ref (ga G p2)] μ (qI G Q) := by
  refine met_of (cc := cX6_passDay) (maxL := 6) (ret := (some .boolean)) RX6 (by decide) rfl rfl hG (Nat.le_of_ble_eq_true rfl) ?_
  intro p e s m below meth c X h ls hl
  have hl : lv_has ls 6 [(0, .ref (ga G 0)), (1, .ref (ga G p1)), (2, .ref (ga G p2))] := hl
  have hx := X.1
  have hb := X.2.1
  unfold wp_X6_passDay at hw
  refine lv_iconst (v := (0 : Int32)) hx hb dX6_passDay_0 (by decide) ?_
  refine lv_istore_n (lv' := [(3, .int (0 : Int32)), (0, .ref (ga G 0)), (1, .ref (ga G p1)), (2, .ref (ga G p2))]) hx hb dX6_passDay_1 rfl hl (by decide) rfl (fun ls hl => ?_)
  refine lv_iconst (v := (0 : Int32)) hx hb dX6_passDay_2 (by decide) ?_
  refine lv_istore (lv' := [(4, .int (0 : Int32)), (3, .int (0 : Int32)), (0, .ref (ga G 0)), (1, .ref (ga G p1)), (2, .ref (ga G p2))]) hx hb dX6_passDay_3 hl (by decide) rfl (fun ls hl => ?_)
  have s5 : ∀ (n5 : Nat) (x3 : Int32) (x4 : Int32) (μ : vM), ∀ (H : Heap) (locs : List Loc) (ls : Array Slot), bw G s μ H locs → lv_has ls 6 [(0, .ref (ga G 0)), (1, .ref (ga G p1)), (2, .ref (ga G p2)), (3, .int x3), (4, .int x4)] → wp_X6_passDay_5 p1 p2 Q n5 x3 x4 μ → W p l e ({ frames := 4, cells := 0, slots := 0, locals := 97 } : Room) s m ([.ref (ga G 0), .ref (ga G p1), .ref (ga G p2)] : List Value).toArray below meth c H locs 0 0 (MQ below (qI G Q) ([.ref (ga G 0), .ref (ga G p1), .ref (ga G p2)] : List Value).toArray s 0 0 (gA G)) (F0 m 5 ls []) := by
    intro n5
    induction n5 with
    | zero => intro x3 x4 μ H locs ls h hl hw; exact absurd hw (by unfold wp_X6_passDay_5; exact id)
    | succ n5 ih5 =>
      intro x3 x4 μ H locs ls h hl hw
      unfold wp_X6_passDay_5 at hw
      refine lv_iload hx hb dX6_passDay_5 (lv_at hl 4 rfl) ?_
      refine lv_aload_n hx hb dX6_passDay_7 rfl (lv_at hl 1 rfl) ?_
      refine r_getI X h (X0_o h1) rfl uX0 0 (by decide) fn_1 rfl dX6_passDay_8 ?_
      refine lv_icmp_ge (tgt := 85) hx hb dX6_passDay_11 (by decide) (fun hc => ?_) (fun hc => ?_)
      · rw [if_pos hc] at hw
        refine lv_iconst (v := (0 : Int32)) hx hb dX6_passDay_85 (by decide) ?_
        refine lv_istore (lv' := [(4, .int (0 : Int32)), (0, .ref (ga G 0)), (1, .ref (ga G p1)), (2, .ref (ga G p2)), (3, .int x3)]) hx hb dX6_passDay_86 hl (by decide) rfl (fun ls hl => ?_)
        have s88 : ∀ (n88 : Nat) (x3 : Int32) (x4 : Int32) (μ : vM), ∀ (H : Heap) (locs : List Loc) (ls : Array Slot), bw G s μ H locs → lv_has ls 6 [(0, .ref (ga G 0)), (1, .ref (ga G p1)), (2, .ref (ga G p2)), (3, .int x3), (4, .int x4)] → wp_X6_passDay_88 p1 p2 Q n88 x3 x4 μ → W p l e ({ frames := 4, cells := 0, slots := 0, locals := 97 } : Room) s m ([.ref (ga G 0), .ref (ga G p1), .ref (ga G p2)] : List Value).toArray below meth c H locs 0 0 (MQ below (qI G Q) ([.ref (ga G 0), .ref (ga G p1), .ref (ga G p2)] : List Value).toArray s 0 0 (gA G)) (F0 m 88 ls []) := by
          intro n88
          induction n88 with
          | zero => intro x3 x4 μ H locs ls h hl hw; exact absurd hw (by unfold wp_X6_passDay_88; exact id)
          | succ n88 ih88 =>
            intro x3 x4 μ H locs ls h hl hw
            unfold wp_X6_passDay_88 at hw
            refine lv_iload hx hb dX6_passDay_88 (lv_at hl 4 rfl) ?_
            refine lv_aload_n hx hb dX6_passDay_90 rfl (lv_at hl 1 rfl) ?_
            refine r_getI X h (X0_o h1) rfl uX0 0 (by decide) fn_1 rfl dX6_passDay_91 ?_
            refine lv_icmp_ge (tgt := 134) hx hb dX6_passDay_94 (by decide) (fun hc => ?_) (fun hc => ?_)
            · rw [if_pos hc] at hw
              refine lv_aload_n hx hb dX6_passDay_134 rfl (lv_at hl 1 rfl) ?_
              refine lv_dup hx hb dX6_passDay_135 rfl ?_
              refine r_getI X h (X0_o h1) rfl uX0 1 (by decide) fn_2 rfl dX6_passDay_136 ?_
              refine lv_iconst (v := (1 : Int32)) hx hb dX6_passDay_139 (by decide) ?_
              refine lv_iadd hx hb dX6_passDay_140 ?_
              obtain ⟨μ141, eμ141, hw⟩ := hw
              refine r_putI X h (X0_o h1) rfl uX0 tyX0 tyX0_ok nmX0 1 (by decide) fn_2 rfl rfl rfl  eμ141 dX6_passDay_141 (fun H locs h => ?_)
              refine lv_iload_n hx hb dX6_passDay_144 rfl (lv_at hl 3 rfl) ?_
              exact r_zret X h hw.1 hw.2 dX6_passDay_145
            · rw [if_neg hc] at hw
              refine lv_aload_n hx hb dX6_passDay_97 rfl (lv_at hl 1 rfl) ?_
              refine r_getR (q := (p1 + 4)) X h (X0_o h1) rfl uX0 5 (by decide) fn_7 rfl dX6_passDay_98 ?_
              refine lv_iload hx hb dX6_passDay_101 (lv_at hl 4 rfl) ?_
              refine lv_aload_n hx hb dX6_passDay_103 rfl (lv_at hl 2 rfl) ?_
              refine lv_aload_n hx hb dX6_passDay_104 rfl (lv_at hl 1 rfl) ?_
              refine r_getR (q := (p1 + 4)) X h (X0_o h1) rfl uX0 5 (by decide) fn_7 rfl dX6_passDay_105 ?_
              refine lv_iload hx hb dX6_passDay_108 (lv_at hl 4 rfl) ?_
              obtain ⟨hi, hw⟩ := hw
              refine r_ald X h (X0_at h1) hi dX6_passDay_110 ?_
              refine lv_aload_n hx hb dX6_passDay_111 rfl (lv_at hl 1 rfl) ?_
              refine lv_iload hx hb dX6_passDay_112 (lv_at hl 4 rfl) ?_
              refine k_i h (n_V (rest := [.int (μ (p1 + 4) x4.toNatClampNeg), .ref (ga G p2), .int x4, .ref (ga G (p1 + 4))]) (As := [.int x4]) X h hl.1 (c_X0_goal l G hG p1 x4 h1 _ _ hw) gk_X6_300 rfl hd_X0_goal ⟨rfl, rfl⟩ ⟨Nat.le_of_ble_eq_true rfl, Nat.le_of_ble_eq_true rfl⟩ (X0_o h1) rfl rfl (Nat.le_of_ble_eq_true rfl) dX6_passDay_114 ⟨Nat.zero_le _, Nat.zero_le _⟩) (fun r114 μ114 H locs hw h => ?_)
              refine lv_aload_n hx hb dX6_passDay_117 rfl (lv_at hl 0 rfl) ?_
              refine r_getR (q := 49) X h (X6_o h0) rfl uX6 5 (by decide) lf_1_230 rfl dX6_passDay_118 ?_
              refine lv_iload hx hb dX6_passDay_121 (lv_at hl 4 rfl) ?_
              obtain ⟨hi, hw⟩ := hw
              refine r_ald X h (X6_paces h0) hi dX6_passDay_123 ?_
              refine k_i h (n_V (rest := [.int x4, .ref (ga G (p1 + 4))]) (As := [.int (μ (p1 + 4) x4.toNatClampNeg), .int r114, .int (μ114 49 x4.toNatClampNeg)]) X h hl.1 (c_X3_walked l G hG p2 (μ (p1 + 4) x4.toNatClampNeg) r114 (μ114 49 x4.toNatClampNeg) h2 _ _ hw) gk_X6_309 rfl hd_X3_walked ⟨rfl, rfl⟩ ⟨Nat.le_of_ble_eq_true rfl, Nat.le_of_ble_eq_true rfl⟩ (X3_o h2) rfl rfl (Nat.le_of_ble_eq_true rfl) dX6_passDay_124 ⟨Nat.zero_le _, Nat.zero_le _⟩) (fun r124 μ124 H locs hw h => ?_)
              obtain ⟨hi, μ127, eμ127, hw⟩ := hw
              refine r_ast X h (X0_at h1) hi eμ127 dX6_passDay_127 (fun H locs h => ?_)
              obtain ⟨x4_128, ex4_128, hw⟩ := hw
              refine lv_iinc (v := x4_128) (lv' := [(4, .int x4_128), (0, .ref (ga G 0)), (1, .ref (ga G p1)), (2, .ref (ga G p2)), (3, .int x3)]) hx hb dX6_passDay_128 hl (k := 4) rfl (by rw [ex4_128]; rfl) (by decide) rfl (fun ls hl => ?_)
              refine lv_goto (tgt := 88) hx hb dX6_passDay_131 (by decide) ?_
              exact ih88 x3 x4_128 μ127 _ _ _ h (lv_sub hl [1, 2, 3, 4, 0] rfl) hw
        obtain ⟨n, hw⟩ := hw
        exact s88 n x3 (0 : Int32) μ _ _ _ h (lv_sub hl [1, 2, 3, 4, 0] rfl) hw
      · rw [if_neg hc] at hw
        refine lv_aload_n hx hb dX6_passDay_14 rfl (lv_at hl 1 rfl) ?_
        refine lv_iload hx hb dX6_passDay_15 (lv_at hl 4 rfl) ?_
        refine k_i h (n_V (rest := []) (As := [.int x4]) X h hl.1 (c_X0_isHome l G hG p1 x4 h1 _ _ hw) gk_X6_216 rfl hd_X0_isHome ⟨rfl, rfl⟩ ⟨Nat.le_of_ble_eq_true rfl, Nat.le_of_ble_eq_true rfl⟩ (X0_o h1) rfl rfl (Nat.le_of_ble_eq_true rfl) dX6_passDay_17 ⟨Nat.zero_le _, Nat.zero_le _⟩) (fun r17 μ17 H locs hw h => ?_)
        have s48 : ∀ (x3 : Int32) (x4 : Int32) (t0 : Int32) (μ : vM), ∀ (H : Heap) (locs : List Loc) (ls : Array Slot), bw G s μ H locs → lv_has ls 6 [(0, .ref (ga G 0)), (1, .ref (ga G p1)), (2, .ref (ga G p2)), (3, .int x3), (4, .int x4)] → wp_X6_passDay_48 p1 p2 Q (fun x3 x4 μ => wp_X6_passDay_5 p1 p2 Q n5 x3 x4 μ) x3 x4 t0 μ → W p l e ({ frames := 4, cells := 0, slots := 0, locals := 97 } : Room) s m ([.ref (ga G 0), .ref (ga G p1), .ref (ga G p2)] : List Value).toArray below meth c H locs 0 0 (MQ below (qI G Q) ([.ref (ga G 0), .ref (ga G p1), .ref (ga G p2)] : List Value).toArray s 0 0 (gA G)) (F0 m 48 ls [.int t0]) := by
          intro x3 x4 t0 μ H locs ls h hl hw
          unfold wp_X6_passDay_48 at hw
          refine lv_istore (lv' := [(5, .int t0), (0, .ref (ga G 0)), (1, .ref (ga G p1)), (2, .ref (ga G p2)), (3, .int x3), (4, .int x4)]) hx hb dX6_passDay_48 hl (by decide) rfl (fun ls hl => ?_)
          refine lv_aload_n hx hb dX6_passDay_50 rfl (lv_at hl 1 rfl) ?_
          refine r_getR (q := 49) X h (X6_o h0) rfl uX6 5 (by decide) lf_1_230 rfl dX6_passDay_51 ?_
          refine lv_iload hx hb dX6_passDay_54 (lv_at hl 5 rfl) ?_
          refine lv_iload hx hb dX6_passDay_56 (lv_at hl 0 rfl) ?_
          have s73 : ∀ (x3 : Int32) (x4 : Int32) (x5 : Int32) (t1 : Int32) (t2 : Int32) (μ : vM), ∀ (H : Heap) (locs : List Loc) (ls : Array Slot), bw G s μ H locs → lv_has ls 6 [(0, .ref (ga G 0)), (1, .ref (ga G p1)), (2, .ref (ga G p2)), (3, .int x3), (4, .int x4), (5, .int x5)] → wp_X6_passDay_73 p1 p2 Q (fun x3 x4 μ => wp_X6_passDay_5 p1 p2 Q n5 x3 x4 μ) x3 x4 x5 t1 t2 μ → W p l e ({ frames := 4, cells := 0, slots := 0, locals := 97 } : Room) s m ([.ref (ga G 0), .ref (ga G p1), .ref (ga G p2)] : List Value).toArray below meth c H locs 0 0 (MQ below (qI G Q) ([.ref (ga G 0), .ref (ga G p1), .ref (ga G p2)] : List Value).toArray s 0 0 (gA G)) (F0 m 73 ls [.int t2, .int t1, .ref (ga G 49)]) := by
            intro x3 x4 x5 t1 t2 μ H locs ls h hl hw
            unfold wp_X6_passDay_73 at hw
            obtain ⟨hi, μ73, eμ73, hw⟩ := hw
            refine r_ast X h (X6_paces h0) hi eμ73 dX6_passDay_73 (fun H locs h => ?_)
            refine lv_iload_n hx hb dX6_passDay_74 rfl (lv_at hl 3 rfl) ?_
            refine lv_iload hx hb dX6_passDay_75 (lv_at hl 5 rfl) ?_
            refine lv_ior hx hb dX6_passDay_77 ?_
            obtain ⟨x3_78, ex3_78, hw⟩ := hw
            refine topE ex3_78 ?_
            refine lv_istore_n (lv' := [(3, .int x3_78), (0, .ref (ga G 0)), (1, .ref (ga G p1)), (2, .ref (ga G p2)), (4, .int x4), (5, .int x5)]) hx hb dX6_passDay_78 rfl hl (by decide) rfl (fun ls hl => ?_)
            obtain ⟨x4_79, ex4_79, hw⟩ := hw
            refine lv_iinc (v := x4_79) (lv' := [(4, .int x4_79), (3, .int x3_78), (0, .ref (ga G 0)), (1, .ref (ga G p1)), (2, .ref (ga G p2)), (5, .int x5)]) hx hb dX6_passDay_79 hl (k := 4) rfl (by rw [ex4_79]; rfl) (by decide) rfl (fun ls hl => ?_)
            refine lv_goto (tgt := 5) hx hb dX6_passDay_82 (by decide) ?_
            exact ih5 x3_78 x4_79 μ73 _ _ _ h (lv_sub hl [2, 3, 4, 1, 0] rfl) hw
          refine lv_if_eq (tgt := 72) hx hb dX6_passDay_58 (by decide) (fun hc => ?_) (fun hc => ?_)
          · rw [if_pos hc] at hw
            refine lv_iconst (v := (0 : Int32)) hx hb dX6_passDay_72 (by decide) ?_
            exact s73 x3 x4 t0 x4 (0 : Int32) μ _ _ _ h (lv_sub hl [1, 2, 3, 4, 5, 0] rfl) hw
          · rw [if_neg hc] at hw
            refine lv_aload_n hx hb dX6_passDay_61 rfl (lv_at hl 1 rfl) ?_
            refine lv_aload_n hx hb dX6_passDay_62 rfl (lv_at hl 2 rfl) ?_
            refine lv_aload_n hx hb dX6_passDay_63 rfl (lv_at hl 3 rfl) ?_
            refine lv_iload hx hb dX6_passDay_64 (lv_at hl 5 rfl) ?_
            refine k_i h (n_V (rest := [.int x4, .ref (ga G 49)]) (As := [.ref (ga G p1), .ref (ga G p2), .int x4]) X h hl.1 (c_X6_stepsOf l G hG p1 p2 x4 h0 h1 h2 _ _ hw) gk_X6_134 rfl hd_X6_stepsOf ⟨rfl, rfl⟩ ⟨Nat.le_of_ble_eq_true rfl, Nat.le_of_ble_eq_true rfl⟩ (X6_o h0) rfl rfl (Nat.le_of_ble_eq_true rfl) dX6_passDay_66 ⟨Nat.zero_le _, Nat.zero_le _⟩) (fun r66 μ66 H locs hw h => ?_)
            refine lv_goto (tgt := 73) hx hb dX6_passDay_69 (by decide) ?_
            exact s73 x3 x4 t0 x4 r66 μ66 _ _ _ h (lv_sub hl [1, 2, 3, 4, 5, 0] rfl) hw
        have s47 : ∀ (x3 : Int32) (x4 : Int32) (μ : vM), ∀ (H : Heap) (locs : List Loc) (ls : Array Slot), bw G s μ H locs → lv_has ls 6 [(0, .ref (ga G 0)), (1, .ref (ga G p1)), (2, .ref (ga G p2)), (3, .int x3), (4, .int x4)] → wp_X6_passDay_47 p1 p2 Q (fun x3 x4 μ => wp_X6_passDay_5 p1 p2 Q n5 x3 x4 μ) x3 x4 μ → W p l e ({ frames := 4, cells := 0, slots := 0, locals := 97 } : Room) s m ([.ref (ga G 0), .ref (ga G p1), .ref (ga G p2)] : List Value).toArray below meth c H locs 0 0 (MQ below (qI G Q) ([.ref (ga G 0), .ref (ga G p1), .ref (ga G p2)] : List Value).toArray s 0 0 (gA G)) (F0 m 47 ls []) := by
          intro x3 x4 μ H locs ls h hl hw
          unfold wp_X6_passDay_47 at hw
          refine lv_iconst (v := (0 : Int32)) hx hb dX6_passDay_47 (by decide) ?_
          exact s48 x3 x4 (0 : Int32) μ _ _ _ h (lv_sub hl [0, 1, 2, 3, 4] rfl) hw
        refine lv_if_ne (tgt := 47) hx hb dX6_passDay_20 (by decide) (fun hc => ?_) (fun hc => ?_)
        · rw [if_neg hc] at hw
          exact s47 x3 x4 μ17 _ _ _ h (lv_sub hl [0, 1, 2, 3, 4] rfl) hw
        · rw [if_pos hc] at hw
          refine lv_aload_n hx hb dX6_passDay_23 rfl (lv_at hl 2 rfl) ?_
          refine lv_aload_n hx hb dX6_passDay_24 rfl (lv_at hl 1 rfl) ?_
          refine r_getR (q := (p1 + 4)) X h (X0_o h1) rfl uX0 5 (by decide) fn_7 rfl dX6_passDay_25 ?_
          refine lv_iload hx hb dX6_passDay_28 (lv_at hl 4 rfl) ?_
          obtain ⟨hi, hw⟩ := hw
          refine r_ald X h (X0_at h1) hi dX6_passDay_30 ?_
          refine lv_aload_n hx hb dX6_passDay_31 rfl (lv_at hl 1 rfl) ?_
          refine lv_iload hx hb dX6_passDay_32 (lv_at hl 4 rfl) ?_
          refine k_i h (n_V (rest := [.int (μ17 (p1 + 4) x4.toNatClampNeg), .ref (ga G p2)]) (As := [.int x4]) X h hl.1 (c_X0_goal l G hG p1 x4 h1 _ _ hw) gk_X6_300 rfl hd_X0_goal ⟨rfl, rfl⟩ ⟨Nat.le_of_ble_eq_true rfl, Nat.le_of_ble_eq_true rfl⟩ (X0_o h1) rfl rfl (Nat.le_of_ble_eq_true rfl) dX6_passDay_34 ⟨Nat.zero_le _, Nat.zero_le _⟩) (fun r34 μ34 H locs hw h => ?_)
          refine k_i h (n_V (rest := []) (As := [.int (μ17 (p1 + 4) x4.toNatClampNeg), .int r34]) X h hl.1 (c_X3_leads l G hG p2 (μ17 (p1 + 4) x4.toNatClampNeg) r34 h2 _ _ hw) gk_X6_99 rfl hd_X3_leads ⟨rfl, rfl⟩ ⟨Nat.le_of_ble_eq_true rfl, Nat.le_of_ble_eq_true rfl⟩ (X3_o h2) rfl rfl (Nat.le_of_ble_eq_true rfl) dX6_passDay_37 ⟨Nat.zero_le _, Nat.zero_le _⟩) (fun r37 μ37 H locs hw h => ?_)
          refine lv_if_eq (tgt := 47) hx hb dX6_passDay_40 (by decide) (fun hc => ?_) (fun hc => ?_)
          · rw [if_pos hc] at hw
            exact s47 x3 x4 μ37 _ _ _ h (lv_sub hl [0, 1, 2, 3, 4] rfl) hw
          · rw [if_neg hc] at hw
            refine lv_iconst (v := (1 : Int32)) hx hb dX6_passDay_43 (by decide) ?_
            refine lv_goto (tgt := 48) hx hb dX6_passDay_44 (by decide) ?_
            exact s48 x3 x4 (1 : Int32) μ37 _ _ _ h (lv_sub hl [0, 1, 2, 3, 4] rfl) hw
  obtain ⟨n, hw⟩ := hw
  exact s5 n (0 : Int32) (0 : Int32) μ _ _ _ h (lv_sub hl [2, 3, 4, 1, 0] rfl) hw
def wp_X6_passDays_6 (p1 : Nat) (p2 : Nat) (a3 : Int32) (Q : vM → Prop) : Nat → Int32 → Int32 → vM → Prop
  | 0, _, _, _ => False
  | n6 + 1, x4, x5, μ => if a3 ≤ x5 then ∃ μ41 : vM, μ41 = st μ p1 1 ((μ p1 1) + (a3 - x5)) ∧ Q μ41 else if x4 = 0 then ∃ μ41 : vM, μ41 = st μ p1 1 ((μ p1 1) + (a3 - x5)) ∧ Q μ41 else wp_X6_passDay p1 p2 (fun r20 μ20 => ∃ x5_25 : Int32, x5_25 = x5 + (1 : Int32) ∧ wp_X6_passDays_6 p1 p2 a3 Q n6 r20 x5_25 μ20) μ
def wp_X6_passDays (p1 : Nat) (p2 : Nat) (a3 : Int32) (Q : vM → Prop) (μ : vM) : Prop := ∃ n6, wp_X6_passDays_6 p1 p2 a3 Q n6 (1 : Int32) (0 : Int32) μ
set_option maxRecDepth 100000 in
set_option maxHeartbeats 4000000 in
theorem c_X6_passDays (l : Launch) (G : vG) (hG : gO G) (p1 : Nat) (p2 : Nat) (a3 : Int32) (h0 : isX6 G) (h1 : isX0 G p1) (h2 : isX3 G p2) (Q : vM → Prop) (μ : vM) (hw : wp_X6_passDays p1 p2 a3 Q μ) : mt l G yX6_passDays vX6_passDays { frames := 5, cells := 0, slots := 0, locals := 122 } [.ref (ga G 0), .ref (ga G p1), .ref (ga G p2), .int a3] μ (qV G Q) := by
  refine met_of (cc := cX6_passDays) (maxL := 6) (ret := none) RX6 (by decide) rfl rfl hG (Nat.le_of_ble_eq_true rfl) ?_
  intro p e s m below meth c X h ls hl
  have hl : lv_has ls 6 [(0, .ref (ga G 0)), (1, .ref (ga G p1)), (2, .ref (ga G p2)), (3, .int a3)] := hl
  have hx := X.1
  have hb := X.2.1
  unfold wp_X6_passDays at hw
  refine lv_iconst (v := (1 : Int32)) hx hb dX6_passDays_0 (by decide) ?_
  refine lv_istore (lv' := [(4, .int (1 : Int32)), (0, .ref (ga G 0)), (1, .ref (ga G p1)), (2, .ref (ga G p2)), (3, .int a3)]) hx hb dX6_passDays_1 hl (by decide) rfl (fun ls hl => ?_)
  refine lv_iconst (v := (0 : Int32)) hx hb dX6_passDays_3 (by decide) ?_
  refine lv_istore (lv' := [(5, .int (0 : Int32)), (4, .int (1 : Int32)), (0, .ref (ga G 0)), (1, .ref (ga G p1)), (2, .ref (ga G p2)), (3, .int a3)]) hx hb dX6_passDays_4 hl (by decide) rfl (fun ls hl => ?_)
  have s6 : ∀ (n6 : Nat) (x4 : Int32) (x5 : Int32) (μ : vM), ∀ (H : Heap) (locs : List Loc) (ls : Array Slot), bw G s μ H locs → lv_has ls 6 [(0, .ref (ga G 0)), (1, .ref (ga G p1)), (2, .ref (ga G p2)), (3, .int a3), (4, .int x4), (5, .int x5)] → wp_X6_passDays_6 p1 p2 a3 Q n6 x4 x5 μ → W p l e ({ frames := 5, cells := 0, slots := 0, locals := 122 } : Room) s m ([.ref (ga G 0), .ref (ga G p1), .ref (ga G p2), .int a3] : List Value).toArray below meth c H locs 0 0 (MQ below (qV G Q) ([.ref (ga G 0), .ref (ga G p1), .ref (ga G p2), .int a3] : List Value).toArray s 0 0 (gA G)) (F0 m 6 ls []) := by
    intro n6
    induction n6 with
    | zero => intro x4 x5 μ H locs ls h hl hw; exact absurd hw (by unfold wp_X6_passDays_6; exact id)
    | succ n6 ih6 =>
      intro x4 x5 μ H locs ls h hl hw
      unfold wp_X6_passDays_6 at hw
      refine lv_iload hx hb dX6_passDays_6 (lv_at hl 5 rfl) ?_
      refine lv_iload_n hx hb dX6_passDays_8 rfl (lv_at hl 3 rfl) ?_
      refine lv_icmp_ge (tgt := 31) hx hb dX6_passDays_9 (by decide) (fun hc => ?_) (fun hc => ?_)
      · rw [if_pos hc] at hw
        refine lv_aload_n hx hb dX6_passDays_31 rfl (lv_at hl 1 rfl) ?_
        refine lv_dup hx hb dX6_passDays_32 rfl ?_
        refine r_getI X h (X0_o h1) rfl uX0 1 (by decide) fn_2 rfl dX6_passDays_33 ?_
        refine lv_iload_n hx hb dX6_passDays_36 rfl (lv_at hl 3 rfl) ?_
        refine lv_iload hx hb dX6_passDays_37 (lv_at hl 5 rfl) ?_
        refine lv_isub hx hb dX6_passDays_39 ?_
        refine lv_iadd hx hb dX6_passDays_40 ?_
        obtain ⟨μ41, eμ41, hw⟩ := hw
        refine r_putI X h (X0_o h1) rfl uX0 tyX0 tyX0_ok nmX0 1 (by decide) fn_2 rfl rfl rfl  eμ41 dX6_passDays_41 (fun H locs h => ?_)
        exact r_vret X h hw dX6_passDays_44
      · rw [if_neg hc] at hw
        refine lv_iload hx hb dX6_passDays_12 (lv_at hl 4 rfl) ?_
        refine lv_if_eq (tgt := 31) hx hb dX6_passDays_14 (by decide) (fun hc => ?_) (fun hc => ?_)
        · rw [if_pos hc] at hw
          refine lv_aload_n hx hb dX6_passDays_31 rfl (lv_at hl 1 rfl) ?_
          refine lv_dup hx hb dX6_passDays_32 rfl ?_
          refine r_getI X h (X0_o h1) rfl uX0 1 (by decide) fn_2 rfl dX6_passDays_33 ?_
          refine lv_iload_n hx hb dX6_passDays_36 rfl (lv_at hl 3 rfl) ?_
          refine lv_iload hx hb dX6_passDays_37 (lv_at hl 5 rfl) ?_
          refine lv_isub hx hb dX6_passDays_39 ?_
          refine lv_iadd hx hb dX6_passDays_40 ?_
          obtain ⟨μ41, eμ41, hw⟩ := hw
          refine r_putI X h (X0_o h1) rfl uX0 tyX0 tyX0_ok nmX0 1 (by decide) fn_2 rfl rfl rfl  eμ41 dX6_passDays_41 (fun H locs h => ?_)
          exact r_vret X h hw dX6_passDays_44
        · rw [if_neg hc] at hw
          refine lv_aload_n hx hb dX6_passDays_17 rfl (lv_at hl 0 rfl) ?_
          refine lv_aload_n hx hb dX6_passDays_18 rfl (lv_at hl 1 rfl) ?_
          refine lv_aload_n hx hb dX6_passDays_19 rfl (lv_at hl 2 rfl) ?_
          refine k_i h (n_V (rest := []) (As := [.ref (ga G p1), .ref (ga G p2)]) X h hl.1 (c_X6_passDay l G hG p1 p2 h0 h1 h2 _ _ hw) gk_X6_201 rfl hd_X6_passDay ⟨rfl, rfl⟩ ⟨Nat.le_of_ble_eq_true rfl, Nat.le_of_ble_eq_true rfl⟩ (X6_o h0) rfl rfl (Nat.le_of_ble_eq_true rfl) dX6_passDays_20 ⟨Nat.zero_le _, Nat.zero_le _⟩) (fun r20 μ20 H locs hw h => ?_)
          refine lv_istore (lv' := [(4, .int r20), (0, .ref (ga G 0)), (1, .ref (ga G p1)), (2, .ref (ga G p2)), (3, .int a3), (5, .int x5)]) hx hb dX6_passDays_23 hl (by decide) rfl (fun ls hl => ?_)
          obtain ⟨x5_25, ex5_25, hw⟩ := hw
          refine lv_iinc (v := x5_25) (lv' := [(5, .int x5_25), (4, .int r20), (0, .ref (ga G 0)), (1, .ref (ga G p1)), (2, .ref (ga G p2)), (3, .int a3)]) hx hb dX6_passDays_25 hl (k := 5) rfl (by rw [ex5_25]; rfl) (by decide) rfl (fun ls hl => ?_)
          refine lv_goto (tgt := 6) hx hb dX6_passDays_28 (by decide) ?_
          exact ih6 r20 x5_25 μ20 _ _ _ h (lv_sub hl [2, 3, 4, 5, 1, 0] rfl) hw
  obtain ⟨n, hw⟩ := hw
  exact s6 n (1 : Int32) (0 : Int32) μ _ _ _ h (lv_sub hl [2, 3, 4, 5, 1, 0] rfl) hw
def wp_X6_days (a1 : Int32) (Q : Int32 → vM → Prop) (μ : vM) : Prop := if a1 < (1 : Int32) then wp_X6_error (1 : Int32) (fun r13 μ13 => Q r13 μ13) μ else if a1 ≤ (60 : Int32) then if ((μ 5 1) + a1) ≤ (9999 : Int32) then wp_X6_passDays 5 2 a1 (fun μ57 => wp_X0_homeSet 5 (fun r67 μ67 => Q r67 μ67) μ57) μ else wp_X6_error (3 : Int32) (fun r37 μ37 => Q r37 μ37) μ else wp_X6_error (1 : Int32) (fun r13 μ13 => Q r13 μ13) μ
set_option maxRecDepth 100000 in
set_option maxHeartbeats 4000000 in
theorem c_X6_days (l : Launch) (G : vG) (hG : gO G) (a1 : Int32) (h0 : isX6 G) (Q : Int32 → vM → Prop) (μ : vM) (hw : wp_X6_days a1 Q μ) : mt l G yX6_days vX6_days { frames := 6, cells := 0, slots := 0, locals := 147 } [.ref (ga G 0), .int a1] μ (qI G Q) := by
  refine met_of (cc := cX6_days) (maxL := 2) (ret := (some .int)) RX6 (by decide) rfl rfl hG (Nat.le_of_ble_eq_true rfl) ?_
  intro p e s m below meth c X h ls hl
  have hl : lv_has ls 2 [(0, .ref (ga G 0)), (1, .int a1)] := hl
  have hx := X.1
  have hb := X.2.1
  unfold wp_X6_days at hw
  refine lv_iload_n hx hb dX6_days_0 rfl (lv_at hl 1 rfl) ?_
  refine lv_iconst (v := (1 : Int32)) hx hb dX6_days_1 (by decide) ?_
  refine lv_icmp_lt (tgt := 11) hx hb dX6_days_2 (by decide) (fun hc => ?_) (fun hc => ?_)
  · rw [if_pos hc] at hw
    refine lv_aload_n hx hb dX6_days_11 rfl (lv_at hl 0 rfl) ?_
    refine lv_iconst (v := (1 : Int32)) hx hb dX6_days_12 (by decide) ?_
    refine k_i h (n_V (rest := []) (As := [.int (1 : Int32)]) X h hl.1 (c_X6_error l G hG (1 : Int32) h0 _ _ hw) gk_X6_72 rfl hd_X6_error ⟨rfl, rfl⟩ ⟨Nat.le_of_ble_eq_true rfl, Nat.le_of_ble_eq_true rfl⟩ (X6_o h0) rfl rfl (Nat.le_of_ble_eq_true rfl) dX6_days_13 ⟨Nat.zero_le _, Nat.zero_le _⟩) (fun r13 μ13 H locs hw h => ?_)
    exact r_iret X h hw dX6_days_16
  · rw [if_neg hc] at hw
    refine lv_iload_n hx hb dX6_days_5 rfl (lv_at hl 1 rfl) ?_
    refine lv_bipush (v := (60 : Int32)) hx hb dX6_days_6 (by decide) ?_
    refine lv_icmp_le (tgt := 17) hx hb dX6_days_8 (by decide) (fun hc => ?_) (fun hc => ?_)
    · rw [if_pos hc] at hw
      refine lv_aload_n hx hb dX6_days_17 rfl (lv_at hl 0 rfl) ?_
      refine r_getR (q := 1) X h (X6_o h0) rfl uX6 0 (by decide) lf_1_225 rfl dX6_days_18 ?_
      refine r_getR (q := 5) X h (X5_o (X6_now h0)) rfl uX5 1 (by decide) fn_16 rfl dX6_days_21 ?_
      refine r_getI X h (X0_o (X5_harvest (X6_now h0))) rfl uX0 1 (by decide) fn_2 rfl dX6_days_24 ?_
      refine lv_iload_n hx hb dX6_days_27 rfl (lv_at hl 1 rfl) ?_
      refine lv_iadd hx hb dX6_days_28 ?_
      refine lv_sipush (v := (9999 : Int32)) hx hb dX6_days_29 (by decide) ?_
      refine lv_icmp_le (tgt := 41) hx hb dX6_days_32 (by decide) (fun hc => ?_) (fun hc => ?_)
      · rw [if_pos hc] at hw
        refine lv_aload_n hx hb dX6_days_41 rfl (lv_at hl 0 rfl) ?_
        refine lv_aload_n hx hb dX6_days_42 rfl (lv_at hl 0 rfl) ?_
        refine r_getR (q := 1) X h (X6_o h0) rfl uX6 0 (by decide) lf_1_225 rfl dX6_days_43 ?_
        refine r_getR (q := 5) X h (X5_o (X6_now h0)) rfl uX5 1 (by decide) fn_16 rfl dX6_days_46 ?_
        refine lv_aload_n hx hb dX6_days_49 rfl (lv_at hl 0 rfl) ?_
        refine r_getR (q := 1) X h (X6_o h0) rfl uX6 0 (by decide) lf_1_225 rfl dX6_days_50 ?_
        refine r_getR (q := 2) X h (X5_o (X6_now h0)) rfl uX5 0 (by decide) fn_15 rfl dX6_days_53 ?_
        refine lv_iload_n hx hb dX6_days_56 rfl (lv_at hl 1 rfl) ?_
        refine k_v h (n_V (rest := []) (As := [.ref (ga G 5), .ref (ga G 2), .int a1]) X h hl.1 (c_X6_passDays l G hG 5 2 a1 h0 (X5_harvest (X6_now h0)) (X5_roads (X6_now h0)) _ _ hw) gk_X6_190 rfl hd_X6_passDays ⟨rfl, rfl⟩ ⟨Nat.le_of_ble_eq_true rfl, Nat.le_of_ble_eq_true rfl⟩ (X6_o h0) rfl rfl (Nat.le_of_ble_eq_true rfl) dX6_days_57 ⟨Nat.zero_le _, Nat.zero_le _⟩) (fun μ57 H locs hw h => ?_)
        refine lv_aload_n hx hb dX6_days_60 rfl (lv_at hl 0 rfl) ?_
        refine r_getR (q := 1) X h (X6_o h0) rfl uX6 0 (by decide) lf_1_225 rfl dX6_days_61 ?_
        refine r_getR (q := 5) X h (X5_o (X6_now h0)) rfl uX5 1 (by decide) fn_16 rfl dX6_days_64 ?_
        refine k_i h (n_V (rest := []) (As := []) X h hl.1 (c_X0_homeSet l G hG 5 (X5_harvest (X6_now h0)) _ _ hw) gk_X6_194 rfl hd_X0_homeSet ⟨rfl, rfl⟩ ⟨Nat.le_of_ble_eq_true rfl, Nat.le_of_ble_eq_true rfl⟩ (X0_o (X5_harvest (X6_now h0))) rfl rfl (Nat.le_of_ble_eq_true rfl) dX6_days_67 ⟨Nat.zero_le _, Nat.zero_le _⟩) (fun r67 μ67 H locs hw h => ?_)
        exact r_iret X h hw dX6_days_70
      · rw [if_neg hc] at hw
        refine lv_aload_n hx hb dX6_days_35 rfl (lv_at hl 0 rfl) ?_
        refine lv_iconst (v := (3 : Int32)) hx hb dX6_days_36 (by decide) ?_
        refine k_i h (n_V (rest := []) (As := [.int (3 : Int32)]) X h hl.1 (c_X6_error l G hG (3 : Int32) h0 _ _ hw) gk_X6_72 rfl hd_X6_error ⟨rfl, rfl⟩ ⟨Nat.le_of_ble_eq_true rfl, Nat.le_of_ble_eq_true rfl⟩ (X6_o h0) rfl rfl (Nat.le_of_ble_eq_true rfl) dX6_days_37 ⟨Nat.zero_le _, Nat.zero_le _⟩) (fun r37 μ37 H locs hw h => ?_)
        exact r_iret X h hw dX6_days_40
    · rw [if_neg hc] at hw
      refine lv_aload_n hx hb dX6_days_11 rfl (lv_at hl 0 rfl) ?_
      refine lv_iconst (v := (1 : Int32)) hx hb dX6_days_12 (by decide) ?_
      refine k_i h (n_V (rest := []) (As := [.int (1 : Int32)]) X h hl.1 (c_X6_error l G hG (1 : Int32) h0 _ _ hw) gk_X6_72 rfl hd_X6_error ⟨rfl, rfl⟩ ⟨Nat.le_of_ble_eq_true rfl, Nat.le_of_ble_eq_true rfl⟩ (X6_o h0) rfl rfl (Nat.le_of_ble_eq_true rfl) dX6_days_13 ⟨Nat.zero_le _, Nat.zero_le _⟩) (fun r13 μ13 H locs hw h => ?_)
      exact r_iret X h hw dX6_days_16
def wp_X6_loose_43 (a1 : Int32) (Q : Int32 → vM → Prop) : Nat → Int32 → vM → Prop
  | 0, _, _ => False
  | n43 + 1, x2, μ => if a1 ≤ x2 then wp_X0_homeSet 5 (fun r87 μ87 => Q r87 μ87) μ else wp_X5_stir 1 (fun μ52 => wp_X6_passDay 5 2 (fun r70 μ70 => ∃ x2_74 : Int32, x2_74 = x2 + (1 : Int32) ∧ wp_X6_loose_43 a1 Q n43 x2_74 μ70) μ52) μ
def wp_X6_loose (a1 : Int32) (Q : Int32 → vM → Prop) (μ : vM) : Prop := if a1 < (1 : Int32) then wp_X6_error (1 : Int32) (fun r13 μ13 => Q r13 μ13) μ else if a1 ≤ (30 : Int32) then if ((μ 5 1) + a1) ≤ (9999 : Int32) then ∃ n43, wp_X6_loose_43 a1 Q n43 (0 : Int32) μ else wp_X6_error (3 : Int32) (fun r37 μ37 => Q r37 μ37) μ else wp_X6_error (1 : Int32) (fun r13 μ13 => Q r13 μ13) μ
set_option maxRecDepth 100000 in
set_option maxHeartbeats 4000000 in
theorem c_X6_loose (l : Launch) (G : vG) (hG : gO G) (a1 : Int32) (h0 : isX6 G) (Q : Int32 → vM → Prop) (μ : vM) (hw : wp_X6_loose a1 Q μ) : mt l G yX6_loose vX6_loose { frames := 5, cells := 0, slots := 0, locals := 122 } [.ref (ga G 0), .int a1] μ (qI G Q) := by
  refine met_of (cc := cX6_loose) (maxL := 3) (ret := (some .int)) RX6 (by decide) rfl rfl hG (Nat.le_of_ble_eq_true rfl) ?_
  intro p e s m below meth c X h ls hl
  have hl : lv_has ls 3 [(0, .ref (ga G 0)), (1, .int a1)] := hl
  have hx := X.1
  have hb := X.2.1
  unfold wp_X6_loose at hw
  refine lv_iload_n hx hb dX6_loose_0 rfl (lv_at hl 1 rfl) ?_
  refine lv_iconst (v := (1 : Int32)) hx hb dX6_loose_1 (by decide) ?_
  refine lv_icmp_lt (tgt := 11) hx hb dX6_loose_2 (by decide) (fun hc => ?_) (fun hc => ?_)
  · rw [if_pos hc] at hw
    refine lv_aload_n hx hb dX6_loose_11 rfl (lv_at hl 0 rfl) ?_
    refine lv_iconst (v := (1 : Int32)) hx hb dX6_loose_12 (by decide) ?_
    refine k_i h (n_V (rest := []) (As := [.int (1 : Int32)]) X h hl.1 (c_X6_error l G hG (1 : Int32) h0 _ _ hw) gk_X6_72 rfl hd_X6_error ⟨rfl, rfl⟩ ⟨Nat.le_of_ble_eq_true rfl, Nat.le_of_ble_eq_true rfl⟩ (X6_o h0) rfl rfl (Nat.le_of_ble_eq_true rfl) dX6_loose_13 ⟨Nat.zero_le _, Nat.zero_le _⟩) (fun r13 μ13 H locs hw h => ?_)
    exact r_iret X h hw dX6_loose_16
  · rw [if_neg hc] at hw
    refine lv_iload_n hx hb dX6_loose_5 rfl (lv_at hl 1 rfl) ?_
    refine lv_bipush (v := (30 : Int32)) hx hb dX6_loose_6 (by decide) ?_
    refine lv_icmp_le (tgt := 17) hx hb dX6_loose_8 (by decide) (fun hc => ?_) (fun hc => ?_)
    · rw [if_pos hc] at hw
      refine lv_aload_n hx hb dX6_loose_17 rfl (lv_at hl 0 rfl) ?_
      refine r_getR (q := 1) X h (X6_o h0) rfl uX6 0 (by decide) lf_1_225 rfl dX6_loose_18 ?_
      refine r_getR (q := 5) X h (X5_o (X6_now h0)) rfl uX5 1 (by decide) fn_16 rfl dX6_loose_21 ?_
      refine r_getI X h (X0_o (X5_harvest (X6_now h0))) rfl uX0 1 (by decide) fn_2 rfl dX6_loose_24 ?_
      refine lv_iload_n hx hb dX6_loose_27 rfl (lv_at hl 1 rfl) ?_
      refine lv_iadd hx hb dX6_loose_28 ?_
      refine lv_sipush (v := (9999 : Int32)) hx hb dX6_loose_29 (by decide) ?_
      refine lv_icmp_le (tgt := 41) hx hb dX6_loose_32 (by decide) (fun hc => ?_) (fun hc => ?_)
      · rw [if_pos hc] at hw
        refine lv_iconst (v := (0 : Int32)) hx hb dX6_loose_41 (by decide) ?_
        refine lv_istore_n (lv' := [(2, .int (0 : Int32)), (0, .ref (ga G 0)), (1, .int a1)]) hx hb dX6_loose_42 rfl hl (by decide) rfl (fun ls hl => ?_)
        have s43 : ∀ (n43 : Nat) (x2 : Int32) (μ : vM), ∀ (H : Heap) (locs : List Loc) (ls : Array Slot), bw G s μ H locs → lv_has ls 3 [(0, .ref (ga G 0)), (1, .int a1), (2, .int x2)] → wp_X6_loose_43 a1 Q n43 x2 μ → W p l e ({ frames := 5, cells := 0, slots := 0, locals := 122 } : Room) s m ([.ref (ga G 0), .int a1] : List Value).toArray below meth c H locs 0 0 (MQ below (qI G Q) ([.ref (ga G 0), .int a1] : List Value).toArray s 0 0 (gA G)) (F0 m 43 ls []) := by
          intro n43
          induction n43 with
          | zero => intro x2 μ H locs ls h hl hw; exact absurd hw (by unfold wp_X6_loose_43; exact id)
          | succ n43 ih43 =>
            intro x2 μ H locs ls h hl hw
            unfold wp_X6_loose_43 at hw
            refine lv_iload_n hx hb dX6_loose_43 rfl (lv_at hl 2 rfl) ?_
            refine lv_iload_n hx hb dX6_loose_44 rfl (lv_at hl 1 rfl) ?_
            refine lv_icmp_ge (tgt := 80) hx hb dX6_loose_45 (by decide) (fun hc => ?_) (fun hc => ?_)
            · rw [if_pos hc] at hw
              refine lv_aload_n hx hb dX6_loose_80 rfl (lv_at hl 0 rfl) ?_
              refine r_getR (q := 1) X h (X6_o h0) rfl uX6 0 (by decide) lf_1_225 rfl dX6_loose_81 ?_
              refine r_getR (q := 5) X h (X5_o (X6_now h0)) rfl uX5 1 (by decide) fn_16 rfl dX6_loose_84 ?_
              refine k_i h (n_V (rest := []) (As := []) X h hl.1 (c_X0_homeSet l G hG 5 (X5_harvest (X6_now h0)) _ _ hw) gk_X6_194 rfl hd_X0_homeSet ⟨rfl, rfl⟩ ⟨Nat.le_of_ble_eq_true rfl, Nat.le_of_ble_eq_true rfl⟩ (X0_o (X5_harvest (X6_now h0))) rfl rfl (Nat.le_of_ble_eq_true rfl) dX6_loose_87 ⟨Nat.zero_le _, Nat.zero_le _⟩) (fun r87 μ87 H locs hw h => ?_)
              exact r_iret X h hw dX6_loose_90
            · rw [if_neg hc] at hw
              refine lv_aload_n hx hb dX6_loose_48 rfl (lv_at hl 0 rfl) ?_
              refine r_getR (q := 1) X h (X6_o h0) rfl uX6 0 (by decide) lf_1_225 rfl dX6_loose_49 ?_
              refine k_v h (n_V (rest := []) (As := []) X h hl.1 (c_X5_stir l G hG 1 (X6_now h0) _ _ hw) gk_X6_198 rfl hd_X5_stir ⟨rfl, rfl⟩ ⟨Nat.le_of_ble_eq_true rfl, Nat.le_of_ble_eq_true rfl⟩ (X5_o (X6_now h0)) rfl rfl (Nat.le_of_ble_eq_true rfl) dX6_loose_52 ⟨Nat.zero_le _, Nat.zero_le _⟩) (fun μ52 H locs hw h => ?_)
              refine lv_aload_n hx hb dX6_loose_55 rfl (lv_at hl 0 rfl) ?_
              refine lv_aload_n hx hb dX6_loose_56 rfl (lv_at hl 0 rfl) ?_
              refine r_getR (q := 1) X h (X6_o h0) rfl uX6 0 (by decide) lf_1_225 rfl dX6_loose_57 ?_
              refine r_getR (q := 5) X h (X5_o (X6_now h0)) rfl uX5 1 (by decide) fn_16 rfl dX6_loose_60 ?_
              refine lv_aload_n hx hb dX6_loose_63 rfl (lv_at hl 0 rfl) ?_
              refine r_getR (q := 1) X h (X6_o h0) rfl uX6 0 (by decide) lf_1_225 rfl dX6_loose_64 ?_
              refine r_getR (q := 2) X h (X5_o (X6_now h0)) rfl uX5 0 (by decide) fn_15 rfl dX6_loose_67 ?_
              refine k_i h (n_V (rest := []) (As := [.ref (ga G 5), .ref (ga G 2)]) X h hl.1 (c_X6_passDay l G hG 5 2 h0 (X5_harvest (X6_now h0)) (X5_roads (X6_now h0)) _ _ hw) gk_X6_201 rfl hd_X6_passDay ⟨rfl, rfl⟩ ⟨Nat.le_of_ble_eq_true rfl, Nat.le_of_ble_eq_true rfl⟩ (X6_o h0) rfl rfl (Nat.le_of_ble_eq_true rfl) dX6_loose_70 ⟨Nat.zero_le _, Nat.zero_le _⟩) (fun r70 μ70 H locs hw h => ?_)
              refine lv_pop hx hb dX6_loose_73 rfl ?_
              obtain ⟨x2_74, ex2_74, hw⟩ := hw
              refine lv_iinc (v := x2_74) (lv' := [(2, .int x2_74), (0, .ref (ga G 0)), (1, .int a1)]) hx hb dX6_loose_74 hl (k := 2) rfl (by rw [ex2_74]; rfl) (by decide) rfl (fun ls hl => ?_)
              refine lv_goto (tgt := 43) hx hb dX6_loose_77 (by decide) ?_
              exact ih43 x2_74 μ70 _ _ _ h (lv_sub hl [1, 2, 0] rfl) hw
        obtain ⟨n, hw⟩ := hw
        exact s43 n (0 : Int32) μ _ _ _ h (lv_sub hl [1, 2, 0] rfl) hw
      · rw [if_neg hc] at hw
        refine lv_aload_n hx hb dX6_loose_35 rfl (lv_at hl 0 rfl) ?_
        refine lv_iconst (v := (3 : Int32)) hx hb dX6_loose_36 (by decide) ?_
        refine k_i h (n_V (rest := []) (As := [.int (3 : Int32)]) X h hl.1 (c_X6_error l G hG (3 : Int32) h0 _ _ hw) gk_X6_72 rfl hd_X6_error ⟨rfl, rfl⟩ ⟨Nat.le_of_ble_eq_true rfl, Nat.le_of_ble_eq_true rfl⟩ (X6_o h0) rfl rfl (Nat.le_of_ble_eq_true rfl) dX6_loose_37 ⟨Nat.zero_le _, Nat.zero_le _⟩) (fun r37 μ37 H locs hw h => ?_)
        exact r_iret X h hw dX6_loose_40
    · rw [if_neg hc] at hw
      refine lv_aload_n hx hb dX6_loose_11 rfl (lv_at hl 0 rfl) ?_
      refine lv_iconst (v := (1 : Int32)) hx hb dX6_loose_12 (by decide) ?_
      refine k_i h (n_V (rest := []) (As := [.int (1 : Int32)]) X h hl.1 (c_X6_error l G hG (1 : Int32) h0 _ _ hw) gk_X6_72 rfl hd_X6_error ⟨rfl, rfl⟩ ⟨Nat.le_of_ble_eq_true rfl, Nat.le_of_ble_eq_true rfl⟩ (X6_o h0) rfl rfl (Nat.le_of_ble_eq_true rfl) dX6_loose_13 ⟨Nat.zero_le _, Nat.zero_le _⟩) (fun r13 μ13 H locs hw h => ?_)
      exact r_iret X h hw dX6_loose_16
def wp_X6_day (a1 : Int32) (Q : Int32 → vM → Prop) (μ : vM) : Prop := if a1 < 0 then wp_X6_error (1 : Int32) (fun r13 μ13 => Q r13 μ13) μ else if a1 ≤ (9999 : Int32) then ∃ x2_27 : Int32, x2_27 = μ 5 1 ∧ ∃ μ36 : vM, μ36 = st μ 5 1 a1 ∧ Q x2_27 μ36 else wp_X6_error (1 : Int32) (fun r13 μ13 => Q r13 μ13) μ
set_option maxRecDepth 100000 in
set_option maxHeartbeats 4000000 in
theorem c_X6_day (l : Launch) (G : vG) (hG : gO G) (a1 : Int32) (h0 : isX6 G) (Q : Int32 → vM → Prop) (μ : vM) (hw : wp_X6_day a1 Q μ) : mt l G yX6_day vX6_day { frames := 1, cells := 0, slots := 0, locals := 21 } [.ref (ga G 0), .int a1] μ (qI G Q) := by
  refine met_of (cc := cX6_day) (maxL := 3) (ret := (some .int)) RX6 (by decide) rfl rfl hG (Nat.le_of_ble_eq_true rfl) ?_
  intro p e s m below meth c X h ls hl
  have hl : lv_has ls 3 [(0, .ref (ga G 0)), (1, .int a1)] := hl
  have hx := X.1
  have hb := X.2.1
  unfold wp_X6_day at hw
  refine lv_iload_n hx hb dX6_day_0 rfl (lv_at hl 1 rfl) ?_
  refine lv_if_lt (tgt := 11) hx hb dX6_day_1 (by decide) (fun hc => ?_) (fun hc => ?_)
  · rw [if_pos hc] at hw
    refine lv_aload_n hx hb dX6_day_11 rfl (lv_at hl 0 rfl) ?_
    refine lv_iconst (v := (1 : Int32)) hx hb dX6_day_12 (by decide) ?_
    refine k_i h (n_V (rest := []) (As := [.int (1 : Int32)]) X h hl.1 (c_X6_error l G hG (1 : Int32) h0 _ _ hw) gk_X6_72 rfl hd_X6_error ⟨rfl, rfl⟩ ⟨Nat.le_of_ble_eq_true rfl, Nat.le_of_ble_eq_true rfl⟩ (X6_o h0) rfl rfl (Nat.le_of_ble_eq_true rfl) dX6_day_13 ⟨Nat.zero_le _, Nat.zero_le _⟩) (fun r13 μ13 H locs hw h => ?_)
    exact r_iret X h hw dX6_day_16
  · rw [if_neg hc] at hw
    refine lv_iload_n hx hb dX6_day_4 rfl (lv_at hl 1 rfl) ?_
    refine lv_sipush (v := (9999 : Int32)) hx hb dX6_day_5 (by decide) ?_
    refine lv_icmp_le (tgt := 17) hx hb dX6_day_8 (by decide) (fun hc => ?_) (fun hc => ?_)
    · rw [if_pos hc] at hw
      refine lv_aload_n hx hb dX6_day_17 rfl (lv_at hl 0 rfl) ?_
      refine r_getR (q := 1) X h (X6_o h0) rfl uX6 0 (by decide) lf_1_225 rfl dX6_day_18 ?_
      refine r_getR (q := 5) X h (X5_o (X6_now h0)) rfl uX5 1 (by decide) fn_16 rfl dX6_day_21 ?_
      refine r_getI X h (X0_o (X5_harvest (X6_now h0))) rfl uX0 1 (by decide) fn_2 rfl dX6_day_24 ?_
      obtain ⟨x2_27, ex2_27, hw⟩ := hw
      refine topE ex2_27 ?_
      refine lv_istore_n (lv' := [(2, .int x2_27), (0, .ref (ga G 0)), (1, .int a1)]) hx hb dX6_day_27 rfl hl (by decide) rfl (fun ls hl => ?_)
      refine lv_aload_n hx hb dX6_day_28 rfl (lv_at hl 1 rfl) ?_
      refine r_getR (q := 1) X h (X6_o h0) rfl uX6 0 (by decide) lf_1_225 rfl dX6_day_29 ?_
      refine r_getR (q := 5) X h (X5_o (X6_now h0)) rfl uX5 1 (by decide) fn_16 rfl dX6_day_32 ?_
      refine lv_iload_n hx hb dX6_day_35 rfl (lv_at hl 2 rfl) ?_
      obtain ⟨μ36, eμ36, hw⟩ := hw
      refine r_putI X h (X0_o (X5_harvest (X6_now h0))) rfl uX0 tyX0 tyX0_ok nmX0 1 (by decide) fn_2 rfl rfl rfl  eμ36 dX6_day_36 (fun H locs h => ?_)
      refine lv_iload_n hx hb dX6_day_39 rfl (lv_at hl 0 rfl) ?_
      exact r_iret X h hw dX6_day_40
    · rw [if_neg hc] at hw
      refine lv_aload_n hx hb dX6_day_11 rfl (lv_at hl 0 rfl) ?_
      refine lv_iconst (v := (1 : Int32)) hx hb dX6_day_12 (by decide) ?_
      refine k_i h (n_V (rest := []) (As := [.int (1 : Int32)]) X h hl.1 (c_X6_error l G hG (1 : Int32) h0 _ _ hw) gk_X6_72 rfl hd_X6_error ⟨rfl, rfl⟩ ⟨Nat.le_of_ble_eq_true rfl, Nat.le_of_ble_eq_true rfl⟩ (X6_o h0) rfl rfl (Nat.le_of_ble_eq_true rfl) dX6_day_13 ⟨Nat.zero_le _, Nat.zero_le _⟩) (fun r13 μ13 H locs hw h => ?_)
      exact r_iret X h hw dX6_day_16
def wp_X6_seed (a1 : Int32) (Q : Int32 → vM → Prop) (μ : vM) : Prop := ∃ x2_7 : Int32, x2_7 = μ 1 8 ∧ ∃ μ13 : vM, μ13 = st μ 1 8 a1 ∧ Q x2_7 μ13
set_option maxRecDepth 100000 in
set_option maxHeartbeats 4000000 in
theorem c_X6_seed (l : Launch) (G : vG) (hG : gO G) (a1 : Int32) (h0 : isX6 G) (Q : Int32 → vM → Prop) (μ : vM) (hw : wp_X6_seed a1 Q μ) : mt l G yX6_seed vX6_seed { frames := 0, cells := 0, slots := 0, locals := 0 } [.ref (ga G 0), .int a1] μ (qI G Q) := by
  refine met_of (cc := cX6_seed) (maxL := 3) (ret := (some .int)) RX6 (by decide) rfl rfl hG (Nat.le_of_ble_eq_true rfl) ?_
  intro p e s m below meth c X h ls hl
  have hl : lv_has ls 3 [(0, .ref (ga G 0)), (1, .int a1)] := hl
  have hx := X.1
  have hb := X.2.1
  unfold wp_X6_seed at hw
  refine lv_aload_n hx hb dX6_seed_0 rfl (lv_at hl 0 rfl) ?_
  refine r_getR (q := 1) X h (X6_o h0) rfl uX6 0 (by decide) lf_1_225 rfl dX6_seed_1 ?_
  refine r_getI X h (X5_o (X6_now h0)) rfl uX5 8 (by decide) fn_23 rfl dX6_seed_4 ?_
  obtain ⟨x2_7, ex2_7, hw⟩ := hw
  refine topE ex2_7 ?_
  refine lv_istore_n (lv' := [(2, .int x2_7), (0, .ref (ga G 0)), (1, .int a1)]) hx hb dX6_seed_7 rfl hl (by decide) rfl (fun ls hl => ?_)
  refine lv_aload_n hx hb dX6_seed_8 rfl (lv_at hl 1 rfl) ?_
  refine r_getR (q := 1) X h (X6_o h0) rfl uX6 0 (by decide) lf_1_225 rfl dX6_seed_9 ?_
  refine lv_iload_n hx hb dX6_seed_12 rfl (lv_at hl 2 rfl) ?_
  obtain ⟨μ13, eμ13, hw⟩ := hw
  refine r_putI X h (X5_o (X6_now h0)) rfl uX5 tyX5 tyX5_ok nmX5 8 (by decide) fn_23 rfl rfl rfl  eμ13 dX6_seed_13 (fun H locs h => ?_)
  refine lv_iload_n hx hb dX6_seed_16 rfl (lv_at hl 0 rfl) ?_
  exact r_iret X h hw dX6_seed_17
