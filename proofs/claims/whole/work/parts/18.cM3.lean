def wp_X7_gotBy_42 (a1 : Int32) (Q : Int32 → vM → Prop) (k4 : Int32 → Int32 → vM → Prop) (x3 : Int32) (t0 : Int32) (t1 : Int32) (μ : vM) : Prop := ∃ x2_43 : Int32, x2_43 = t0 + t1 ∧ ∃ x3_44 : Int32, x3_44 = x3 + (1 : Int32) ∧ k4 x2_43 x3_44 μ
def wp_X7_gotBy_41 (a1 : Int32) (Q : Int32 → vM → Prop) (k4 : Int32 → Int32 → vM → Prop) (x3 : Int32) (t0 : Int32) (μ : vM) : Prop := wp_X7_gotBy_42 a1 Q k4 x3 t0 (0 : Int32) μ
def wp_X7_gotBy_4 (a1 : Int32) (Q : Int32 → vM → Prop) : Nat → Int32 → Int32 → vM → Prop
  | 0, _, _, _ => False
  | n4 + 1, x2, x3, μ => vp_in (2 : Int32) 385 ∧ if (μ 1 (2 : Int32).toNatClampNeg) ≤ x3 then Q x2 μ else wp_X7_of x3 (2 : Int32) (fun r18 μ18 => if r18 = a1 then wp_X7_isHome x3 (fun r27 μ27 => if r27 = 0 then wp_X7_gotBy_41 a1 Q (fun x2 x3 μ => wp_X7_gotBy_4 a1 Q n4 x2 x3 μ) x3 x2 μ27 else wp_X7_worthOf x3 (fun r35 μ35 => wp_X7_gotBy_42 a1 Q (fun x2 x3 μ => wp_X7_gotBy_4 a1 Q n4 x2 x3 μ) x3 x2 r35 μ35) μ27) μ18 else wp_X7_gotBy_41 a1 Q (fun x2 x3 μ => wp_X7_gotBy_4 a1 Q n4 x2 x3 μ) x3 x2 μ18) μ
def wp_X7_gotBy (a1 : Int32) (Q : Int32 → vM → Prop) (μ : vM) : Prop := ∃ n4, wp_X7_gotBy_4 a1 Q n4 (0 : Int32) (0 : Int32) μ
set_option maxRecDepth 100000 in
set_option maxHeartbeats 4000000 in
theorem c_X7_gotBy (l : Launch) (G : vG) (hG : gO G) (a1 : Int32) (h0 : isX7 G) (Q : Int32 → vM → Prop) (μ : vM) (hw : wp_X7_gotBy a1 Q μ) : mt l G yX7_gotBy vX7_gotBy { frames := 4, cells := 0, slots := 0, locals := 93 } [.ref (ga G 0), .int a1] μ (qI G Q) := by
  refine met_of (cc := cX7_gotBy) (maxL := 4) (ret := (some .int)) RX7 (by decide) rfl rfl hG (Nat.le_of_ble_eq_true rfl) ?_
  intro p e s m below meth c X h ls hl
  have hl : lv_has ls 4 [(0, .ref (ga G 0)), (1, .int a1)] := hl
  have hx := X.1
  have hb := X.2.1
  unfold wp_X7_gotBy at hw
  refine lv_iconst (v := (0 : Int32)) hx hb dX7_gotBy_0 (by decide) ?_
  refine lv_istore_n (lv' := [(2, .int (0 : Int32)), (0, .ref (ga G 0)), (1, .int a1)]) hx hb dX7_gotBy_1 rfl hl (by decide) rfl (fun ls hl => ?_)
  refine lv_iconst (v := (0 : Int32)) hx hb dX7_gotBy_2 (by decide) ?_
  refine lv_istore_n (lv' := [(3, .int (0 : Int32)), (2, .int (0 : Int32)), (0, .ref (ga G 0)), (1, .int a1)]) hx hb dX7_gotBy_3 rfl hl (by decide) rfl (fun ls hl => ?_)
  have s4 : ∀ (n4 : Nat) (x2 : Int32) (x3 : Int32) (μ : vM), ∀ (H : Heap) (locs : List Loc) (ls : Array Slot), bw G s μ H locs → lv_has ls 4 [(0, .ref (ga G 0)), (1, .int a1), (2, .int x2), (3, .int x3)] → wp_X7_gotBy_4 a1 Q n4 x2 x3 μ → W p l e ({ frames := 4, cells := 0, slots := 0, locals := 93 } : Room) s m ([.ref (ga G 0), .int a1] : List Value).toArray below meth c H locs 0 0 (MQ below (qI G Q) ([.ref (ga G 0), .int a1] : List Value).toArray s 0 0 (gA G)) (F0 m 4 ls []) := by
    intro n4
    induction n4 with
    | zero => intro x2 x3 μ H locs ls h hl hw; exact absurd hw (by unfold wp_X7_gotBy_4; exact id)
    | succ n4 ih4 =>
      intro x2 x3 μ H locs ls h hl hw
      unfold wp_X7_gotBy_4 at hw
      refine lv_iload_n hx hb dX7_gotBy_4 rfl (lv_at hl 3 rfl) ?_
      refine lv_aload_n hx hb dX7_gotBy_5 rfl (lv_at hl 0 rfl) ?_
      refine r_getR (q := 1) X h (X7_o h0) rfl uX7 0 (by decide) lf_4_51 rfl dX7_gotBy_6 ?_
      refine lv_iconst (v := (2 : Int32)) hx hb dX7_gotBy_9 (by decide) ?_
      obtain ⟨hi, hw⟩ := hw
      refine r_ald X h (X7_row h0) hi dX7_gotBy_10 ?_
      refine lv_icmp_ge (tgt := 50) hx hb dX7_gotBy_11 (by decide) (fun hc => ?_) (fun hc => ?_)
      · rw [if_pos hc] at hw
        refine lv_iload_n hx hb dX7_gotBy_50 rfl (lv_at hl 2 rfl) ?_
        exact r_iret X h hw dX7_gotBy_51
      · rw [if_neg hc] at hw
        refine lv_iload_n hx hb dX7_gotBy_14 rfl (lv_at hl 2 rfl) ?_
        refine lv_aload_n hx hb dX7_gotBy_15 rfl (lv_at hl 0 rfl) ?_
        refine lv_iload_n hx hb dX7_gotBy_16 rfl (lv_at hl 3 rfl) ?_
        refine lv_iconst (v := (2 : Int32)) hx hb dX7_gotBy_17 (by decide) ?_
        refine k_i h (n_V (rest := [.int x2]) (As := [.int x3, .int (2 : Int32)]) X h hl.1 (c_X7_of l G hG x3 (2 : Int32) h0 _ _ hw) gk_X7_61 rfl hd_X7_of ⟨rfl, rfl⟩ ⟨Nat.le_of_ble_eq_true rfl, Nat.le_of_ble_eq_true rfl⟩ (X7_o h0) rfl rfl (Nat.le_of_ble_eq_true rfl) dX7_gotBy_18 ⟨Nat.zero_le _, Nat.zero_le _⟩) (fun r18 μ18 H locs hw h => ?_)
        refine lv_iload_n hx hb dX7_gotBy_21 rfl (lv_at hl 1 rfl) ?_
        have s42 : ∀ (x3 : Int32) (t0 : Int32) (t1 : Int32) (μ : vM), ∀ (H : Heap) (locs : List Loc) (ls : Array Slot), bw G s μ H locs → lv_has ls 4 [(0, .ref (ga G 0)), (1, .int a1), (3, .int x3)] → wp_X7_gotBy_42 a1 Q (fun x2 x3 μ => wp_X7_gotBy_4 a1 Q n4 x2 x3 μ) x3 t0 t1 μ → W p l e ({ frames := 4, cells := 0, slots := 0, locals := 93 } : Room) s m ([.ref (ga G 0), .int a1] : List Value).toArray below meth c H locs 0 0 (MQ below (qI G Q) ([.ref (ga G 0), .int a1] : List Value).toArray s 0 0 (gA G)) (F0 m 42 ls [.int t1, .int t0]) := by
          intro x3 t0 t1 μ H locs ls h hl hw
          unfold wp_X7_gotBy_42 at hw
          refine lv_iadd hx hb dX7_gotBy_42 ?_
          obtain ⟨x2_43, ex2_43, hw⟩ := hw
          refine topE ex2_43 ?_
          refine lv_istore_n (lv' := [(2, .int x2_43), (0, .ref (ga G 0)), (1, .int a1), (3, .int x3)]) hx hb dX7_gotBy_43 rfl hl (by decide) rfl (fun ls hl => ?_)
          obtain ⟨x3_44, ex3_44, hw⟩ := hw
          refine lv_iinc (v := x3_44) (lv' := [(3, .int x3_44), (2, .int x2_43), (0, .ref (ga G 0)), (1, .int a1)]) hx hb dX7_gotBy_44 hl (k := 3) rfl (by rw [ex3_44]; rfl) (by decide) rfl (fun ls hl => ?_)
          refine lv_goto (tgt := 4) hx hb dX7_gotBy_47 (by decide) ?_
          exact ih4 x2_43 x3_44 μ _ _ _ h (lv_sub hl [2, 3, 1, 0] rfl) hw
        have s41 : ∀ (x3 : Int32) (t0 : Int32) (μ : vM), ∀ (H : Heap) (locs : List Loc) (ls : Array Slot), bw G s μ H locs → lv_has ls 4 [(0, .ref (ga G 0)), (1, .int a1), (3, .int x3)] → wp_X7_gotBy_41 a1 Q (fun x2 x3 μ => wp_X7_gotBy_4 a1 Q n4 x2 x3 μ) x3 t0 μ → W p l e ({ frames := 4, cells := 0, slots := 0, locals := 93 } : Room) s m ([.ref (ga G 0), .int a1] : List Value).toArray below meth c H locs 0 0 (MQ below (qI G Q) ([.ref (ga G 0), .int a1] : List Value).toArray s 0 0 (gA G)) (F0 m 41 ls [.int t0]) := by
          intro x3 t0 μ H locs ls h hl hw
          unfold wp_X7_gotBy_41 at hw
          refine lv_iconst (v := (0 : Int32)) hx hb dX7_gotBy_41 (by decide) ?_
          exact s42 x3 t0 (0 : Int32) μ _ _ _ h (lv_sub hl [0, 1, 2] rfl) hw
        refine lv_icmp_ne (tgt := 41) hx hb dX7_gotBy_22 (by decide) (fun hc => ?_) (fun hc => ?_)
        · rw [if_neg hc] at hw
          exact s41 x3 x2 μ18 _ _ _ h (lv_sub hl [0, 1, 3] rfl) hw
        · rw [if_pos hc] at hw
          refine lv_aload_n hx hb dX7_gotBy_25 rfl (lv_at hl 0 rfl) ?_
          refine lv_iload_n hx hb dX7_gotBy_26 rfl (lv_at hl 3 rfl) ?_
          refine k_i h (n_V (rest := [.int x2]) (As := [.int x3]) X h hl.1 (c_X7_isHome l G hG x3 h0 _ _ hw) gk_X7_69 rfl hd_X7_isHome ⟨rfl, rfl⟩ ⟨Nat.le_of_ble_eq_true rfl, Nat.le_of_ble_eq_true rfl⟩ (X7_o h0) rfl rfl (Nat.le_of_ble_eq_true rfl) dX7_gotBy_27 ⟨Nat.zero_le _, Nat.zero_le _⟩) (fun r27 μ27 H locs hw h => ?_)
          refine lv_if_eq (tgt := 41) hx hb dX7_gotBy_30 (by decide) (fun hc => ?_) (fun hc => ?_)
          · rw [if_pos hc] at hw
            exact s41 x3 x2 μ27 _ _ _ h (lv_sub hl [0, 1, 3] rfl) hw
          · rw [if_neg hc] at hw
            refine lv_aload_n hx hb dX7_gotBy_33 rfl (lv_at hl 0 rfl) ?_
            refine lv_iload_n hx hb dX7_gotBy_34 rfl (lv_at hl 3 rfl) ?_
            refine k_i h (n_V (rest := [.int x2]) (As := [.int x3]) X h hl.1 (c_X7_worthOf l G hG x3 h0 _ _ hw) gk_X7_131 rfl hd_X7_worthOf ⟨rfl, rfl⟩ ⟨Nat.le_of_ble_eq_true rfl, Nat.le_of_ble_eq_true rfl⟩ (X7_o h0) rfl rfl (Nat.le_of_ble_eq_true rfl) dX7_gotBy_35 ⟨Nat.zero_le _, Nat.zero_le _⟩) (fun r35 μ35 H locs hw h => ?_)
            refine lv_goto (tgt := 42) hx hb dX7_gotBy_38 (by decide) ?_
            exact s42 x3 x2 r35 μ35 _ _ _ h (lv_sub hl [0, 1, 3] rfl) hw
  obtain ⟨n, hw⟩ := hw
  exact s4 n (0 : Int32) (0 : Int32) μ _ _ _ h (lv_sub hl [2, 3, 1, 0] rfl) hw
def wp_X7_gets (a1 : Int32) (a2 : Int32) (Q : Int32 → vM → Prop) (μ : vM) : Prop := wp_X7_isField a1 (fun r1 μ1 => if r1 = 0 then wp_X7_error (-1000000001 : Int32) (fun r20 μ20 => Q r20 μ20) μ1 else wp_X7_in a2 (0 : Int32) (60 : Int32) (fun r11 μ11 => if r11 = 0 then wp_X7_error (-1000000001 : Int32) (fun r20 μ20 => Q r20 μ20) μ11 else wp_X7_thinks  (fun μ25 => wp_X7_goesFor a2 (fun μ30 => wp_X7_gotBy a1 (fun r35 μ35 => wp_X7_putsBack  (fun μ40 => Q r35 μ40) μ35) μ30) μ25) μ11) μ1) μ
set_option maxRecDepth 100000 in
set_option maxHeartbeats 4000000 in
theorem c_X7_gets (l : Launch) (G : vG) (hG : gO G) (a1 : Int32) (a2 : Int32) (h0 : isX7 G) (Q : Int32 → vM → Prop) (μ : vM) (hw : wp_X7_gets a1 a2 Q μ) : mt l G yX7_gets vX7_gets { frames := 6, cells := 0, slots := 0, locals := 138 } [.ref (ga G 0), .int a1, .int a2] μ (qI G Q) := by
  refine met_of (cc := cX7_gets) (maxL := 4) (ret := (some .int)) RX7 (by decide) rfl rfl hG (Nat.le_of_ble_eq_true rfl) ?_
  intro p e s m below meth c X h ls hl
  have hl : lv_has ls 4 [(0, .ref (ga G 0)), (1, .int a1), (2, .int a2)] := hl
  have hx := X.1
  have hb := X.2.1
  unfold wp_X7_gets at hw
  refine lv_iload_n hx hb dX7_gets_0 rfl (lv_at hl 1 rfl) ?_
  refine k_i h (n_T (rest := []) (As := [.int a1]) X h hl.1 (c_X7_isField l G hG a1 _ _ hw) gk_X7_111 rfl hd_X7_isField ⟨rfl, rfl⟩ ⟨Nat.le_of_ble_eq_true rfl, Nat.le_of_ble_eq_true rfl⟩ rfl (Nat.le_of_ble_eq_true rfl) dX7_gets_1 ⟨Nat.zero_le _, Nat.zero_le _⟩) (fun r1 μ1 H locs hw h => ?_)
  refine lv_if_eq (tgt := 17) hx hb dX7_gets_4 (by decide) (fun hc => ?_) (fun hc => ?_)
  · rw [if_pos hc] at hw
    refine lv_aload_n hx hb dX7_gets_17 rfl (lv_at hl 0 rfl) ?_
    refine r_ldc X (v := (-1000000001 : Int32)) ww_4_131 dX7_gets_18 ?_
    refine k_i h (n_V (rest := []) (As := [.int (-1000000001 : Int32)]) X h hl.1 (c_X7_error l G hG (-1000000001 : Int32) h0 _ _ hw) gk_X7_104 rfl hd_X7_error ⟨rfl, rfl⟩ ⟨Nat.le_of_ble_eq_true rfl, Nat.le_of_ble_eq_true rfl⟩ (X7_o h0) rfl rfl (Nat.le_of_ble_eq_true rfl) dX7_gets_20 ⟨Nat.zero_le _, Nat.zero_le _⟩) (fun r20 μ20 H locs hw h => ?_)
    exact r_iret X h hw dX7_gets_23
  · rw [if_neg hc] at hw
    refine lv_iload_n hx hb dX7_gets_7 rfl (lv_at hl 2 rfl) ?_
    refine lv_iconst (v := (0 : Int32)) hx hb dX7_gets_8 (by decide) ?_
    refine lv_bipush (v := (60 : Int32)) hx hb dX7_gets_9 (by decide) ?_
    refine k_i h (n_T (rest := []) (As := [.int a2, .int (0 : Int32), .int (60 : Int32)]) X h hl.1 (c_X7_in l G hG a2 (0 : Int32) (60 : Int32) _ _ hw) gk_X7_57 rfl hd_X7_in ⟨rfl, rfl⟩ ⟨Nat.le_of_ble_eq_true rfl, Nat.le_of_ble_eq_true rfl⟩ rfl (Nat.le_of_ble_eq_true rfl) dX7_gets_11 ⟨Nat.zero_le _, Nat.zero_le _⟩) (fun r11 μ11 H locs hw h => ?_)
    refine lv_if_ne (tgt := 24) hx hb dX7_gets_14 (by decide) (fun hc => ?_) (fun hc => ?_)
    · rw [if_neg hc] at hw
      refine lv_aload_n hx hb dX7_gets_24 rfl (lv_at hl 0 rfl) ?_
      refine k_v h (n_V (rest := []) (As := []) X h hl.1 (c_X7_thinks l G hG h0 _ _ hw) gk_X7_221 rfl hd_X7_thinks ⟨rfl, rfl⟩ ⟨Nat.le_of_ble_eq_true rfl, Nat.le_of_ble_eq_true rfl⟩ (X7_o h0) rfl rfl (Nat.le_of_ble_eq_true rfl) dX7_gets_25 ⟨Nat.zero_le _, Nat.zero_le _⟩) (fun μ25 H locs hw h => ?_)
      refine lv_aload_n hx hb dX7_gets_28 rfl (lv_at hl 0 rfl) ?_
      refine lv_iload_n hx hb dX7_gets_29 rfl (lv_at hl 2 rfl) ?_
      refine k_v h (n_V (rest := []) (As := [.int a2]) X h hl.1 (c_X7_goesFor l G hG a2 h0 _ _ hw) gk_X7_208 rfl hd_X7_goesFor ⟨rfl, rfl⟩ ⟨Nat.le_of_ble_eq_true rfl, Nat.le_of_ble_eq_true rfl⟩ (X7_o h0) rfl rfl (Nat.le_of_ble_eq_true rfl) dX7_gets_30 ⟨Nat.zero_le _, Nat.zero_le _⟩) (fun μ30 H locs hw h => ?_)
      refine lv_aload_n hx hb dX7_gets_33 rfl (lv_at hl 0 rfl) ?_
      refine lv_iload_n hx hb dX7_gets_34 rfl (lv_at hl 1 rfl) ?_
      refine k_i h (n_V (rest := []) (As := [.int a1]) X h hl.1 (c_X7_gotBy l G hG a1 h0 _ _ hw) gk_X7_227 rfl hd_X7_gotBy ⟨rfl, rfl⟩ ⟨Nat.le_of_ble_eq_true rfl, Nat.le_of_ble_eq_true rfl⟩ (X7_o h0) rfl rfl (Nat.le_of_ble_eq_true rfl) dX7_gets_35 ⟨Nat.zero_le _, Nat.zero_le _⟩) (fun r35 μ35 H locs hw h => ?_)
      refine lv_istore_n (lv' := [(3, .int r35), (0, .ref (ga G 0)), (1, .int a1), (2, .int a2)]) hx hb dX7_gets_38 rfl hl (by decide) rfl (fun ls hl => ?_)
      refine lv_aload_n hx hb dX7_gets_39 rfl (lv_at hl 1 rfl) ?_
      refine k_v h (n_V (rest := []) (As := []) X h hl.1 (c_X7_putsBack l G hG h0 _ _ hw) gk_X7_224 rfl hd_X7_putsBack ⟨rfl, rfl⟩ ⟨Nat.le_of_ble_eq_true rfl, Nat.le_of_ble_eq_true rfl⟩ (X7_o h0) rfl rfl (Nat.le_of_ble_eq_true rfl) dX7_gets_40 ⟨Nat.zero_le _, Nat.zero_le _⟩) (fun μ40 H locs hw h => ?_)
      refine lv_iload_n hx hb dX7_gets_43 rfl (lv_at hl 0 rfl) ?_
      exact r_iret X h hw dX7_gets_44
    · rw [if_pos hc] at hw
      refine lv_aload_n hx hb dX7_gets_17 rfl (lv_at hl 0 rfl) ?_
      refine r_ldc X (v := (-1000000001 : Int32)) ww_4_131 dX7_gets_18 ?_
      refine k_i h (n_V (rest := []) (As := [.int (-1000000001 : Int32)]) X h hl.1 (c_X7_error l G hG (-1000000001 : Int32) h0 _ _ hw) gk_X7_104 rfl hd_X7_error ⟨rfl, rfl⟩ ⟨Nat.le_of_ble_eq_true rfl, Nat.le_of_ble_eq_true rfl⟩ (X7_o h0) rfl rfl (Nat.le_of_ble_eq_true rfl) dX7_gets_20 ⟨Nat.zero_le _, Nat.zero_le _⟩) (fun r20 μ20 H locs hw h => ?_)
      exact r_iret X h hw dX7_gets_23
def wp_X7_isEnough_73 (a1 : Int32) (a2 : Int32) (a3 : Int32) (a4 : Int32) (Q : Int32 → vM → Prop) (t0 : Int32) (μ : vM) : Prop := wp_X7_putsBack  (fun μ76 => bz t0 ∧ Q t0 μ76) μ
def wp_X7_isEnough_44 (a1 : Int32) (a2 : Int32) (a3 : Int32) (a4 : Int32) (Q : Int32 → vM → Prop) (k3 : Int32 → vM → Prop) (x5 : Int32) (t1 : Int32) (t2 : Int32) (t3 : Int32) (μ : vM) : Prop := wp_X7_lets t1 t2 t3 (fun μ44 => ∃ x5_47 : Int32, x5_47 = x5 + (1 : Int32) ∧ k3 x5_47 μ44) μ
def wp_X7_isEnough_3 (a1 : Int32) (a2 : Int32) (a3 : Int32) (a4 : Int32) (Q : Int32 → vM → Prop) : Nat → Int32 → vM → Prop
  | 0, _, _ => False
  | n3 + 1, x5, μ => vp_in (2 : Int32) 385 ∧ if (μ 1 (2 : Int32).toNatClampNeg) ≤ x5 then wp_X7_goesFor a4 (fun μ56 => wp_X7_gotBy a2 (fun r61 μ61 => wp_X7_isEnough_73 a1 a2 a3 a4 Q (if r61 < a3 then (0 : Int32) else (1 : Int32)) μ61) μ56) μ else if ((a1 >>> (x5 &&& 31)) &&& (1 : Int32)) = (1 : Int32) then wp_X7_homeOf x5 (fun r31 μ31 => wp_X7_isEnough_44 a1 a2 a3 a4 Q (fun x5 μ => wp_X7_isEnough_3 a1 a2 a3 a4 Q n3 x5 μ) x5 x5 (3 : Int32) r31 μ31) μ else wp_X7_of x5 (3 : Int32) (fun r41 μ41 => wp_X7_isEnough_44 a1 a2 a3 a4 Q (fun x5 μ => wp_X7_isEnough_3 a1 a2 a3 a4 Q n3 x5 μ) x5 x5 (3 : Int32) r41 μ41) μ
def wp_X7_isEnough (a1 : Int32) (a2 : Int32) (a3 : Int32) (a4 : Int32) (Q : Int32 → vM → Prop) (μ : vM) : Prop := ∃ n3, wp_X7_isEnough_3 a1 a2 a3 a4 Q n3 (0 : Int32) μ
set_option maxRecDepth 100000 in
set_option maxHeartbeats 4000000 in
theorem c_X7_isEnough (l : Launch) (G : vG) (hG : gO G) (a1 : Int32) (a2 : Int32) (a3 : Int32) (a4 : Int32) (h0 : isX7 G) (Q : Int32 → vM → Prop) (μ : vM) (hw : wp_X7_isEnough a1 a2 a3 a4 Q μ) : mt l G yX7_isEnough vX7_isEnough { frames := 6, cells := 0, slots := 0, locals := 138 } [.ref (ga G 0), .int a1, .int a2, .int a3, .int a4] μ (qI G Q) := by
  refine met_of (cc := cX7_isEnough) (maxL := 6) (ret := (some .boolean)) RX7 (by decide) rfl rfl hG (Nat.le_of_ble_eq_true rfl) ?_
  intro p e s m below meth c X h ls hl
  have hl : lv_has ls 6 [(0, .ref (ga G 0)), (1, .int a1), (2, .int a2), (3, .int a3), (4, .int a4)] := hl
  have hx := X.1
  have hb := X.2.1
  unfold wp_X7_isEnough at hw
  refine lv_iconst (v := (0 : Int32)) hx hb dX7_isEnough_0 (by decide) ?_
  refine lv_istore (lv' := [(5, .int (0 : Int32)), (0, .ref (ga G 0)), (1, .int a1), (2, .int a2), (3, .int a3), (4, .int a4)]) hx hb dX7_isEnough_1 hl (by decide) rfl (fun ls hl => ?_)
  have s3 : ∀ (n3 : Nat) (x5 : Int32) (μ : vM), ∀ (H : Heap) (locs : List Loc) (ls : Array Slot), bw G s μ H locs → lv_has ls 6 [(0, .ref (ga G 0)), (1, .int a1), (2, .int a2), (3, .int a3), (4, .int a4), (5, .int x5)] → wp_X7_isEnough_3 a1 a2 a3 a4 Q n3 x5 μ → W p l e ({ frames := 6, cells := 0, slots := 0, locals := 138 } : Room) s m ([.ref (ga G 0), .int a1, .int a2, .int a3, .int a4] : List Value).toArray below meth c H locs 0 0 (MQ below (qI G Q) ([.ref (ga G 0), .int a1, .int a2, .int a3, .int a4] : List Value).toArray s 0 0 (gA G)) (F0 m 3 ls []) := by
    intro n3
    induction n3 with
    | zero => intro x5 μ H locs ls h hl hw; exact absurd hw (by unfold wp_X7_isEnough_3; exact id)
    | succ n3 ih3 =>
      intro x5 μ H locs ls h hl hw
      unfold wp_X7_isEnough_3 at hw
      refine lv_iload hx hb dX7_isEnough_3 (lv_at hl 5 rfl) ?_
      refine lv_aload_n hx hb dX7_isEnough_5 rfl (lv_at hl 0 rfl) ?_
      refine r_getR (q := 1) X h (X7_o h0) rfl uX7 0 (by decide) lf_4_51 rfl dX7_isEnough_6 ?_
      refine lv_iconst (v := (2 : Int32)) hx hb dX7_isEnough_9 (by decide) ?_
      obtain ⟨hi, hw⟩ := hw
      refine r_ald X h (X7_row h0) hi dX7_isEnough_10 ?_
      refine lv_icmp_ge (tgt := 53) hx hb dX7_isEnough_11 (by decide) (fun hc => ?_) (fun hc => ?_)
      · rw [if_pos hc] at hw
        refine lv_aload_n hx hb dX7_isEnough_53 rfl (lv_at hl 0 rfl) ?_
        refine lv_iload hx hb dX7_isEnough_54 (lv_at hl 4 rfl) ?_
        refine k_v h (n_V (rest := []) (As := [.int a4]) X h hl.1 (c_X7_goesFor l G hG a4 h0 _ _ hw) gk_X7_208 rfl hd_X7_goesFor ⟨rfl, rfl⟩ ⟨Nat.le_of_ble_eq_true rfl, Nat.le_of_ble_eq_true rfl⟩ (X7_o h0) rfl rfl (Nat.le_of_ble_eq_true rfl) dX7_isEnough_56 ⟨Nat.zero_le _, Nat.zero_le _⟩) (fun μ56 H locs hw h => ?_)
        refine lv_aload_n hx hb dX7_isEnough_59 rfl (lv_at hl 0 rfl) ?_
        refine lv_iload_n hx hb dX7_isEnough_60 rfl (lv_at hl 2 rfl) ?_
        refine k_i h (n_V (rest := []) (As := [.int a2]) X h hl.1 (c_X7_gotBy l G hG a2 h0 _ _ hw) gk_X7_227 rfl hd_X7_gotBy ⟨rfl, rfl⟩ ⟨Nat.le_of_ble_eq_true rfl, Nat.le_of_ble_eq_true rfl⟩ (X7_o h0) rfl rfl (Nat.le_of_ble_eq_true rfl) dX7_isEnough_61 ⟨Nat.zero_le _, Nat.zero_le _⟩) (fun r61 μ61 H locs hw h => ?_)
        refine lv_iload_n hx hb dX7_isEnough_64 rfl (lv_at hl 3 rfl) ?_
        have s73 : ∀ (t0 : Int32) (μ : vM), ∀ (H : Heap) (locs : List Loc) (ls : Array Slot), bw G s μ H locs → lv_has ls 6 [(0, .ref (ga G 0))] → wp_X7_isEnough_73 a1 a2 a3 a4 Q t0 μ → W p l e ({ frames := 6, cells := 0, slots := 0, locals := 138 } : Room) s m ([.ref (ga G 0), .int a1, .int a2, .int a3, .int a4] : List Value).toArray below meth c H locs 0 0 (MQ below (qI G Q) ([.ref (ga G 0), .int a1, .int a2, .int a3, .int a4] : List Value).toArray s 0 0 (gA G)) (F0 m 73 ls [.int t0]) := by
          intro t0 μ H locs ls h hl hw
          unfold wp_X7_isEnough_73 at hw
          refine lv_istore (lv' := [(5, .int t0), (0, .ref (ga G 0))]) hx hb dX7_isEnough_73 hl (by decide) rfl (fun ls hl => ?_)
          refine lv_aload_n hx hb dX7_isEnough_75 rfl (lv_at hl 1 rfl) ?_
          refine k_v h (n_V (rest := []) (As := []) X h hl.1 (c_X7_putsBack l G hG h0 _ _ hw) gk_X7_224 rfl hd_X7_putsBack ⟨rfl, rfl⟩ ⟨Nat.le_of_ble_eq_true rfl, Nat.le_of_ble_eq_true rfl⟩ (X7_o h0) rfl rfl (Nat.le_of_ble_eq_true rfl) dX7_isEnough_76 ⟨Nat.zero_le _, Nat.zero_le _⟩) (fun μ76 H locs hw h => ?_)
          refine lv_iload hx hb dX7_isEnough_79 (lv_at hl 0 rfl) ?_
          exact r_zret X h hw.1 hw.2 dX7_isEnough_81
        refine lv_icmp_lt (tgt := 72) hx hb dX7_isEnough_65 (by decide) (fun hc => ?_) (fun hc => ?_)
        · rw [if_pos hc] at hw
          refine lv_iconst (v := (0 : Int32)) hx hb dX7_isEnough_72 (by decide) ?_
          exact s73 (0 : Int32) μ61 _ _ _ h (lv_sub hl [0] rfl) hw
        · rw [if_neg hc] at hw
          refine lv_iconst (v := (1 : Int32)) hx hb dX7_isEnough_68 (by decide) ?_
          refine lv_goto (tgt := 73) hx hb dX7_isEnough_69 (by decide) ?_
          exact s73 (1 : Int32) μ61 _ _ _ h (lv_sub hl [0] rfl) hw
      · rw [if_neg hc] at hw
        refine lv_aload_n hx hb dX7_isEnough_14 rfl (lv_at hl 0 rfl) ?_
        refine lv_iload hx hb dX7_isEnough_15 (lv_at hl 5 rfl) ?_
        refine lv_iconst (v := (3 : Int32)) hx hb dX7_isEnough_17 (by decide) ?_
        refine lv_iload_n hx hb dX7_isEnough_18 rfl (lv_at hl 1 rfl) ?_
        refine lv_iload hx hb dX7_isEnough_19 (lv_at hl 5 rfl) ?_
        refine lv_ishr hx hb dX7_isEnough_21 ?_
        refine lv_iconst (v := (1 : Int32)) hx hb dX7_isEnough_22 (by decide) ?_
        refine lv_iand hx hb dX7_isEnough_23 ?_
        refine lv_iconst (v := (1 : Int32)) hx hb dX7_isEnough_24 (by decide) ?_
        have s44 : ∀ (x5 : Int32) (t1 : Int32) (t2 : Int32) (t3 : Int32) (μ : vM), ∀ (H : Heap) (locs : List Loc) (ls : Array Slot), bw G s μ H locs → lv_has ls 6 [(0, .ref (ga G 0)), (1, .int a1), (2, .int a2), (3, .int a3), (4, .int a4), (5, .int x5)] → wp_X7_isEnough_44 a1 a2 a3 a4 Q (fun x5 μ => wp_X7_isEnough_3 a1 a2 a3 a4 Q n3 x5 μ) x5 t1 t2 t3 μ → W p l e ({ frames := 6, cells := 0, slots := 0, locals := 138 } : Room) s m ([.ref (ga G 0), .int a1, .int a2, .int a3, .int a4] : List Value).toArray below meth c H locs 0 0 (MQ below (qI G Q) ([.ref (ga G 0), .int a1, .int a2, .int a3, .int a4] : List Value).toArray s 0 0 (gA G)) (F0 m 44 ls [.int t3, .int t2, .int t1, .ref (ga G 0)]) := by
          intro x5 t1 t2 t3 μ H locs ls h hl hw
          unfold wp_X7_isEnough_44 at hw
          refine k_v h (n_V (rest := []) (As := [.int t1, .int t2, .int t3]) X h hl.1 (c_X7_lets l G hG t1 t2 t3 h0 _ _ hw) gk_X7_122 rfl hd_X7_lets ⟨rfl, rfl⟩ ⟨Nat.le_of_ble_eq_true rfl, Nat.le_of_ble_eq_true rfl⟩ (X7_o h0) rfl rfl (Nat.le_of_ble_eq_true rfl) dX7_isEnough_44 ⟨Nat.zero_le _, Nat.zero_le _⟩) (fun μ44 H locs hw h => ?_)
          obtain ⟨x5_47, ex5_47, hw⟩ := hw
          refine lv_iinc (v := x5_47) (lv' := [(5, .int x5_47), (0, .ref (ga G 0)), (1, .int a1), (2, .int a2), (3, .int a3), (4, .int a4)]) hx hb dX7_isEnough_47 hl (k := 5) rfl (by rw [ex5_47]; rfl) (by decide) rfl (fun ls hl => ?_)
          refine lv_goto (tgt := 3) hx hb dX7_isEnough_50 (by decide) ?_
          exact ih3 x5_47 μ44 _ _ _ h (lv_sub hl [1, 2, 3, 4, 5, 0] rfl) hw
        refine lv_icmp_ne (tgt := 37) hx hb dX7_isEnough_25 (by decide) (fun hc => ?_) (fun hc => ?_)
        · rw [if_neg hc] at hw
          refine lv_aload_n hx hb dX7_isEnough_37 rfl (lv_at hl 0 rfl) ?_
          refine lv_iload hx hb dX7_isEnough_38 (lv_at hl 5 rfl) ?_
          refine lv_iconst (v := (3 : Int32)) hx hb dX7_isEnough_40 (by decide) ?_
          refine k_i h (n_V (rest := [.int (3 : Int32), .int x5, .ref (ga G 0)]) (As := [.int x5, .int (3 : Int32)]) X h hl.1 (c_X7_of l G hG x5 (3 : Int32) h0 _ _ hw) gk_X7_61 rfl hd_X7_of ⟨rfl, rfl⟩ ⟨Nat.le_of_ble_eq_true rfl, Nat.le_of_ble_eq_true rfl⟩ (X7_o h0) rfl rfl (Nat.le_of_ble_eq_true rfl) dX7_isEnough_41 ⟨Nat.zero_le _, Nat.zero_le _⟩) (fun r41 μ41 H locs hw h => ?_)
          exact s44 x5 x5 (3 : Int32) r41 μ41 _ _ _ h (lv_sub hl [0, 1, 2, 3, 4, 5] rfl) hw
        · rw [if_pos hc] at hw
          refine lv_aload_n hx hb dX7_isEnough_28 rfl (lv_at hl 0 rfl) ?_
          refine lv_iload hx hb dX7_isEnough_29 (lv_at hl 5 rfl) ?_
          refine k_i h (n_V (rest := [.int (3 : Int32), .int x5, .ref (ga G 0)]) (As := [.int x5]) X h hl.1 (c_X7_homeOf l G hG x5 h0 _ _ hw) gk_X7_65 rfl hd_X7_homeOf ⟨rfl, rfl⟩ ⟨Nat.le_of_ble_eq_true rfl, Nat.le_of_ble_eq_true rfl⟩ (X7_o h0) rfl rfl (Nat.le_of_ble_eq_true rfl) dX7_isEnough_31 ⟨Nat.zero_le _, Nat.zero_le _⟩) (fun r31 μ31 H locs hw h => ?_)
          refine lv_goto (tgt := 44) hx hb dX7_isEnough_34 (by decide) ?_
          exact s44 x5 x5 (3 : Int32) r31 μ31 _ _ _ h (lv_sub hl [0, 1, 2, 3, 4, 5] rfl) hw
  obtain ⟨n, hw⟩ := hw
  exact s3 n (0 : Int32) μ _ _ _ h (lv_sub hl [1, 2, 3, 4, 5, 0] rfl) hw
def wp_X7_carry_107 (a1 : Int32) (a2 : Int32) (a3 : Int32) (Q : Int32 → vM → Prop) (k45 : Int32 → Int32 → vM → Prop) (x5 : Int32) (t0 : Int32) (μ : vM) : Prop := ∃ x5_109 : Int32, x5_109 = x5 + (1 : Int32) ∧ k45 t0 x5_109 μ
def wp_X7_carry_105 (a1 : Int32) (a2 : Int32) (a3 : Int32) (Q : Int32 → vM → Prop) (k45 : Int32 → Int32 → vM → Prop) (x4 : Int32) (x5 : Int32) (μ : vM) : Prop := wp_X7_carry_107 a1 a2 a3 Q k45 x5 x4 μ
def wp_X7_carry_81 (a1 : Int32) (a2 : Int32) (a3 : Int32) (Q : Int32 → vM → Prop) (k45 : Int32 → Int32 → vM → Prop) (x4 : Int32) (x5 : Int32) (t0 : Int32) (μ : vM) : Prop := if t0 = 0 then wp_X7_carry_105 a1 a2 a3 Q k45 x4 x5 μ else wp_X7_isEnough x5 a1 a2 a3 (fun r94 μ94 => if r94 = 0 then wp_X7_carry_105 a1 a2 a3 Q k45 x4 x5 μ94 else wp_X7_carry_107 a1 a2 a3 Q k45 x5 x5 μ94) μ
def wp_X7_carry_76 (a1 : Int32) (a2 : Int32) (a3 : Int32) (Q : Int32 → vM → Prop) (k45 : Int32 → Int32 → vM → Prop) (x4 : Int32) (x5 : Int32) (μ : vM) : Prop := wp_X7_carry_81 a1 a2 a3 Q k45 x4 x5 (1 : Int32) μ
def wp_X7_carry_45 (a1 : Int32) (a2 : Int32) (a3 : Int32) (Q : Int32 → vM → Prop) : Nat → Int32 → Int32 → vM → Prop
  | 0, _, _, _ => False
  | n45 + 1, x4, x5, μ => vp_in (2 : Int32) 385 ∧ if ((1 : Int32) <<< ((μ 1 (2 : Int32).toNatClampNeg) &&& 31)) ≤ x5 then if 0 ≤ x4 then Q x4 μ else wp_X7_error (-1000000002 : Int32) (fun r123 μ123 => Q r123 μ123) μ else if x4 < 0 then wp_X7_carry_76 a1 a2 a3 Q (fun x4 x5 μ => wp_X7_carry_45 a1 a2 a3 Q n45 x4 x5 μ) x4 x5 μ else wp_X7_bits x5 (fun r65 μ65 => wp_X7_bits x4 (fun r70 μ70 => if r70 ≤ r65 then wp_X7_carry_81 a1 a2 a3 Q (fun x4 x5 μ => wp_X7_carry_45 a1 a2 a3 Q n45 x4 x5 μ) x4 x5 (0 : Int32) μ70 else wp_X7_carry_76 a1 a2 a3 Q (fun x4 x5 μ => wp_X7_carry_45 a1 a2 a3 Q n45 x4 x5 μ) x4 x5 μ70) μ65) μ
def wp_X7_carry (a1 : Int32) (a2 : Int32) (a3 : Int32) (Q : Int32 → vM → Prop) (μ : vM) : Prop := wp_X7_isField a1 (fun r1 μ1 => if r1 = 0 then wp_X7_error (-1000000001 : Int32) (fun r31 μ31 => Q r31 μ31) μ1 else wp_X7_in a2 (0 : Int32) (999 : Int32) (fun r12 μ12 => if r12 = 0 then wp_X7_error (-1000000001 : Int32) (fun r31 μ31 => Q r31 μ31) μ12 else wp_X7_in a3 (0 : Int32) (30 : Int32) (fun r22 μ22 => if r22 = 0 then wp_X7_error (-1000000001 : Int32) (fun r31 μ31 => Q r31 μ31) μ22 else wp_X7_thinks  (fun μ36 => ∃ n45, wp_X7_carry_45 a1 a2 a3 Q n45 (-1 : Int32) (0 : Int32) μ36) μ22) μ12) μ1) μ
set_option maxRecDepth 100000 in
set_option maxHeartbeats 4000000 in
theorem c_X7_carry (l : Launch) (G : vG) (hG : gO G) (a1 : Int32) (a2 : Int32) (a3 : Int32) (h0 : isX7 G) (Q : Int32 → vM → Prop) (μ : vM) (hw : wp_X7_carry a1 a2 a3 Q μ) : mt l G yX7_carry vX7_carry { frames := 7, cells := 0, slots := 0, locals := 163 } [.ref (ga G 0), .int a1, .int a2, .int a3] μ (qI G Q) := by
  refine met_of (cc := cX7_carry) (maxL := 7) (ret := (some .int)) RX7 (by decide) rfl rfl hG (Nat.le_of_ble_eq_true rfl) ?_
  intro p e s m below meth c X h ls hl
  have hl : lv_has ls 7 [(0, .ref (ga G 0)), (1, .int a1), (2, .int a2), (3, .int a3)] := hl
  have hx := X.1
  have hb := X.2.1
  unfold wp_X7_carry at hw
  refine lv_iload_n hx hb dX7_carry_0 rfl (lv_at hl 1 rfl) ?_
  refine k_i h (n_T (rest := []) (As := [.int a1]) X h hl.1 (c_X7_isField l G hG a1 _ _ hw) gk_X7_111 rfl hd_X7_isField ⟨rfl, rfl⟩ ⟨Nat.le_of_ble_eq_true rfl, Nat.le_of_ble_eq_true rfl⟩ rfl (Nat.le_of_ble_eq_true rfl) dX7_carry_1 ⟨Nat.zero_le _, Nat.zero_le _⟩) (fun r1 μ1 H locs hw h => ?_)
  refine lv_if_eq (tgt := 28) hx hb dX7_carry_4 (by decide) (fun hc => ?_) (fun hc => ?_)
  · rw [if_pos hc] at hw
    refine lv_aload_n hx hb dX7_carry_28 rfl (lv_at hl 0 rfl) ?_
    refine r_ldc X (v := (-1000000001 : Int32)) ww_4_131 dX7_carry_29 ?_
    refine k_i h (n_V (rest := []) (As := [.int (-1000000001 : Int32)]) X h hl.1 (c_X7_error l G hG (-1000000001 : Int32) h0 _ _ hw) gk_X7_104 rfl hd_X7_error ⟨rfl, rfl⟩ ⟨Nat.le_of_ble_eq_true rfl, Nat.le_of_ble_eq_true rfl⟩ (X7_o h0) rfl rfl (Nat.le_of_ble_eq_true rfl) dX7_carry_31 ⟨Nat.zero_le _, Nat.zero_le _⟩) (fun r31 μ31 H locs hw h => ?_)
    exact r_iret X h hw dX7_carry_34
  · rw [if_neg hc] at hw
    refine lv_iload_n hx hb dX7_carry_7 rfl (lv_at hl 2 rfl) ?_
    refine lv_iconst (v := (0 : Int32)) hx hb dX7_carry_8 (by decide) ?_
    refine lv_sipush (v := (999 : Int32)) hx hb dX7_carry_9 (by decide) ?_
    refine k_i h (n_T (rest := []) (As := [.int a2, .int (0 : Int32), .int (999 : Int32)]) X h hl.1 (c_X7_in l G hG a2 (0 : Int32) (999 : Int32) _ _ hw) gk_X7_57 rfl hd_X7_in ⟨rfl, rfl⟩ ⟨Nat.le_of_ble_eq_true rfl, Nat.le_of_ble_eq_true rfl⟩ rfl (Nat.le_of_ble_eq_true rfl) dX7_carry_12 ⟨Nat.zero_le _, Nat.zero_le _⟩) (fun r12 μ12 H locs hw h => ?_)
    refine lv_if_eq (tgt := 28) hx hb dX7_carry_15 (by decide) (fun hc => ?_) (fun hc => ?_)
    · rw [if_pos hc] at hw
      refine lv_aload_n hx hb dX7_carry_28 rfl (lv_at hl 0 rfl) ?_
      refine r_ldc X (v := (-1000000001 : Int32)) ww_4_131 dX7_carry_29 ?_
      refine k_i h (n_V (rest := []) (As := [.int (-1000000001 : Int32)]) X h hl.1 (c_X7_error l G hG (-1000000001 : Int32) h0 _ _ hw) gk_X7_104 rfl hd_X7_error ⟨rfl, rfl⟩ ⟨Nat.le_of_ble_eq_true rfl, Nat.le_of_ble_eq_true rfl⟩ (X7_o h0) rfl rfl (Nat.le_of_ble_eq_true rfl) dX7_carry_31 ⟨Nat.zero_le _, Nat.zero_le _⟩) (fun r31 μ31 H locs hw h => ?_)
      exact r_iret X h hw dX7_carry_34
    · rw [if_neg hc] at hw
      refine lv_iload_n hx hb dX7_carry_18 rfl (lv_at hl 3 rfl) ?_
      refine lv_iconst (v := (0 : Int32)) hx hb dX7_carry_19 (by decide) ?_
      refine lv_bipush (v := (30 : Int32)) hx hb dX7_carry_20 (by decide) ?_
      refine k_i h (n_T (rest := []) (As := [.int a3, .int (0 : Int32), .int (30 : Int32)]) X h hl.1 (c_X7_in l G hG a3 (0 : Int32) (30 : Int32) _ _ hw) gk_X7_57 rfl hd_X7_in ⟨rfl, rfl⟩ ⟨Nat.le_of_ble_eq_true rfl, Nat.le_of_ble_eq_true rfl⟩ rfl (Nat.le_of_ble_eq_true rfl) dX7_carry_22 ⟨Nat.zero_le _, Nat.zero_le _⟩) (fun r22 μ22 H locs hw h => ?_)
      refine lv_if_ne (tgt := 35) hx hb dX7_carry_25 (by decide) (fun hc => ?_) (fun hc => ?_)
      · rw [if_neg hc] at hw
        refine lv_aload_n hx hb dX7_carry_35 rfl (lv_at hl 0 rfl) ?_
        refine k_v h (n_V (rest := []) (As := []) X h hl.1 (c_X7_thinks l G hG h0 _ _ hw) gk_X7_221 rfl hd_X7_thinks ⟨rfl, rfl⟩ ⟨Nat.le_of_ble_eq_true rfl, Nat.le_of_ble_eq_true rfl⟩ (X7_o h0) rfl rfl (Nat.le_of_ble_eq_true rfl) dX7_carry_36 ⟨Nat.zero_le _, Nat.zero_le _⟩) (fun μ36 H locs hw h => ?_)
        refine lv_iconst (v := (-1 : Int32)) hx hb dX7_carry_39 (by decide) ?_
        refine lv_istore (lv' := [(4, .int (-1 : Int32)), (0, .ref (ga G 0)), (1, .int a1), (2, .int a2), (3, .int a3)]) hx hb dX7_carry_40 hl (by decide) rfl (fun ls hl => ?_)
        refine lv_iconst (v := (0 : Int32)) hx hb dX7_carry_42 (by decide) ?_
        refine lv_istore (lv' := [(5, .int (0 : Int32)), (4, .int (-1 : Int32)), (0, .ref (ga G 0)), (1, .int a1), (2, .int a2), (3, .int a3)]) hx hb dX7_carry_43 hl (by decide) rfl (fun ls hl => ?_)
        have s45 : ∀ (n45 : Nat) (x4 : Int32) (x5 : Int32) (μ : vM), ∀ (H : Heap) (locs : List Loc) (ls : Array Slot), bw G s μ H locs → lv_has ls 7 [(0, .ref (ga G 0)), (1, .int a1), (2, .int a2), (3, .int a3), (4, .int x4), (5, .int x5)] → wp_X7_carry_45 a1 a2 a3 Q n45 x4 x5 μ → W p l e ({ frames := 7, cells := 0, slots := 0, locals := 163 } : Room) s m ([.ref (ga G 0), .int a1, .int a2, .int a3] : List Value).toArray below meth c H locs 0 0 (MQ below (qI G Q) ([.ref (ga G 0), .int a1, .int a2, .int a3] : List Value).toArray s 0 0 (gA G)) (F0 m 45 ls []) := by
          intro n45
          induction n45 with
          | zero => intro x4 x5 μ H locs ls h hl hw; exact absurd hw (by unfold wp_X7_carry_45; exact id)
          | succ n45 ih45 =>
            intro x4 x5 μ H locs ls h hl hw
            unfold wp_X7_carry_45 at hw
            refine lv_iload hx hb dX7_carry_45 (lv_at hl 5 rfl) ?_
            refine lv_iconst (v := (1 : Int32)) hx hb dX7_carry_47 (by decide) ?_
            refine lv_aload_n hx hb dX7_carry_48 rfl (lv_at hl 0 rfl) ?_
            refine r_getR (q := 1) X h (X7_o h0) rfl uX7 0 (by decide) lf_4_51 rfl dX7_carry_49 ?_
            refine lv_iconst (v := (2 : Int32)) hx hb dX7_carry_52 (by decide) ?_
            obtain ⟨hi, hw⟩ := hw
            refine r_ald X h (X7_row h0) hi dX7_carry_53 ?_
            refine lv_ishl hx hb dX7_carry_54 ?_
            refine lv_icmp_ge (tgt := 115) hx hb dX7_carry_55 (by decide) (fun hc => ?_) (fun hc => ?_)
            · rw [if_pos hc] at hw
              refine lv_iload hx hb dX7_carry_115 (lv_at hl 4 rfl) ?_
              refine lv_if_ge (tgt := 129) hx hb dX7_carry_117 (by decide) (fun hc => ?_) (fun hc => ?_)
              · rw [if_pos hc] at hw
                refine lv_iload hx hb dX7_carry_129 (lv_at hl 4 rfl) ?_
                exact r_iret X h hw dX7_carry_131
              · rw [if_neg hc] at hw
                refine lv_aload_n hx hb dX7_carry_120 rfl (lv_at hl 0 rfl) ?_
                refine r_ldc X (v := (-1000000002 : Int32)) ww_4_164 dX7_carry_121 ?_
                refine k_i h (n_V (rest := []) (As := [.int (-1000000002 : Int32)]) X h hl.1 (c_X7_error l G hG (-1000000002 : Int32) h0 _ _ hw) gk_X7_104 rfl hd_X7_error ⟨rfl, rfl⟩ ⟨Nat.le_of_ble_eq_true rfl, Nat.le_of_ble_eq_true rfl⟩ (X7_o h0) rfl rfl (Nat.le_of_ble_eq_true rfl) dX7_carry_123 ⟨Nat.zero_le _, Nat.zero_le _⟩) (fun r123 μ123 H locs hw h => ?_)
                refine lv_goto (tgt := 131) hx hb dX7_carry_126 (by decide) ?_
                exact r_iret X h hw dX7_carry_131
            · rw [if_neg hc] at hw
              refine lv_iload hx hb dX7_carry_58 (lv_at hl 4 rfl) ?_
              have s81 : ∀ (x4 : Int32) (x5 : Int32) (t0 : Int32) (μ : vM), ∀ (H : Heap) (locs : List Loc) (ls : Array Slot), bw G s μ H locs → lv_has ls 7 [(0, .ref (ga G 0)), (1, .int a1), (2, .int a2), (3, .int a3), (4, .int x4), (5, .int x5)] → wp_X7_carry_81 a1 a2 a3 Q (fun x4 x5 μ => wp_X7_carry_45 a1 a2 a3 Q n45 x4 x5 μ) x4 x5 t0 μ → W p l e ({ frames := 7, cells := 0, slots := 0, locals := 163 } : Room) s m ([.ref (ga G 0), .int a1, .int a2, .int a3] : List Value).toArray below meth c H locs 0 0 (MQ below (qI G Q) ([.ref (ga G 0), .int a1, .int a2, .int a3] : List Value).toArray s 0 0 (gA G)) (F0 m 81 ls [.int t0]) := by
                intro x4 x5 t0 μ H locs ls h hl hw
                unfold wp_X7_carry_81 at hw
                refine lv_istore (lv' := [(6, .int t0), (0, .ref (ga G 0)), (1, .int a1), (2, .int a2), (3, .int a3), (4, .int x4), (5, .int x5)]) hx hb dX7_carry_81 hl (by decide) rfl (fun ls hl => ?_)
                refine lv_iload hx hb dX7_carry_83 (lv_at hl 0 rfl) ?_
                have s107 : ∀ (x5 : Int32) (t0 : Int32) (μ : vM), ∀ (H : Heap) (locs : List Loc) (ls : Array Slot), bw G s μ H locs → lv_has ls 7 [(0, .ref (ga G 0)), (1, .int a1), (2, .int a2), (3, .int a3), (5, .int x5)] → wp_X7_carry_107 a1 a2 a3 Q (fun x4 x5 μ => wp_X7_carry_45 a1 a2 a3 Q n45 x4 x5 μ) x5 t0 μ → W p l e ({ frames := 7, cells := 0, slots := 0, locals := 163 } : Room) s m ([.ref (ga G 0), .int a1, .int a2, .int a3] : List Value).toArray below meth c H locs 0 0 (MQ below (qI G Q) ([.ref (ga G 0), .int a1, .int a2, .int a3] : List Value).toArray s 0 0 (gA G)) (F0 m 107 ls [.int t0]) := by
                  intro x5 t0 μ H locs ls h hl hw
                  unfold wp_X7_carry_107 at hw
                  refine lv_istore (lv' := [(4, .int t0), (0, .ref (ga G 0)), (1, .int a1), (2, .int a2), (3, .int a3), (5, .int x5)]) hx hb dX7_carry_107 hl (by decide) rfl (fun ls hl => ?_)
                  obtain ⟨x5_109, ex5_109, hw⟩ := hw
                  refine lv_iinc (v := x5_109) (lv' := [(5, .int x5_109), (4, .int t0), (0, .ref (ga G 0)), (1, .int a1), (2, .int a2), (3, .int a3)]) hx hb dX7_carry_109 hl (k := 5) rfl (by rw [ex5_109]; rfl) (by decide) rfl (fun ls hl => ?_)
                  refine lv_goto (tgt := 45) hx hb dX7_carry_112 (by decide) ?_
                  exact ih45 t0 x5_109 μ _ _ _ h (lv_sub hl [2, 3, 4, 5, 1, 0] rfl) hw
                have s105 : ∀ (x4 : Int32) (x5 : Int32) (μ : vM), ∀ (H : Heap) (locs : List Loc) (ls : Array Slot), bw G s μ H locs → lv_has ls 7 [(0, .ref (ga G 0)), (1, .int a1), (2, .int a2), (3, .int a3), (4, .int x4), (5, .int x5)] → wp_X7_carry_105 a1 a2 a3 Q (fun x4 x5 μ => wp_X7_carry_45 a1 a2 a3 Q n45 x4 x5 μ) x4 x5 μ → W p l e ({ frames := 7, cells := 0, slots := 0, locals := 163 } : Room) s m ([.ref (ga G 0), .int a1, .int a2, .int a3] : List Value).toArray below meth c H locs 0 0 (MQ below (qI G Q) ([.ref (ga G 0), .int a1, .int a2, .int a3] : List Value).toArray s 0 0 (gA G)) (F0 m 105 ls []) := by
                  intro x4 x5 μ H locs ls h hl hw
                  unfold wp_X7_carry_105 at hw
                  refine lv_iload hx hb dX7_carry_105 (lv_at hl 4 rfl) ?_
                  exact s107 x5 x4 μ _ _ _ h (lv_sub hl [0, 1, 2, 3, 5] rfl) hw
                refine lv_if_eq (tgt := 105) hx hb dX7_carry_85 (by decide) (fun hc => ?_) (fun hc => ?_)
                · rw [if_pos hc] at hw
                  exact s105 x4 x5 μ _ _ _ h (lv_sub hl [1, 2, 3, 4, 5, 6] rfl) hw
                · rw [if_neg hc] at hw
                  refine lv_aload_n hx hb dX7_carry_88 rfl (lv_at hl 1 rfl) ?_
                  refine lv_iload hx hb dX7_carry_89 (lv_at hl 6 rfl) ?_
                  refine lv_iload_n hx hb dX7_carry_91 rfl (lv_at hl 2 rfl) ?_
                  refine lv_iload_n hx hb dX7_carry_92 rfl (lv_at hl 3 rfl) ?_
                  refine lv_iload_n hx hb dX7_carry_93 rfl (lv_at hl 4 rfl) ?_
                  refine k_i h (n_V (rest := []) (As := [.int x5, .int a1, .int a2, .int a3]) X h hl.1 (c_X7_isEnough l G hG x5 a1 a2 a3 h0 _ _ hw) gk_X7_233 rfl hd_X7_isEnough ⟨rfl, rfl⟩ ⟨Nat.le_of_ble_eq_true rfl, Nat.le_of_ble_eq_true rfl⟩ (X7_o h0) rfl rfl (Nat.le_of_ble_eq_true rfl) dX7_carry_94 ⟨Nat.zero_le _, Nat.zero_le _⟩) (fun r94 μ94 H locs hw h => ?_)
                  refine lv_if_eq (tgt := 105) hx hb dX7_carry_97 (by decide) (fun hc => ?_) (fun hc => ?_)
                  · rw [if_pos hc] at hw
                    exact s105 x4 x5 μ94 _ _ _ h (lv_sub hl [1, 2, 3, 4, 5, 6] rfl) hw
                  · rw [if_neg hc] at hw
                    refine lv_iload hx hb dX7_carry_100 (lv_at hl 6 rfl) ?_
                    refine lv_goto (tgt := 107) hx hb dX7_carry_102 (by decide) ?_
                    exact s107 x5 x5 μ94 _ _ _ h (lv_sub hl [1, 2, 3, 4, 6] rfl) hw
              have s76 : ∀ (x4 : Int32) (x5 : Int32) (μ : vM), ∀ (H : Heap) (locs : List Loc) (ls : Array Slot), bw G s μ H locs → lv_has ls 7 [(0, .ref (ga G 0)), (1, .int a1), (2, .int a2), (3, .int a3), (4, .int x4), (5, .int x5)] → wp_X7_carry_76 a1 a2 a3 Q (fun x4 x5 μ => wp_X7_carry_45 a1 a2 a3 Q n45 x4 x5 μ) x4 x5 μ → W p l e ({ frames := 7, cells := 0, slots := 0, locals := 163 } : Room) s m ([.ref (ga G 0), .int a1, .int a2, .int a3] : List Value).toArray below meth c H locs 0 0 (MQ below (qI G Q) ([.ref (ga G 0), .int a1, .int a2, .int a3] : List Value).toArray s 0 0 (gA G)) (F0 m 76 ls []) := by
                intro x4 x5 μ H locs ls h hl hw
                unfold wp_X7_carry_76 at hw
                refine lv_iconst (v := (1 : Int32)) hx hb dX7_carry_76 (by decide) ?_
                refine lv_goto (tgt := 81) hx hb dX7_carry_77 (by decide) ?_
                exact s81 x4 x5 (1 : Int32) μ _ _ _ h (lv_sub hl [0, 1, 2, 3, 4, 5] rfl) hw
              refine lv_if_lt (tgt := 76) hx hb dX7_carry_60 (by decide) (fun hc => ?_) (fun hc => ?_)
              · rw [if_pos hc] at hw
                exact s76 x4 x5 μ _ _ _ h (lv_sub hl [0, 1, 2, 3, 4, 5] rfl) hw
              · rw [if_neg hc] at hw
                refine lv_iload hx hb dX7_carry_63 (lv_at hl 5 rfl) ?_
                refine k_i h (n_T (rest := []) (As := [.int x5]) X h hl.1 (c_X7_bits l G hG x5 _ _ hw) gk_X7_230 rfl hd_X7_bits ⟨rfl, rfl⟩ ⟨Nat.le_of_ble_eq_true rfl, Nat.le_of_ble_eq_true rfl⟩ rfl (Nat.le_of_ble_eq_true rfl) dX7_carry_65 ⟨Nat.zero_le _, Nat.zero_le _⟩) (fun r65 μ65 H locs hw h => ?_)
                refine lv_iload hx hb dX7_carry_68 (lv_at hl 4 rfl) ?_
                refine k_i h (n_T (rest := [.int r65]) (As := [.int x4]) X h hl.1 (c_X7_bits l G hG x4 _ _ hw) gk_X7_230 rfl hd_X7_bits ⟨rfl, rfl⟩ ⟨Nat.le_of_ble_eq_true rfl, Nat.le_of_ble_eq_true rfl⟩ rfl (Nat.le_of_ble_eq_true rfl) dX7_carry_70 ⟨Nat.zero_le _, Nat.zero_le _⟩) (fun r70 μ70 H locs hw h => ?_)
                refine lv_icmp_ge (tgt := 80) hx hb dX7_carry_73 (by decide) (fun hc => ?_) (fun hc => ?_)
                · rw [if_pos hc] at hw
                  refine lv_iconst (v := (0 : Int32)) hx hb dX7_carry_80 (by decide) ?_
                  exact s81 x4 x5 (0 : Int32) μ70 _ _ _ h (lv_sub hl [0, 1, 2, 3, 4, 5] rfl) hw
                · rw [if_neg hc] at hw
                  exact s76 x4 x5 μ70 _ _ _ h (lv_sub hl [0, 1, 2, 3, 4, 5] rfl) hw
        obtain ⟨n, hw⟩ := hw
        exact s45 n (-1 : Int32) (0 : Int32) μ36 _ _ _ h (lv_sub hl [2, 3, 4, 5, 1, 0] rfl) hw
      · rw [if_pos hc] at hw
        refine lv_aload_n hx hb dX7_carry_28 rfl (lv_at hl 0 rfl) ?_
        refine r_ldc X (v := (-1000000001 : Int32)) ww_4_131 dX7_carry_29 ?_
        refine k_i h (n_V (rest := []) (As := [.int (-1000000001 : Int32)]) X h hl.1 (c_X7_error l G hG (-1000000001 : Int32) h0 _ _ hw) gk_X7_104 rfl hd_X7_error ⟨rfl, rfl⟩ ⟨Nat.le_of_ble_eq_true rfl, Nat.le_of_ble_eq_true rfl⟩ (X7_o h0) rfl rfl (Nat.le_of_ble_eq_true rfl) dX7_carry_31 ⟨Nat.zero_le _, Nat.zero_le _⟩) (fun r31 μ31 H locs hw h => ?_)
        exact r_iret X h hw dX7_carry_34
def wp_X7_way_150 (a1 : Int32) (a2 : Int32) (Q : Int32 → vM → Prop) (k38 : Int32 → Int32 → Int32 → vM → Prop) (x3 : Int32) (x4 : Int32) (x5 : Int32) (μ : vM) : Prop := ∃ x5_150 : Int32, x5_150 = x5 + (1 : Int32) ∧ k38 x3 x4 x5_150 μ
def wp_X7_way_148 (a1 : Int32) (a2 : Int32) (Q : Int32 → vM → Prop) (k38 : Int32 → Int32 → Int32 → vM → Prop) (x3 : Int32) (x5 : Int32) (t0 : Int32) (μ : vM) : Prop := wp_X7_way_150 a1 a2 Q k38 x3 t0 x5 μ
def wp_X7_way_133 (a1 : Int32) (a2 : Int32) (Q : Int32 → vM → Prop) (k38 : Int32 → Int32 → Int32 → vM → Prop) (x4 : Int32) (x5 : Int32) (x8 : Int32) (t0 : Int32) (μ : vM) : Prop := wp_X7_way_148 a1 a2 Q k38 t0 x5 (if x8 ≤ x4 then x4 else x8) μ
def wp_X7_way_38 (a1 : Int32) (a2 : Int32) (Q : Int32 → vM → Prop) : Nat → Int32 → Int32 → Int32 → vM → Prop
  | 0, _, _, _, _ => False
  | n38 + 1, x3, x4, x5, μ => if (100 : Int32) ≤ x5 then bz (0 : Int32) ∧ ∃ μ158 : vM, μ158 = st μ 0 9 (0 : Int32) ∧ if 0 ≤ x3 then if a2 = 0 then Q x3 μ158 else Q x4 μ158 else wp_X7_error (-1000000002 : Int32) (fun r168 μ168 => Q r168 μ168) μ158 else ∃ x6_50 : Int32, x6_50 = x5 / (10 : Int32) ∧ ∃ x7_57 : Int32, x7_57 = x5 % (10 : Int32) ∧ if x7_57 ≤ x6_50 then wp_X7_way_150 a1 a2 Q (fun x3 x4 x5 μ => wp_X7_way_38 a1 a2 Q n38 x3 x4 x5 μ) x3 x4 x5 μ else vp_in ((9 : Int32) + x6_50) 385 ∧ if (((μ 1 ((9 : Int32) + x6_50).toNatClampNeg) >>> (x7_57 &&& 31)) &&& (1 : Int32)) = 0 then wp_X7_opensFrom x6_50 x7_57 (1 : Int32) (fun μ90 => wp_X7_opensFrom x7_57 x6_50 (1 : Int32) (fun μ99 => wp_X7_goesFor a1 (fun μ104 => wp_X7_homes  (fun r108 μ108 => wp_X7_bits r108 (fun r111 μ111 => wp_X7_putsBack  (fun μ117 => wp_X7_way_133 a1 a2 Q (fun x3 x4 x5 μ => wp_X7_way_38 a1 a2 Q n38 x3 x4 x5 μ) x4 x5 r111 (if r111 ≤ x4 then x3 else x5) μ117) μ111) μ108) μ104) μ99) μ90) μ else wp_X7_way_150 a1 a2 Q (fun x3 x4 x5 μ => wp_X7_way_38 a1 a2 Q n38 x3 x4 x5 μ) x3 x4 x5 μ
def wp_X7_way (a1 : Int32) (a2 : Int32) (Q : Int32 → vM → Prop) (μ : vM) : Prop := wp_X7_in a1 (0 : Int32) (30 : Int32) (fun r4 μ4 => if r4 = 0 then wp_X7_error (-1000000001 : Int32) (fun r22 μ22 => Q r22 μ22) μ4 else wp_X7_in a2 (0 : Int32) (1 : Int32) (fun r13 μ13 => if r13 = 0 then wp_X7_error (-1000000001 : Int32) (fun r22 μ22 => Q r22 μ22) μ13 else wp_X7_thinks  (fun μ27 => ∃ n38, wp_X7_way_38 a1 a2 Q n38 (-1 : Int32) (-1 : Int32) (0 : Int32) μ27) μ13) μ4) μ
set_option maxRecDepth 100000 in
set_option maxHeartbeats 4000000 in
theorem c_X7_way (l : Launch) (G : vG) (hG : gO G) (a1 : Int32) (a2 : Int32) (h0 : isX7 G) (Q : Int32 → vM → Prop) (μ : vM) (hw : wp_X7_way a1 a2 Q μ) : mt l G yX7_way vX7_way { frames := 6, cells := 0, slots := 0, locals := 138 } [.ref (ga G 0), .int a1, .int a2] μ (qI G Q) := by
  refine met_of (cc := cX7_way) (maxL := 9) (ret := (some .int)) RX7 (by decide) rfl rfl hG (Nat.le_of_ble_eq_true rfl) ?_
  intro p e s m below meth c X h ls hl
  have hl : lv_has ls 9 [(0, .ref (ga G 0)), (1, .int a1), (2, .int a2)] := hl
  have hx := X.1
  have hb := X.2.1
  unfold wp_X7_way at hw
  refine lv_iload_n hx hb dX7_way_0 rfl (lv_at hl 1 rfl) ?_
  refine lv_iconst (v := (0 : Int32)) hx hb dX7_way_1 (by decide) ?_
  refine lv_bipush (v := (30 : Int32)) hx hb dX7_way_2 (by decide) ?_
  refine k_i h (n_T (rest := []) (As := [.int a1, .int (0 : Int32), .int (30 : Int32)]) X h hl.1 (c_X7_in l G hG a1 (0 : Int32) (30 : Int32) _ _ hw) gk_X7_57 rfl hd_X7_in ⟨rfl, rfl⟩ ⟨Nat.le_of_ble_eq_true rfl, Nat.le_of_ble_eq_true rfl⟩ rfl (Nat.le_of_ble_eq_true rfl) dX7_way_4 ⟨Nat.zero_le _, Nat.zero_le _⟩) (fun r4 μ4 H locs hw h => ?_)
  refine lv_if_eq (tgt := 19) hx hb dX7_way_7 (by decide) (fun hc => ?_) (fun hc => ?_)
  · rw [if_pos hc] at hw
    refine lv_aload_n hx hb dX7_way_19 rfl (lv_at hl 0 rfl) ?_
    refine r_ldc X (v := (-1000000001 : Int32)) ww_4_131 dX7_way_20 ?_
    refine k_i h (n_V (rest := []) (As := [.int (-1000000001 : Int32)]) X h hl.1 (c_X7_error l G hG (-1000000001 : Int32) h0 _ _ hw) gk_X7_104 rfl hd_X7_error ⟨rfl, rfl⟩ ⟨Nat.le_of_ble_eq_true rfl, Nat.le_of_ble_eq_true rfl⟩ (X7_o h0) rfl rfl (Nat.le_of_ble_eq_true rfl) dX7_way_22 ⟨Nat.zero_le _, Nat.zero_le _⟩) (fun r22 μ22 H locs hw h => ?_)
    exact r_iret X h hw dX7_way_25
  · rw [if_neg hc] at hw
    refine lv_iload_n hx hb dX7_way_10 rfl (lv_at hl 2 rfl) ?_
    refine lv_iconst (v := (0 : Int32)) hx hb dX7_way_11 (by decide) ?_
    refine lv_iconst (v := (1 : Int32)) hx hb dX7_way_12 (by decide) ?_
    refine k_i h (n_T (rest := []) (As := [.int a2, .int (0 : Int32), .int (1 : Int32)]) X h hl.1 (c_X7_in l G hG a2 (0 : Int32) (1 : Int32) _ _ hw) gk_X7_57 rfl hd_X7_in ⟨rfl, rfl⟩ ⟨Nat.le_of_ble_eq_true rfl, Nat.le_of_ble_eq_true rfl⟩ rfl (Nat.le_of_ble_eq_true rfl) dX7_way_13 ⟨Nat.zero_le _, Nat.zero_le _⟩) (fun r13 μ13 H locs hw h => ?_)
    refine lv_if_ne (tgt := 26) hx hb dX7_way_16 (by decide) (fun hc => ?_) (fun hc => ?_)
    · rw [if_neg hc] at hw
      refine lv_aload_n hx hb dX7_way_26 rfl (lv_at hl 0 rfl) ?_
      refine k_v h (n_V (rest := []) (As := []) X h hl.1 (c_X7_thinks l G hG h0 _ _ hw) gk_X7_221 rfl hd_X7_thinks ⟨rfl, rfl⟩ ⟨Nat.le_of_ble_eq_true rfl, Nat.le_of_ble_eq_true rfl⟩ (X7_o h0) rfl rfl (Nat.le_of_ble_eq_true rfl) dX7_way_27 ⟨Nat.zero_le _, Nat.zero_le _⟩) (fun μ27 H locs hw h => ?_)
      refine lv_iconst (v := (-1 : Int32)) hx hb dX7_way_30 (by decide) ?_
      refine lv_istore_n (lv' := [(3, .int (-1 : Int32)), (0, .ref (ga G 0)), (1, .int a1), (2, .int a2)]) hx hb dX7_way_31 rfl hl (by decide) rfl (fun ls hl => ?_)
      refine lv_iconst (v := (-1 : Int32)) hx hb dX7_way_32 (by decide) ?_
      refine lv_istore (lv' := [(4, .int (-1 : Int32)), (3, .int (-1 : Int32)), (0, .ref (ga G 0)), (1, .int a1), (2, .int a2)]) hx hb dX7_way_33 hl (by decide) rfl (fun ls hl => ?_)
      refine lv_iconst (v := (0 : Int32)) hx hb dX7_way_35 (by decide) ?_
      refine lv_istore (lv' := [(5, .int (0 : Int32)), (4, .int (-1 : Int32)), (3, .int (-1 : Int32)), (0, .ref (ga G 0)), (1, .int a1), (2, .int a2)]) hx hb dX7_way_36 hl (by decide) rfl (fun ls hl => ?_)
      have s38 : ∀ (n38 : Nat) (x3 : Int32) (x4 : Int32) (x5 : Int32) (μ : vM), ∀ (H : Heap) (locs : List Loc) (ls : Array Slot), bw G s μ H locs → lv_has ls 9 [(0, .ref (ga G 0)), (1, .int a1), (2, .int a2), (3, .int x3), (4, .int x4), (5, .int x5)] → wp_X7_way_38 a1 a2 Q n38 x3 x4 x5 μ → W p l e ({ frames := 6, cells := 0, slots := 0, locals := 138 } : Room) s m ([.ref (ga G 0), .int a1, .int a2] : List Value).toArray below meth c H locs 0 0 (MQ below (qI G Q) ([.ref (ga G 0), .int a1, .int a2] : List Value).toArray s 0 0 (gA G)) (F0 m 38 ls []) := by
        intro n38
        induction n38 with
        | zero => intro x3 x4 x5 μ H locs ls h hl hw; exact absurd hw (by unfold wp_X7_way_38; exact id)
        | succ n38 ih38 =>
          intro x3 x4 x5 μ H locs ls h hl hw
          unfold wp_X7_way_38 at hw
          refine lv_iload hx hb dX7_way_38 (lv_at hl 5 rfl) ?_
          refine lv_bipush (v := (100 : Int32)) hx hb dX7_way_40 (by decide) ?_
          refine lv_icmp_ge (tgt := 156) hx hb dX7_way_42 (by decide) (fun hc => ?_) (fun hc => ?_)
          · rw [if_pos hc] at hw
            refine lv_aload_n hx hb dX7_way_156 rfl (lv_at hl 0 rfl) ?_
            refine lv_iconst (v := (0 : Int32)) hx hb dX7_way_157 (by decide) ?_
            obtain ⟨hz, hw⟩ := hw
            obtain ⟨μ158, eμ158, hw⟩ := hw
            refine r_putZ X h (X7_o h0) rfl uX7 tyX7 tyX7_ok nmX7 9 (by decide) lf_4_60 rfl rfl rfl  hz eμ158 dX7_way_158 (fun H locs h => ?_)
            refine lv_iload_n hx hb dX7_way_161 rfl (lv_at hl 3 rfl) ?_
            refine lv_if_ge (tgt := 174) hx hb dX7_way_162 (by decide) (fun hc => ?_) (fun hc => ?_)
            · rw [if_pos hc] at hw
              refine lv_iload_n hx hb dX7_way_174 rfl (lv_at hl 2 rfl) ?_
              refine lv_if_ne (tgt := 182) hx hb dX7_way_175 (by decide) (fun hc => ?_) (fun hc => ?_)
              · rw [if_neg hc] at hw
                refine lv_iload hx hb dX7_way_182 (lv_at hl 4 rfl) ?_
                exact r_iret X h hw dX7_way_184
              · rw [if_pos hc] at hw
                refine lv_iload_n hx hb dX7_way_178 rfl (lv_at hl 3 rfl) ?_
                refine lv_goto (tgt := 184) hx hb dX7_way_179 (by decide) ?_
                exact r_iret X h hw dX7_way_184
            · rw [if_neg hc] at hw
              refine lv_aload_n hx hb dX7_way_165 rfl (lv_at hl 0 rfl) ?_
              refine r_ldc X (v := (-1000000002 : Int32)) ww_4_164 dX7_way_166 ?_
              refine k_i h (n_V (rest := []) (As := [.int (-1000000002 : Int32)]) X h hl.1 (c_X7_error l G hG (-1000000002 : Int32) h0 _ _ hw) gk_X7_104 rfl hd_X7_error ⟨rfl, rfl⟩ ⟨Nat.le_of_ble_eq_true rfl, Nat.le_of_ble_eq_true rfl⟩ (X7_o h0) rfl rfl (Nat.le_of_ble_eq_true rfl) dX7_way_168 ⟨Nat.zero_le _, Nat.zero_le _⟩) (fun r168 μ168 H locs hw h => ?_)
              refine lv_goto (tgt := 184) hx hb dX7_way_171 (by decide) ?_
              exact r_iret X h hw dX7_way_184
          · rw [if_neg hc] at hw
            refine lv_iload hx hb dX7_way_45 (lv_at hl 5 rfl) ?_
            refine lv_bipush (v := (10 : Int32)) hx hb dX7_way_47 (by decide) ?_
            refine lv_idiv hx hb dX7_way_49 (by decide) ?_
            obtain ⟨x6_50, ex6_50, hw⟩ := hw
            refine topE ex6_50 ?_
            refine lv_istore (lv' := [(6, .int x6_50), (0, .ref (ga G 0)), (1, .int a1), (2, .int a2), (3, .int x3), (4, .int x4), (5, .int x5)]) hx hb dX7_way_50 hl (by decide) rfl (fun ls hl => ?_)
            refine lv_iload hx hb dX7_way_52 (lv_at hl 6 rfl) ?_
            refine lv_bipush (v := (10 : Int32)) hx hb dX7_way_54 (by decide) ?_
            refine r_irem hx hb dX7_way_56 (by decide) ?_
            obtain ⟨x7_57, ex7_57, hw⟩ := hw
            refine topE ex7_57 ?_
            refine lv_istore (lv' := [(7, .int x7_57), (6, .int x6_50), (0, .ref (ga G 0)), (1, .int a1), (2, .int a2), (3, .int x3), (4, .int x4), (5, .int x5)]) hx hb dX7_way_57 hl (by decide) rfl (fun ls hl => ?_)
            refine lv_iload hx hb dX7_way_59 (lv_at hl 1 rfl) ?_
            refine lv_iload hx hb dX7_way_61 (lv_at hl 0 rfl) ?_
            have s150 : ∀ (x3 : Int32) (x4 : Int32) (x5 : Int32) (μ : vM), ∀ (H : Heap) (locs : List Loc) (ls : Array Slot), bw G s μ H locs → lv_has ls 9 [(0, .ref (ga G 0)), (1, .int a1), (2, .int a2), (3, .int x3), (4, .int x4), (5, .int x5)] → wp_X7_way_150 a1 a2 Q (fun x3 x4 x5 μ => wp_X7_way_38 a1 a2 Q n38 x3 x4 x5 μ) x3 x4 x5 μ → W p l e ({ frames := 6, cells := 0, slots := 0, locals := 138 } : Room) s m ([.ref (ga G 0), .int a1, .int a2] : List Value).toArray below meth c H locs 0 0 (MQ below (qI G Q) ([.ref (ga G 0), .int a1, .int a2] : List Value).toArray s 0 0 (gA G)) (F0 m 150 ls []) := by
              intro x3 x4 x5 μ H locs ls h hl hw
              unfold wp_X7_way_150 at hw
              obtain ⟨x5_150, ex5_150, hw⟩ := hw
              refine lv_iinc (v := x5_150) (lv' := [(5, .int x5_150), (0, .ref (ga G 0)), (1, .int a1), (2, .int a2), (3, .int x3), (4, .int x4)]) hx hb dX7_way_150 hl (k := 5) rfl (by rw [ex5_150]; rfl) (by decide) rfl (fun ls hl => ?_)
              refine lv_goto (tgt := 38) hx hb dX7_way_153 (by decide) ?_
              exact ih38 x3 x4 x5_150 μ _ _ _ h (lv_sub hl [1, 2, 3, 4, 5, 0] rfl) hw
            refine lv_icmp_ge (tgt := 150) hx hb dX7_way_63 (by decide) (fun hc => ?_) (fun hc => ?_)
            · rw [if_pos hc] at hw
              exact s150 x3 x4 x5 μ _ _ _ h (lv_sub hl [2, 3, 4, 5, 6, 7] rfl) hw
            · rw [if_neg hc] at hw
              refine lv_aload_n hx hb dX7_way_66 rfl (lv_at hl 2 rfl) ?_
              refine r_getR (q := 1) X h (X7_o h0) rfl uX7 0 (by decide) lf_4_51 rfl dX7_way_67 ?_
              refine lv_bipush (v := (9 : Int32)) hx hb dX7_way_70 (by decide) ?_
              refine lv_iload hx hb dX7_way_72 (lv_at hl 1 rfl) ?_
              refine lv_iadd hx hb dX7_way_74 ?_
              obtain ⟨hi, hw⟩ := hw
              refine r_ald X h (X7_row h0) hi dX7_way_75 ?_
              refine lv_iload hx hb dX7_way_76 (lv_at hl 0 rfl) ?_
              refine lv_ishr hx hb dX7_way_78 ?_
              refine lv_iconst (v := (1 : Int32)) hx hb dX7_way_79 (by decide) ?_
              refine lv_iand hx hb dX7_way_80 ?_
              refine lv_if_ne (tgt := 150) hx hb dX7_way_81 (by decide) (fun hc => ?_) (fun hc => ?_)
              · rw [if_neg hc] at hw
                exact s150 x3 x4 x5 μ _ _ _ h (lv_sub hl [2, 3, 4, 5, 6, 7] rfl) hw
              · rw [if_pos hc] at hw
                refine lv_aload_n hx hb dX7_way_84 rfl (lv_at hl 2 rfl) ?_
                refine lv_iload hx hb dX7_way_85 (lv_at hl 1 rfl) ?_
                refine lv_iload hx hb dX7_way_87 (lv_at hl 0 rfl) ?_
                refine lv_iconst (v := (1 : Int32)) hx hb dX7_way_89 (by decide) ?_
                refine k_v h (n_V (rest := []) (As := [.int x6_50, .int x7_57, .int (1 : Int32)]) X h hl.1 (c_X7_opensFrom l G hG x6_50 x7_57 (1 : Int32) h0 _ _ hw) gk_X7_107 rfl hd_X7_opensFrom ⟨rfl, rfl⟩ ⟨Nat.le_of_ble_eq_true rfl, Nat.le_of_ble_eq_true rfl⟩ (X7_o h0) rfl rfl (Nat.le_of_ble_eq_true rfl) dX7_way_90 ⟨Nat.zero_le _, Nat.zero_le _⟩) (fun μ90 H locs hw h => ?_)
                refine lv_aload_n hx hb dX7_way_93 rfl (lv_at hl 2 rfl) ?_
                refine lv_iload hx hb dX7_way_94 (lv_at hl 0 rfl) ?_
                refine lv_iload hx hb dX7_way_96 (lv_at hl 1 rfl) ?_
                refine lv_iconst (v := (1 : Int32)) hx hb dX7_way_98 (by decide) ?_
                refine k_v h (n_V (rest := []) (As := [.int x7_57, .int x6_50, .int (1 : Int32)]) X h hl.1 (c_X7_opensFrom l G hG x7_57 x6_50 (1 : Int32) h0 _ _ hw) gk_X7_107 rfl hd_X7_opensFrom ⟨rfl, rfl⟩ ⟨Nat.le_of_ble_eq_true rfl, Nat.le_of_ble_eq_true rfl⟩ (X7_o h0) rfl rfl (Nat.le_of_ble_eq_true rfl) dX7_way_99 ⟨Nat.zero_le _, Nat.zero_le _⟩) (fun μ99 H locs hw h => ?_)
                refine lv_aload_n hx hb dX7_way_102 rfl (lv_at hl 2 rfl) ?_
                refine lv_iload_n hx hb dX7_way_103 rfl (lv_at hl 3 rfl) ?_
                refine k_v h (n_V (rest := []) (As := [.int a1]) X h hl.1 (c_X7_goesFor l G hG a1 h0 _ _ hw) gk_X7_208 rfl hd_X7_goesFor ⟨rfl, rfl⟩ ⟨Nat.le_of_ble_eq_true rfl, Nat.le_of_ble_eq_true rfl⟩ (X7_o h0) rfl rfl (Nat.le_of_ble_eq_true rfl) dX7_way_104 ⟨Nat.zero_le _, Nat.zero_le _⟩) (fun μ104 H locs hw h => ?_)
                refine lv_aload_n hx hb dX7_way_107 rfl (lv_at hl 2 rfl) ?_
                refine k_i h (n_V (rest := []) (As := []) X h hl.1 (c_X7_homes l G hG h0 _ _ hw) gk_X7_211 rfl hd_X7_homes ⟨rfl, rfl⟩ ⟨Nat.le_of_ble_eq_true rfl, Nat.le_of_ble_eq_true rfl⟩ (X7_o h0) rfl rfl (Nat.le_of_ble_eq_true rfl) dX7_way_108 ⟨Nat.zero_le _, Nat.zero_le _⟩) (fun r108 μ108 H locs hw h => ?_)
                refine k_i h (n_T (rest := []) (As := [.int r108]) X h hl.1 (c_X7_bits l G hG r108 _ _ hw) gk_X7_230 rfl hd_X7_bits ⟨rfl, rfl⟩ ⟨Nat.le_of_ble_eq_true rfl, Nat.le_of_ble_eq_true rfl⟩ rfl (Nat.le_of_ble_eq_true rfl) dX7_way_111 ⟨Nat.zero_le _, Nat.zero_le _⟩) (fun r111 μ111 H locs hw h => ?_)
                refine lv_istore (lv' := [(8, .int r111), (7, .int x7_57), (6, .int x6_50), (0, .ref (ga G 0)), (1, .int a1), (2, .int a2), (3, .int x3), (4, .int x4), (5, .int x5)]) hx hb dX7_way_114 hl (by decide) rfl (fun ls hl => ?_)
                refine lv_aload_n hx hb dX7_way_116 rfl (lv_at hl 3 rfl) ?_
                refine k_v h (n_V (rest := []) (As := []) X h hl.1 (c_X7_putsBack l G hG h0 _ _ hw) gk_X7_224 rfl hd_X7_putsBack ⟨rfl, rfl⟩ ⟨Nat.le_of_ble_eq_true rfl, Nat.le_of_ble_eq_true rfl⟩ (X7_o h0) rfl rfl (Nat.le_of_ble_eq_true rfl) dX7_way_117 ⟨Nat.zero_le _, Nat.zero_le _⟩) (fun μ117 H locs hw h => ?_)
                refine lv_iload hx hb dX7_way_120 (lv_at hl 0 rfl) ?_
                refine lv_iload hx hb dX7_way_122 (lv_at hl 7 rfl) ?_
                have s133 : ∀ (x4 : Int32) (x5 : Int32) (x8 : Int32) (t0 : Int32) (μ : vM), ∀ (H : Heap) (locs : List Loc) (ls : Array Slot), bw G s μ H locs → lv_has ls 9 [(0, .ref (ga G 0)), (1, .int a1), (2, .int a2), (4, .int x4), (5, .int x5), (8, .int x8)] → wp_X7_way_133 a1 a2 Q (fun x3 x4 x5 μ => wp_X7_way_38 a1 a2 Q n38 x3 x4 x5 μ) x4 x5 x8 t0 μ → W p l e ({ frames := 6, cells := 0, slots := 0, locals := 138 } : Room) s m ([.ref (ga G 0), .int a1, .int a2] : List Value).toArray below meth c H locs 0 0 (MQ below (qI G Q) ([.ref (ga G 0), .int a1, .int a2] : List Value).toArray s 0 0 (gA G)) (F0 m 133 ls [.int t0]) := by
                  intro x4 x5 x8 t0 μ H locs ls h hl hw
                  unfold wp_X7_way_133 at hw
                  refine lv_istore_n (lv' := [(3, .int t0), (0, .ref (ga G 0)), (1, .int a1), (2, .int a2), (4, .int x4), (5, .int x5), (8, .int x8)]) hx hb dX7_way_133 rfl hl (by decide) rfl (fun ls hl => ?_)
                  refine lv_iload hx hb dX7_way_134 (lv_at hl 6 rfl) ?_
                  refine lv_iload hx hb dX7_way_136 (lv_at hl 4 rfl) ?_
                  have s148 : ∀ (x3 : Int32) (x5 : Int32) (t0 : Int32) (μ : vM), ∀ (H : Heap) (locs : List Loc) (ls : Array Slot), bw G s μ H locs → lv_has ls 9 [(0, .ref (ga G 0)), (1, .int a1), (2, .int a2), (3, .int x3), (5, .int x5)] → wp_X7_way_148 a1 a2 Q (fun x3 x4 x5 μ => wp_X7_way_38 a1 a2 Q n38 x3 x4 x5 μ) x3 x5 t0 μ → W p l e ({ frames := 6, cells := 0, slots := 0, locals := 138 } : Room) s m ([.ref (ga G 0), .int a1, .int a2] : List Value).toArray below meth c H locs 0 0 (MQ below (qI G Q) ([.ref (ga G 0), .int a1, .int a2] : List Value).toArray s 0 0 (gA G)) (F0 m 148 ls [.int t0]) := by
                    intro x3 x5 t0 μ H locs ls h hl hw
                    unfold wp_X7_way_148 at hw
                    refine lv_istore (lv' := [(4, .int t0), (0, .ref (ga G 0)), (1, .int a1), (2, .int a2), (3, .int x3), (5, .int x5)]) hx hb dX7_way_148 hl (by decide) rfl (fun ls hl => ?_)
                    exact s150 x3 t0 x5 μ _ _ _ h (lv_sub hl [1, 2, 3, 4, 0, 5] rfl) hw
                  refine lv_icmp_le (tgt := 146) hx hb dX7_way_138 (by decide) (fun hc => ?_) (fun hc => ?_)
                  · rw [if_pos hc] at hw
                    refine lv_iload hx hb dX7_way_146 (lv_at hl 4 rfl) ?_
                    exact s148 t0 x5 x4 μ _ _ _ h (lv_sub hl [1, 2, 3, 0, 5] rfl) hw
                  · rw [if_neg hc] at hw
                    refine lv_iload hx hb dX7_way_141 (lv_at hl 6 rfl) ?_
                    refine lv_goto (tgt := 148) hx hb dX7_way_143 (by decide) ?_
                    exact s148 t0 x5 x8 μ _ _ _ h (lv_sub hl [1, 2, 3, 0, 5] rfl) hw
                refine lv_icmp_le (tgt := 132) hx hb dX7_way_124 (by decide) (fun hc => ?_) (fun hc => ?_)
                · rw [if_pos hc] at hw
                  refine lv_iload_n hx hb dX7_way_132 rfl (lv_at hl 6 rfl) ?_
                  exact s133 x4 x5 r111 x3 μ117 _ _ _ h (lv_sub hl [3, 4, 5, 7, 8, 0] rfl) hw
                · rw [if_neg hc] at hw
                  refine lv_iload hx hb dX7_way_127 (lv_at hl 8 rfl) ?_
                  refine lv_goto (tgt := 133) hx hb dX7_way_129 (by decide) ?_
                  exact s133 x4 x5 r111 x5 μ117 _ _ _ h (lv_sub hl [3, 4, 5, 7, 8, 0] rfl) hw
      obtain ⟨n, hw⟩ := hw
      exact s38 n (-1 : Int32) (-1 : Int32) (0 : Int32) μ27 _ _ _ h (lv_sub hl [3, 4, 5, 2, 1, 0] rfl) hw
    · rw [if_pos hc] at hw
      refine lv_aload_n hx hb dX7_way_19 rfl (lv_at hl 0 rfl) ?_
      refine r_ldc X (v := (-1000000001 : Int32)) ww_4_131 dX7_way_20 ?_
      refine k_i h (n_V (rest := []) (As := [.int (-1000000001 : Int32)]) X h hl.1 (c_X7_error l G hG (-1000000001 : Int32) h0 _ _ hw) gk_X7_104 rfl hd_X7_error ⟨rfl, rfl⟩ ⟨Nat.le_of_ble_eq_true rfl, Nat.le_of_ble_eq_true rfl⟩ (X7_o h0) rfl rfl (Nat.le_of_ble_eq_true rfl) dX7_way_22 ⟨Nat.zero_le _, Nat.zero_le _⟩) (fun r22 μ22 H locs hw h => ?_)
      exact r_iret X h hw dX7_way_25
def wp_X7_odds_102 (a1 : Int32) (a2 : Int32) (Q : Int32 → vM → Prop) (k69 : Int32 → Int32 → Int32 → vM → Prop) (x3 : Int32) (x4 : Int32) (x5 : Int32) (μ : vM) : Prop := ∃ x5_102 : Int32, x5_102 = x5 + (-1 : Int32) ∧ k69 x3 x4 x5_102 μ
def wp_X7_odds_69 (a1 : Int32) (a2 : Int32) (Q : Int32 → vM → Prop) : Nat → Int32 → Int32 → Int32 → vM → Prop
  | 0, _, _, _, _ => False
  | n69 + 1, x3, x4, x5, μ => if x5 ≤ (1 : Int32) then if a2 = 0 then Q x4 μ else Q x3 μ else ¬ x5 = 0 ∧ if (x4 % x5) = 0 then ¬ x5 = 0 ∧ if (x3 % x5) = 0 then ¬ x5 = 0 ∧ ∃ x4_95 : Int32, x4_95 = x4 / x5 ∧ ¬ x5 = 0 ∧ ∃ x3_101 : Int32, x3_101 = x3 / x5 ∧ wp_X7_odds_102 a1 a2 Q (fun x3 x4 x5 μ => wp_X7_odds_69 a1 a2 Q n69 x3 x4 x5 μ) x3_101 x4_95 x5 μ else wp_X7_odds_102 a1 a2 Q (fun x3 x4 x5 μ => wp_X7_odds_69 a1 a2 Q n69 x3 x4 x5 μ) x3 x4 x5 μ else wp_X7_odds_102 a1 a2 Q (fun x3 x4 x5 μ => wp_X7_odds_69 a1 a2 Q n69 x3 x4 x5 μ) x3 x4 x5 μ
def wp_X7_odds (a1 : Int32) (a2 : Int32) (Q : Int32 → vM → Prop) (μ : vM) : Prop := wp_X7_in a1 (0 : Int32) (60 : Int32) (fun r4 μ4 => if r4 = 0 then wp_X7_error (-1000000001 : Int32) (fun r22 μ22 => Q r22 μ22) μ4 else wp_X7_in a2 (0 : Int32) (1 : Int32) (fun r13 μ13 => if r13 = 0 then wp_X7_error (-1000000001 : Int32) (fun r22 μ22 => Q r22 μ22) μ13 else vp_in (2 : Int32) 385 ∧ ∃ x3_32 : Int32, x3_32 = μ13 1 (2 : Int32).toNatClampNeg ∧ if x3_32 = 0 then wp_X7_error (-1000000003 : Int32) (fun r40 μ40 => Q r40 μ40) μ13 else wp_X7_thinks  (fun μ45 => wp_X7_goesFor a1 (fun μ50 => wp_X7_homes  (fun r54 μ54 => wp_X7_bits r54 (fun r57 μ57 => wp_X7_putsBack  (fun μ63 => ∃ n69, wp_X7_odds_69 a1 a2 Q n69 x3_32 r57 x3_32 μ63) μ57) μ54) μ50) μ45) μ13) μ4) μ
set_option maxRecDepth 100000 in
set_option maxHeartbeats 4000000 in
theorem c_X7_odds (l : Launch) (G : vG) (hG : gO G) (a1 : Int32) (a2 : Int32) (h0 : isX7 G) (Q : Int32 → vM → Prop) (μ : vM) (hw : wp_X7_odds a1 a2 Q μ) : mt l G yX7_odds vX7_odds { frames := 6, cells := 0, slots := 0, locals := 138 } [.ref (ga G 0), .int a1, .int a2] μ (qI G Q) := by
  refine met_of (cc := cX7_odds) (maxL := 6) (ret := (some .int)) RX7 (by decide) rfl rfl hG (Nat.le_of_ble_eq_true rfl) ?_
  intro p e s m below meth c X h ls hl
  have hl : lv_has ls 6 [(0, .ref (ga G 0)), (1, .int a1), (2, .int a2)] := hl
  have hx := X.1
  have hb := X.2.1
  unfold wp_X7_odds at hw
  refine lv_iload_n hx hb dX7_odds_0 rfl (lv_at hl 1 rfl) ?_
  refine lv_iconst (v := (0 : Int32)) hx hb dX7_odds_1 (by decide) ?_
  refine lv_bipush (v := (60 : Int32)) hx hb dX7_odds_2 (by decide) ?_
  refine k_i h (n_T (rest := []) (As := [.int a1, .int (0 : Int32), .int (60 : Int32)]) X h hl.1 (c_X7_in l G hG a1 (0 : Int32) (60 : Int32) _ _ hw) gk_X7_57 rfl hd_X7_in ⟨rfl, rfl⟩ ⟨Nat.le_of_ble_eq_true rfl, Nat.le_of_ble_eq_true rfl⟩ rfl (Nat.le_of_ble_eq_true rfl) dX7_odds_4 ⟨Nat.zero_le _, Nat.zero_le _⟩) (fun r4 μ4 H locs hw h => ?_)
  refine lv_if_eq (tgt := 19) hx hb dX7_odds_7 (by decide) (fun hc => ?_) (fun hc => ?_)
  · rw [if_pos hc] at hw
    refine lv_aload_n hx hb dX7_odds_19 rfl (lv_at hl 0 rfl) ?_
    refine r_ldc X (v := (-1000000001 : Int32)) ww_4_131 dX7_odds_20 ?_
    refine k_i h (n_V (rest := []) (As := [.int (-1000000001 : Int32)]) X h hl.1 (c_X7_error l G hG (-1000000001 : Int32) h0 _ _ hw) gk_X7_104 rfl hd_X7_error ⟨rfl, rfl⟩ ⟨Nat.le_of_ble_eq_true rfl, Nat.le_of_ble_eq_true rfl⟩ (X7_o h0) rfl rfl (Nat.le_of_ble_eq_true rfl) dX7_odds_22 ⟨Nat.zero_le _, Nat.zero_le _⟩) (fun r22 μ22 H locs hw h => ?_)
    exact r_iret X h hw dX7_odds_25
  · rw [if_neg hc] at hw
    refine lv_iload_n hx hb dX7_odds_10 rfl (lv_at hl 2 rfl) ?_
    refine lv_iconst (v := (0 : Int32)) hx hb dX7_odds_11 (by decide) ?_
    refine lv_iconst (v := (1 : Int32)) hx hb dX7_odds_12 (by decide) ?_
    refine k_i h (n_T (rest := []) (As := [.int a2, .int (0 : Int32), .int (1 : Int32)]) X h hl.1 (c_X7_in l G hG a2 (0 : Int32) (1 : Int32) _ _ hw) gk_X7_57 rfl hd_X7_in ⟨rfl, rfl⟩ ⟨Nat.le_of_ble_eq_true rfl, Nat.le_of_ble_eq_true rfl⟩ rfl (Nat.le_of_ble_eq_true rfl) dX7_odds_13 ⟨Nat.zero_le _, Nat.zero_le _⟩) (fun r13 μ13 H locs hw h => ?_)
    refine lv_if_ne (tgt := 26) hx hb dX7_odds_16 (by decide) (fun hc => ?_) (fun hc => ?_)
    · rw [if_neg hc] at hw
      refine lv_aload_n hx hb dX7_odds_26 rfl (lv_at hl 0 rfl) ?_
      refine r_getR (q := 1) X h (X7_o h0) rfl uX7 0 (by decide) lf_4_51 rfl dX7_odds_27 ?_
      refine lv_iconst (v := (2 : Int32)) hx hb dX7_odds_30 (by decide) ?_
      obtain ⟨hi, hw⟩ := hw
      refine r_ald X h (X7_row h0) hi dX7_odds_31 ?_
      obtain ⟨x3_32, ex3_32, hw⟩ := hw
      refine topE ex3_32 ?_
      refine lv_istore_n (lv' := [(3, .int x3_32), (0, .ref (ga G 0)), (1, .int a1), (2, .int a2)]) hx hb dX7_odds_32 rfl hl (by decide) rfl (fun ls hl => ?_)
      refine lv_iload_n hx hb dX7_odds_33 rfl (lv_at hl 0 rfl) ?_
      refine lv_if_ne (tgt := 44) hx hb dX7_odds_34 (by decide) (fun hc => ?_) (fun hc => ?_)
      · rw [if_neg hc] at hw
        refine lv_aload_n hx hb dX7_odds_44 rfl (lv_at hl 1 rfl) ?_
        refine k_v h (n_V (rest := []) (As := []) X h hl.1 (c_X7_thinks l G hG h0 _ _ hw) gk_X7_221 rfl hd_X7_thinks ⟨rfl, rfl⟩ ⟨Nat.le_of_ble_eq_true rfl, Nat.le_of_ble_eq_true rfl⟩ (X7_o h0) rfl rfl (Nat.le_of_ble_eq_true rfl) dX7_odds_45 ⟨Nat.zero_le _, Nat.zero_le _⟩) (fun μ45 H locs hw h => ?_)
        refine lv_aload_n hx hb dX7_odds_48 rfl (lv_at hl 1 rfl) ?_
        refine lv_iload_n hx hb dX7_odds_49 rfl (lv_at hl 2 rfl) ?_
        refine k_v h (n_V (rest := []) (As := [.int a1]) X h hl.1 (c_X7_goesFor l G hG a1 h0 _ _ hw) gk_X7_208 rfl hd_X7_goesFor ⟨rfl, rfl⟩ ⟨Nat.le_of_ble_eq_true rfl, Nat.le_of_ble_eq_true rfl⟩ (X7_o h0) rfl rfl (Nat.le_of_ble_eq_true rfl) dX7_odds_50 ⟨Nat.zero_le _, Nat.zero_le _⟩) (fun μ50 H locs hw h => ?_)
        refine lv_aload_n hx hb dX7_odds_53 rfl (lv_at hl 1 rfl) ?_
        refine k_i h (n_V (rest := []) (As := []) X h hl.1 (c_X7_homes l G hG h0 _ _ hw) gk_X7_211 rfl hd_X7_homes ⟨rfl, rfl⟩ ⟨Nat.le_of_ble_eq_true rfl, Nat.le_of_ble_eq_true rfl⟩ (X7_o h0) rfl rfl (Nat.le_of_ble_eq_true rfl) dX7_odds_54 ⟨Nat.zero_le _, Nat.zero_le _⟩) (fun r54 μ54 H locs hw h => ?_)
        refine k_i h (n_T (rest := []) (As := [.int r54]) X h hl.1 (c_X7_bits l G hG r54 _ _ hw) gk_X7_230 rfl hd_X7_bits ⟨rfl, rfl⟩ ⟨Nat.le_of_ble_eq_true rfl, Nat.le_of_ble_eq_true rfl⟩ rfl (Nat.le_of_ble_eq_true rfl) dX7_odds_57 ⟨Nat.zero_le _, Nat.zero_le _⟩) (fun r57 μ57 H locs hw h => ?_)
        refine lv_istore (lv' := [(4, .int r57), (3, .int x3_32), (0, .ref (ga G 0)), (1, .int a1), (2, .int a2)]) hx hb dX7_odds_60 hl (by decide) rfl (fun ls hl => ?_)
        refine lv_aload_n hx hb dX7_odds_62 rfl (lv_at hl 2 rfl) ?_
        refine k_v h (n_V (rest := []) (As := []) X h hl.1 (c_X7_putsBack l G hG h0 _ _ hw) gk_X7_224 rfl hd_X7_putsBack ⟨rfl, rfl⟩ ⟨Nat.le_of_ble_eq_true rfl, Nat.le_of_ble_eq_true rfl⟩ (X7_o h0) rfl rfl (Nat.le_of_ble_eq_true rfl) dX7_odds_63 ⟨Nat.zero_le _, Nat.zero_le _⟩) (fun μ63 H locs hw h => ?_)
        refine lv_iload_n hx hb dX7_odds_66 rfl (lv_at hl 1 rfl) ?_
        refine lv_istore (lv' := [(5, .int x3_32), (4, .int r57), (3, .int x3_32), (0, .ref (ga G 0)), (1, .int a1), (2, .int a2)]) hx hb dX7_odds_67 hl (by decide) rfl (fun ls hl => ?_)
        have s69 : ∀ (n69 : Nat) (x3 : Int32) (x4 : Int32) (x5 : Int32) (μ : vM), ∀ (H : Heap) (locs : List Loc) (ls : Array Slot), bw G s μ H locs → lv_has ls 6 [(2, .int a2), (3, .int x3), (4, .int x4), (5, .int x5)] → wp_X7_odds_69 a1 a2 Q n69 x3 x4 x5 μ → W p l e ({ frames := 6, cells := 0, slots := 0, locals := 138 } : Room) s m ([.ref (ga G 0), .int a1, .int a2] : List Value).toArray below meth c H locs 0 0 (MQ below (qI G Q) ([.ref (ga G 0), .int a1, .int a2] : List Value).toArray s 0 0 (gA G)) (F0 m 69 ls []) := by
          intro n69
          induction n69 with
          | zero => intro x3 x4 x5 μ H locs ls h hl hw; exact absurd hw (by unfold wp_X7_odds_69; exact id)
          | succ n69 ih69 =>
            intro x3 x4 x5 μ H locs ls h hl hw
            unfold wp_X7_odds_69 at hw
            refine lv_iload hx hb dX7_odds_69 (lv_at hl 3 rfl) ?_
            refine lv_iconst (v := (1 : Int32)) hx hb dX7_odds_71 (by decide) ?_
            refine lv_icmp_le (tgt := 108) hx hb dX7_odds_72 (by decide) (fun hc => ?_) (fun hc => ?_)
            · rw [if_pos hc] at hw
              refine lv_iload_n hx hb dX7_odds_108 rfl (lv_at hl 0 rfl) ?_
              refine lv_if_ne (tgt := 117) hx hb dX7_odds_109 (by decide) (fun hc => ?_) (fun hc => ?_)
              · rw [if_neg hc] at hw
                refine lv_iload_n hx hb dX7_odds_117 rfl (lv_at hl 1 rfl) ?_
                exact r_iret X h hw dX7_odds_118
              · rw [if_pos hc] at hw
                refine lv_iload hx hb dX7_odds_112 (lv_at hl 2 rfl) ?_
                refine lv_goto (tgt := 118) hx hb dX7_odds_114 (by decide) ?_
                exact r_iret X h hw dX7_odds_118
            · rw [if_neg hc] at hw
              refine lv_iload hx hb dX7_odds_75 (lv_at hl 2 rfl) ?_
              refine lv_iload hx hb dX7_odds_77 (lv_at hl 3 rfl) ?_
              obtain ⟨hne, hw⟩ := hw
              refine r_irem hx hb dX7_odds_79 hne ?_
              have s102 : ∀ (x3 : Int32) (x4 : Int32) (x5 : Int32) (μ : vM), ∀ (H : Heap) (locs : List Loc) (ls : Array Slot), bw G s μ H locs → lv_has ls 6 [(2, .int a2), (3, .int x3), (4, .int x4), (5, .int x5)] → wp_X7_odds_102 a1 a2 Q (fun x3 x4 x5 μ => wp_X7_odds_69 a1 a2 Q n69 x3 x4 x5 μ) x3 x4 x5 μ → W p l e ({ frames := 6, cells := 0, slots := 0, locals := 138 } : Room) s m ([.ref (ga G 0), .int a1, .int a2] : List Value).toArray below meth c H locs 0 0 (MQ below (qI G Q) ([.ref (ga G 0), .int a1, .int a2] : List Value).toArray s 0 0 (gA G)) (F0 m 102 ls []) := by
                intro x3 x4 x5 μ H locs ls h hl hw
                unfold wp_X7_odds_102 at hw
                obtain ⟨x5_102, ex5_102, hw⟩ := hw
                refine lv_iinc (v := x5_102) (lv' := [(5, .int x5_102), (2, .int a2), (3, .int x3), (4, .int x4)]) hx hb dX7_odds_102 hl (k := 3) rfl (by rw [ex5_102]; rfl) (by decide) rfl (fun ls hl => ?_)
                refine lv_goto (tgt := 69) hx hb dX7_odds_105 (by decide) ?_
                exact ih69 x3 x4 x5_102 μ _ _ _ h (lv_sub hl [1, 2, 3, 0] rfl) hw
              refine lv_if_ne (tgt := 102) hx hb dX7_odds_80 (by decide) (fun hc => ?_) (fun hc => ?_)
              · rw [if_neg hc] at hw
                exact s102 x3 x4 x5 μ _ _ _ h (lv_sub hl [0, 1, 2, 3] rfl) hw
              · rw [if_pos hc] at hw
                refine lv_iload_n hx hb dX7_odds_83 rfl (lv_at hl 1 rfl) ?_
                refine lv_iload hx hb dX7_odds_84 (lv_at hl 3 rfl) ?_
                obtain ⟨hne, hw⟩ := hw
                refine r_irem hx hb dX7_odds_86 hne ?_
                refine lv_if_ne (tgt := 102) hx hb dX7_odds_87 (by decide) (fun hc => ?_) (fun hc => ?_)
                · rw [if_neg hc] at hw
                  exact s102 x3 x4 x5 μ _ _ _ h (lv_sub hl [0, 1, 2, 3] rfl) hw
                · rw [if_pos hc] at hw
                  refine lv_iload hx hb dX7_odds_90 (lv_at hl 2 rfl) ?_
                  refine lv_iload hx hb dX7_odds_92 (lv_at hl 3 rfl) ?_
                  obtain ⟨hne, hw⟩ := hw
                  refine lv_idiv hx hb dX7_odds_94 hne ?_
                  obtain ⟨x4_95, ex4_95, hw⟩ := hw
                  refine topE ex4_95 ?_
                  refine lv_istore (lv' := [(4, .int x4_95), (2, .int a2), (3, .int x3), (5, .int x5)]) hx hb dX7_odds_95 hl (by decide) rfl (fun ls hl => ?_)
                  refine lv_iload_n hx hb dX7_odds_97 rfl (lv_at hl 2 rfl) ?_
                  refine lv_iload hx hb dX7_odds_98 (lv_at hl 3 rfl) ?_
                  obtain ⟨hne, hw⟩ := hw
                  refine lv_idiv hx hb dX7_odds_100 hne ?_
                  obtain ⟨x3_101, ex3_101, hw⟩ := hw
                  refine topE ex3_101 ?_
                  refine lv_istore_n (lv' := [(3, .int x3_101), (4, .int x4_95), (2, .int a2), (5, .int x5)]) hx hb dX7_odds_101 rfl hl (by decide) rfl (fun ls hl => ?_)
                  exact s102 x3_101 x4_95 x5 μ _ _ _ h (lv_sub hl [2, 0, 1, 3] rfl) hw
        obtain ⟨n, hw⟩ := hw
        exact s69 n x3_32 r57 x3_32 μ63 _ _ _ h (lv_sub hl [5, 2, 1, 0] rfl) hw
      · rw [if_pos hc] at hw
        refine lv_aload_n hx hb dX7_odds_37 rfl (lv_at hl 1 rfl) ?_
        refine r_ldc X (v := (-1000000003 : Int32)) ww_5_77 dX7_odds_38 ?_
        refine k_i h (n_V (rest := []) (As := [.int (-1000000003 : Int32)]) X h hl.1 (c_X7_error l G hG (-1000000003 : Int32) h0 _ _ hw) gk_X7_104 rfl hd_X7_error ⟨rfl, rfl⟩ ⟨Nat.le_of_ble_eq_true rfl, Nat.le_of_ble_eq_true rfl⟩ (X7_o h0) rfl rfl (Nat.le_of_ble_eq_true rfl) dX7_odds_40 ⟨Nat.zero_le _, Nat.zero_le _⟩) (fun r40 μ40 H locs hw h => ?_)
        exact r_iret X h hw dX7_odds_43
    · rw [if_pos hc] at hw
      refine lv_aload_n hx hb dX7_odds_19 rfl (lv_at hl 0 rfl) ?_
      refine r_ldc X (v := (-1000000001 : Int32)) ww_4_131 dX7_odds_20 ?_
      refine k_i h (n_V (rest := []) (As := [.int (-1000000001 : Int32)]) X h hl.1 (c_X7_error l G hG (-1000000001 : Int32) h0 _ _ hw) gk_X7_104 rfl hd_X7_error ⟨rfl, rfl⟩ ⟨Nat.le_of_ble_eq_true rfl, Nat.le_of_ble_eq_true rfl⟩ (X7_o h0) rfl rfl (Nat.le_of_ble_eq_true rfl) dX7_odds_22 ⟨Nat.zero_le _, Nat.zero_le _⟩) (fun r22 μ22 H locs hw h => ?_)
      exact r_iret X h hw dX7_odds_25
def wp_X7_isSo_45 (a1 : Int32) (a2 : Int32) (Q : Int32 → vM → Prop) (k5 : Int32 → Int32 → vM → Prop) (x4 : Int32) (t0 : Int32) (μ : vM) : Prop := wp_X7_goes  (fun μ47 => ∃ x4_50 : Int32, x4_50 = x4 + (1 : Int32) ∧ k5 t0 x4_50 μ47) μ
def wp_X7_isSo_5 (a1 : Int32) (a2 : Int32) (Q : Int32 → vM → Prop) : Nat → Int32 → Int32 → vM → Prop
  | 0, _, _, _ => False
  | n5 + 1, x3, x4, μ => vp_in a1 4 ∧ if (μ 6 a1.toNatClampNeg) ≤ x4 then bz x3 ∧ Q x3 μ else if x3 = 0 then bz x3 ∧ Q x3 μ else vp_in (((24 : Int32) * a1) + x4) 96 ∧ wp_X7_warmth a2 (fun r34 μ34 => wp_X7_isSo_45 a1 a2 Q (fun x3 x4 μ => wp_X7_isSo_5 a1 a2 Q n5 x3 x4 μ) x4 (if (μ 7 (((24 : Int32) * a1) + x4).toNatClampNeg) = r34 then (1 : Int32) else (0 : Int32)) μ34) μ
def wp_X7_isSo (a1 : Int32) (a2 : Int32) (Q : Int32 → vM → Prop) (μ : vM) : Prop := ∃ n5, wp_X7_isSo_5 a1 a2 Q n5 (1 : Int32) (0 : Int32) μ
set_option maxRecDepth 100000 in
set_option maxHeartbeats 4000000 in
theorem c_X7_isSo (l : Launch) (G : vG) (hG : gO G) (a1 : Int32) (a2 : Int32) (h0 : isX7 G) (Q : Int32 → vM → Prop) (μ : vM) (hw : wp_X7_isSo a1 a2 Q μ) : mt l G yX7_isSo vX7_isSo { frames := 5, cells := 0, slots := 0, locals := 116 } [.ref (ga G 0), .int a1, .int a2] μ (qI G Q) := by
  refine met_of (cc := cX7_isSo) (maxL := 5) (ret := (some .boolean)) RX7 (by decide) rfl rfl hG (Nat.le_of_ble_eq_true rfl) ?_
  intro p e s m below meth c X h ls hl
  have hl : lv_has ls 5 [(0, .ref (ga G 0)), (1, .int a1), (2, .int a2)] := hl
  have hx := X.1
  have hb := X.2.1
  unfold wp_X7_isSo at hw
  refine lv_iconst (v := (1 : Int32)) hx hb dX7_isSo_0 (by decide) ?_
  refine lv_istore_n (lv' := [(3, .int (1 : Int32)), (0, .ref (ga G 0)), (1, .int a1), (2, .int a2)]) hx hb dX7_isSo_1 rfl hl (by decide) rfl (fun ls hl => ?_)
  refine lv_iconst (v := (0 : Int32)) hx hb dX7_isSo_2 (by decide) ?_
  refine lv_istore (lv' := [(4, .int (0 : Int32)), (3, .int (1 : Int32)), (0, .ref (ga G 0)), (1, .int a1), (2, .int a2)]) hx hb dX7_isSo_3 hl (by decide) rfl (fun ls hl => ?_)
  have s5 : ∀ (n5 : Nat) (x3 : Int32) (x4 : Int32) (μ : vM), ∀ (H : Heap) (locs : List Loc) (ls : Array Slot), bw G s μ H locs → lv_has ls 5 [(0, .ref (ga G 0)), (1, .int a1), (2, .int a2), (3, .int x3), (4, .int x4)] → wp_X7_isSo_5 a1 a2 Q n5 x3 x4 μ → W p l e ({ frames := 5, cells := 0, slots := 0, locals := 116 } : Room) s m ([.ref (ga G 0), .int a1, .int a2] : List Value).toArray below meth c H locs 0 0 (MQ below (qI G Q) ([.ref (ga G 0), .int a1, .int a2] : List Value).toArray s 0 0 (gA G)) (F0 m 5 ls []) := by
    intro n5
    induction n5 with
    | zero => intro x3 x4 μ H locs ls h hl hw; exact absurd hw (by unfold wp_X7_isSo_5; exact id)
    | succ n5 ih5 =>
      intro x3 x4 μ H locs ls h hl hw
      unfold wp_X7_isSo_5 at hw
      refine lv_iload hx hb dX7_isSo_5 (lv_at hl 4 rfl) ?_
      refine lv_aload_n hx hb dX7_isSo_7 rfl (lv_at hl 0 rfl) ?_
      refine r_getR (q := 6) X h (X7_o h0) rfl uX7 6 (by decide) lf_4_57 rfl dX7_isSo_8 ?_
      refine lv_iload_n hx hb dX7_isSo_11 rfl (lv_at hl 1 rfl) ?_
      obtain ⟨hi, hw⟩ := hw
      refine r_ald X h (X7_sizeOf h0) hi dX7_isSo_12 ?_
      refine lv_icmp_ge (tgt := 56) hx hb dX7_isSo_13 (by decide) (fun hc => ?_) (fun hc => ?_)
      · rw [if_pos hc] at hw
        refine lv_iload_n hx hb dX7_isSo_56 rfl (lv_at hl 3 rfl) ?_
        exact r_zret X h hw.1 hw.2 dX7_isSo_57
      · rw [if_neg hc] at hw
        refine lv_iload_n hx hb dX7_isSo_16 rfl (lv_at hl 3 rfl) ?_
        refine lv_if_eq (tgt := 56) hx hb dX7_isSo_17 (by decide) (fun hc => ?_) (fun hc => ?_)
        · rw [if_pos hc] at hw
          refine lv_iload_n hx hb dX7_isSo_56 rfl (lv_at hl 3 rfl) ?_
          exact r_zret X h hw.1 hw.2 dX7_isSo_57
        · rw [if_neg hc] at hw
          refine lv_aload_n hx hb dX7_isSo_20 rfl (lv_at hl 0 rfl) ?_
          refine r_getR (q := 7) X h (X7_o h0) rfl uX7 7 (by decide) lf_4_58 rfl dX7_isSo_21 ?_
          refine lv_bipush (v := (24 : Int32)) hx hb dX7_isSo_24 (by decide) ?_
          refine lv_iload_n hx hb dX7_isSo_26 rfl (lv_at hl 1 rfl) ?_
          refine lv_imul hx hb dX7_isSo_27 ?_
          refine lv_iload hx hb dX7_isSo_28 (lv_at hl 4 rfl) ?_
          refine lv_iadd hx hb dX7_isSo_30 ?_
          obtain ⟨hi, hw⟩ := hw
          refine r_ald X h (X7_cells h0) hi dX7_isSo_31 ?_
          refine lv_aload_n hx hb dX7_isSo_32 rfl (lv_at hl 0 rfl) ?_
          refine lv_iload_n hx hb dX7_isSo_33 rfl (lv_at hl 2 rfl) ?_
          refine k_i h (n_V (rest := [.int (μ 7 (((24 : Int32) * a1) + x4).toNatClampNeg)]) (As := [.int a2]) X h hl.1 (c_X7_warmth l G hG a2 h0 _ _ hw) gk_X7_134 rfl hd_X7_warmth ⟨rfl, rfl⟩ ⟨Nat.le_of_ble_eq_true rfl, Nat.le_of_ble_eq_true rfl⟩ (X7_o h0) rfl rfl (Nat.le_of_ble_eq_true rfl) dX7_isSo_34 ⟨Nat.zero_le _, Nat.zero_le _⟩) (fun r34 μ34 H locs hw h => ?_)
          have s45 : ∀ (x4 : Int32) (t0 : Int32) (μ : vM), ∀ (H : Heap) (locs : List Loc) (ls : Array Slot), bw G s μ H locs → lv_has ls 5 [(0, .ref (ga G 0)), (1, .int a1), (2, .int a2), (4, .int x4)] → wp_X7_isSo_45 a1 a2 Q (fun x3 x4 μ => wp_X7_isSo_5 a1 a2 Q n5 x3 x4 μ) x4 t0 μ → W p l e ({ frames := 5, cells := 0, slots := 0, locals := 116 } : Room) s m ([.ref (ga G 0), .int a1, .int a2] : List Value).toArray below meth c H locs 0 0 (MQ below (qI G Q) ([.ref (ga G 0), .int a1, .int a2] : List Value).toArray s 0 0 (gA G)) (F0 m 45 ls [.int t0]) := by
            intro x4 t0 μ H locs ls h hl hw
            unfold wp_X7_isSo_45 at hw
            refine lv_istore_n (lv' := [(3, .int t0), (0, .ref (ga G 0)), (1, .int a1), (2, .int a2), (4, .int x4)]) hx hb dX7_isSo_45 rfl hl (by decide) rfl (fun ls hl => ?_)
            refine lv_aload_n hx hb dX7_isSo_46 rfl (lv_at hl 1 rfl) ?_
            refine k_v h (n_V (rest := []) (As := []) X h hl.1 (c_X7_goes l G hG h0 _ _ hw) gk_X7_204 rfl hd_X7_goes ⟨rfl, rfl⟩ ⟨Nat.le_of_ble_eq_true rfl, Nat.le_of_ble_eq_true rfl⟩ (X7_o h0) rfl rfl (Nat.le_of_ble_eq_true rfl) dX7_isSo_47 ⟨Nat.zero_le _, Nat.zero_le _⟩) (fun μ47 H locs hw h => ?_)
            obtain ⟨x4_50, ex4_50, hw⟩ := hw
            refine lv_iinc (v := x4_50) (lv' := [(4, .int x4_50), (3, .int t0), (0, .ref (ga G 0)), (1, .int a1), (2, .int a2)]) hx hb dX7_isSo_50 hl (k := 4) rfl (by rw [ex4_50]; rfl) (by decide) rfl (fun ls hl => ?_)
            refine lv_goto (tgt := 5) hx hb dX7_isSo_53 (by decide) ?_
            exact ih5 t0 x4_50 μ47 _ _ _ h (lv_sub hl [2, 3, 4, 1, 0] rfl) hw
          refine lv_icmp_ne (tgt := 44) hx hb dX7_isSo_37 (by decide) (fun hc => ?_) (fun hc => ?_)
          · rw [if_neg hc] at hw
            refine lv_iconst (v := (0 : Int32)) hx hb dX7_isSo_44 (by decide) ?_
            exact s45 x4 (0 : Int32) μ34 _ _ _ h (lv_sub hl [0, 1, 2, 4] rfl) hw
          · rw [if_pos hc] at hw
            refine lv_iconst (v := (1 : Int32)) hx hb dX7_isSo_40 (by decide) ?_
            refine lv_goto (tgt := 45) hx hb dX7_isSo_41 (by decide) ?_
            exact s45 x4 (1 : Int32) μ34 _ _ _ h (lv_sub hl [0, 1, 2, 4] rfl) hw
  obtain ⟨n, hw⟩ := hw
  exact s5 n (1 : Int32) (0 : Int32) μ _ _ _ h (lv_sub hl [2, 3, 4, 1, 0] rfl) hw
def wp_X7_isSheet (a0 : Int32) (Q : Int32 → vM → Prop) (μ : vM) : Prop := wp_X7_in a0 (0 : Int32) (3 : Int32) (fun r3 μ3 => bz r3 ∧ Q r3 μ3) μ
set_option maxRecDepth 100000 in
set_option maxHeartbeats 4000000 in
theorem c_X7_isSheet (l : Launch) (G : vG) (hG : gO G) (a0 : Int32)  (Q : Int32 → vM → Prop) (μ : vM) (hw : wp_X7_isSheet a0 Q μ) : mt l G yX7_isSheet vX7_isSheet { frames := 1, cells := 0, slots := 0, locals := 22 } [.int a0] μ (qI G Q) := by
  refine met_of (cc := cX7_isSheet) (maxL := 1) (ret := (some .boolean)) RX7 (by decide) rfl rfl hG (Nat.le_of_ble_eq_true rfl) ?_
  intro p e s m below meth c X h ls hl
  have hl : lv_has ls 1 [(0, .int a0)] := hl
  have hx := X.1
  have hb := X.2.1
  unfold wp_X7_isSheet at hw
  refine lv_iload_n hx hb dX7_isSheet_0 rfl (lv_at hl 0 rfl) ?_
  refine lv_iconst (v := (0 : Int32)) hx hb dX7_isSheet_1 (by decide) ?_
  refine lv_iconst (v := (3 : Int32)) hx hb dX7_isSheet_2 (by decide) ?_
  refine k_i h (n_T (rest := []) (As := [.int a0, .int (0 : Int32), .int (3 : Int32)]) X h hl.1 (c_X7_in l G hG a0 (0 : Int32) (3 : Int32) _ _ hw) gk_X7_57 rfl hd_X7_in ⟨rfl, rfl⟩ ⟨Nat.le_of_ble_eq_true rfl, Nat.le_of_ble_eq_true rfl⟩ rfl (Nat.le_of_ble_eq_true rfl) dX7_isSheet_3 ⟨Nat.zero_le _, Nat.zero_le _⟩) (fun r3 μ3 H locs hw h => ?_)
  exact r_zret X h hw.1 hw.2 dX7_isSheet_6
def wp_X7_whose_90 (a1 : Int32) (a2 : Int32) (a3 : Int32) (Q : Int32 → vM → Prop) (k57 : Int32 → Int32 → vM → Prop) (x5 : Int32) (t0 : Int32) (t1 : Int32) (μ : vM) : Prop := ∃ x4_91 : Int32, x4_91 = t0 ||| t1 ∧ wp_X7_putsBack  (fun μ94 => ∃ x5_97 : Int32, x5_97 = x5 + (1 : Int32) ∧ k57 x4_91 x5_97 μ94) μ
def wp_X7_whose_57 (a1 : Int32) (a2 : Int32) (a3 : Int32) (Q : Int32 → vM → Prop) : Nat → Int32 → Int32 → vM → Prop
  | 0, _, _, _ => False
  | n57 + 1, x4, x5, μ => if (4 : Int32) ≤ x5 then if a3 = 0 then Q x4 μ else wp_X7_bits x4 (fun r114 μ114 => Q r114 μ114) μ else wp_X7_lets a2 (2 : Int32) x5 (fun μ68 => wp_X7_isSo a1 a2 (fun r76 μ76 => wp_X7_whose_90 a1 a2 a3 Q (fun x4 x5 μ => wp_X7_whose_57 a1 a2 a3 Q n57 x4 x5 μ) x5 x4 (if r76 = 0 then (0 : Int32) else (1 : Int32) <<< (x5 &&& 31)) μ76) μ68) μ
def wp_X7_whose (a1 : Int32) (a2 : Int32) (a3 : Int32) (Q : Int32 → vM → Prop) (μ : vM) : Prop := wp_X7_isSheet a1 (fun r1 μ1 => if r1 = 0 then wp_X7_error (-1000000001 : Int32) (fun r27 μ27 => Q r27 μ27) μ1 else wp_X7_isBit a2 (fun r9 μ9 => if r9 = 0 then wp_X7_error (-1000000001 : Int32) (fun r27 μ27 => Q r27 μ27) μ9 else wp_X7_in a3 (0 : Int32) (1 : Int32) (fun r18 μ18 => if r18 = 0 then wp_X7_error (-1000000001 : Int32) (fun r27 μ27 => Q r27 μ27) μ18 else vp_in a1 4 ∧ if (μ18 5 a1.toNatClampNeg) = 0 then wp_X7_error (-1000000002 : Int32) (fun r43 μ43 => Q r43 μ43) μ18 else wp_X7_thinks  (fun μ48 => ∃ n57, wp_X7_whose_57 a1 a2 a3 Q n57 (0 : Int32) (0 : Int32) μ48) μ18) μ9) μ1) μ
set_option maxRecDepth 100000 in
set_option maxHeartbeats 4000000 in
theorem c_X7_whose (l : Launch) (G : vG) (hG : gO G) (a1 : Int32) (a2 : Int32) (a3 : Int32) (h0 : isX7 G) (Q : Int32 → vM → Prop) (μ : vM) (hw : wp_X7_whose a1 a2 a3 Q μ) : mt l G yX7_whose vX7_whose { frames := 6, cells := 0, slots := 0, locals := 140 } [.ref (ga G 0), .int a1, .int a2, .int a3] μ (qI G Q) := by
  refine met_of (cc := cX7_whose) (maxL := 6) (ret := (some .int)) RX7 (by decide) rfl rfl hG (Nat.le_of_ble_eq_true rfl) ?_
  intro p e s m below meth c X h ls hl
  have hl : lv_has ls 6 [(0, .ref (ga G 0)), (1, .int a1), (2, .int a2), (3, .int a3)] := hl
  have hx := X.1
  have hb := X.2.1
  unfold wp_X7_whose at hw
  refine lv_iload_n hx hb dX7_whose_0 rfl (lv_at hl 1 rfl) ?_
  refine k_i h (n_T (rest := []) (As := [.int a1]) X h hl.1 (c_X7_isSheet l G hG a1 _ _ hw) gk_X7_237 rfl hd_X7_isSheet ⟨rfl, rfl⟩ ⟨Nat.le_of_ble_eq_true rfl, Nat.le_of_ble_eq_true rfl⟩ rfl (Nat.le_of_ble_eq_true rfl) dX7_whose_1 ⟨Nat.zero_le _, Nat.zero_le _⟩) (fun r1 μ1 H locs hw h => ?_)
  refine lv_if_eq (tgt := 24) hx hb dX7_whose_4 (by decide) (fun hc => ?_) (fun hc => ?_)
  · rw [if_pos hc] at hw
    refine lv_aload_n hx hb dX7_whose_24 rfl (lv_at hl 0 rfl) ?_
    refine r_ldc X (v := (-1000000001 : Int32)) ww_4_131 dX7_whose_25 ?_
    refine k_i h (n_V (rest := []) (As := [.int (-1000000001 : Int32)]) X h hl.1 (c_X7_error l G hG (-1000000001 : Int32) h0 _ _ hw) gk_X7_104 rfl hd_X7_error ⟨rfl, rfl⟩ ⟨Nat.le_of_ble_eq_true rfl, Nat.le_of_ble_eq_true rfl⟩ (X7_o h0) rfl rfl (Nat.le_of_ble_eq_true rfl) dX7_whose_27 ⟨Nat.zero_le _, Nat.zero_le _⟩) (fun r27 μ27 H locs hw h => ?_)
    exact r_iret X h hw dX7_whose_30
  · rw [if_neg hc] at hw
    refine lv_aload_n hx hb dX7_whose_7 rfl (lv_at hl 0 rfl) ?_
    refine lv_iload_n hx hb dX7_whose_8 rfl (lv_at hl 2 rfl) ?_
    refine k_i h (n_V (rest := []) (As := [.int a2]) X h hl.1 (c_X7_isBit l G hG a2 h0 _ _ hw) gk_X7_125 rfl hd_X7_isBit ⟨rfl, rfl⟩ ⟨Nat.le_of_ble_eq_true rfl, Nat.le_of_ble_eq_true rfl⟩ (X7_o h0) rfl rfl (Nat.le_of_ble_eq_true rfl) dX7_whose_9 ⟨Nat.zero_le _, Nat.zero_le _⟩) (fun r9 μ9 H locs hw h => ?_)
    refine lv_if_eq (tgt := 24) hx hb dX7_whose_12 (by decide) (fun hc => ?_) (fun hc => ?_)
    · rw [if_pos hc] at hw
      refine lv_aload_n hx hb dX7_whose_24 rfl (lv_at hl 0 rfl) ?_
      refine r_ldc X (v := (-1000000001 : Int32)) ww_4_131 dX7_whose_25 ?_
      refine k_i h (n_V (rest := []) (As := [.int (-1000000001 : Int32)]) X h hl.1 (c_X7_error l G hG (-1000000001 : Int32) h0 _ _ hw) gk_X7_104 rfl hd_X7_error ⟨rfl, rfl⟩ ⟨Nat.le_of_ble_eq_true rfl, Nat.le_of_ble_eq_true rfl⟩ (X7_o h0) rfl rfl (Nat.le_of_ble_eq_true rfl) dX7_whose_27 ⟨Nat.zero_le _, Nat.zero_le _⟩) (fun r27 μ27 H locs hw h => ?_)
      exact r_iret X h hw dX7_whose_30
    · rw [if_neg hc] at hw
      refine lv_iload_n hx hb dX7_whose_15 rfl (lv_at hl 3 rfl) ?_
      refine lv_iconst (v := (0 : Int32)) hx hb dX7_whose_16 (by decide) ?_
      refine lv_iconst (v := (1 : Int32)) hx hb dX7_whose_17 (by decide) ?_
      refine k_i h (n_T (rest := []) (As := [.int a3, .int (0 : Int32), .int (1 : Int32)]) X h hl.1 (c_X7_in l G hG a3 (0 : Int32) (1 : Int32) _ _ hw) gk_X7_57 rfl hd_X7_in ⟨rfl, rfl⟩ ⟨Nat.le_of_ble_eq_true rfl, Nat.le_of_ble_eq_true rfl⟩ rfl (Nat.le_of_ble_eq_true rfl) dX7_whose_18 ⟨Nat.zero_le _, Nat.zero_le _⟩) (fun r18 μ18 H locs hw h => ?_)
      refine lv_if_ne (tgt := 31) hx hb dX7_whose_21 (by decide) (fun hc => ?_) (fun hc => ?_)
      · rw [if_neg hc] at hw
        refine lv_aload_n hx hb dX7_whose_31 rfl (lv_at hl 0 rfl) ?_
        refine r_getR (q := 5) X h (X7_o h0) rfl uX7 5 (by decide) lf_4_56 rfl dX7_whose_32 ?_
        refine lv_iload_n hx hb dX7_whose_35 rfl (lv_at hl 1 rfl) ?_
        obtain ⟨hi, hw⟩ := hw
        refine r_ald X h (X7_bitsOf h0) hi dX7_whose_36 ?_
        refine lv_if_ne (tgt := 47) hx hb dX7_whose_37 (by decide) (fun hc => ?_) (fun hc => ?_)
        · rw [if_neg hc] at hw
          refine lv_aload_n hx hb dX7_whose_47 rfl (lv_at hl 0 rfl) ?_
          refine k_v h (n_V (rest := []) (As := []) X h hl.1 (c_X7_thinks l G hG h0 _ _ hw) gk_X7_221 rfl hd_X7_thinks ⟨rfl, rfl⟩ ⟨Nat.le_of_ble_eq_true rfl, Nat.le_of_ble_eq_true rfl⟩ (X7_o h0) rfl rfl (Nat.le_of_ble_eq_true rfl) dX7_whose_48 ⟨Nat.zero_le _, Nat.zero_le _⟩) (fun μ48 H locs hw h => ?_)
          refine lv_iconst (v := (0 : Int32)) hx hb dX7_whose_51 (by decide) ?_
          refine lv_istore (lv' := [(4, .int (0 : Int32)), (0, .ref (ga G 0)), (1, .int a1), (2, .int a2), (3, .int a3)]) hx hb dX7_whose_52 hl (by decide) rfl (fun ls hl => ?_)
          refine lv_iconst (v := (0 : Int32)) hx hb dX7_whose_54 (by decide) ?_
          refine lv_istore (lv' := [(5, .int (0 : Int32)), (4, .int (0 : Int32)), (0, .ref (ga G 0)), (1, .int a1), (2, .int a2), (3, .int a3)]) hx hb dX7_whose_55 hl (by decide) rfl (fun ls hl => ?_)
          have s57 : ∀ (n57 : Nat) (x4 : Int32) (x5 : Int32) (μ : vM), ∀ (H : Heap) (locs : List Loc) (ls : Array Slot), bw G s μ H locs → lv_has ls 6 [(0, .ref (ga G 0)), (1, .int a1), (2, .int a2), (3, .int a3), (4, .int x4), (5, .int x5)] → wp_X7_whose_57 a1 a2 a3 Q n57 x4 x5 μ → W p l e ({ frames := 6, cells := 0, slots := 0, locals := 140 } : Room) s m ([.ref (ga G 0), .int a1, .int a2, .int a3] : List Value).toArray below meth c H locs 0 0 (MQ below (qI G Q) ([.ref (ga G 0), .int a1, .int a2, .int a3] : List Value).toArray s 0 0 (gA G)) (F0 m 57 ls []) := by
            intro n57
            induction n57 with
            | zero => intro x4 x5 μ H locs ls h hl hw; exact absurd hw (by unfold wp_X7_whose_57; exact id)
            | succ n57 ih57 =>
              intro x4 x5 μ H locs ls h hl hw
              unfold wp_X7_whose_57 at hw
              refine lv_iload hx hb dX7_whose_57 (lv_at hl 5 rfl) ?_
              refine lv_iconst (v := (4 : Int32)) hx hb dX7_whose_59 (by decide) ?_
              refine lv_icmp_ge (tgt := 103) hx hb dX7_whose_60 (by decide) (fun hc => ?_) (fun hc => ?_)
              · rw [if_pos hc] at hw
                refine lv_iload_n hx hb dX7_whose_103 rfl (lv_at hl 3 rfl) ?_
                refine lv_if_ne (tgt := 112) hx hb dX7_whose_104 (by decide) (fun hc => ?_) (fun hc => ?_)
                · rw [if_neg hc] at hw
                  refine lv_iload hx hb dX7_whose_112 (lv_at hl 4 rfl) ?_
                  refine k_i h (n_T (rest := []) (As := [.int x4]) X h hl.1 (c_X7_bits l G hG x4 _ _ hw) gk_X7_230 rfl hd_X7_bits ⟨rfl, rfl⟩ ⟨Nat.le_of_ble_eq_true rfl, Nat.le_of_ble_eq_true rfl⟩ rfl (Nat.le_of_ble_eq_true rfl) dX7_whose_114 ⟨Nat.zero_le _, Nat.zero_le _⟩) (fun r114 μ114 H locs hw h => ?_)
                  exact r_iret X h hw dX7_whose_117
                · rw [if_pos hc] at hw
                  refine lv_iload hx hb dX7_whose_107 (lv_at hl 4 rfl) ?_
                  refine lv_goto (tgt := 117) hx hb dX7_whose_109 (by decide) ?_
                  exact r_iret X h hw dX7_whose_117
              · rw [if_neg hc] at hw
                refine lv_aload_n hx hb dX7_whose_63 rfl (lv_at hl 0 rfl) ?_
                refine lv_iload_n hx hb dX7_whose_64 rfl (lv_at hl 2 rfl) ?_
                refine lv_iconst (v := (2 : Int32)) hx hb dX7_whose_65 (by decide) ?_
                refine lv_iload hx hb dX7_whose_66 (lv_at hl 5 rfl) ?_
                refine k_v h (n_V (rest := []) (As := [.int a2, .int (2 : Int32), .int x5]) X h hl.1 (c_X7_lets l G hG a2 (2 : Int32) x5 h0 _ _ hw) gk_X7_122 rfl hd_X7_lets ⟨rfl, rfl⟩ ⟨Nat.le_of_ble_eq_true rfl, Nat.le_of_ble_eq_true rfl⟩ (X7_o h0) rfl rfl (Nat.le_of_ble_eq_true rfl) dX7_whose_68 ⟨Nat.zero_le _, Nat.zero_le _⟩) (fun μ68 H locs hw h => ?_)
                refine lv_iload hx hb dX7_whose_71 (lv_at hl 4 rfl) ?_
                refine lv_aload_n hx hb dX7_whose_73 rfl (lv_at hl 0 rfl) ?_
                refine lv_iload_n hx hb dX7_whose_74 rfl (lv_at hl 1 rfl) ?_
                refine lv_iload_n hx hb dX7_whose_75 rfl (lv_at hl 2 rfl) ?_
                refine k_i h (n_V (rest := [.int x4]) (As := [.int a1, .int a2]) X h hl.1 (c_X7_isSo l G hG a1 a2 h0 _ _ hw) gk_X7_240 rfl hd_X7_isSo ⟨rfl, rfl⟩ ⟨Nat.le_of_ble_eq_true rfl, Nat.le_of_ble_eq_true rfl⟩ (X7_o h0) rfl rfl (Nat.le_of_ble_eq_true rfl) dX7_whose_76 ⟨Nat.zero_le _, Nat.zero_le _⟩) (fun r76 μ76 H locs hw h => ?_)
                have s90 : ∀ (x5 : Int32) (t0 : Int32) (t1 : Int32) (μ : vM), ∀ (H : Heap) (locs : List Loc) (ls : Array Slot), bw G s μ H locs → lv_has ls 6 [(0, .ref (ga G 0)), (1, .int a1), (2, .int a2), (3, .int a3), (5, .int x5)] → wp_X7_whose_90 a1 a2 a3 Q (fun x4 x5 μ => wp_X7_whose_57 a1 a2 a3 Q n57 x4 x5 μ) x5 t0 t1 μ → W p l e ({ frames := 6, cells := 0, slots := 0, locals := 140 } : Room) s m ([.ref (ga G 0), .int a1, .int a2, .int a3] : List Value).toArray below meth c H locs 0 0 (MQ below (qI G Q) ([.ref (ga G 0), .int a1, .int a2, .int a3] : List Value).toArray s 0 0 (gA G)) (F0 m 90 ls [.int t1, .int t0]) := by
                  intro x5 t0 t1 μ H locs ls h hl hw
                  unfold wp_X7_whose_90 at hw
                  refine lv_ior hx hb dX7_whose_90 ?_
                  obtain ⟨x4_91, ex4_91, hw⟩ := hw
                  refine topE ex4_91 ?_
                  refine lv_istore (lv' := [(4, .int x4_91), (0, .ref (ga G 0)), (1, .int a1), (2, .int a2), (3, .int a3), (5, .int x5)]) hx hb dX7_whose_91 hl (by decide) rfl (fun ls hl => ?_)
                  refine lv_aload_n hx hb dX7_whose_93 rfl (lv_at hl 1 rfl) ?_
                  refine k_v h (n_V (rest := []) (As := []) X h hl.1 (c_X7_putsBack l G hG h0 _ _ hw) gk_X7_224 rfl hd_X7_putsBack ⟨rfl, rfl⟩ ⟨Nat.le_of_ble_eq_true rfl, Nat.le_of_ble_eq_true rfl⟩ (X7_o h0) rfl rfl (Nat.le_of_ble_eq_true rfl) dX7_whose_94 ⟨Nat.zero_le _, Nat.zero_le _⟩) (fun μ94 H locs hw h => ?_)
                  obtain ⟨x5_97, ex5_97, hw⟩ := hw
                  refine lv_iinc (v := x5_97) (lv' := [(5, .int x5_97), (4, .int x4_91), (0, .ref (ga G 0)), (1, .int a1), (2, .int a2), (3, .int a3)]) hx hb dX7_whose_97 hl (k := 5) rfl (by rw [ex5_97]; rfl) (by decide) rfl (fun ls hl => ?_)
                  refine lv_goto (tgt := 57) hx hb dX7_whose_100 (by decide) ?_
                  exact ih57 x4_91 x5_97 μ94 _ _ _ h (lv_sub hl [2, 3, 4, 5, 1, 0] rfl) hw
                refine lv_if_eq (tgt := 89) hx hb dX7_whose_79 (by decide) (fun hc => ?_) (fun hc => ?_)
                · rw [if_pos hc] at hw
                  refine lv_iconst (v := (0 : Int32)) hx hb dX7_whose_89 (by decide) ?_
                  exact s90 x5 x4 (0 : Int32) μ76 _ _ _ h (lv_sub hl [0, 1, 2, 3, 5] rfl) hw
                · rw [if_neg hc] at hw
                  refine lv_iconst (v := (1 : Int32)) hx hb dX7_whose_82 (by decide) ?_
                  refine lv_iload hx hb dX7_whose_83 (lv_at hl 5 rfl) ?_
                  refine lv_ishl hx hb dX7_whose_85 ?_
                  refine lv_goto (tgt := 90) hx hb dX7_whose_86 (by decide) ?_
                  exact s90 x5 x4 ((1 : Int32) <<< (x5 &&& 31)) μ76 _ _ _ h (lv_sub hl [0, 1, 2, 3, 5] rfl) hw
          obtain ⟨n, hw⟩ := hw
          exact s57 n (0 : Int32) (0 : Int32) μ48 _ _ _ h (lv_sub hl [2, 3, 4, 5, 1, 0] rfl) hw
        · rw [if_pos hc] at hw
          refine lv_aload_n hx hb dX7_whose_40 rfl (lv_at hl 0 rfl) ?_
          refine r_ldc X (v := (-1000000002 : Int32)) ww_4_164 dX7_whose_41 ?_
          refine k_i h (n_V (rest := []) (As := [.int (-1000000002 : Int32)]) X h hl.1 (c_X7_error l G hG (-1000000002 : Int32) h0 _ _ hw) gk_X7_104 rfl hd_X7_error ⟨rfl, rfl⟩ ⟨Nat.le_of_ble_eq_true rfl, Nat.le_of_ble_eq_true rfl⟩ (X7_o h0) rfl rfl (Nat.le_of_ble_eq_true rfl) dX7_whose_43 ⟨Nat.zero_le _, Nat.zero_le _⟩) (fun r43 μ43 H locs hw h => ?_)
          exact r_iret X h hw dX7_whose_46
      · rw [if_pos hc] at hw
        refine lv_aload_n hx hb dX7_whose_24 rfl (lv_at hl 0 rfl) ?_
        refine r_ldc X (v := (-1000000001 : Int32)) ww_4_131 dX7_whose_25 ?_
        refine k_i h (n_V (rest := []) (As := [.int (-1000000001 : Int32)]) X h hl.1 (c_X7_error l G hG (-1000000001 : Int32) h0 _ _ hw) gk_X7_104 rfl hd_X7_error ⟨rfl, rfl⟩ ⟨Nat.le_of_ble_eq_true rfl, Nat.le_of_ble_eq_true rfl⟩ (X7_o h0) rfl rfl (Nat.le_of_ble_eq_true rfl) dX7_whose_27 ⟨Nat.zero_le _, Nat.zero_le _⟩) (fun r27 μ27 H locs hw h => ?_)
        exact r_iret X h hw dX7_whose_30
def wp_X7_begins (a1 : Int32) (Q : vM → Prop) (μ : vM) : Prop := if (30 : Int32) ≤ (μ 0 21) then Q μ else vp_in (μ 0 21) 30 ∧ ∃ μ18 : vM, μ18 = st μ 14 (μ 0 21).toNatClampNeg a1 ∧ ∃ μ26 : vM, μ26 = st μ18 0 21 ((μ18 0 21) + (1 : Int32)) ∧ Q μ26
set_option maxRecDepth 100000 in
set_option maxHeartbeats 4000000 in
theorem c_X7_begins (l : Launch) (G : vG) (hG : gO G) (a1 : Int32) (h0 : isX7 G) (Q : vM → Prop) (μ : vM) (hw : wp_X7_begins a1 Q μ) : mt l G yX7_begins vX7_begins { frames := 0, cells := 0, slots := 0, locals := 0 } [.ref (ga G 0), .int a1] μ (qV G Q) := by
  refine met_of (cc := cX7_begins) (maxL := 2) (ret := none) RX7 (by decide) rfl rfl hG (Nat.le_of_ble_eq_true rfl) ?_
  intro p e s m below meth c X h ls hl
  have hl : lv_has ls 2 [(0, .ref (ga G 0)), (1, .int a1)] := hl
  have hx := X.1
  have hb := X.2.1
  unfold wp_X7_begins at hw
  refine lv_aload_n hx hb dX7_begins_0 rfl (lv_at hl 0 rfl) ?_
  refine r_getI X h (X7_o h0) rfl uX7 21 (by decide) lf_4_72 rfl dX7_begins_1 ?_
  refine lv_bipush (v := (30 : Int32)) hx hb dX7_begins_4 (by decide) ?_
  refine lv_icmp_ge (tgt := 29) hx hb dX7_begins_6 (by decide) (fun hc => ?_) (fun hc => ?_)
  · rw [if_pos hc] at hw
    exact r_vret X h hw dX7_begins_29
  · rw [if_neg hc] at hw
    refine lv_aload_n hx hb dX7_begins_9 rfl (lv_at hl 0 rfl) ?_
    refine r_getR (q := 14) X h (X7_o h0) rfl uX7 20 (by decide) lf_4_71 rfl dX7_begins_10 ?_
    refine lv_aload_n hx hb dX7_begins_13 rfl (lv_at hl 0 rfl) ?_
    refine r_getI X h (X7_o h0) rfl uX7 21 (by decide) lf_4_72 rfl dX7_begins_14 ?_
    refine lv_iload_n hx hb dX7_begins_17 rfl (lv_at hl 1 rfl) ?_
    obtain ⟨hi, μ18, eμ18, hw⟩ := hw
    refine r_ast X h (X7_trace h0) hi eμ18 dX7_begins_18 (fun H locs h => ?_)
    refine lv_aload_n hx hb dX7_begins_19 rfl (lv_at hl 0 rfl) ?_
    refine lv_dup hx hb dX7_begins_20 rfl ?_
    refine r_getI X h (X7_o h0) rfl uX7 21 (by decide) lf_4_72 rfl dX7_begins_21 ?_
    refine lv_iconst (v := (1 : Int32)) hx hb dX7_begins_24 (by decide) ?_
    refine lv_iadd hx hb dX7_begins_25 ?_
    obtain ⟨μ26, eμ26, hw⟩ := hw
    refine r_putI X h (X7_o h0) rfl uX7 tyX7 tyX7_ok nmX7 21 (by decide) lf_4_72 rfl rfl rfl  eμ26 dX7_begins_26 (fun H locs h => ?_)
    exact r_vret X h hw dX7_begins_29
def wp_X7_plainWalks (a1 : Int32) (a2 : Int32) (Q : Int32 → vM → Prop) (μ : vM) : Prop := wp_X7_begins (10 : Int32) (fun μ3 => Q (a2 + a1) μ3) μ
set_option maxRecDepth 100000 in
set_option maxHeartbeats 4000000 in
theorem c_X7_plainWalks (l : Launch) (G : vG) (hG : gO G) (a1 : Int32) (a2 : Int32) (h0 : isX7 G) (Q : Int32 → vM → Prop) (μ : vM) (hw : wp_X7_plainWalks a1 a2 Q μ) : mt l G yX7_plainWalks vX7_plainWalks { frames := 1, cells := 0, slots := 0, locals := 21 } [.ref (ga G 0), .int a1, .int a2] μ (qI G Q) := by
  refine met_of (cc := cX7_plainWalks) (maxL := 3) (ret := (some .int)) RX7 (by decide) rfl rfl hG (Nat.le_of_ble_eq_true rfl) ?_
  intro p e s m below meth c X h ls hl
  have hl : lv_has ls 3 [(0, .ref (ga G 0)), (1, .int a1), (2, .int a2)] := hl
  have hx := X.1
  have hb := X.2.1
  unfold wp_X7_plainWalks at hw
  refine lv_aload_n hx hb dX7_plainWalks_0 rfl (lv_at hl 0 rfl) ?_
  refine lv_bipush (v := (10 : Int32)) hx hb dX7_plainWalks_1 (by decide) ?_
  refine k_v h (n_V (rest := []) (As := [.int (10 : Int32)]) X h hl.1 (c_X7_begins l G hG (10 : Int32) h0 _ _ hw) gk_X7_247 rfl hd_X7_begins ⟨rfl, rfl⟩ ⟨Nat.le_of_ble_eq_true rfl, Nat.le_of_ble_eq_true rfl⟩ (X7_o h0) rfl rfl (Nat.le_of_ble_eq_true rfl) dX7_plainWalks_3 ⟨Nat.zero_le _, Nat.zero_le _⟩) (fun μ3 H locs hw h => ?_)
  refine lv_iload_n hx hb dX7_plainWalks_6 rfl (lv_at hl 2 rfl) ?_
  refine lv_iload_n hx hb dX7_plainWalks_7 rfl (lv_at hl 1 rfl) ?_
  refine lv_iadd hx hb dX7_plainWalks_8 ?_
  exact r_iret X h hw dX7_plainWalks_9
def wp_X7_crustWalks (a1 : Int32) (a2 : Int32) (Q : Int32 → vM → Prop) (μ : vM) : Prop := wp_X7_begins (20 : Int32) (fun μ3 => wp_X7_plainWalks a1 a2 (fun r9 μ9 => Q (r9 - (4 : Int32)) μ9) μ3) μ
set_option maxRecDepth 100000 in
set_option maxHeartbeats 4000000 in
theorem c_X7_crustWalks (l : Launch) (G : vG) (hG : gO G) (a1 : Int32) (a2 : Int32) (h0 : isX7 G) (Q : Int32 → vM → Prop) (μ : vM) (hw : wp_X7_crustWalks a1 a2 Q μ) : mt l G yX7_crustWalks vX7_crustWalks { frames := 2, cells := 0, slots := 0, locals := 43 } [.ref (ga G 0), .int a1, .int a2] μ (qI G Q) := by
  refine met_of (cc := cX7_crustWalks) (maxL := 3) (ret := (some .int)) RX7 (by decide) rfl rfl hG (Nat.le_of_ble_eq_true rfl) ?_
  intro p e s m below meth c X h ls hl
  have hl : lv_has ls 3 [(0, .ref (ga G 0)), (1, .int a1), (2, .int a2)] := hl
  have hx := X.1
  have hb := X.2.1
  unfold wp_X7_crustWalks at hw
  refine lv_aload_n hx hb dX7_crustWalks_0 rfl (lv_at hl 0 rfl) ?_
  refine lv_bipush (v := (20 : Int32)) hx hb dX7_crustWalks_1 (by decide) ?_
  refine k_v h (n_V (rest := []) (As := [.int (20 : Int32)]) X h hl.1 (c_X7_begins l G hG (20 : Int32) h0 _ _ hw) gk_X7_247 rfl hd_X7_begins ⟨rfl, rfl⟩ ⟨Nat.le_of_ble_eq_true rfl, Nat.le_of_ble_eq_true rfl⟩ (X7_o h0) rfl rfl (Nat.le_of_ble_eq_true rfl) dX7_crustWalks_3 ⟨Nat.zero_le _, Nat.zero_le _⟩) (fun μ3 H locs hw h => ?_)
  refine lv_aload_n hx hb dX7_crustWalks_6 rfl (lv_at hl 0 rfl) ?_
  refine lv_iload_n hx hb dX7_crustWalks_7 rfl (lv_at hl 1 rfl) ?_
  refine lv_iload_n hx hb dX7_crustWalks_8 rfl (lv_at hl 2 rfl) ?_
  refine k_i h (n_V (rest := []) (As := [.int a1, .int a2]) X h hl.1 (c_X7_plainWalks l G hG a1 a2 h0 _ _ hw) gk_X7_250 rfl hd_X7_plainWalks ⟨rfl, rfl⟩ ⟨Nat.le_of_ble_eq_true rfl, Nat.le_of_ble_eq_true rfl⟩ (X7_o h0) rfl rfl (Nat.le_of_ble_eq_true rfl) dX7_crustWalks_9 ⟨Nat.zero_le _, Nat.zero_le _⟩) (fun r9 μ9 H locs hw h => ?_)
  refine lv_iconst (v := (4 : Int32)) hx hb dX7_crustWalks_12 (by decide) ?_
  refine lv_isub hx hb dX7_crustWalks_13 ?_
  exact r_iret X h hw dX7_crustWalks_14
def wp_X7_walks (a1 : Int32) (a2 : Int32) (Q : Int32 → vM → Prop) (μ : vM) : Prop := wp_X7_of a1 (0 : Int32) (fun r3 μ3 => if r3 = (1 : Int32) then wp_X7_crustWalks a1 a2 (fun r43 μ43 => Q r43 μ43) μ3 else if r3 = (4 : Int32) then wp_X7_begins (50 : Int32) (fun μ50 => wp_X7_crustWalks a1 a2 (fun r56 μ56 => Q (r56 * (3 : Int32)) μ56) μ50) μ3 else if r3 = (6 : Int32) then wp_X7_begins (70 : Int32) (fun μ65 => Q (9 : Int32) μ65) μ3 else wp_X7_plainWalks a1 a2 (fun r74 μ74 => Q r74 μ74) μ3) μ
set_option maxRecDepth 100000 in
set_option maxHeartbeats 4000000 in
theorem c_X7_walks (l : Launch) (G : vG) (hG : gO G) (a1 : Int32) (a2 : Int32) (h0 : isX7 G) (Q : Int32 → vM → Prop) (μ : vM) (hw : wp_X7_walks a1 a2 Q μ) : mt l G yX7_walks vX7_walks { frames := 3, cells := 0, slots := 0, locals := 65 } [.ref (ga G 0), .int a1, .int a2] μ (qI G Q) := by
  refine met_of (cc := cX7_walks) (maxL := 3) (ret := (some .int)) RX7 (by decide) rfl rfl hG (Nat.le_of_ble_eq_true rfl) ?_
  intro p e s m below meth c X h ls hl
  have hl : lv_has ls 3 [(0, .ref (ga G 0)), (1, .int a1), (2, .int a2)] := hl
  have hx := X.1
  have hb := X.2.1
  unfold wp_X7_walks at hw
  refine lv_aload_n hx hb dX7_walks_0 rfl (lv_at hl 0 rfl) ?_
  refine lv_iload_n hx hb dX7_walks_1 rfl (lv_at hl 1 rfl) ?_
  refine lv_iconst (v := (0 : Int32)) hx hb dX7_walks_2 (by decide) ?_
  refine k_i h (n_V (rest := []) (As := [.int a1, .int (0 : Int32)]) X h hl.1 (c_X7_of l G hG a1 (0 : Int32) h0 _ _ hw) gk_X7_61 rfl hd_X7_of ⟨rfl, rfl⟩ ⟨Nat.le_of_ble_eq_true rfl, Nat.le_of_ble_eq_true rfl⟩ (X7_o h0) rfl rfl (Nat.le_of_ble_eq_true rfl) dX7_walks_3 ⟨Nat.zero_le _, Nat.zero_le _⟩) (fun r3 μ3 H locs hw h => ?_)
  by_cases hc1 : r3 = (1 : Int32)
  · rw [if_pos hc1] at hw
    refine lv_lookup (off := 34) (tgt := 40) hx hb dX7_walks_6 (by decide) (by rw [hc1]; decide) (by decide) ?_
    refine lv_aload_n hx hb dX7_walks_40 rfl (lv_at hl 0 rfl) ?_
    refine lv_iload_n hx hb dX7_walks_41 rfl (lv_at hl 1 rfl) ?_
    refine lv_iload_n hx hb dX7_walks_42 rfl (lv_at hl 2 rfl) ?_
    refine k_i h (n_V (rest := []) (As := [.int a1, .int a2]) X h hl.1 (c_X7_crustWalks l G hG a1 a2 h0 _ _ hw) gk_X7_253 rfl hd_X7_crustWalks ⟨rfl, rfl⟩ ⟨Nat.le_of_ble_eq_true rfl, Nat.le_of_ble_eq_true rfl⟩ (X7_o h0) rfl rfl (Nat.le_of_ble_eq_true rfl) dX7_walks_43 ⟨Nat.zero_le _, Nat.zero_le _⟩) (fun r43 μ43 H locs hw h => ?_)
    exact r_iret X h hw dX7_walks_46
  · rw [if_neg hc1] at hw
    by_cases hc4 : r3 = (4 : Int32)
    · rw [if_pos hc4] at hw
      refine lv_lookup (off := 41) (tgt := 47) hx hb dX7_walks_6 (by decide) (by rw [hc4]; decide) (by decide) ?_
      refine lv_aload_n hx hb dX7_walks_47 rfl (lv_at hl 0 rfl) ?_
      refine lv_bipush (v := (50 : Int32)) hx hb dX7_walks_48 (by decide) ?_
      refine k_v h (n_V (rest := []) (As := [.int (50 : Int32)]) X h hl.1 (c_X7_begins l G hG (50 : Int32) h0 _ _ hw) gk_X7_247 rfl hd_X7_begins ⟨rfl, rfl⟩ ⟨Nat.le_of_ble_eq_true rfl, Nat.le_of_ble_eq_true rfl⟩ (X7_o h0) rfl rfl (Nat.le_of_ble_eq_true rfl) dX7_walks_50 ⟨Nat.zero_le _, Nat.zero_le _⟩) (fun μ50 H locs hw h => ?_)
      refine lv_aload_n hx hb dX7_walks_53 rfl (lv_at hl 0 rfl) ?_
      refine lv_iload_n hx hb dX7_walks_54 rfl (lv_at hl 1 rfl) ?_
      refine lv_iload_n hx hb dX7_walks_55 rfl (lv_at hl 2 rfl) ?_
      refine k_i h (n_V (rest := []) (As := [.int a1, .int a2]) X h hl.1 (c_X7_crustWalks l G hG a1 a2 h0 _ _ hw) gk_X7_253 rfl hd_X7_crustWalks ⟨rfl, rfl⟩ ⟨Nat.le_of_ble_eq_true rfl, Nat.le_of_ble_eq_true rfl⟩ (X7_o h0) rfl rfl (Nat.le_of_ble_eq_true rfl) dX7_walks_56 ⟨Nat.zero_le _, Nat.zero_le _⟩) (fun r56 μ56 H locs hw h => ?_)
      refine lv_iconst (v := (3 : Int32)) hx hb dX7_walks_59 (by decide) ?_
      refine lv_imul hx hb dX7_walks_60 ?_
      exact r_iret X h hw dX7_walks_61
    · rw [if_neg hc4] at hw
      by_cases hc6 : r3 = (6 : Int32)
      · rw [if_pos hc6] at hw
        refine lv_lookup (off := 56) (tgt := 62) hx hb dX7_walks_6 (by decide) (by rw [hc6]; decide) (by decide) ?_
        refine lv_aload_n hx hb dX7_walks_62 rfl (lv_at hl 0 rfl) ?_
        refine lv_bipush (v := (70 : Int32)) hx hb dX7_walks_63 (by decide) ?_
        refine k_v h (n_V (rest := []) (As := [.int (70 : Int32)]) X h hl.1 (c_X7_begins l G hG (70 : Int32) h0 _ _ hw) gk_X7_247 rfl hd_X7_begins ⟨rfl, rfl⟩ ⟨Nat.le_of_ble_eq_true rfl, Nat.le_of_ble_eq_true rfl⟩ (X7_o h0) rfl rfl (Nat.le_of_ble_eq_true rfl) dX7_walks_65 ⟨Nat.zero_le _, Nat.zero_le _⟩) (fun μ65 H locs hw h => ?_)
        refine lv_bipush (v := (9 : Int32)) hx hb dX7_walks_68 (by decide) ?_
        exact r_iret X h hw dX7_walks_70
      · rw [if_neg hc6] at hw
        refine lv_lookup (off := 65) (tgt := 71) hx hb dX7_walks_6 (by decide) ((lv_osw hc1 (by decide)).trans ((lv_osw hc4 (by decide)).trans ((lv_osw hc6 (by decide)).trans rfl))) (by decide) ?_
        refine lv_aload_n hx hb dX7_walks_71 rfl (lv_at hl 0 rfl) ?_
        refine lv_iload_n hx hb dX7_walks_72 rfl (lv_at hl 1 rfl) ?_
        refine lv_iload_n hx hb dX7_walks_73 rfl (lv_at hl 2 rfl) ?_
        refine k_i h (n_V (rest := []) (As := [.int a1, .int a2]) X h hl.1 (c_X7_plainWalks l G hG a1 a2 h0 _ _ hw) gk_X7_250 rfl hd_X7_plainWalks ⟨rfl, rfl⟩ ⟨Nat.le_of_ble_eq_true rfl, Nat.le_of_ble_eq_true rfl⟩ (X7_o h0) rfl rfl (Nat.le_of_ble_eq_true rfl) dX7_walks_74 ⟨Nat.zero_le _, Nat.zero_le _⟩) (fun r74 μ74 H locs hw h => ?_)
        exact r_iret X h hw dX7_walks_77
def wp_X7_plainWarms (a1 : Int32) (a2 : Int32) (Q : Int32 → vM → Prop) (μ : vM) : Prop := wp_X7_begins (11 : Int32) (fun μ3 => wp_X7_walks a1 a2 (fun r9 μ9 => Q (r9 * (2 : Int32)) μ9) μ3) μ
set_option maxRecDepth 100000 in
set_option maxHeartbeats 4000000 in
theorem c_X7_plainWarms (l : Launch) (G : vG) (hG : gO G) (a1 : Int32) (a2 : Int32) (h0 : isX7 G) (Q : Int32 → vM → Prop) (μ : vM) (hw : wp_X7_plainWarms a1 a2 Q μ) : mt l G yX7_plainWarms vX7_plainWarms { frames := 4, cells := 0, slots := 0, locals := 87 } [.ref (ga G 0), .int a1, .int a2] μ (qI G Q) := by
  refine met_of (cc := cX7_plainWarms) (maxL := 3) (ret := (some .int)) RX7 (by decide) rfl rfl hG (Nat.le_of_ble_eq_true rfl) ?_
  intro p e s m below meth c X h ls hl
  have hl : lv_has ls 3 [(0, .ref (ga G 0)), (1, .int a1), (2, .int a2)] := hl
  have hx := X.1
  have hb := X.2.1
  unfold wp_X7_plainWarms at hw
  refine lv_aload_n hx hb dX7_plainWarms_0 rfl (lv_at hl 0 rfl) ?_
  refine lv_bipush (v := (11 : Int32)) hx hb dX7_plainWarms_1 (by decide) ?_
  refine k_v h (n_V (rest := []) (As := [.int (11 : Int32)]) X h hl.1 (c_X7_begins l G hG (11 : Int32) h0 _ _ hw) gk_X7_247 rfl hd_X7_begins ⟨rfl, rfl⟩ ⟨Nat.le_of_ble_eq_true rfl, Nat.le_of_ble_eq_true rfl⟩ (X7_o h0) rfl rfl (Nat.le_of_ble_eq_true rfl) dX7_plainWarms_3 ⟨Nat.zero_le _, Nat.zero_le _⟩) (fun μ3 H locs hw h => ?_)
  refine lv_aload_n hx hb dX7_plainWarms_6 rfl (lv_at hl 0 rfl) ?_
  refine lv_iload_n hx hb dX7_plainWarms_7 rfl (lv_at hl 1 rfl) ?_
  refine lv_iload_n hx hb dX7_plainWarms_8 rfl (lv_at hl 2 rfl) ?_
  refine k_i h (n_V (rest := []) (As := [.int a1, .int a2]) X h hl.1 (c_X7_walks l G hG a1 a2 h0 _ _ hw) gk_X7_256 rfl hd_X7_walks ⟨rfl, rfl⟩ ⟨Nat.le_of_ble_eq_true rfl, Nat.le_of_ble_eq_true rfl⟩ (X7_o h0) rfl rfl (Nat.le_of_ble_eq_true rfl) dX7_plainWarms_9 ⟨Nat.zero_le _, Nat.zero_le _⟩) (fun r9 μ9 H locs hw h => ?_)
  refine lv_iconst (v := (2 : Int32)) hx hb dX7_plainWarms_12 (by decide) ?_
  refine lv_imul hx hb dX7_plainWarms_13 ?_
  exact r_iret X h hw dX7_plainWarms_14
def wp_X7_officeWarms (a1 : Int32) (a2 : Int32) (Q : Int32 → vM → Prop) (μ : vM) : Prop := wp_X7_begins (30 : Int32) (fun μ3 => wp_X7_plainWarms a1 a2 (fun r9 μ9 => Q (-r9) μ9) μ3) μ
set_option maxRecDepth 100000 in
set_option maxHeartbeats 4000000 in
theorem c_X7_officeWarms (l : Launch) (G : vG) (hG : gO G) (a1 : Int32) (a2 : Int32) (h0 : isX7 G) (Q : Int32 → vM → Prop) (μ : vM) (hw : wp_X7_officeWarms a1 a2 Q μ) : mt l G yX7_officeWarms vX7_officeWarms { frames := 5, cells := 0, slots := 0, locals := 109 } [.ref (ga G 0), .int a1, .int a2] μ (qI G Q) := by
  refine met_of (cc := cX7_officeWarms) (maxL := 3) (ret := (some .int)) RX7 (by decide) rfl rfl hG (Nat.le_of_ble_eq_true rfl) ?_
  intro p e s m below meth c X h ls hl
  have hl : lv_has ls 3 [(0, .ref (ga G 0)), (1, .int a1), (2, .int a2)] := hl
  have hx := X.1
  have hb := X.2.1
  unfold wp_X7_officeWarms at hw
  refine lv_aload_n hx hb dX7_officeWarms_0 rfl (lv_at hl 0 rfl) ?_
  refine lv_bipush (v := (30 : Int32)) hx hb dX7_officeWarms_1 (by decide) ?_
  refine k_v h (n_V (rest := []) (As := [.int (30 : Int32)]) X h hl.1 (c_X7_begins l G hG (30 : Int32) h0 _ _ hw) gk_X7_247 rfl hd_X7_begins ⟨rfl, rfl⟩ ⟨Nat.le_of_ble_eq_true rfl, Nat.le_of_ble_eq_true rfl⟩ (X7_o h0) rfl rfl (Nat.le_of_ble_eq_true rfl) dX7_officeWarms_3 ⟨Nat.zero_le _, Nat.zero_le _⟩) (fun μ3 H locs hw h => ?_)
  refine lv_aload_n hx hb dX7_officeWarms_6 rfl (lv_at hl 0 rfl) ?_
  refine lv_iload_n hx hb dX7_officeWarms_7 rfl (lv_at hl 1 rfl) ?_
  refine lv_iload_n hx hb dX7_officeWarms_8 rfl (lv_at hl 2 rfl) ?_
  refine k_i h (n_V (rest := []) (As := [.int a1, .int a2]) X h hl.1 (c_X7_plainWarms l G hG a1 a2 h0 _ _ hw) gk_X7_259 rfl hd_X7_plainWarms ⟨rfl, rfl⟩ ⟨Nat.le_of_ble_eq_true rfl, Nat.le_of_ble_eq_true rfl⟩ (X7_o h0) rfl rfl (Nat.le_of_ble_eq_true rfl) dX7_officeWarms_9 ⟨Nat.zero_le _, Nat.zero_le _⟩) (fun r9 μ9 H locs hw h => ?_)
  refine lv_ineg hx hb dX7_officeWarms_12 ?_
  exact r_iret X h hw dX7_officeWarms_13
def wp_X7_warms (a1 : Int32) (a2 : Int32) (Q : Int32 → vM → Prop) (μ : vM) : Prop := wp_X7_of a1 (0 : Int32) (fun r3 μ3 => if r3 = (2 : Int32) then wp_X7_officeWarms a1 a2 (fun r43 μ43 => Q r43 μ43) μ3 else if r3 = (5 : Int32) then wp_X7_begins (60 : Int32) (fun μ50 => wp_X7_officeWarms a1 (a2 + (1 : Int32)) (fun r58 μ58 => Q r58 μ58) μ50) μ3 else if r3 = (6 : Int32) then wp_X7_begins (71 : Int32) (fun μ65 => wp_X7_plainWarms a1 a2 (fun r71 μ71 => wp_X7_of a1 (1 : Int32) (fun r77 μ77 => Q (r71 + r77) μ77) μ71) μ65) μ3 else wp_X7_plainWarms a1 a2 (fun r85 μ85 => Q r85 μ85) μ3) μ
set_option maxRecDepth 100000 in
set_option maxHeartbeats 4000000 in
theorem c_X7_warms (l : Launch) (G : vG) (hG : gO G) (a1 : Int32) (a2 : Int32) (h0 : isX7 G) (Q : Int32 → vM → Prop) (μ : vM) (hw : wp_X7_warms a1 a2 Q μ) : mt l G yX7_warms vX7_warms { frames := 6, cells := 0, slots := 0, locals := 131 } [.ref (ga G 0), .int a1, .int a2] μ (qI G Q) := by
  refine met_of (cc := cX7_warms) (maxL := 3) (ret := (some .int)) RX7 (by decide) rfl rfl hG (Nat.le_of_ble_eq_true rfl) ?_
  intro p e s m below meth c X h ls hl
  have hl : lv_has ls 3 [(0, .ref (ga G 0)), (1, .int a1), (2, .int a2)] := hl
  have hx := X.1
  have hb := X.2.1
  unfold wp_X7_warms at hw
  refine lv_aload_n hx hb dX7_warms_0 rfl (lv_at hl 0 rfl) ?_
  refine lv_iload_n hx hb dX7_warms_1 rfl (lv_at hl 1 rfl) ?_
  refine lv_iconst (v := (0 : Int32)) hx hb dX7_warms_2 (by decide) ?_
  refine k_i h (n_V (rest := []) (As := [.int a1, .int (0 : Int32)]) X h hl.1 (c_X7_of l G hG a1 (0 : Int32) h0 _ _ hw) gk_X7_61 rfl hd_X7_of ⟨rfl, rfl⟩ ⟨Nat.le_of_ble_eq_true rfl, Nat.le_of_ble_eq_true rfl⟩ (X7_o h0) rfl rfl (Nat.le_of_ble_eq_true rfl) dX7_warms_3 ⟨Nat.zero_le _, Nat.zero_le _⟩) (fun r3 μ3 H locs hw h => ?_)
  by_cases hc2 : r3 = (2 : Int32)
  · rw [if_pos hc2] at hw
    refine lv_tableIn (off := 34) (tgt := 40) hx hb dX7_warms_6 (by rw [hc2]; decide) (by rw [hc2]; decide) (by rw [hc2]; rfl) (by decide) ?_
    refine lv_aload_n hx hb dX7_warms_40 rfl (lv_at hl 0 rfl) ?_
    refine lv_iload_n hx hb dX7_warms_41 rfl (lv_at hl 1 rfl) ?_
    refine lv_iload_n hx hb dX7_warms_42 rfl (lv_at hl 2 rfl) ?_
    refine k_i h (n_V (rest := []) (As := [.int a1, .int a2]) X h hl.1 (c_X7_officeWarms l G hG a1 a2 h0 _ _ hw) gk_X7_262 rfl hd_X7_officeWarms ⟨rfl, rfl⟩ ⟨Nat.le_of_ble_eq_true rfl, Nat.le_of_ble_eq_true rfl⟩ (X7_o h0) rfl rfl (Nat.le_of_ble_eq_true rfl) dX7_warms_43 ⟨Nat.zero_le _, Nat.zero_le _⟩) (fun r43 μ43 H locs hw h => ?_)
    exact r_iret X h hw dX7_warms_46
  · rw [if_neg hc2] at hw
    by_cases hc5 : r3 = (5 : Int32)
    · rw [if_pos hc5] at hw
      refine lv_tableIn (off := 41) (tgt := 47) hx hb dX7_warms_6 (by rw [hc5]; decide) (by rw [hc5]; decide) (by rw [hc5]; rfl) (by decide) ?_
      refine lv_aload_n hx hb dX7_warms_47 rfl (lv_at hl 0 rfl) ?_
      refine lv_bipush (v := (60 : Int32)) hx hb dX7_warms_48 (by decide) ?_
      refine k_v h (n_V (rest := []) (As := [.int (60 : Int32)]) X h hl.1 (c_X7_begins l G hG (60 : Int32) h0 _ _ hw) gk_X7_247 rfl hd_X7_begins ⟨rfl, rfl⟩ ⟨Nat.le_of_ble_eq_true rfl, Nat.le_of_ble_eq_true rfl⟩ (X7_o h0) rfl rfl (Nat.le_of_ble_eq_true rfl) dX7_warms_50 ⟨Nat.zero_le _, Nat.zero_le _⟩) (fun μ50 H locs hw h => ?_)
      refine lv_aload_n hx hb dX7_warms_53 rfl (lv_at hl 0 rfl) ?_
      refine lv_iload_n hx hb dX7_warms_54 rfl (lv_at hl 1 rfl) ?_
      refine lv_iload_n hx hb dX7_warms_55 rfl (lv_at hl 2 rfl) ?_
      refine lv_iconst (v := (1 : Int32)) hx hb dX7_warms_56 (by decide) ?_
      refine lv_iadd hx hb dX7_warms_57 ?_
      refine k_i h (n_V (rest := []) (As := [.int a1, .int (a2 + (1 : Int32))]) X h hl.1 (c_X7_officeWarms l G hG a1 (a2 + (1 : Int32)) h0 _ _ hw) gk_X7_262 rfl hd_X7_officeWarms ⟨rfl, rfl⟩ ⟨Nat.le_of_ble_eq_true rfl, Nat.le_of_ble_eq_true rfl⟩ (X7_o h0) rfl rfl (Nat.le_of_ble_eq_true rfl) dX7_warms_58 ⟨Nat.zero_le _, Nat.zero_le _⟩) (fun r58 μ58 H locs hw h => ?_)
      exact r_iret X h hw dX7_warms_61
    · rw [if_neg hc5] at hw
      by_cases hc6 : r3 = (6 : Int32)
      · rw [if_pos hc6] at hw
        refine lv_tableIn (off := 56) (tgt := 62) hx hb dX7_warms_6 (by rw [hc6]; decide) (by rw [hc6]; decide) (by rw [hc6]; rfl) (by decide) ?_
        refine lv_aload_n hx hb dX7_warms_62 rfl (lv_at hl 0 rfl) ?_
        refine lv_bipush (v := (71 : Int32)) hx hb dX7_warms_63 (by decide) ?_
        refine k_v h (n_V (rest := []) (As := [.int (71 : Int32)]) X h hl.1 (c_X7_begins l G hG (71 : Int32) h0 _ _ hw) gk_X7_247 rfl hd_X7_begins ⟨rfl, rfl⟩ ⟨Nat.le_of_ble_eq_true rfl, Nat.le_of_ble_eq_true rfl⟩ (X7_o h0) rfl rfl (Nat.le_of_ble_eq_true rfl) dX7_warms_65 ⟨Nat.zero_le _, Nat.zero_le _⟩) (fun μ65 H locs hw h => ?_)
        refine lv_aload_n hx hb dX7_warms_68 rfl (lv_at hl 0 rfl) ?_
        refine lv_iload_n hx hb dX7_warms_69 rfl (lv_at hl 1 rfl) ?_
        refine lv_iload_n hx hb dX7_warms_70 rfl (lv_at hl 2 rfl) ?_
        refine k_i h (n_V (rest := []) (As := [.int a1, .int a2]) X h hl.1 (c_X7_plainWarms l G hG a1 a2 h0 _ _ hw) gk_X7_259 rfl hd_X7_plainWarms ⟨rfl, rfl⟩ ⟨Nat.le_of_ble_eq_true rfl, Nat.le_of_ble_eq_true rfl⟩ (X7_o h0) rfl rfl (Nat.le_of_ble_eq_true rfl) dX7_warms_71 ⟨Nat.zero_le _, Nat.zero_le _⟩) (fun r71 μ71 H locs hw h => ?_)
        refine lv_aload_n hx hb dX7_warms_74 rfl (lv_at hl 0 rfl) ?_
        refine lv_iload_n hx hb dX7_warms_75 rfl (lv_at hl 1 rfl) ?_
        refine lv_iconst (v := (1 : Int32)) hx hb dX7_warms_76 (by decide) ?_
        refine k_i h (n_V (rest := [.int r71]) (As := [.int a1, .int (1 : Int32)]) X h hl.1 (c_X7_of l G hG a1 (1 : Int32) h0 _ _ hw) gk_X7_61 rfl hd_X7_of ⟨rfl, rfl⟩ ⟨Nat.le_of_ble_eq_true rfl, Nat.le_of_ble_eq_true rfl⟩ (X7_o h0) rfl rfl (Nat.le_of_ble_eq_true rfl) dX7_warms_77 ⟨Nat.zero_le _, Nat.zero_le _⟩) (fun r77 μ77 H locs hw h => ?_)
        refine lv_iadd hx hb dX7_warms_80 ?_
        exact r_iret X h hw dX7_warms_81
      · rw [if_neg hc6] at hw
        by_cases hc3 : r3 = (3 : Int32)
        · refine lv_tableIn (off := 76) (tgt := 82) hx hb dX7_warms_6 (by rw [hc3]; decide) (by rw [hc3]; decide) (by rw [hc3]; rfl) (by decide) ?_
          refine lv_aload_n hx hb dX7_warms_82 rfl (lv_at hl 0 rfl) ?_
          refine lv_iload_n hx hb dX7_warms_83 rfl (lv_at hl 1 rfl) ?_
          refine lv_iload_n hx hb dX7_warms_84 rfl (lv_at hl 2 rfl) ?_
          refine k_i h (n_V (rest := []) (As := [.int a1, .int a2]) X h hl.1 (c_X7_plainWarms l G hG a1 a2 h0 _ _ hw) gk_X7_259 rfl hd_X7_plainWarms ⟨rfl, rfl⟩ ⟨Nat.le_of_ble_eq_true rfl, Nat.le_of_ble_eq_true rfl⟩ (X7_o h0) rfl rfl (Nat.le_of_ble_eq_true rfl) dX7_warms_85 ⟨Nat.zero_le _, Nat.zero_le _⟩) (fun r85 μ85 H locs hw h => ?_)
          exact r_iret X h hw dX7_warms_88
        · skip
          by_cases hc4 : r3 = (4 : Int32)
          · refine lv_tableIn (off := 76) (tgt := 82) hx hb dX7_warms_6 (by rw [hc4]; decide) (by rw [hc4]; decide) (by rw [hc4]; rfl) (by decide) ?_
            refine lv_aload_n hx hb dX7_warms_82 rfl (lv_at hl 0 rfl) ?_
            refine lv_iload_n hx hb dX7_warms_83 rfl (lv_at hl 1 rfl) ?_
            refine lv_iload_n hx hb dX7_warms_84 rfl (lv_at hl 2 rfl) ?_
            refine k_i h (n_V (rest := []) (As := [.int a1, .int a2]) X h hl.1 (c_X7_plainWarms l G hG a1 a2 h0 _ _ hw) gk_X7_259 rfl hd_X7_plainWarms ⟨rfl, rfl⟩ ⟨Nat.le_of_ble_eq_true rfl, Nat.le_of_ble_eq_true rfl⟩ (X7_o h0) rfl rfl (Nat.le_of_ble_eq_true rfl) dX7_warms_85 ⟨Nat.zero_le _, Nat.zero_le _⟩) (fun r85 μ85 H locs hw h => ?_)
            exact r_iret X h hw dX7_warms_88
          · skip
            refine lv_tableOut (tgt := 82) hx hb dX7_warms_6 (by have q0 := lv_neT hc2 (a := 2) (by decide); have q1 := lv_neT hc3 (a := 3) (by decide); have q2 := lv_neT hc4 (a := 4) (by decide); have q3 := lv_neT hc5 (a := 5) (by decide); have q4 := lv_neT hc6 (a := 6) (by decide); omega) (by decide) ?_
            refine lv_aload_n hx hb dX7_warms_82 rfl (lv_at hl 0 rfl) ?_
            refine lv_iload_n hx hb dX7_warms_83 rfl (lv_at hl 1 rfl) ?_
            refine lv_iload_n hx hb dX7_warms_84 rfl (lv_at hl 2 rfl) ?_
            refine k_i h (n_V (rest := []) (As := [.int a1, .int a2]) X h hl.1 (c_X7_plainWarms l G hG a1 a2 h0 _ _ hw) gk_X7_259 rfl hd_X7_plainWarms ⟨rfl, rfl⟩ ⟨Nat.le_of_ble_eq_true rfl, Nat.le_of_ble_eq_true rfl⟩ (X7_o h0) rfl rfl (Nat.le_of_ble_eq_true rfl) dX7_warms_85 ⟨Nat.zero_le _, Nat.zero_le _⟩) (fun r85 μ85 H locs hw h => ?_)
            exact r_iret X h hw dX7_warms_88
def wp_X7_plainSprouts (a1 : Int32) (a2 : Int32) (Q : Int32 → vM → Prop) (μ : vM) : Prop := wp_X7_begins (12 : Int32) (fun μ3 => wp_X7_warms a1 a2 (fun r9 μ9 => wp_X7_of a1 (1 : Int32) (fun r15 μ15 => Q (r9 - r15) μ15) μ9) μ3) μ
set_option maxRecDepth 100000 in
set_option maxHeartbeats 4000000 in
theorem c_X7_plainSprouts (l : Launch) (G : vG) (hG : gO G) (a1 : Int32) (a2 : Int32) (h0 : isX7 G) (Q : Int32 → vM → Prop) (μ : vM) (hw : wp_X7_plainSprouts a1 a2 Q μ) : mt l G yX7_plainSprouts vX7_plainSprouts { frames := 7, cells := 0, slots := 0, locals := 153 } [.ref (ga G 0), .int a1, .int a2] μ (qI G Q) := by
  refine met_of (cc := cX7_plainSprouts) (maxL := 3) (ret := (some .int)) RX7 (by decide) rfl rfl hG (Nat.le_of_ble_eq_true rfl) ?_
  intro p e s m below meth c X h ls hl
  have hl : lv_has ls 3 [(0, .ref (ga G 0)), (1, .int a1), (2, .int a2)] := hl
  have hx := X.1
  have hb := X.2.1
  unfold wp_X7_plainSprouts at hw
  refine lv_aload_n hx hb dX7_plainSprouts_0 rfl (lv_at hl 0 rfl) ?_
  refine lv_bipush (v := (12 : Int32)) hx hb dX7_plainSprouts_1 (by decide) ?_
  refine k_v h (n_V (rest := []) (As := [.int (12 : Int32)]) X h hl.1 (c_X7_begins l G hG (12 : Int32) h0 _ _ hw) gk_X7_247 rfl hd_X7_begins ⟨rfl, rfl⟩ ⟨Nat.le_of_ble_eq_true rfl, Nat.le_of_ble_eq_true rfl⟩ (X7_o h0) rfl rfl (Nat.le_of_ble_eq_true rfl) dX7_plainSprouts_3 ⟨Nat.zero_le _, Nat.zero_le _⟩) (fun μ3 H locs hw h => ?_)
  refine lv_aload_n hx hb dX7_plainSprouts_6 rfl (lv_at hl 0 rfl) ?_
  refine lv_iload_n hx hb dX7_plainSprouts_7 rfl (lv_at hl 1 rfl) ?_
  refine lv_iload_n hx hb dX7_plainSprouts_8 rfl (lv_at hl 2 rfl) ?_
  refine k_i h (n_V (rest := []) (As := [.int a1, .int a2]) X h hl.1 (c_X7_warms l G hG a1 a2 h0 _ _ hw) gk_X7_265 rfl hd_X7_warms ⟨rfl, rfl⟩ ⟨Nat.le_of_ble_eq_true rfl, Nat.le_of_ble_eq_true rfl⟩ (X7_o h0) rfl rfl (Nat.le_of_ble_eq_true rfl) dX7_plainSprouts_9 ⟨Nat.zero_le _, Nat.zero_le _⟩) (fun r9 μ9 H locs hw h => ?_)
  refine lv_aload_n hx hb dX7_plainSprouts_12 rfl (lv_at hl 0 rfl) ?_
  refine lv_iload_n hx hb dX7_plainSprouts_13 rfl (lv_at hl 1 rfl) ?_
  refine lv_iconst (v := (1 : Int32)) hx hb dX7_plainSprouts_14 (by decide) ?_
  refine k_i h (n_V (rest := [.int r9]) (As := [.int a1, .int (1 : Int32)]) X h hl.1 (c_X7_of l G hG a1 (1 : Int32) h0 _ _ hw) gk_X7_61 rfl hd_X7_of ⟨rfl, rfl⟩ ⟨Nat.le_of_ble_eq_true rfl, Nat.le_of_ble_eq_true rfl⟩ (X7_o h0) rfl rfl (Nat.le_of_ble_eq_true rfl) dX7_plainSprouts_15 ⟨Nat.zero_le _, Nat.zero_le _⟩) (fun r15 μ15 H locs hw h => ?_)
  refine lv_isub hx hb dX7_plainSprouts_18 ?_
  exact r_iret X h hw dX7_plainSprouts_19
def wp_X7_sprouts (a1 : Int32) (a2 : Int32) (Q : Int32 → vM → Prop) (μ : vM) : Prop := wp_X7_of a1 (0 : Int32) (fun r3 μ3 => if r3 = (3 : Int32) then wp_X7_begins (40 : Int32) (fun μ35 => wp_X7_plainSprouts a1 (a2 / (2 : Int32)) (fun r43 μ43 => Q r43 μ43) μ35) μ3 else if r3 = (4 : Int32) then wp_X7_begins (51 : Int32) (fun μ50 => wp_X7_plainSprouts a1 a2 (fun r56 μ56 => Q (r56 ^^^ a1) μ56) μ50) μ3 else wp_X7_plainSprouts a1 a2 (fun r65 μ65 => Q r65 μ65) μ3) μ
set_option maxRecDepth 100000 in
set_option maxHeartbeats 4000000 in
theorem c_X7_sprouts (l : Launch) (G : vG) (hG : gO G) (a1 : Int32) (a2 : Int32) (h0 : isX7 G) (Q : Int32 → vM → Prop) (μ : vM) (hw : wp_X7_sprouts a1 a2 Q μ) : mt l G yX7_sprouts vX7_sprouts { frames := 8, cells := 0, slots := 0, locals := 175 } [.ref (ga G 0), .int a1, .int a2] μ (qI G Q) := by
  refine met_of (cc := cX7_sprouts) (maxL := 3) (ret := (some .int)) RX7 (by decide) rfl rfl hG (Nat.le_of_ble_eq_true rfl) ?_
  intro p e s m below meth c X h ls hl
  have hl : lv_has ls 3 [(0, .ref (ga G 0)), (1, .int a1), (2, .int a2)] := hl
  have hx := X.1
  have hb := X.2.1
  unfold wp_X7_sprouts at hw
  refine lv_aload_n hx hb dX7_sprouts_0 rfl (lv_at hl 0 rfl) ?_
  refine lv_iload_n hx hb dX7_sprouts_1 rfl (lv_at hl 1 rfl) ?_
  refine lv_iconst (v := (0 : Int32)) hx hb dX7_sprouts_2 (by decide) ?_
  refine k_i h (n_V (rest := []) (As := [.int a1, .int (0 : Int32)]) X h hl.1 (c_X7_of l G hG a1 (0 : Int32) h0 _ _ hw) gk_X7_61 rfl hd_X7_of ⟨rfl, rfl⟩ ⟨Nat.le_of_ble_eq_true rfl, Nat.le_of_ble_eq_true rfl⟩ (X7_o h0) rfl rfl (Nat.le_of_ble_eq_true rfl) dX7_sprouts_3 ⟨Nat.zero_le _, Nat.zero_le _⟩) (fun r3 μ3 H locs hw h => ?_)
  by_cases hc3 : r3 = (3 : Int32)
  · rw [if_pos hc3] at hw
    refine lv_lookup (off := 26) (tgt := 32) hx hb dX7_sprouts_6 (by decide) (by rw [hc3]; decide) (by decide) ?_
    refine lv_aload_n hx hb dX7_sprouts_32 rfl (lv_at hl 0 rfl) ?_
    refine lv_bipush (v := (40 : Int32)) hx hb dX7_sprouts_33 (by decide) ?_
    refine k_v h (n_V (rest := []) (As := [.int (40 : Int32)]) X h hl.1 (c_X7_begins l G hG (40 : Int32) h0 _ _ hw) gk_X7_247 rfl hd_X7_begins ⟨rfl, rfl⟩ ⟨Nat.le_of_ble_eq_true rfl, Nat.le_of_ble_eq_true rfl⟩ (X7_o h0) rfl rfl (Nat.le_of_ble_eq_true rfl) dX7_sprouts_35 ⟨Nat.zero_le _, Nat.zero_le _⟩) (fun μ35 H locs hw h => ?_)
    refine lv_aload_n hx hb dX7_sprouts_38 rfl (lv_at hl 0 rfl) ?_
    refine lv_iload_n hx hb dX7_sprouts_39 rfl (lv_at hl 1 rfl) ?_
    refine lv_iload_n hx hb dX7_sprouts_40 rfl (lv_at hl 2 rfl) ?_
    refine lv_iconst (v := (2 : Int32)) hx hb dX7_sprouts_41 (by decide) ?_
    refine lv_idiv hx hb dX7_sprouts_42 (by decide) ?_
    refine k_i h (n_V (rest := []) (As := [.int a1, .int (a2 / (2 : Int32))]) X h hl.1 (c_X7_plainSprouts l G hG a1 (a2 / (2 : Int32)) h0 _ _ hw) gk_X7_268 rfl hd_X7_plainSprouts ⟨rfl, rfl⟩ ⟨Nat.le_of_ble_eq_true rfl, Nat.le_of_ble_eq_true rfl⟩ (X7_o h0) rfl rfl (Nat.le_of_ble_eq_true rfl) dX7_sprouts_43 ⟨Nat.zero_le _, Nat.zero_le _⟩) (fun r43 μ43 H locs hw h => ?_)
    exact r_iret X h hw dX7_sprouts_46
  · rw [if_neg hc3] at hw
    by_cases hc4 : r3 = (4 : Int32)
    · rw [if_pos hc4] at hw
      refine lv_lookup (off := 41) (tgt := 47) hx hb dX7_sprouts_6 (by decide) (by rw [hc4]; decide) (by decide) ?_
      refine lv_aload_n hx hb dX7_sprouts_47 rfl (lv_at hl 0 rfl) ?_
      refine lv_bipush (v := (51 : Int32)) hx hb dX7_sprouts_48 (by decide) ?_
      refine k_v h (n_V (rest := []) (As := [.int (51 : Int32)]) X h hl.1 (c_X7_begins l G hG (51 : Int32) h0 _ _ hw) gk_X7_247 rfl hd_X7_begins ⟨rfl, rfl⟩ ⟨Nat.le_of_ble_eq_true rfl, Nat.le_of_ble_eq_true rfl⟩ (X7_o h0) rfl rfl (Nat.le_of_ble_eq_true rfl) dX7_sprouts_50 ⟨Nat.zero_le _, Nat.zero_le _⟩) (fun μ50 H locs hw h => ?_)
      refine lv_aload_n hx hb dX7_sprouts_53 rfl (lv_at hl 0 rfl) ?_
      refine lv_iload_n hx hb dX7_sprouts_54 rfl (lv_at hl 1 rfl) ?_
      refine lv_iload_n hx hb dX7_sprouts_55 rfl (lv_at hl 2 rfl) ?_
      refine k_i h (n_V (rest := []) (As := [.int a1, .int a2]) X h hl.1 (c_X7_plainSprouts l G hG a1 a2 h0 _ _ hw) gk_X7_268 rfl hd_X7_plainSprouts ⟨rfl, rfl⟩ ⟨Nat.le_of_ble_eq_true rfl, Nat.le_of_ble_eq_true rfl⟩ (X7_o h0) rfl rfl (Nat.le_of_ble_eq_true rfl) dX7_sprouts_56 ⟨Nat.zero_le _, Nat.zero_le _⟩) (fun r56 μ56 H locs hw h => ?_)
      refine lv_iload_n hx hb dX7_sprouts_59 rfl (lv_at hl 1 rfl) ?_
      refine lv_ixor hx hb dX7_sprouts_60 ?_
      exact r_iret X h hw dX7_sprouts_61
    · rw [if_neg hc4] at hw
      refine lv_lookup (off := 56) (tgt := 62) hx hb dX7_sprouts_6 (by decide) ((lv_osw hc3 (by decide)).trans ((lv_osw hc4 (by decide)).trans rfl)) (by decide) ?_
      refine lv_aload_n hx hb dX7_sprouts_62 rfl (lv_at hl 0 rfl) ?_
      refine lv_iload_n hx hb dX7_sprouts_63 rfl (lv_at hl 1 rfl) ?_
      refine lv_iload_n hx hb dX7_sprouts_64 rfl (lv_at hl 2 rfl) ?_
      refine k_i h (n_V (rest := []) (As := [.int a1, .int a2]) X h hl.1 (c_X7_plainSprouts l G hG a1 a2 h0 _ _ hw) gk_X7_268 rfl hd_X7_plainSprouts ⟨rfl, rfl⟩ ⟨Nat.le_of_ble_eq_true rfl, Nat.le_of_ble_eq_true rfl⟩ (X7_o h0) rfl rfl (Nat.le_of_ble_eq_true rfl) dX7_sprouts_65 ⟨Nat.zero_le _, Nat.zero_le _⟩) (fun r65 μ65 H locs hw h => ?_)
      exact r_iret X h hw dX7_sprouts_68
def wp_X7_plainParts_25 (a1 : Int32) (a2 : Int32) (Q : Int32 → vM → Prop) (x3 : Int32) (t1 : Int32) (μ : vM) : Prop := bz t1 ∧ ∃ μ25 : vM, μ25 = st μ 0 22 t1 ∧ if (μ25 0 22) = 0 then ¬ x3 = 0 ∧ Q (a2 / x3) μ25 else Q (0 : Int32) μ25
def wp_X7_plainParts (a1 : Int32) (a2 : Int32) (Q : Int32 → vM → Prop) (μ : vM) : Prop := wp_X7_begins (13 : Int32) (fun μ3 => wp_X7_of a1 (1 : Int32) (fun r9 μ9 => ∃ x3_14 : Int32, x3_14 = r9 - a1 ∧ wp_X7_plainParts_25 a1 a2 Q x3_14 (if x3_14 = 0 then (1 : Int32) else (0 : Int32)) μ9) μ3) μ
set_option maxRecDepth 100000 in
set_option maxHeartbeats 4000000 in
theorem c_X7_plainParts (l : Launch) (G : vG) (hG : gO G) (a1 : Int32) (a2 : Int32) (h0 : isX7 G) (Q : Int32 → vM → Prop) (μ : vM) (hw : wp_X7_plainParts a1 a2 Q μ) : mt l G yX7_plainParts vX7_plainParts { frames := 1, cells := 0, slots := 0, locals := 22 } [.ref (ga G 0), .int a1, .int a2] μ (qI G Q) := by
  refine met_of (cc := cX7_plainParts) (maxL := 4) (ret := (some .int)) RX7 (by decide) rfl rfl hG (Nat.le_of_ble_eq_true rfl) ?_
  intro p e s m below meth c X h ls hl
  have hl : lv_has ls 4 [(0, .ref (ga G 0)), (1, .int a1), (2, .int a2)] := hl
  have hx := X.1
  have hb := X.2.1
  unfold wp_X7_plainParts at hw
  refine lv_aload_n hx hb dX7_plainParts_0 rfl (lv_at hl 0 rfl) ?_
  refine lv_bipush (v := (13 : Int32)) hx hb dX7_plainParts_1 (by decide) ?_
  refine k_v h (n_V (rest := []) (As := [.int (13 : Int32)]) X h hl.1 (c_X7_begins l G hG (13 : Int32) h0 _ _ hw) gk_X7_247 rfl hd_X7_begins ⟨rfl, rfl⟩ ⟨Nat.le_of_ble_eq_true rfl, Nat.le_of_ble_eq_true rfl⟩ (X7_o h0) rfl rfl (Nat.le_of_ble_eq_true rfl) dX7_plainParts_3 ⟨Nat.zero_le _, Nat.zero_le _⟩) (fun μ3 H locs hw h => ?_)
  refine lv_aload_n hx hb dX7_plainParts_6 rfl (lv_at hl 0 rfl) ?_
  refine lv_iload_n hx hb dX7_plainParts_7 rfl (lv_at hl 1 rfl) ?_
  refine lv_iconst (v := (1 : Int32)) hx hb dX7_plainParts_8 (by decide) ?_
  refine k_i h (n_V (rest := []) (As := [.int a1, .int (1 : Int32)]) X h hl.1 (c_X7_of l G hG a1 (1 : Int32) h0 _ _ hw) gk_X7_61 rfl hd_X7_of ⟨rfl, rfl⟩ ⟨Nat.le_of_ble_eq_true rfl, Nat.le_of_ble_eq_true rfl⟩ (X7_o h0) rfl rfl (Nat.le_of_ble_eq_true rfl) dX7_plainParts_9 ⟨Nat.zero_le _, Nat.zero_le _⟩) (fun r9 μ9 H locs hw h => ?_)
  refine lv_iload_n hx hb dX7_plainParts_12 rfl (lv_at hl 1 rfl) ?_
  refine lv_isub hx hb dX7_plainParts_13 ?_
  obtain ⟨x3_14, ex3_14, hw⟩ := hw
  refine topE ex3_14 ?_
  refine lv_istore_n (lv' := [(3, .int x3_14), (0, .ref (ga G 0)), (1, .int a1), (2, .int a2)]) hx hb dX7_plainParts_14 rfl hl (by decide) rfl (fun ls hl => ?_)
  refine lv_aload_n hx hb dX7_plainParts_15 rfl (lv_at hl 1 rfl) ?_
  refine lv_iload_n hx hb dX7_plainParts_16 rfl (lv_at hl 0 rfl) ?_
  have s25 : ∀ (x3 : Int32) (t1 : Int32) (μ : vM), ∀ (H : Heap) (locs : List Loc) (ls : Array Slot), bw G s μ H locs → lv_has ls 4 [(0, .ref (ga G 0)), (2, .int a2), (3, .int x3)] → wp_X7_plainParts_25 a1 a2 Q x3 t1 μ → W p l e ({ frames := 1, cells := 0, slots := 0, locals := 22 } : Room) s m ([.ref (ga G 0), .int a1, .int a2] : List Value).toArray below meth c H locs 0 0 (MQ below (qI G Q) ([.ref (ga G 0), .int a1, .int a2] : List Value).toArray s 0 0 (gA G)) (F0 m 25 ls [.int t1, .ref (ga G 0)]) := by
    intro x3 t1 μ H locs ls h hl hw
    unfold wp_X7_plainParts_25 at hw
    obtain ⟨hz, hw⟩ := hw
    obtain ⟨μ25, eμ25, hw⟩ := hw
    refine r_putZ X h (X7_o h0) rfl uX7 tyX7 tyX7_ok nmX7 22 (by decide) lf_4_73 rfl rfl rfl  hz eμ25 dX7_plainParts_25 (fun H locs h => ?_)
    refine lv_aload_n hx hb dX7_plainParts_28 rfl (lv_at hl 0 rfl) ?_
    refine r_getI X h (X7_o h0) rfl uX7 22 (by decide) lf_4_73 rfl dX7_plainParts_29 ?_
    refine lv_if_eq (tgt := 39) hx hb dX7_plainParts_32 (by decide) (fun hc => ?_) (fun hc => ?_)
    · rw [if_pos hc] at hw
      refine lv_iload_n hx hb dX7_plainParts_39 rfl (lv_at hl 1 rfl) ?_
      refine lv_iload_n hx hb dX7_plainParts_40 rfl (lv_at hl 2 rfl) ?_
      obtain ⟨hne, hw⟩ := hw
      refine lv_idiv hx hb dX7_plainParts_41 hne ?_
      exact r_iret X h hw dX7_plainParts_42
    · rw [if_neg hc] at hw
      refine lv_iconst (v := (0 : Int32)) hx hb dX7_plainParts_35 (by decide) ?_
      refine lv_goto (tgt := 42) hx hb dX7_plainParts_36 (by decide) ?_
      exact r_iret X h hw dX7_plainParts_42
  refine lv_if_ne (tgt := 24) hx hb dX7_plainParts_17 (by decide) (fun hc => ?_) (fun hc => ?_)
  · rw [if_neg hc] at hw
    refine lv_iconst (v := (0 : Int32)) hx hb dX7_plainParts_24 (by decide) ?_
    exact s25 x3_14 (0 : Int32) μ9 _ _ _ h (lv_sub hl [1, 3, 0] rfl) hw
  · rw [if_pos hc] at hw
    refine lv_iconst (v := (1 : Int32)) hx hb dX7_plainParts_20 (by decide) ?_
    refine lv_goto (tgt := 25) hx hb dX7_plainParts_21 (by decide) ?_
    exact s25 x3_14 (1 : Int32) μ9 _ _ _ h (lv_sub hl [1, 3, 0] rfl) hw
def wp_X7_partsBy_20 (a1 : Int32) (a2 : Int32) (Q : Int32 → vM → Prop)  (μ : vM) : Prop := wp_X7_begins (21 : Int32) (fun μ23 => wp_X7_plainParts a1 a2 (fun r29 μ29 => if (μ29 0 22) = 0 then wp_X7_warms a1 (1 : Int32) (fun r48 μ48 => Q (r29 + r48) μ48) μ29 else Q (0 : Int32) μ29) μ23) μ
def wp_X7_partsBy (a1 : Int32) (a2 : Int32) (Q : Int32 → vM → Prop) (μ : vM) : Prop := wp_X7_of a1 (0 : Int32) (fun r3 μ3 => if r3 = (1 : Int32) then wp_X7_partsBy_20 a1 a2 Q μ3 else wp_X7_of a1 (0 : Int32) (fun r13 μ13 => if r13 = (4 : Int32) then wp_X7_partsBy_20 a1 a2 Q μ13 else wp_X7_plainParts a1 a2 (fun r56 μ56 => Q r56 μ56) μ13) μ3) μ
set_option maxRecDepth 100000 in
set_option maxHeartbeats 4000000 in
theorem c_X7_partsBy (l : Launch) (G : vG) (hG : gO G) (a1 : Int32) (a2 : Int32) (h0 : isX7 G) (Q : Int32 → vM → Prop) (μ : vM) (hw : wp_X7_partsBy a1 a2 Q μ) : mt l G yX7_partsBy vX7_partsBy { frames := 7, cells := 0, slots := 0, locals := 153 } [.ref (ga G 0), .int a1, .int a2] μ (qI G Q) := by
  refine met_of (cc := cX7_partsBy) (maxL := 4) (ret := (some .int)) RX7 (by decide) rfl rfl hG (Nat.le_of_ble_eq_true rfl) ?_
  intro p e s m below meth c X h ls hl
  have hl : lv_has ls 4 [(0, .ref (ga G 0)), (1, .int a1), (2, .int a2)] := hl
  have hx := X.1
  have hb := X.2.1
  unfold wp_X7_partsBy at hw
  refine lv_aload_n hx hb dX7_partsBy_0 rfl (lv_at hl 0 rfl) ?_
  refine lv_iload_n hx hb dX7_partsBy_1 rfl (lv_at hl 1 rfl) ?_
  refine lv_iconst (v := (0 : Int32)) hx hb dX7_partsBy_2 (by decide) ?_
  refine k_i h (n_V (rest := []) (As := [.int a1, .int (0 : Int32)]) X h hl.1 (c_X7_of l G hG a1 (0 : Int32) h0 _ _ hw) gk_X7_61 rfl hd_X7_of ⟨rfl, rfl⟩ ⟨Nat.le_of_ble_eq_true rfl, Nat.le_of_ble_eq_true rfl⟩ (X7_o h0) rfl rfl (Nat.le_of_ble_eq_true rfl) dX7_partsBy_3 ⟨Nat.zero_le _, Nat.zero_le _⟩) (fun r3 μ3 H locs hw h => ?_)
  refine lv_iconst (v := (1 : Int32)) hx hb dX7_partsBy_6 (by decide) ?_
  have s20 : ∀  (μ : vM), ∀ (H : Heap) (locs : List Loc) (ls : Array Slot), bw G s μ H locs → lv_has ls 4 [(0, .ref (ga G 0)), (1, .int a1), (2, .int a2)] → wp_X7_partsBy_20 a1 a2 Q μ → W p l e ({ frames := 7, cells := 0, slots := 0, locals := 153 } : Room) s m ([.ref (ga G 0), .int a1, .int a2] : List Value).toArray below meth c H locs 0 0 (MQ below (qI G Q) ([.ref (ga G 0), .int a1, .int a2] : List Value).toArray s 0 0 (gA G)) (F0 m 20 ls []) := by
    intro  μ H locs ls h hl hw
    unfold wp_X7_partsBy_20 at hw
    refine lv_aload_n hx hb dX7_partsBy_20 rfl (lv_at hl 0 rfl) ?_
    refine lv_bipush (v := (21 : Int32)) hx hb dX7_partsBy_21 (by decide) ?_
    refine k_v h (n_V (rest := []) (As := [.int (21 : Int32)]) X h hl.1 (c_X7_begins l G hG (21 : Int32) h0 _ _ hw) gk_X7_247 rfl hd_X7_begins ⟨rfl, rfl⟩ ⟨Nat.le_of_ble_eq_true rfl, Nat.le_of_ble_eq_true rfl⟩ (X7_o h0) rfl rfl (Nat.le_of_ble_eq_true rfl) dX7_partsBy_23 ⟨Nat.zero_le _, Nat.zero_le _⟩) (fun μ23 H locs hw h => ?_)
    refine lv_aload_n hx hb dX7_partsBy_26 rfl (lv_at hl 0 rfl) ?_
    refine lv_iload_n hx hb dX7_partsBy_27 rfl (lv_at hl 1 rfl) ?_
    refine lv_iload_n hx hb dX7_partsBy_28 rfl (lv_at hl 2 rfl) ?_
    refine k_i h (n_V (rest := []) (As := [.int a1, .int a2]) X h hl.1 (c_X7_plainParts l G hG a1 a2 h0 _ _ hw) gk_X7_274 rfl hd_X7_plainParts ⟨rfl, rfl⟩ ⟨Nat.le_of_ble_eq_true rfl, Nat.le_of_ble_eq_true rfl⟩ (X7_o h0) rfl rfl (Nat.le_of_ble_eq_true rfl) dX7_partsBy_29 ⟨Nat.zero_le _, Nat.zero_le _⟩) (fun r29 μ29 H locs hw h => ?_)
    refine lv_istore_n (lv' := [(3, .int r29), (0, .ref (ga G 0)), (1, .int a1), (2, .int a2)]) hx hb dX7_partsBy_32 rfl hl (by decide) rfl (fun ls hl => ?_)
    refine lv_aload_n hx hb dX7_partsBy_33 rfl (lv_at hl 1 rfl) ?_
    refine r_getI X h (X7_o h0) rfl uX7 22 (by decide) lf_4_73 rfl dX7_partsBy_34 ?_
    refine lv_if_eq (tgt := 44) hx hb dX7_partsBy_37 (by decide) (fun hc => ?_) (fun hc => ?_)
    · rw [if_pos hc] at hw
      refine lv_iload_n hx hb dX7_partsBy_44 rfl (lv_at hl 0 rfl) ?_
      refine lv_aload_n hx hb dX7_partsBy_45 rfl (lv_at hl 1 rfl) ?_
      refine lv_iload_n hx hb dX7_partsBy_46 rfl (lv_at hl 2 rfl) ?_
      refine lv_iconst (v := (1 : Int32)) hx hb dX7_partsBy_47 (by decide) ?_
      refine k_i h (n_V (rest := [.int r29]) (As := [.int a1, .int (1 : Int32)]) X h hl.1 (c_X7_warms l G hG a1 (1 : Int32) h0 _ _ hw) gk_X7_265 rfl hd_X7_warms ⟨rfl, rfl⟩ ⟨Nat.le_of_ble_eq_true rfl, Nat.le_of_ble_eq_true rfl⟩ (X7_o h0) rfl rfl (Nat.le_of_ble_eq_true rfl) dX7_partsBy_48 ⟨Nat.zero_le _, Nat.zero_le _⟩) (fun r48 μ48 H locs hw h => ?_)
      refine lv_iadd hx hb dX7_partsBy_51 ?_
      exact r_iret X h hw dX7_partsBy_52
    · rw [if_neg hc] at hw
      refine lv_iconst (v := (0 : Int32)) hx hb dX7_partsBy_40 (by decide) ?_
      refine lv_goto (tgt := 52) hx hb dX7_partsBy_41 (by decide) ?_
      exact r_iret X h hw dX7_partsBy_52
  refine lv_icmp_eq (tgt := 20) hx hb dX7_partsBy_7 (by decide) (fun hc => ?_) (fun hc => ?_)
  · rw [if_pos hc] at hw
    exact s20 μ3 _ _ _ h (lv_sub hl [0, 1, 2] rfl) hw
  · rw [if_neg hc] at hw
    refine lv_aload_n hx hb dX7_partsBy_10 rfl (lv_at hl 0 rfl) ?_
    refine lv_iload_n hx hb dX7_partsBy_11 rfl (lv_at hl 1 rfl) ?_
    refine lv_iconst (v := (0 : Int32)) hx hb dX7_partsBy_12 (by decide) ?_
    refine k_i h (n_V (rest := []) (As := [.int a1, .int (0 : Int32)]) X h hl.1 (c_X7_of l G hG a1 (0 : Int32) h0 _ _ hw) gk_X7_61 rfl hd_X7_of ⟨rfl, rfl⟩ ⟨Nat.le_of_ble_eq_true rfl, Nat.le_of_ble_eq_true rfl⟩ (X7_o h0) rfl rfl (Nat.le_of_ble_eq_true rfl) dX7_partsBy_13 ⟨Nat.zero_le _, Nat.zero_le _⟩) (fun r13 μ13 H locs hw h => ?_)
    refine lv_iconst (v := (4 : Int32)) hx hb dX7_partsBy_16 (by decide) ?_
    refine lv_icmp_ne (tgt := 53) hx hb dX7_partsBy_17 (by decide) (fun hc => ?_) (fun hc => ?_)
    · rw [if_neg hc] at hw
      refine lv_aload_n hx hb dX7_partsBy_53 rfl (lv_at hl 0 rfl) ?_
      refine lv_iload_n hx hb dX7_partsBy_54 rfl (lv_at hl 1 rfl) ?_
      refine lv_iload_n hx hb dX7_partsBy_55 rfl (lv_at hl 2 rfl) ?_
      refine k_i h (n_V (rest := []) (As := [.int a1, .int a2]) X h hl.1 (c_X7_plainParts l G hG a1 a2 h0 _ _ hw) gk_X7_274 rfl hd_X7_plainParts ⟨rfl, rfl⟩ ⟨Nat.le_of_ble_eq_true rfl, Nat.le_of_ble_eq_true rfl⟩ (X7_o h0) rfl rfl (Nat.le_of_ble_eq_true rfl) dX7_partsBy_56 ⟨Nat.zero_le _, Nat.zero_le _⟩) (fun r56 μ56 H locs hw h => ?_)
      exact r_iret X h hw dX7_partsBy_59
    · rw [if_pos hc] at hw
      exact s20 μ13 _ _ _ h (lv_sub hl [0, 1, 2] rfl) hw
def wp_X7_voice_81 (a1 : Int32) (a2 : Int32) (a3 : Int32) (Q : Int32 → vM → Prop) (t0 : Int32) (μ : vM) : Prop := if (μ 0 22) = 0 then Q t0 μ else wp_X7_error (-1000000006 : Int32) (fun r94 μ94 => Q r94 μ94) μ
def wp_X7_voice (a1 : Int32) (a2 : Int32) (a3 : Int32) (Q : Int32 → vM → Prop) (μ : vM) : Prop := wp_X7_isBit a1 (fun r2 μ2 => if r2 = 0 then wp_X7_error (-1000000001 : Int32) (fun r20 μ20 => Q r20 μ20) μ2 else wp_X7_in a2 (0 : Int32) (3 : Int32) (fun r11 μ11 => if r11 = 0 then wp_X7_error (-1000000001 : Int32) (fun r20 μ20 => Q r20 μ20) μ11 else ∃ μ26 : vM, μ26 = st μ11 0 21 (0 : Int32) ∧ bz (0 : Int32) ∧ ∃ μ31 : vM, μ31 = st μ26 0 22 (0 : Int32) ∧ if a2 = 0 then wp_X7_walks a1 a3 (fun r41 μ41 => wp_X7_voice_81 a1 a2 a3 Q r41 μ41) μ31 else if a2 = (1 : Int32) then wp_X7_warms a1 a3 (fun r55 μ55 => wp_X7_voice_81 a1 a2 a3 Q r55 μ55) μ31 else if a2 = (2 : Int32) then wp_X7_sprouts a1 a3 (fun r69 μ69 => wp_X7_voice_81 a1 a2 a3 Q r69 μ69) μ31 else wp_X7_partsBy a1 a3 (fun r78 μ78 => wp_X7_voice_81 a1 a2 a3 Q r78 μ78) μ31) μ2) μ
set_option maxRecDepth 100000 in
set_option maxHeartbeats 4000000 in
theorem c_X7_voice (l : Launch) (G : vG) (hG : gO G) (a1 : Int32) (a2 : Int32) (a3 : Int32) (h0 : isX7 G) (Q : Int32 → vM → Prop) (μ : vM) (hw : wp_X7_voice a1 a2 a3 Q μ) : mt l G yX7_voice vX7_voice { frames := 9, cells := 0, slots := 0, locals := 197 } [.ref (ga G 0), .int a1, .int a2, .int a3] μ (qI G Q) := by
  refine met_of (cc := cX7_voice) (maxL := 5) (ret := (some .int)) RX7 (by decide) rfl rfl hG (Nat.le_of_ble_eq_true rfl) ?_
  intro p e s m below meth c X h ls hl
  have hl : lv_has ls 5 [(0, .ref (ga G 0)), (1, .int a1), (2, .int a2), (3, .int a3)] := hl
  have hx := X.1
  have hb := X.2.1
  unfold wp_X7_voice at hw
  refine lv_aload_n hx hb dX7_voice_0 rfl (lv_at hl 0 rfl) ?_
  refine lv_iload_n hx hb dX7_voice_1 rfl (lv_at hl 1 rfl) ?_
  refine k_i h (n_V (rest := []) (As := [.int a1]) X h hl.1 (c_X7_isBit l G hG a1 h0 _ _ hw) gk_X7_125 rfl hd_X7_isBit ⟨rfl, rfl⟩ ⟨Nat.le_of_ble_eq_true rfl, Nat.le_of_ble_eq_true rfl⟩ (X7_o h0) rfl rfl (Nat.le_of_ble_eq_true rfl) dX7_voice_2 ⟨Nat.zero_le _, Nat.zero_le _⟩) (fun r2 μ2 H locs hw h => ?_)
  refine lv_if_eq (tgt := 17) hx hb dX7_voice_5 (by decide) (fun hc => ?_) (fun hc => ?_)
  · rw [if_pos hc] at hw
    refine lv_aload_n hx hb dX7_voice_17 rfl (lv_at hl 0 rfl) ?_
    refine r_ldc X (v := (-1000000001 : Int32)) ww_4_131 dX7_voice_18 ?_
    refine k_i h (n_V (rest := []) (As := [.int (-1000000001 : Int32)]) X h hl.1 (c_X7_error l G hG (-1000000001 : Int32) h0 _ _ hw) gk_X7_104 rfl hd_X7_error ⟨rfl, rfl⟩ ⟨Nat.le_of_ble_eq_true rfl, Nat.le_of_ble_eq_true rfl⟩ (X7_o h0) rfl rfl (Nat.le_of_ble_eq_true rfl) dX7_voice_20 ⟨Nat.zero_le _, Nat.zero_le _⟩) (fun r20 μ20 H locs hw h => ?_)
    exact r_iret X h hw dX7_voice_23
  · rw [if_neg hc] at hw
    refine lv_iload_n hx hb dX7_voice_8 rfl (lv_at hl 2 rfl) ?_
    refine lv_iconst (v := (0 : Int32)) hx hb dX7_voice_9 (by decide) ?_
    refine lv_iconst (v := (3 : Int32)) hx hb dX7_voice_10 (by decide) ?_
    refine k_i h (n_T (rest := []) (As := [.int a2, .int (0 : Int32), .int (3 : Int32)]) X h hl.1 (c_X7_in l G hG a2 (0 : Int32) (3 : Int32) _ _ hw) gk_X7_57 rfl hd_X7_in ⟨rfl, rfl⟩ ⟨Nat.le_of_ble_eq_true rfl, Nat.le_of_ble_eq_true rfl⟩ rfl (Nat.le_of_ble_eq_true rfl) dX7_voice_11 ⟨Nat.zero_le _, Nat.zero_le _⟩) (fun r11 μ11 H locs hw h => ?_)
    refine lv_if_ne (tgt := 24) hx hb dX7_voice_14 (by decide) (fun hc => ?_) (fun hc => ?_)
    · rw [if_neg hc] at hw
      refine lv_aload_n hx hb dX7_voice_24 rfl (lv_at hl 0 rfl) ?_
      refine lv_iconst (v := (0 : Int32)) hx hb dX7_voice_25 (by decide) ?_
      obtain ⟨μ26, eμ26, hw⟩ := hw
      refine r_putI X h (X7_o h0) rfl uX7 tyX7 tyX7_ok nmX7 21 (by decide) lf_4_72 rfl rfl rfl  eμ26 dX7_voice_26 (fun H locs h => ?_)
      refine lv_aload_n hx hb dX7_voice_29 rfl (lv_at hl 0 rfl) ?_
      refine lv_iconst (v := (0 : Int32)) hx hb dX7_voice_30 (by decide) ?_
      obtain ⟨hz, hw⟩ := hw
      obtain ⟨μ31, eμ31, hw⟩ := hw
      refine r_putZ X h (X7_o h0) rfl uX7 tyX7 tyX7_ok nmX7 22 (by decide) lf_4_73 rfl rfl rfl  hz eμ31 dX7_voice_31 (fun H locs h => ?_)
      refine lv_iload_n hx hb dX7_voice_34 rfl (lv_at hl 2 rfl) ?_
      have s81 : ∀ (t0 : Int32) (μ : vM), ∀ (H : Heap) (locs : List Loc) (ls : Array Slot), bw G s μ H locs → lv_has ls 5 [(0, .ref (ga G 0))] → wp_X7_voice_81 a1 a2 a3 Q t0 μ → W p l e ({ frames := 9, cells := 0, slots := 0, locals := 197 } : Room) s m ([.ref (ga G 0), .int a1, .int a2, .int a3] : List Value).toArray below meth c H locs 0 0 (MQ below (qI G Q) ([.ref (ga G 0), .int a1, .int a2, .int a3] : List Value).toArray s 0 0 (gA G)) (F0 m 81 ls [.int t0]) := by
        intro t0 μ H locs ls h hl hw
        unfold wp_X7_voice_81 at hw
        refine lv_istore (lv' := [(4, .int t0), (0, .ref (ga G 0))]) hx hb dX7_voice_81 hl (by decide) rfl (fun ls hl => ?_)
        refine lv_aload_n hx hb dX7_voice_83 rfl (lv_at hl 1 rfl) ?_
        refine r_getI X h (X7_o h0) rfl uX7 22 (by decide) lf_4_73 rfl dX7_voice_84 ?_
        refine lv_if_eq (tgt := 100) hx hb dX7_voice_87 (by decide) (fun hc => ?_) (fun hc => ?_)
        · rw [if_pos hc] at hw
          refine lv_iload hx hb dX7_voice_100 (lv_at hl 0 rfl) ?_
          exact r_iret X h hw dX7_voice_102
        · rw [if_neg hc] at hw
          refine lv_aload_n hx hb dX7_voice_90 rfl (lv_at hl 1 rfl) ?_
          refine r_ldcw X (v := (-1000000006 : Int32)) ww_5_224 dX7_voice_91 ?_
          refine k_i h (n_V (rest := []) (As := [.int (-1000000006 : Int32)]) X h hl.1 (c_X7_error l G hG (-1000000006 : Int32) h0 _ _ hw) gk_X7_104 rfl hd_X7_error ⟨rfl, rfl⟩ ⟨Nat.le_of_ble_eq_true rfl, Nat.le_of_ble_eq_true rfl⟩ (X7_o h0) rfl rfl (Nat.le_of_ble_eq_true rfl) dX7_voice_94 ⟨Nat.zero_le _, Nat.zero_le _⟩) (fun r94 μ94 H locs hw h => ?_)
          refine lv_goto (tgt := 102) hx hb dX7_voice_97 (by decide) ?_
          exact r_iret X h hw dX7_voice_102
      refine lv_if_ne (tgt := 47) hx hb dX7_voice_35 (by decide) (fun hc => ?_) (fun hc => ?_)
      · rw [if_neg hc] at hw
        refine lv_iload_n hx hb dX7_voice_47 rfl (lv_at hl 2 rfl) ?_
        refine lv_iconst (v := (1 : Int32)) hx hb dX7_voice_48 (by decide) ?_
        refine lv_icmp_ne (tgt := 61) hx hb dX7_voice_49 (by decide) (fun hc => ?_) (fun hc => ?_)
        · rw [if_neg hc] at hw
          refine lv_iload_n hx hb dX7_voice_61 rfl (lv_at hl 2 rfl) ?_
          refine lv_iconst (v := (2 : Int32)) hx hb dX7_voice_62 (by decide) ?_
          refine lv_icmp_ne (tgt := 75) hx hb dX7_voice_63 (by decide) (fun hc => ?_) (fun hc => ?_)
          · rw [if_neg hc] at hw
            refine lv_aload_n hx hb dX7_voice_75 rfl (lv_at hl 0 rfl) ?_
            refine lv_iload_n hx hb dX7_voice_76 rfl (lv_at hl 1 rfl) ?_
            refine lv_iload_n hx hb dX7_voice_77 rfl (lv_at hl 3 rfl) ?_
            refine k_i h (n_V (rest := []) (As := [.int a1, .int a3]) X h hl.1 (c_X7_partsBy l G hG a1 a3 h0 _ _ hw) gk_X7_280 rfl hd_X7_partsBy ⟨rfl, rfl⟩ ⟨Nat.le_of_ble_eq_true rfl, Nat.le_of_ble_eq_true rfl⟩ (X7_o h0) rfl rfl (Nat.le_of_ble_eq_true rfl) dX7_voice_78 ⟨Nat.zero_le _, Nat.zero_le _⟩) (fun r78 μ78 H locs hw h => ?_)
            exact s81 r78 μ78 _ _ _ h (lv_sub hl [0] rfl) hw
          · rw [if_pos hc] at hw
            refine lv_aload_n hx hb dX7_voice_66 rfl (lv_at hl 0 rfl) ?_
            refine lv_iload_n hx hb dX7_voice_67 rfl (lv_at hl 1 rfl) ?_
            refine lv_iload_n hx hb dX7_voice_68 rfl (lv_at hl 3 rfl) ?_
            refine k_i h (n_V (rest := []) (As := [.int a1, .int a3]) X h hl.1 (c_X7_sprouts l G hG a1 a3 h0 _ _ hw) gk_X7_277 rfl hd_X7_sprouts ⟨rfl, rfl⟩ ⟨Nat.le_of_ble_eq_true rfl, Nat.le_of_ble_eq_true rfl⟩ (X7_o h0) rfl rfl (Nat.le_of_ble_eq_true rfl) dX7_voice_69 ⟨Nat.zero_le _, Nat.zero_le _⟩) (fun r69 μ69 H locs hw h => ?_)
            refine lv_goto (tgt := 81) hx hb dX7_voice_72 (by decide) ?_
            exact s81 r69 μ69 _ _ _ h (lv_sub hl [0] rfl) hw
        · rw [if_pos hc] at hw
          refine lv_aload_n hx hb dX7_voice_52 rfl (lv_at hl 0 rfl) ?_
          refine lv_iload_n hx hb dX7_voice_53 rfl (lv_at hl 1 rfl) ?_
          refine lv_iload_n hx hb dX7_voice_54 rfl (lv_at hl 3 rfl) ?_
          refine k_i h (n_V (rest := []) (As := [.int a1, .int a3]) X h hl.1 (c_X7_warms l G hG a1 a3 h0 _ _ hw) gk_X7_265 rfl hd_X7_warms ⟨rfl, rfl⟩ ⟨Nat.le_of_ble_eq_true rfl, Nat.le_of_ble_eq_true rfl⟩ (X7_o h0) rfl rfl (Nat.le_of_ble_eq_true rfl) dX7_voice_55 ⟨Nat.zero_le _, Nat.zero_le _⟩) (fun r55 μ55 H locs hw h => ?_)
          refine lv_goto (tgt := 81) hx hb dX7_voice_58 (by decide) ?_
          exact s81 r55 μ55 _ _ _ h (lv_sub hl [0] rfl) hw
      · rw [if_pos hc] at hw
        refine lv_aload_n hx hb dX7_voice_38 rfl (lv_at hl 0 rfl) ?_
        refine lv_iload_n hx hb dX7_voice_39 rfl (lv_at hl 1 rfl) ?_
        refine lv_iload_n hx hb dX7_voice_40 rfl (lv_at hl 3 rfl) ?_
        refine k_i h (n_V (rest := []) (As := [.int a1, .int a3]) X h hl.1 (c_X7_walks l G hG a1 a3 h0 _ _ hw) gk_X7_256 rfl hd_X7_walks ⟨rfl, rfl⟩ ⟨Nat.le_of_ble_eq_true rfl, Nat.le_of_ble_eq_true rfl⟩ (X7_o h0) rfl rfl (Nat.le_of_ble_eq_true rfl) dX7_voice_41 ⟨Nat.zero_le _, Nat.zero_le _⟩) (fun r41 μ41 H locs hw h => ?_)
        refine lv_goto (tgt := 81) hx hb dX7_voice_44 (by decide) ?_
        exact s81 r41 μ41 _ _ _ h (lv_sub hl [0] rfl) hw
    · rw [if_pos hc] at hw
      refine lv_aload_n hx hb dX7_voice_17 rfl (lv_at hl 0 rfl) ?_
      refine r_ldc X (v := (-1000000001 : Int32)) ww_4_131 dX7_voice_18 ?_
      refine k_i h (n_V (rest := []) (As := [.int (-1000000001 : Int32)]) X h hl.1 (c_X7_error l G hG (-1000000001 : Int32) h0 _ _ hw) gk_X7_104 rfl hd_X7_error ⟨rfl, rfl⟩ ⟨Nat.le_of_ble_eq_true rfl, Nat.le_of_ble_eq_true rfl⟩ (X7_o h0) rfl rfl (Nat.le_of_ble_eq_true rfl) dX7_voice_20 ⟨Nat.zero_le _, Nat.zero_le _⟩) (fun r20 μ20 H locs hw h => ?_)
      exact r_iret X h hw dX7_voice_23
def wp_X7_body (a1 : Int32) (Q : Int32 → vM → Prop) (μ : vM) : Prop := wp_X7_in a1 (0 : Int32) ((μ 0 21) - (1 : Int32)) (fun r8 μ8 => if r8 = 0 then wp_X7_error (-1000000002 : Int32) (fun r26 μ26 => Q r26 μ26) μ8 else vp_in a1 30 ∧ Q (μ8 14 a1.toNatClampNeg) μ8) μ
set_option maxRecDepth 100000 in
set_option maxHeartbeats 4000000 in
theorem c_X7_body (l : Launch) (G : vG) (hG : gO G) (a1 : Int32) (h0 : isX7 G) (Q : Int32 → vM → Prop) (μ : vM) (hw : wp_X7_body a1 Q μ) : mt l G yX7_body vX7_body { frames := 1, cells := 0, slots := 0, locals := 22 } [.ref (ga G 0), .int a1] μ (qI G Q) := by
  refine met_of (cc := cX7_body) (maxL := 2) (ret := (some .int)) RX7 (by decide) rfl rfl hG (Nat.le_of_ble_eq_true rfl) ?_
  intro p e s m below meth c X h ls hl
  have hl : lv_has ls 2 [(0, .ref (ga G 0)), (1, .int a1)] := hl
  have hx := X.1
  have hb := X.2.1
  unfold wp_X7_body at hw
  refine lv_iload_n hx hb dX7_body_0 rfl (lv_at hl 1 rfl) ?_
  refine lv_iconst (v := (0 : Int32)) hx hb dX7_body_1 (by decide) ?_
  refine lv_aload_n hx hb dX7_body_2 rfl (lv_at hl 0 rfl) ?_
  refine r_getI X h (X7_o h0) rfl uX7 21 (by decide) lf_4_72 rfl dX7_body_3 ?_
  refine lv_iconst (v := (1 : Int32)) hx hb dX7_body_6 (by decide) ?_
  refine lv_isub hx hb dX7_body_7 ?_
  refine k_i h (n_T (rest := []) (As := [.int a1, .int (0 : Int32), .int ((μ 0 21) - (1 : Int32))]) X h hl.1 (c_X7_in l G hG a1 (0 : Int32) ((μ 0 21) - (1 : Int32)) _ _ hw) gk_X7_57 rfl hd_X7_in ⟨rfl, rfl⟩ ⟨Nat.le_of_ble_eq_true rfl, Nat.le_of_ble_eq_true rfl⟩ rfl (Nat.le_of_ble_eq_true rfl) dX7_body_8 ⟨Nat.zero_le _, Nat.zero_le _⟩) (fun r8 μ8 H locs hw h => ?_)
  refine lv_if_eq (tgt := 23) hx hb dX7_body_11 (by decide) (fun hc => ?_) (fun hc => ?_)
  · rw [if_pos hc] at hw
    refine lv_aload_n hx hb dX7_body_23 rfl (lv_at hl 0 rfl) ?_
    refine r_ldc X (v := (-1000000002 : Int32)) ww_4_164 dX7_body_24 ?_
    refine k_i h (n_V (rest := []) (As := [.int (-1000000002 : Int32)]) X h hl.1 (c_X7_error l G hG (-1000000002 : Int32) h0 _ _ hw) gk_X7_104 rfl hd_X7_error ⟨rfl, rfl⟩ ⟨Nat.le_of_ble_eq_true rfl, Nat.le_of_ble_eq_true rfl⟩ (X7_o h0) rfl rfl (Nat.le_of_ble_eq_true rfl) dX7_body_26 ⟨Nat.zero_le _, Nat.zero_le _⟩) (fun r26 μ26 H locs hw h => ?_)
    exact r_iret X h hw dX7_body_29
  · rw [if_neg hc] at hw
    refine lv_aload_n hx hb dX7_body_14 rfl (lv_at hl 0 rfl) ?_
    refine r_getR (q := 14) X h (X7_o h0) rfl uX7 20 (by decide) lf_4_71 rfl dX7_body_15 ?_
    refine lv_iload_n hx hb dX7_body_18 rfl (lv_at hl 1 rfl) ?_
    obtain ⟨hi, hw⟩ := hw
    refine r_ald X h (X7_trace h0) hi dX7_body_19 ?_
    refine lv_goto (tgt := 29) hx hb dX7_body_20 (by decide) ?_
    exact r_iret X h hw dX7_body_29
def wp_X7_sheet_93 (a1 : Int32) (a2 : Int32) (a3 : Int32) (Q : Int32 → vM → Prop) : Nat → Int32 → vM → Prop
  | 0, _, _ => False
  | n93 + 1, x4, μ => if (24 : Int32) ≤ x4 then Q (1 : Int32) μ else vp_in (((24 : Int32) * a1) + x4) 96 ∧ ∃ μ112 : vM, μ112 = st μ 7 (((24 : Int32) * a1) + x4).toNatClampNeg (0 : Int32) ∧ ∃ x4_113 : Int32, x4_113 = x4 + (1 : Int32) ∧ wp_X7_sheet_93 a1 a2 a3 Q n93 x4_113 μ112
def wp_X7_sheet_89 (a1 : Int32) (a2 : Int32) (a3 : Int32) (Q : Int32 → vM → Prop) (t1 : Int32) (t2 : Int32) (μ : vM) : Prop := vp_in t1 4 ∧ ∃ μ89 : vM, μ89 = st μ 6 t1.toNatClampNeg t2 ∧ ∃ n93, wp_X7_sheet_93 a1 a2 a3 Q n93 (0 : Int32) μ89
def wp_X7_sheet_68 (a1 : Int32) (a2 : Int32) (a3 : Int32) (Q : Int32 → vM → Prop)  (μ : vM) : Prop := vp_in a1 4 ∧ ∃ μ74 : vM, μ74 = st μ 5 a1.toNatClampNeg a2 ∧ wp_X7_sheet_89 a1 a2 a3 Q a1 (if a2 = 0 then (0 : Int32) else a3) μ74
def wp_X7_sheet_51 (a1 : Int32) (a2 : Int32) (a3 : Int32) (Q : Int32 → vM → Prop)  (μ : vM) : Prop := if a2 ≤ 0 then wp_X7_sheet_68 a1 a2 a3 Q μ else if a3 ≤ (24 : Int32) then wp_X7_sheet_68 a1 a2 a3 Q μ else wp_X7_error (-1000000001 : Int32) (fun r64 μ64 => Q r64 μ64) μ
def wp_X7_sheet_36 (a1 : Int32) (a2 : Int32) (a3 : Int32) (Q : Int32 → vM → Prop)  (μ : vM) : Prop := if a2 ≤ 0 then wp_X7_sheet_51 a1 a2 a3 Q μ else if 0 ≤ a3 then wp_X7_sheet_51 a1 a2 a3 Q μ else wp_X7_error (-1000000003 : Int32) (fun r47 μ47 => Q r47 μ47) μ
def wp_X7_sheet (a1 : Int32) (a2 : Int32) (a3 : Int32) (Q : Int32 → vM → Prop) (μ : vM) : Prop := wp_X7_isSheet a1 (fun r1 μ1 => if r1 = 0 then wp_X7_error (-1000000001 : Int32) (fun r32 μ32 => Q r32 μ32) μ1 else if a2 = 0 then wp_X7_sheet_36 a1 a2 a3 Q μ1 else if a2 = (8 : Int32) then wp_X7_sheet_36 a1 a2 a3 Q μ1 else if a2 = (16 : Int32) then wp_X7_sheet_36 a1 a2 a3 Q μ1 else if a2 = (32 : Int32) then wp_X7_sheet_36 a1 a2 a3 Q μ1 else wp_X7_error (-1000000001 : Int32) (fun r32 μ32 => Q r32 μ32) μ1) μ
set_option maxRecDepth 100000 in
set_option maxHeartbeats 4000000 in
theorem c_X7_sheet (l : Launch) (G : vG) (hG : gO G) (a1 : Int32) (a2 : Int32) (a3 : Int32) (h0 : isX7 G) (Q : Int32 → vM → Prop) (μ : vM) (hw : wp_X7_sheet a1 a2 a3 Q μ) : mt l G yX7_sheet vX7_sheet { frames := 2, cells := 0, slots := 0, locals := 42 } [.ref (ga G 0), .int a1, .int a2, .int a3] μ (qI G Q) := by
  refine met_of (cc := cX7_sheet) (maxL := 5) (ret := (some .int)) RX7 (by decide) rfl rfl hG (Nat.le_of_ble_eq_true rfl) ?_
  intro p e s m below meth c X h ls hl
  have hl : lv_has ls 5 [(0, .ref (ga G 0)), (1, .int a1), (2, .int a2), (3, .int a3)] := hl
  have hx := X.1
  have hb := X.2.1
  unfold wp_X7_sheet at hw
  refine lv_iload_n hx hb dX7_sheet_0 rfl (lv_at hl 1 rfl) ?_
  refine k_i h (n_T (rest := []) (As := [.int a1]) X h hl.1 (c_X7_isSheet l G hG a1 _ _ hw) gk_X7_237 rfl hd_X7_isSheet ⟨rfl, rfl⟩ ⟨Nat.le_of_ble_eq_true rfl, Nat.le_of_ble_eq_true rfl⟩ rfl (Nat.le_of_ble_eq_true rfl) dX7_sheet_1 ⟨Nat.zero_le _, Nat.zero_le _⟩) (fun r1 μ1 H locs hw h => ?_)
  refine lv_if_eq (tgt := 29) hx hb dX7_sheet_4 (by decide) (fun hc => ?_) (fun hc => ?_)
  · rw [if_pos hc] at hw
    refine lv_aload_n hx hb dX7_sheet_29 rfl (lv_at hl 0 rfl) ?_
    refine r_ldc X (v := (-1000000001 : Int32)) ww_4_131 dX7_sheet_30 ?_
    refine k_i h (n_V (rest := []) (As := [.int (-1000000001 : Int32)]) X h hl.1 (c_X7_error l G hG (-1000000001 : Int32) h0 _ _ hw) gk_X7_104 rfl hd_X7_error ⟨rfl, rfl⟩ ⟨Nat.le_of_ble_eq_true rfl, Nat.le_of_ble_eq_true rfl⟩ (X7_o h0) rfl rfl (Nat.le_of_ble_eq_true rfl) dX7_sheet_32 ⟨Nat.zero_le _, Nat.zero_le _⟩) (fun r32 μ32 H locs hw h => ?_)
    exact r_iret X h hw dX7_sheet_35
  · rw [if_neg hc] at hw
    refine lv_iload_n hx hb dX7_sheet_7 rfl (lv_at hl 2 rfl) ?_
    have s36 : ∀  (μ : vM), ∀ (H : Heap) (locs : List Loc) (ls : Array Slot), bw G s μ H locs → lv_has ls 5 [(0, .ref (ga G 0)), (1, .int a1), (2, .int a2), (3, .int a3)] → wp_X7_sheet_36 a1 a2 a3 Q μ → W p l e ({ frames := 2, cells := 0, slots := 0, locals := 42 } : Room) s m ([.ref (ga G 0), .int a1, .int a2, .int a3] : List Value).toArray below meth c H locs 0 0 (MQ below (qI G Q) ([.ref (ga G 0), .int a1, .int a2, .int a3] : List Value).toArray s 0 0 (gA G)) (F0 m 36 ls []) := by
      intro  μ H locs ls h hl hw
      unfold wp_X7_sheet_36 at hw
      refine lv_iload_n hx hb dX7_sheet_36 rfl (lv_at hl 2 rfl) ?_
      have s51 : ∀  (μ : vM), ∀ (H : Heap) (locs : List Loc) (ls : Array Slot), bw G s μ H locs → lv_has ls 5 [(0, .ref (ga G 0)), (1, .int a1), (2, .int a2), (3, .int a3)] → wp_X7_sheet_51 a1 a2 a3 Q μ → W p l e ({ frames := 2, cells := 0, slots := 0, locals := 42 } : Room) s m ([.ref (ga G 0), .int a1, .int a2, .int a3] : List Value).toArray below meth c H locs 0 0 (MQ below (qI G Q) ([.ref (ga G 0), .int a1, .int a2, .int a3] : List Value).toArray s 0 0 (gA G)) (F0 m 51 ls []) := by
        intro  μ H locs ls h hl hw
        unfold wp_X7_sheet_51 at hw
        refine lv_iload_n hx hb dX7_sheet_51 rfl (lv_at hl 2 rfl) ?_
        have s68 : ∀  (μ : vM), ∀ (H : Heap) (locs : List Loc) (ls : Array Slot), bw G s μ H locs → lv_has ls 5 [(0, .ref (ga G 0)), (1, .int a1), (2, .int a2), (3, .int a3)] → wp_X7_sheet_68 a1 a2 a3 Q μ → W p l e ({ frames := 2, cells := 0, slots := 0, locals := 42 } : Room) s m ([.ref (ga G 0), .int a1, .int a2, .int a3] : List Value).toArray below meth c H locs 0 0 (MQ below (qI G Q) ([.ref (ga G 0), .int a1, .int a2, .int a3] : List Value).toArray s 0 0 (gA G)) (F0 m 68 ls []) := by
          intro  μ H locs ls h hl hw
          unfold wp_X7_sheet_68 at hw
          refine lv_aload_n hx hb dX7_sheet_68 rfl (lv_at hl 0 rfl) ?_
          refine r_getR (q := 5) X h (X7_o h0) rfl uX7 5 (by decide) lf_4_56 rfl dX7_sheet_69 ?_
          refine lv_iload_n hx hb dX7_sheet_72 rfl (lv_at hl 1 rfl) ?_
          refine lv_iload_n hx hb dX7_sheet_73 rfl (lv_at hl 2 rfl) ?_
          obtain ⟨hi, μ74, eμ74, hw⟩ := hw
          refine r_ast X h (X7_bitsOf h0) hi eμ74 dX7_sheet_74 (fun H locs h => ?_)
          refine lv_aload_n hx hb dX7_sheet_75 rfl (lv_at hl 0 rfl) ?_
          refine r_getR (q := 6) X h (X7_o h0) rfl uX7 6 (by decide) lf_4_57 rfl dX7_sheet_76 ?_
          refine lv_iload_n hx hb dX7_sheet_79 rfl (lv_at hl 1 rfl) ?_
          refine lv_iload_n hx hb dX7_sheet_80 rfl (lv_at hl 2 rfl) ?_
          have s89 : ∀ (t1 : Int32) (t2 : Int32) (μ : vM), ∀ (H : Heap) (locs : List Loc) (ls : Array Slot), bw G s μ H locs → lv_has ls 5 [(0, .ref (ga G 0)), (1, .int a1)] → wp_X7_sheet_89 a1 a2 a3 Q t1 t2 μ → W p l e ({ frames := 2, cells := 0, slots := 0, locals := 42 } : Room) s m ([.ref (ga G 0), .int a1, .int a2, .int a3] : List Value).toArray below meth c H locs 0 0 (MQ below (qI G Q) ([.ref (ga G 0), .int a1, .int a2, .int a3] : List Value).toArray s 0 0 (gA G)) (F0 m 89 ls [.int t2, .int t1, .ref (ga G 6)]) := by
            intro t1 t2 μ H locs ls h hl hw
            unfold wp_X7_sheet_89 at hw
            obtain ⟨hi, μ89, eμ89, hw⟩ := hw
            refine r_ast X h (X7_sizeOf h0) hi eμ89 dX7_sheet_89 (fun H locs h => ?_)
            refine lv_iconst (v := (0 : Int32)) hx hb dX7_sheet_90 (by decide) ?_
            refine lv_istore (lv' := [(4, .int (0 : Int32)), (0, .ref (ga G 0)), (1, .int a1)]) hx hb dX7_sheet_91 hl (by decide) rfl (fun ls hl => ?_)
            have s93 : ∀ (n93 : Nat) (x4 : Int32) (μ : vM), ∀ (H : Heap) (locs : List Loc) (ls : Array Slot), bw G s μ H locs → lv_has ls 5 [(0, .ref (ga G 0)), (1, .int a1), (4, .int x4)] → wp_X7_sheet_93 a1 a2 a3 Q n93 x4 μ → W p l e ({ frames := 2, cells := 0, slots := 0, locals := 42 } : Room) s m ([.ref (ga G 0), .int a1, .int a2, .int a3] : List Value).toArray below meth c H locs 0 0 (MQ below (qI G Q) ([.ref (ga G 0), .int a1, .int a2, .int a3] : List Value).toArray s 0 0 (gA G)) (F0 m 93 ls []) := by
              intro n93
              induction n93 with
              | zero => intro x4 μ H locs ls h hl hw; exact absurd hw (by unfold wp_X7_sheet_93; exact id)
              | succ n93 ih93 =>
                intro x4 μ H locs ls h hl hw
                unfold wp_X7_sheet_93 at hw
                refine lv_iload hx hb dX7_sheet_93 (lv_at hl 2 rfl) ?_
                refine lv_bipush (v := (24 : Int32)) hx hb dX7_sheet_95 (by decide) ?_
                refine lv_icmp_ge (tgt := 119) hx hb dX7_sheet_97 (by decide) (fun hc => ?_) (fun hc => ?_)
                · rw [if_pos hc] at hw
                  refine lv_iconst (v := (1 : Int32)) hx hb dX7_sheet_119 (by decide) ?_
                  exact r_iret X h hw dX7_sheet_120
                · rw [if_neg hc] at hw
                  refine lv_aload_n hx hb dX7_sheet_100 rfl (lv_at hl 0 rfl) ?_
                  refine r_getR (q := 7) X h (X7_o h0) rfl uX7 7 (by decide) lf_4_58 rfl dX7_sheet_101 ?_
                  refine lv_bipush (v := (24 : Int32)) hx hb dX7_sheet_104 (by decide) ?_
                  refine lv_iload_n hx hb dX7_sheet_106 rfl (lv_at hl 1 rfl) ?_
                  refine lv_imul hx hb dX7_sheet_107 ?_
                  refine lv_iload hx hb dX7_sheet_108 (lv_at hl 2 rfl) ?_
                  refine lv_iadd hx hb dX7_sheet_110 ?_
                  refine lv_iconst (v := (0 : Int32)) hx hb dX7_sheet_111 (by decide) ?_
                  obtain ⟨hi, μ112, eμ112, hw⟩ := hw
                  refine r_ast X h (X7_cells h0) hi eμ112 dX7_sheet_112 (fun H locs h => ?_)
                  obtain ⟨x4_113, ex4_113, hw⟩ := hw
                  refine lv_iinc (v := x4_113) (lv' := [(4, .int x4_113), (0, .ref (ga G 0)), (1, .int a1)]) hx hb dX7_sheet_113 hl (k := 2) rfl (by rw [ex4_113]; rfl) (by decide) rfl (fun ls hl => ?_)
                  refine lv_goto (tgt := 93) hx hb dX7_sheet_116 (by decide) ?_
                  exact ih93 x4_113 μ112 _ _ _ h (lv_sub hl [1, 2, 0] rfl) hw
            obtain ⟨n, hw⟩ := hw
            exact s93 n (0 : Int32) μ89 _ _ _ h (lv_sub hl [1, 2, 0] rfl) hw
          refine lv_if_ne (tgt := 88) hx hb dX7_sheet_81 (by decide) (fun hc => ?_) (fun hc => ?_)
          · rw [if_neg hc] at hw
            refine lv_iload_n hx hb dX7_sheet_88 rfl (lv_at hl 3 rfl) ?_
            exact s89 a1 a3 μ74 _ _ _ h (lv_sub hl [0, 1] rfl) hw
          · rw [if_pos hc] at hw
            refine lv_iconst (v := (0 : Int32)) hx hb dX7_sheet_84 (by decide) ?_
            refine lv_goto (tgt := 89) hx hb dX7_sheet_85 (by decide) ?_
            exact s89 a1 (0 : Int32) μ74 _ _ _ h (lv_sub hl [0, 1] rfl) hw
        refine lv_if_le (tgt := 68) hx hb dX7_sheet_52 (by decide) (fun hc => ?_) (fun hc => ?_)
        · rw [if_pos hc] at hw
          exact s68 μ _ _ _ h (lv_sub hl [0, 1, 2, 3] rfl) hw
        · rw [if_neg hc] at hw
          refine lv_iload_n hx hb dX7_sheet_55 rfl (lv_at hl 3 rfl) ?_
          refine lv_bipush (v := (24 : Int32)) hx hb dX7_sheet_56 (by decide) ?_
          refine lv_icmp_le (tgt := 68) hx hb dX7_sheet_58 (by decide) (fun hc => ?_) (fun hc => ?_)
          · rw [if_pos hc] at hw
            exact s68 μ _ _ _ h (lv_sub hl [0, 1, 2, 3] rfl) hw
          · rw [if_neg hc] at hw
            refine lv_aload_n hx hb dX7_sheet_61 rfl (lv_at hl 0 rfl) ?_
            refine r_ldc X (v := (-1000000001 : Int32)) ww_4_131 dX7_sheet_62 ?_
            refine k_i h (n_V (rest := []) (As := [.int (-1000000001 : Int32)]) X h hl.1 (c_X7_error l G hG (-1000000001 : Int32) h0 _ _ hw) gk_X7_104 rfl hd_X7_error ⟨rfl, rfl⟩ ⟨Nat.le_of_ble_eq_true rfl, Nat.le_of_ble_eq_true rfl⟩ (X7_o h0) rfl rfl (Nat.le_of_ble_eq_true rfl) dX7_sheet_64 ⟨Nat.zero_le _, Nat.zero_le _⟩) (fun r64 μ64 H locs hw h => ?_)
            exact r_iret X h hw dX7_sheet_67
      refine lv_if_le (tgt := 51) hx hb dX7_sheet_37 (by decide) (fun hc => ?_) (fun hc => ?_)
      · rw [if_pos hc] at hw
        exact s51 μ _ _ _ h (lv_sub hl [0, 1, 2, 3] rfl) hw
      · rw [if_neg hc] at hw
        refine lv_iload_n hx hb dX7_sheet_40 rfl (lv_at hl 3 rfl) ?_
        refine lv_if_ge (tgt := 51) hx hb dX7_sheet_41 (by decide) (fun hc => ?_) (fun hc => ?_)
        · rw [if_pos hc] at hw
          exact s51 μ _ _ _ h (lv_sub hl [0, 1, 2, 3] rfl) hw
        · rw [if_neg hc] at hw
          refine lv_aload_n hx hb dX7_sheet_44 rfl (lv_at hl 0 rfl) ?_
          refine r_ldc X (v := (-1000000003 : Int32)) ww_5_77 dX7_sheet_45 ?_
          refine k_i h (n_V (rest := []) (As := [.int (-1000000003 : Int32)]) X h hl.1 (c_X7_error l G hG (-1000000003 : Int32) h0 _ _ hw) gk_X7_104 rfl hd_X7_error ⟨rfl, rfl⟩ ⟨Nat.le_of_ble_eq_true rfl, Nat.le_of_ble_eq_true rfl⟩ (X7_o h0) rfl rfl (Nat.le_of_ble_eq_true rfl) dX7_sheet_47 ⟨Nat.zero_le _, Nat.zero_le _⟩) (fun r47 μ47 H locs hw h => ?_)
          exact r_iret X h hw dX7_sheet_50
    refine lv_if_eq (tgt := 36) hx hb dX7_sheet_8 (by decide) (fun hc => ?_) (fun hc => ?_)
    · rw [if_pos hc] at hw
      exact s36 μ1 _ _ _ h (lv_sub hl [0, 1, 2, 3] rfl) hw
    · rw [if_neg hc] at hw
      refine lv_iload_n hx hb dX7_sheet_11 rfl (lv_at hl 2 rfl) ?_
      refine lv_bipush (v := (8 : Int32)) hx hb dX7_sheet_12 (by decide) ?_
      refine lv_icmp_eq (tgt := 36) hx hb dX7_sheet_14 (by decide) (fun hc => ?_) (fun hc => ?_)
      · rw [if_pos hc] at hw
        exact s36 μ1 _ _ _ h (lv_sub hl [0, 1, 2, 3] rfl) hw
      · rw [if_neg hc] at hw
        refine lv_iload_n hx hb dX7_sheet_17 rfl (lv_at hl 2 rfl) ?_
        refine lv_bipush (v := (16 : Int32)) hx hb dX7_sheet_18 (by decide) ?_
        refine lv_icmp_eq (tgt := 36) hx hb dX7_sheet_20 (by decide) (fun hc => ?_) (fun hc => ?_)
        · rw [if_pos hc] at hw
          exact s36 μ1 _ _ _ h (lv_sub hl [0, 1, 2, 3] rfl) hw
        · rw [if_neg hc] at hw
          refine lv_iload_n hx hb dX7_sheet_23 rfl (lv_at hl 2 rfl) ?_
          refine lv_bipush (v := (32 : Int32)) hx hb dX7_sheet_24 (by decide) ?_
          refine lv_icmp_eq (tgt := 36) hx hb dX7_sheet_26 (by decide) (fun hc => ?_) (fun hc => ?_)
          · rw [if_pos hc] at hw
            exact s36 μ1 _ _ _ h (lv_sub hl [0, 1, 2, 3] rfl) hw
          · rw [if_neg hc] at hw
            refine lv_aload_n hx hb dX7_sheet_29 rfl (lv_at hl 0 rfl) ?_
            refine r_ldc X (v := (-1000000001 : Int32)) ww_4_131 dX7_sheet_30 ?_
            refine k_i h (n_V (rest := []) (As := [.int (-1000000001 : Int32)]) X h hl.1 (c_X7_error l G hG (-1000000001 : Int32) h0 _ _ hw) gk_X7_104 rfl hd_X7_error ⟨rfl, rfl⟩ ⟨Nat.le_of_ble_eq_true rfl, Nat.le_of_ble_eq_true rfl⟩ (X7_o h0) rfl rfl (Nat.le_of_ble_eq_true rfl) dX7_sheet_32 ⟨Nat.zero_le _, Nat.zero_le _⟩) (fun r32 μ32 H locs hw h => ?_)
            exact r_iret X h hw dX7_sheet_35
def wp_X7_notThere (a1 : Int32) (Q : Int32 → vM → Prop) (μ : vM) : Prop := wp_X7_isSheet a1 (fun r1 μ1 => if r1 = 0 then Q (-1000000001 : Int32) μ1 else vp_in a1 4 ∧ if (μ1 5 a1.toNatClampNeg) = 0 then Q (-1000000002 : Int32) μ1 else Q (0 : Int32) μ1) μ
set_option maxRecDepth 100000 in
set_option maxHeartbeats 4000000 in
theorem c_X7_notThere (l : Launch) (G : vG) (hG : gO G) (a1 : Int32) (h0 : isX7 G) (Q : Int32 → vM → Prop) (μ : vM) (hw : wp_X7_notThere a1 Q μ) : mt l G yX7_notThere vX7_notThere { frames := 2, cells := 0, slots := 0, locals := 42 } [.ref (ga G 0), .int a1] μ (qI G Q) := by
  refine met_of (cc := cX7_notThere) (maxL := 2) (ret := (some .int)) RX7 (by decide) rfl rfl hG (Nat.le_of_ble_eq_true rfl) ?_
  intro p e s m below meth c X h ls hl
  have hl : lv_has ls 2 [(0, .ref (ga G 0)), (1, .int a1)] := hl
  have hx := X.1
  have hb := X.2.1
  unfold wp_X7_notThere at hw
  refine lv_iload_n hx hb dX7_notThere_0 rfl (lv_at hl 1 rfl) ?_
  refine k_i h (n_T (rest := []) (As := [.int a1]) X h hl.1 (c_X7_isSheet l G hG a1 _ _ hw) gk_X7_237 rfl hd_X7_isSheet ⟨rfl, rfl⟩ ⟨Nat.le_of_ble_eq_true rfl, Nat.le_of_ble_eq_true rfl⟩ rfl (Nat.le_of_ble_eq_true rfl) dX7_notThere_1 ⟨Nat.zero_le _, Nat.zero_le _⟩) (fun r1 μ1 H locs hw h => ?_)
  refine lv_if_ne (tgt := 12) hx hb dX7_notThere_4 (by decide) (fun hc => ?_) (fun hc => ?_)
  · rw [if_neg hc] at hw
    refine lv_aload_n hx hb dX7_notThere_12 rfl (lv_at hl 0 rfl) ?_
    refine r_getR (q := 5) X h (X7_o h0) rfl uX7 5 (by decide) lf_4_56 rfl dX7_notThere_13 ?_
    refine lv_iload_n hx hb dX7_notThere_16 rfl (lv_at hl 1 rfl) ?_
    obtain ⟨hi, hw⟩ := hw
    refine r_ald X h (X7_bitsOf h0) hi dX7_notThere_17 ?_
    refine lv_if_ne (tgt := 26) hx hb dX7_notThere_18 (by decide) (fun hc => ?_) (fun hc => ?_)
    · rw [if_neg hc] at hw
      refine lv_iconst (v := (0 : Int32)) hx hb dX7_notThere_26 (by decide) ?_
      exact r_iret X h hw dX7_notThere_27
    · rw [if_pos hc] at hw
      refine r_ldc X (v := (-1000000002 : Int32)) ww_4_164 dX7_notThere_21 ?_
      refine lv_goto (tgt := 27) hx hb dX7_notThere_23 (by decide) ?_
      exact r_iret X h hw dX7_notThere_27
  · rw [if_pos hc] at hw
    refine r_ldc X (v := (-1000000001 : Int32)) ww_4_131 dX7_notThere_7 ?_
    refine lv_goto (tgt := 27) hx hb dX7_notThere_9 (by decide) ?_
    exact r_iret X h hw dX7_notThere_27
def wp_X7_put_35 (a1 : Int32) (a2 : Int32) (a3 : Int32) (Q : Int32 → vM → Prop) (t0 : Int32) (μ : vM) : Prop := if t0 = 0 then vp_in a1 4 ∧ if (μ 5 a1.toNatClampNeg) = (8 : Int32) then vp_in (((24 : Int32) * a1) + a2) 96 ∧ ∃ μ92 : vM, μ92 = st μ 7 (((24 : Int32) * a1) + a2).toNatClampNeg a3.toInt8.toInt32 ∧ Q (1 : Int32) μ92 else vp_in a1 4 ∧ if (μ 5 a1.toNatClampNeg) = (16 : Int32) then vp_in (((24 : Int32) * a1) + a2) 96 ∧ ∃ μ92 : vM, μ92 = st μ 7 (((24 : Int32) * a1) + a2).toNatClampNeg a3.toInt16.toInt32 ∧ Q (1 : Int32) μ92 else vp_in (((24 : Int32) * a1) + a2) 96 ∧ ∃ μ92 : vM, μ92 = st μ 7 (((24 : Int32) * a1) + a2).toNatClampNeg a3 ∧ Q (1 : Int32) μ92 else wp_X7_error t0 (fun r45 μ45 => Q r45 μ45) μ
def wp_X7_put_33 (a1 : Int32) (a2 : Int32) (a3 : Int32) (Q : Int32 → vM → Prop) (x4 : Int32) (μ : vM) : Prop := wp_X7_put_35 a1 a2 a3 Q x4 μ
def wp_X7_put (a1 : Int32) (a2 : Int32) (a3 : Int32) (Q : Int32 → vM → Prop) (μ : vM) : Prop := wp_X7_notThere a1 (fun r2 μ2 => if r2 = 0 then vp_in a1 4 ∧ wp_X7_in a2 (0 : Int32) ((μ2 6 a1.toNatClampNeg) - (1 : Int32)) (fun r22 μ22 => if r22 = 0 then wp_X7_put_35 a1 a2 a3 Q (-1000000001 : Int32) μ22 else wp_X7_put_33 a1 a2 a3 Q r2 μ22) μ2 else wp_X7_put_33 a1 a2 a3 Q r2 μ2) μ
set_option maxRecDepth 100000 in
set_option maxHeartbeats 4000000 in
theorem c_X7_put (l : Launch) (G : vG) (hG : gO G) (a1 : Int32) (a2 : Int32) (a3 : Int32) (h0 : isX7 G) (Q : Int32 → vM → Prop) (μ : vM) (hw : wp_X7_put a1 a2 a3 Q μ) : mt l G yX7_put vX7_put { frames := 3, cells := 0, slots := 0, locals := 63 } [.ref (ga G 0), .int a1, .int a2, .int a3] μ (qI G Q) := by
  refine met_of (cc := cX7_put) (maxL := 5) (ret := (some .int)) RX7 (by decide) rfl rfl hG (Nat.le_of_ble_eq_true rfl) ?_
  intro p e s m below meth c X h ls hl
  have hl : lv_has ls 5 [(0, .ref (ga G 0)), (1, .int a1), (2, .int a2), (3, .int a3)] := hl
  have hx := X.1
  have hb := X.2.1
  unfold wp_X7_put at hw
  refine lv_aload_n hx hb dX7_put_0 rfl (lv_at hl 0 rfl) ?_
  refine lv_iload_n hx hb dX7_put_1 rfl (lv_at hl 1 rfl) ?_
  refine k_i h (n_V (rest := []) (As := [.int a1]) X h hl.1 (c_X7_notThere l G hG a1 h0 _ _ hw) gk_X7_284 rfl hd_X7_notThere ⟨rfl, rfl⟩ ⟨Nat.le_of_ble_eq_true rfl, Nat.le_of_ble_eq_true rfl⟩ (X7_o h0) rfl rfl (Nat.le_of_ble_eq_true rfl) dX7_put_2 ⟨Nat.zero_le _, Nat.zero_le _⟩) (fun r2 μ2 H locs hw h => ?_)
  refine lv_istore (lv' := [(4, .int r2), (0, .ref (ga G 0)), (1, .int a1), (2, .int a2), (3, .int a3)]) hx hb dX7_put_5 hl (by decide) rfl (fun ls hl => ?_)
  refine lv_iload hx hb dX7_put_7 (lv_at hl 0 rfl) ?_
  have s35 : ∀ (t0 : Int32) (μ : vM), ∀ (H : Heap) (locs : List Loc) (ls : Array Slot), bw G s μ H locs → lv_has ls 5 [(0, .ref (ga G 0)), (1, .int a1), (2, .int a2), (3, .int a3)] → wp_X7_put_35 a1 a2 a3 Q t0 μ → W p l e ({ frames := 3, cells := 0, slots := 0, locals := 63 } : Room) s m ([.ref (ga G 0), .int a1, .int a2, .int a3] : List Value).toArray below meth c H locs 0 0 (MQ below (qI G Q) ([.ref (ga G 0), .int a1, .int a2, .int a3] : List Value).toArray s 0 0 (gA G)) (F0 m 35 ls [.int t0]) := by
    intro t0 μ H locs ls h hl hw
    unfold wp_X7_put_35 at hw
    refine lv_istore (lv' := [(4, .int t0), (0, .ref (ga G 0)), (1, .int a1), (2, .int a2), (3, .int a3)]) hx hb dX7_put_35 hl (by decide) rfl (fun ls hl => ?_)
    refine lv_iload hx hb dX7_put_37 (lv_at hl 0 rfl) ?_
    refine lv_if_eq (tgt := 49) hx hb dX7_put_39 (by decide) (fun hc => ?_) (fun hc => ?_)
    · rw [if_pos hc] at hw
      refine lv_aload_n hx hb dX7_put_49 rfl (lv_at hl 1 rfl) ?_
      refine r_getR (q := 7) X h (X7_o h0) rfl uX7 7 (by decide) lf_4_58 rfl dX7_put_50 ?_
      refine lv_bipush (v := (24 : Int32)) hx hb dX7_put_53 (by decide) ?_
      refine lv_iload_n hx hb dX7_put_55 rfl (lv_at hl 2 rfl) ?_
      refine lv_imul hx hb dX7_put_56 ?_
      refine lv_iload_n hx hb dX7_put_57 rfl (lv_at hl 3 rfl) ?_
      refine lv_iadd hx hb dX7_put_58 ?_
      refine lv_aload_n hx hb dX7_put_59 rfl (lv_at hl 1 rfl) ?_
      refine r_getR (q := 5) X h (X7_o h0) rfl uX7 5 (by decide) lf_4_56 rfl dX7_put_60 ?_
      refine lv_iload_n hx hb dX7_put_63 rfl (lv_at hl 2 rfl) ?_
      obtain ⟨hi, hw⟩ := hw
      refine r_ald X h (X7_bitsOf h0) hi dX7_put_64 ?_
      refine lv_bipush (v := (8 : Int32)) hx hb dX7_put_65 (by decide) ?_
      refine lv_icmp_ne (tgt := 75) hx hb dX7_put_67 (by decide) (fun hc => ?_) (fun hc => ?_)
      · rw [if_neg hc] at hw
        refine lv_aload_n hx hb dX7_put_75 rfl (lv_at hl 1 rfl) ?_
        refine r_getR (q := 5) X h (X7_o h0) rfl uX7 5 (by decide) lf_4_56 rfl dX7_put_76 ?_
        refine lv_iload_n hx hb dX7_put_79 rfl (lv_at hl 2 rfl) ?_
        obtain ⟨hi, hw⟩ := hw
        refine r_ald X h (X7_bitsOf h0) hi dX7_put_80 ?_
        refine lv_bipush (v := (16 : Int32)) hx hb dX7_put_81 (by decide) ?_
        refine lv_icmp_ne (tgt := 91) hx hb dX7_put_83 (by decide) (fun hc => ?_) (fun hc => ?_)
        · rw [if_neg hc] at hw
          refine lv_iload_n hx hb dX7_put_91 rfl (lv_at hl 4 rfl) ?_
          obtain ⟨hi, μ92, eμ92, hw⟩ := hw
          refine r_ast X h (X7_cells h0) hi eμ92 dX7_put_92 (fun H locs h => ?_)
          refine lv_iconst (v := (1 : Int32)) hx hb dX7_put_93 (by decide) ?_
          exact r_iret X h hw dX7_put_94
        · rw [if_pos hc] at hw
          refine lv_iload_n hx hb dX7_put_86 rfl (lv_at hl 4 rfl) ?_
          refine lv_i2s hx hb dX7_put_87 rfl ?_
          refine lv_goto (tgt := 92) hx hb dX7_put_88 (by decide) ?_
          obtain ⟨hi, μ92, eμ92, hw⟩ := hw
          refine r_ast X h (X7_cells h0) hi eμ92 dX7_put_92 (fun H locs h => ?_)
          refine lv_iconst (v := (1 : Int32)) hx hb dX7_put_93 (by decide) ?_
          exact r_iret X h hw dX7_put_94
      · rw [if_pos hc] at hw
        refine lv_iload_n hx hb dX7_put_70 rfl (lv_at hl 4 rfl) ?_
        refine lv_i2b hx hb dX7_put_71 rfl ?_
        refine lv_goto (tgt := 92) hx hb dX7_put_72 (by decide) ?_
        obtain ⟨hi, μ92, eμ92, hw⟩ := hw
        refine r_ast X h (X7_cells h0) hi eμ92 dX7_put_92 (fun H locs h => ?_)
        refine lv_iconst (v := (1 : Int32)) hx hb dX7_put_93 (by decide) ?_
        exact r_iret X h hw dX7_put_94
    · rw [if_neg hc] at hw
      refine lv_aload_n hx hb dX7_put_42 rfl (lv_at hl 1 rfl) ?_
      refine lv_iload hx hb dX7_put_43 (lv_at hl 0 rfl) ?_
      refine k_i h (n_V (rest := []) (As := [.int t0]) X h hl.1 (c_X7_error l G hG t0 h0 _ _ hw) gk_X7_104 rfl hd_X7_error ⟨rfl, rfl⟩ ⟨Nat.le_of_ble_eq_true rfl, Nat.le_of_ble_eq_true rfl⟩ (X7_o h0) rfl rfl (Nat.le_of_ble_eq_true rfl) dX7_put_45 ⟨Nat.zero_le _, Nat.zero_le _⟩) (fun r45 μ45 H locs hw h => ?_)
      exact r_iret X h hw dX7_put_48
  have s33 : ∀ (x4 : Int32) (μ : vM), ∀ (H : Heap) (locs : List Loc) (ls : Array Slot), bw G s μ H locs → lv_has ls 5 [(0, .ref (ga G 0)), (1, .int a1), (2, .int a2), (3, .int a3), (4, .int x4)] → wp_X7_put_33 a1 a2 a3 Q x4 μ → W p l e ({ frames := 3, cells := 0, slots := 0, locals := 63 } : Room) s m ([.ref (ga G 0), .int a1, .int a2, .int a3] : List Value).toArray below meth c H locs 0 0 (MQ below (qI G Q) ([.ref (ga G 0), .int a1, .int a2, .int a3] : List Value).toArray s 0 0 (gA G)) (F0 m 33 ls []) := by
    intro x4 μ H locs ls h hl hw
    unfold wp_X7_put_33 at hw
    refine lv_iload hx hb dX7_put_33 (lv_at hl 4 rfl) ?_
    exact s35 x4 μ _ _ _ h (lv_sub hl [0, 1, 2, 3] rfl) hw
  refine lv_if_ne (tgt := 33) hx hb dX7_put_9 (by decide) (fun hc => ?_) (fun hc => ?_)
  · rw [if_neg hc] at hw
    exact s33 r2 μ2 _ _ _ h (lv_sub hl [1, 2, 3, 4, 0] rfl) hw
  · rw [if_pos hc] at hw
    refine lv_iload_n hx hb dX7_put_12 rfl (lv_at hl 3 rfl) ?_
    refine lv_iconst (v := (0 : Int32)) hx hb dX7_put_13 (by decide) ?_
    refine lv_aload_n hx hb dX7_put_14 rfl (lv_at hl 1 rfl) ?_
    refine r_getR (q := 6) X h (X7_o h0) rfl uX7 6 (by decide) lf_4_57 rfl dX7_put_15 ?_
    refine lv_iload_n hx hb dX7_put_18 rfl (lv_at hl 2 rfl) ?_
    obtain ⟨hi, hw⟩ := hw
    refine r_ald X h (X7_sizeOf h0) hi dX7_put_19 ?_
    refine lv_iconst (v := (1 : Int32)) hx hb dX7_put_20 (by decide) ?_
    refine lv_isub hx hb dX7_put_21 ?_
    refine k_i h (n_T (rest := []) (As := [.int a2, .int (0 : Int32), .int ((μ2 6 a1.toNatClampNeg) - (1 : Int32))]) X h hl.1 (c_X7_in l G hG a2 (0 : Int32) ((μ2 6 a1.toNatClampNeg) - (1 : Int32)) _ _ hw) gk_X7_57 rfl hd_X7_in ⟨rfl, rfl⟩ ⟨Nat.le_of_ble_eq_true rfl, Nat.le_of_ble_eq_true rfl⟩ rfl (Nat.le_of_ble_eq_true rfl) dX7_put_22 ⟨Nat.zero_le _, Nat.zero_le _⟩) (fun r22 μ22 H locs hw h => ?_)
    refine lv_if_ne (tgt := 33) hx hb dX7_put_25 (by decide) (fun hc => ?_) (fun hc => ?_)
    · rw [if_neg hc] at hw
      exact s33 r2 μ22 _ _ _ h (lv_sub hl [1, 2, 3, 4, 0] rfl) hw
    · rw [if_pos hc] at hw
      refine r_ldc X (v := (-1000000001 : Int32)) ww_4_131 dX7_put_28 ?_
      refine lv_goto (tgt := 35) hx hb dX7_put_30 (by decide) ?_
      exact s35 (-1000000001 : Int32) μ22 _ _ _ h (lv_sub hl [1, 2, 3, 4] rfl) hw
def wp_X7_notMoved_102 (a1 : Int32) (a2 : Int32) (a3 : Int32) (a4 : Int32) (a5 : Int32) (Q : Int32 → vM → Prop) (t0 : Int32) (μ : vM) : Prop := if t0 = 0 then Q (-1000000001 : Int32) μ else Q (0 : Int32) μ
def wp_X7_notMoved_101 (a1 : Int32) (a2 : Int32) (a3 : Int32) (a4 : Int32) (a5 : Int32) (Q : Int32 → vM → Prop)  (μ : vM) : Prop := wp_X7_notMoved_102 a1 a2 a3 a4 a5 Q (0 : Int32) μ
def wp_X7_notMoved (a1 : Int32) (a2 : Int32) (a3 : Int32) (a4 : Int32) (a5 : Int32) (Q : Int32 → vM → Prop) (μ : vM) : Prop := wp_X7_isSheet a1 (fun r1 μ1 => if r1 = 0 then Q (-1000000001 : Int32) μ1 else wp_X7_isSheet a3 (fun r8 μ8 => if r8 = 0 then Q (-1000000001 : Int32) μ8 else vp_in a1 4 ∧ if (μ8 5 a1.toNatClampNeg) = 0 then Q (-1000000002 : Int32) μ8 else vp_in a3 4 ∧ if (μ8 5 a3.toNatClampNeg) = 0 then Q (-1000000002 : Int32) μ8 else vp_in a1 4 ∧ vp_in a3 4 ∧ if (μ8 5 a1.toNatClampNeg) = (μ8 5 a3.toNatClampNeg) then if a5 < 0 then wp_X7_notMoved_101 a1 a2 a3 a4 a5 Q μ8 else if a2 < 0 then wp_X7_notMoved_101 a1 a2 a3 a4 a5 Q μ8 else if a4 < 0 then wp_X7_notMoved_101 a1 a2 a3 a4 a5 Q μ8 else vp_in a1 4 ∧ if ((μ8 6 a1.toNatClampNeg) - a2) < a5 then wp_X7_notMoved_101 a1 a2 a3 a4 a5 Q μ8 else vp_in a3 4 ∧ if ((μ8 6 a3.toNatClampNeg) - a4) < a5 then wp_X7_notMoved_101 a1 a2 a3 a4 a5 Q μ8 else wp_X7_notMoved_102 a1 a2 a3 a4 a5 Q (1 : Int32) μ8 else Q (-1000000005 : Int32) μ8) μ1) μ
set_option maxRecDepth 100000 in
set_option maxHeartbeats 4000000 in
theorem c_X7_notMoved (l : Launch) (G : vG) (hG : gO G) (a1 : Int32) (a2 : Int32) (a3 : Int32) (a4 : Int32) (a5 : Int32) (h0 : isX7 G) (Q : Int32 → vM → Prop) (μ : vM) (hw : wp_X7_notMoved a1 a2 a3 a4 a5 Q μ) : mt l G yX7_notMoved vX7_notMoved { frames := 2, cells := 0, slots := 0, locals := 42 } [.ref (ga G 0), .int a1, .int a2, .int a3, .int a4, .int a5] μ (qI G Q) := by
  refine met_of (cc := cX7_notMoved) (maxL := 7) (ret := (some .int)) RX7 (by decide) rfl rfl hG (Nat.le_of_ble_eq_true rfl) ?_
  intro p e s m below meth c X h ls hl
  have hl : lv_has ls 7 [(0, .ref (ga G 0)), (1, .int a1), (2, .int a2), (3, .int a3), (4, .int a4), (5, .int a5)] := hl
  have hx := X.1
  have hb := X.2.1
  unfold wp_X7_notMoved at hw
  refine lv_iload_n hx hb dX7_notMoved_0 rfl (lv_at hl 1 rfl) ?_
  refine k_i h (n_T (rest := []) (As := [.int a1]) X h hl.1 (c_X7_isSheet l G hG a1 _ _ hw) gk_X7_237 rfl hd_X7_isSheet ⟨rfl, rfl⟩ ⟨Nat.le_of_ble_eq_true rfl, Nat.le_of_ble_eq_true rfl⟩ rfl (Nat.le_of_ble_eq_true rfl) dX7_notMoved_1 ⟨Nat.zero_le _, Nat.zero_le _⟩) (fun r1 μ1 H locs hw h => ?_)
  refine lv_if_eq (tgt := 14) hx hb dX7_notMoved_4 (by decide) (fun hc => ?_) (fun hc => ?_)
  · rw [if_pos hc] at hw
    refine r_ldc X (v := (-1000000001 : Int32)) ww_4_131 dX7_notMoved_14 ?_
    exact r_iret X h hw dX7_notMoved_16
  · rw [if_neg hc] at hw
    refine lv_iload_n hx hb dX7_notMoved_7 rfl (lv_at hl 3 rfl) ?_
    refine k_i h (n_T (rest := []) (As := [.int a3]) X h hl.1 (c_X7_isSheet l G hG a3 _ _ hw) gk_X7_237 rfl hd_X7_isSheet ⟨rfl, rfl⟩ ⟨Nat.le_of_ble_eq_true rfl, Nat.le_of_ble_eq_true rfl⟩ rfl (Nat.le_of_ble_eq_true rfl) dX7_notMoved_8 ⟨Nat.zero_le _, Nat.zero_le _⟩) (fun r8 μ8 H locs hw h => ?_)
    refine lv_if_ne (tgt := 17) hx hb dX7_notMoved_11 (by decide) (fun hc => ?_) (fun hc => ?_)
    · rw [if_neg hc] at hw
      refine lv_aload_n hx hb dX7_notMoved_17 rfl (lv_at hl 0 rfl) ?_
      refine r_getR (q := 5) X h (X7_o h0) rfl uX7 5 (by decide) lf_4_56 rfl dX7_notMoved_18 ?_
      refine lv_iload_n hx hb dX7_notMoved_21 rfl (lv_at hl 1 rfl) ?_
      obtain ⟨hi, hw⟩ := hw
      refine r_ald X h (X7_bitsOf h0) hi dX7_notMoved_22 ?_
      refine lv_if_eq (tgt := 35) hx hb dX7_notMoved_23 (by decide) (fun hc => ?_) (fun hc => ?_)
      · rw [if_pos hc] at hw
        refine r_ldc X (v := (-1000000002 : Int32)) ww_4_164 dX7_notMoved_35 ?_
        exact r_iret X h hw dX7_notMoved_37
      · rw [if_neg hc] at hw
        refine lv_aload_n hx hb dX7_notMoved_26 rfl (lv_at hl 0 rfl) ?_
        refine r_getR (q := 5) X h (X7_o h0) rfl uX7 5 (by decide) lf_4_56 rfl dX7_notMoved_27 ?_
        refine lv_iload_n hx hb dX7_notMoved_30 rfl (lv_at hl 3 rfl) ?_
        obtain ⟨hi, hw⟩ := hw
        refine r_ald X h (X7_bitsOf h0) hi dX7_notMoved_31 ?_
        refine lv_if_ne (tgt := 38) hx hb dX7_notMoved_32 (by decide) (fun hc => ?_) (fun hc => ?_)
        · rw [if_neg hc] at hw
          refine lv_aload_n hx hb dX7_notMoved_38 rfl (lv_at hl 0 rfl) ?_
          refine r_getR (q := 5) X h (X7_o h0) rfl uX7 5 (by decide) lf_4_56 rfl dX7_notMoved_39 ?_
          refine lv_iload_n hx hb dX7_notMoved_42 rfl (lv_at hl 1 rfl) ?_
          obtain ⟨hi, hw⟩ := hw
          refine r_ald X h (X7_bitsOf h0) hi dX7_notMoved_43 ?_
          refine lv_aload_n hx hb dX7_notMoved_44 rfl (lv_at hl 0 rfl) ?_
          refine r_getR (q := 5) X h (X7_o h0) rfl uX7 5 (by decide) lf_4_56 rfl dX7_notMoved_45 ?_
          refine lv_iload_n hx hb dX7_notMoved_48 rfl (lv_at hl 3 rfl) ?_
          obtain ⟨hi, hw⟩ := hw
          refine r_ald X h (X7_bitsOf h0) hi dX7_notMoved_49 ?_
          refine lv_icmp_eq (tgt := 56) hx hb dX7_notMoved_50 (by decide) (fun hc => ?_) (fun hc => ?_)
          · rw [if_pos hc] at hw
            refine lv_iload hx hb dX7_notMoved_56 (lv_at hl 5 rfl) ?_
            have s102 : ∀ (t0 : Int32) (μ : vM), ∀ (H : Heap) (locs : List Loc) (ls : Array Slot), bw G s μ H locs → lv_has ls 7 [] → wp_X7_notMoved_102 a1 a2 a3 a4 a5 Q t0 μ → W p l e ({ frames := 2, cells := 0, slots := 0, locals := 42 } : Room) s m ([.ref (ga G 0), .int a1, .int a2, .int a3, .int a4, .int a5] : List Value).toArray below meth c H locs 0 0 (MQ below (qI G Q) ([.ref (ga G 0), .int a1, .int a2, .int a3, .int a4, .int a5] : List Value).toArray s 0 0 (gA G)) (F0 m 102 ls [.int t0]) := by
              intro t0 μ H locs ls h hl hw
              unfold wp_X7_notMoved_102 at hw
              refine lv_istore (lv' := [(6, .int t0)]) hx hb dX7_notMoved_102 hl (by decide) rfl (fun ls hl => ?_)
              refine lv_iload hx hb dX7_notMoved_104 (lv_at hl 0 rfl) ?_
              refine lv_if_eq (tgt := 113) hx hb dX7_notMoved_106 (by decide) (fun hc => ?_) (fun hc => ?_)
              · rw [if_pos hc] at hw
                refine r_ldc X (v := (-1000000001 : Int32)) ww_4_131 dX7_notMoved_113 ?_
                exact r_iret X h hw dX7_notMoved_115
              · rw [if_neg hc] at hw
                refine lv_iconst (v := (0 : Int32)) hx hb dX7_notMoved_109 (by decide) ?_
                refine lv_goto (tgt := 115) hx hb dX7_notMoved_110 (by decide) ?_
                exact r_iret X h hw dX7_notMoved_115
            have s101 : ∀  (μ : vM), ∀ (H : Heap) (locs : List Loc) (ls : Array Slot), bw G s μ H locs → lv_has ls 7 [] → wp_X7_notMoved_101 a1 a2 a3 a4 a5 Q μ → W p l e ({ frames := 2, cells := 0, slots := 0, locals := 42 } : Room) s m ([.ref (ga G 0), .int a1, .int a2, .int a3, .int a4, .int a5] : List Value).toArray below meth c H locs 0 0 (MQ below (qI G Q) ([.ref (ga G 0), .int a1, .int a2, .int a3, .int a4, .int a5] : List Value).toArray s 0 0 (gA G)) (F0 m 101 ls []) := by
              intro  μ H locs ls h hl hw
              unfold wp_X7_notMoved_101 at hw
              refine lv_iconst (v := (0 : Int32)) hx hb dX7_notMoved_101 (by decide) ?_
              exact s102 (0 : Int32) μ _ _ _ h (lv_sub hl [] rfl) hw
            refine lv_if_lt (tgt := 101) hx hb dX7_notMoved_58 (by decide) (fun hc => ?_) (fun hc => ?_)
            · rw [if_pos hc] at hw
              exact s101 μ8 _ _ _ h (lv_sub hl [] rfl) hw
            · rw [if_neg hc] at hw
              refine lv_iload_n hx hb dX7_notMoved_61 rfl (lv_at hl 2 rfl) ?_
              refine lv_if_lt (tgt := 101) hx hb dX7_notMoved_62 (by decide) (fun hc => ?_) (fun hc => ?_)
              · rw [if_pos hc] at hw
                exact s101 μ8 _ _ _ h (lv_sub hl [] rfl) hw
              · rw [if_neg hc] at hw
                refine lv_iload hx hb dX7_notMoved_65 (lv_at hl 4 rfl) ?_
                refine lv_if_lt (tgt := 101) hx hb dX7_notMoved_67 (by decide) (fun hc => ?_) (fun hc => ?_)
                · rw [if_pos hc] at hw
                  exact s101 μ8 _ _ _ h (lv_sub hl [] rfl) hw
                · rw [if_neg hc] at hw
                  refine lv_iload hx hb dX7_notMoved_70 (lv_at hl 5 rfl) ?_
                  refine lv_aload_n hx hb dX7_notMoved_72 rfl (lv_at hl 0 rfl) ?_
                  refine r_getR (q := 6) X h (X7_o h0) rfl uX7 6 (by decide) lf_4_57 rfl dX7_notMoved_73 ?_
                  refine lv_iload_n hx hb dX7_notMoved_76 rfl (lv_at hl 1 rfl) ?_
                  obtain ⟨hi, hw⟩ := hw
                  refine r_ald X h (X7_sizeOf h0) hi dX7_notMoved_77 ?_
                  refine lv_iload_n hx hb dX7_notMoved_78 rfl (lv_at hl 2 rfl) ?_
                  refine lv_isub hx hb dX7_notMoved_79 ?_
                  refine lv_icmp_gt (tgt := 101) hx hb dX7_notMoved_80 (by decide) (fun hc => ?_) (fun hc => ?_)
                  · rw [if_pos hc] at hw
                    exact s101 μ8 _ _ _ h (lv_sub hl [] rfl) hw
                  · rw [if_neg hc] at hw
                    refine lv_iload hx hb dX7_notMoved_83 (lv_at hl 5 rfl) ?_
                    refine lv_aload_n hx hb dX7_notMoved_85 rfl (lv_at hl 0 rfl) ?_
                    refine r_getR (q := 6) X h (X7_o h0) rfl uX7 6 (by decide) lf_4_57 rfl dX7_notMoved_86 ?_
                    refine lv_iload_n hx hb dX7_notMoved_89 rfl (lv_at hl 3 rfl) ?_
                    obtain ⟨hi, hw⟩ := hw
                    refine r_ald X h (X7_sizeOf h0) hi dX7_notMoved_90 ?_
                    refine lv_iload hx hb dX7_notMoved_91 (lv_at hl 4 rfl) ?_
                    refine lv_isub hx hb dX7_notMoved_93 ?_
                    refine lv_icmp_gt (tgt := 101) hx hb dX7_notMoved_94 (by decide) (fun hc => ?_) (fun hc => ?_)
                    · rw [if_pos hc] at hw
                      exact s101 μ8 _ _ _ h (lv_sub hl [] rfl) hw
                    · rw [if_neg hc] at hw
                      refine lv_iconst (v := (1 : Int32)) hx hb dX7_notMoved_97 (by decide) ?_
                      refine lv_goto (tgt := 102) hx hb dX7_notMoved_98 (by decide) ?_
                      exact s102 (1 : Int32) μ8 _ _ _ h (lv_sub hl [] rfl) hw
          · rw [if_neg hc] at hw
            refine r_ldc X (v := (-1000000005 : Int32)) ww_5_3 dX7_notMoved_53 ?_
            exact r_iret X h hw dX7_notMoved_55
        · rw [if_pos hc] at hw
          refine r_ldc X (v := (-1000000002 : Int32)) ww_4_164 dX7_notMoved_35 ?_
          exact r_iret X h hw dX7_notMoved_37
    · rw [if_pos hc] at hw
      refine r_ldc X (v := (-1000000001 : Int32)) ww_4_131 dX7_notMoved_14 ?_
      exact r_iret X h hw dX7_notMoved_16
def wp_X7_move_53 (a1 : Int32) (a2 : Int32) (a3 : Int32) (a4 : Int32) (a5 : Int32) (Q : Int32 → vM → Prop) (k28 : Int32 → vM → Prop) (x7 : Int32) (t0 : Int32) (μ : vM) : Prop := vp_in ((((24 : Int32) * a1) + a2) + t0) 96 ∧ vp_in ((((24 : Int32) * a3) + a4) + t0) 96 ∧ ∃ μ83 : vM, μ83 = st μ 7 ((((24 : Int32) * a3) + a4) + t0).toNatClampNeg (μ 7 ((((24 : Int32) * a1) + a2) + t0).toNatClampNeg) ∧ ∃ x7_84 : Int32, x7_84 = x7 + (1 : Int32) ∧ k28 x7_84 μ83
def wp_X7_move_28 (a1 : Int32) (a2 : Int32) (a3 : Int32) (a4 : Int32) (a5 : Int32) (Q : Int32 → vM → Prop) : Nat → Int32 → vM → Prop
  | 0, _, _ => False
  | n28 + 1, x7, μ => if a5 ≤ x7 then Q a5 μ else wp_X7_move_53 a1 a2 a3 a4 a5 Q (fun x7 μ => wp_X7_move_28 a1 a2 a3 a4 a5 Q n28 x7 μ) x7 (if a4 ≤ a2 then x7 else (a5 - (1 : Int32)) - x7) μ
def wp_X7_move (a1 : Int32) (a2 : Int32) (a3 : Int32) (a4 : Int32) (a5 : Int32) (Q : Int32 → vM → Prop) (μ : vM) : Prop := wp_X7_notMoved a1 a2 a3 a4 a5 (fun r8 μ8 => if r8 = 0 then ∃ n28, wp_X7_move_28 a1 a2 a3 a4 a5 Q n28 (0 : Int32) μ8 else wp_X7_error r8 (fun r21 μ21 => Q r21 μ21) μ8) μ
set_option maxRecDepth 100000 in
set_option maxHeartbeats 4000000 in
theorem c_X7_move (l : Launch) (G : vG) (hG : gO G) (a1 : Int32) (a2 : Int32) (a3 : Int32) (a4 : Int32) (a5 : Int32) (h0 : isX7 G) (Q : Int32 → vM → Prop) (μ : vM) (hw : wp_X7_move a1 a2 a3 a4 a5 Q μ) : mt l G yX7_move vX7_move { frames := 3, cells := 0, slots := 0, locals := 68 } [.ref (ga G 0), .int a1, .int a2, .int a3, .int a4, .int a5] μ (qI G Q) := by
  refine met_of (cc := cX7_move) (maxL := 9) (ret := (some .int)) RX7 (by decide) rfl rfl hG (Nat.le_of_ble_eq_true rfl) ?_
  intro p e s m below meth c X h ls hl
  have hl : lv_has ls 9 [(0, .ref (ga G 0)), (1, .int a1), (2, .int a2), (3, .int a3), (4, .int a4), (5, .int a5)] := hl
  have hx := X.1
  have hb := X.2.1
  unfold wp_X7_move at hw
  refine lv_aload_n hx hb dX7_move_0 rfl (lv_at hl 0 rfl) ?_
  refine lv_iload_n hx hb dX7_move_1 rfl (lv_at hl 1 rfl) ?_
  refine lv_iload_n hx hb dX7_move_2 rfl (lv_at hl 2 rfl) ?_
  refine lv_iload_n hx hb dX7_move_3 rfl (lv_at hl 3 rfl) ?_
  refine lv_iload hx hb dX7_move_4 (lv_at hl 4 rfl) ?_
  refine lv_iload hx hb dX7_move_6 (lv_at hl 5 rfl) ?_
  refine k_i h (n_V (rest := []) (As := [.int a1, .int a2, .int a3, .int a4, .int a5]) X h hl.1 (c_X7_notMoved l G hG a1 a2 a3 a4 a5 h0 _ _ hw) gk_X7_287 rfl hd_X7_notMoved ⟨rfl, rfl⟩ ⟨Nat.le_of_ble_eq_true rfl, Nat.le_of_ble_eq_true rfl⟩ (X7_o h0) rfl rfl (Nat.le_of_ble_eq_true rfl) dX7_move_8 ⟨Nat.zero_le _, Nat.zero_le _⟩) (fun r8 μ8 H locs hw h => ?_)
  refine lv_istore (lv' := [(6, .int r8), (0, .ref (ga G 0)), (1, .int a1), (2, .int a2), (3, .int a3), (4, .int a4), (5, .int a5)]) hx hb dX7_move_11 hl (by decide) rfl (fun ls hl => ?_)
  refine lv_iload hx hb dX7_move_13 (lv_at hl 0 rfl) ?_
  refine lv_if_eq (tgt := 25) hx hb dX7_move_15 (by decide) (fun hc => ?_) (fun hc => ?_)
  · rw [if_pos hc] at hw
    refine lv_iconst (v := (0 : Int32)) hx hb dX7_move_25 (by decide) ?_
    refine lv_istore (lv' := [(7, .int (0 : Int32)), (6, .int r8), (0, .ref (ga G 0)), (1, .int a1), (2, .int a2), (3, .int a3), (4, .int a4), (5, .int a5)]) hx hb dX7_move_26 hl (by decide) rfl (fun ls hl => ?_)
    have s28 : ∀ (n28 : Nat) (x7 : Int32) (μ : vM), ∀ (H : Heap) (locs : List Loc) (ls : Array Slot), bw G s μ H locs → lv_has ls 9 [(0, .ref (ga G 0)), (1, .int a1), (2, .int a2), (3, .int a3), (4, .int a4), (5, .int a5), (7, .int x7)] → wp_X7_move_28 a1 a2 a3 a4 a5 Q n28 x7 μ → W p l e ({ frames := 3, cells := 0, slots := 0, locals := 68 } : Room) s m ([.ref (ga G 0), .int a1, .int a2, .int a3, .int a4, .int a5] : List Value).toArray below meth c H locs 0 0 (MQ below (qI G Q) ([.ref (ga G 0), .int a1, .int a2, .int a3, .int a4, .int a5] : List Value).toArray s 0 0 (gA G)) (F0 m 28 ls []) := by
      intro n28
      induction n28 with
      | zero => intro x7 μ H locs ls h hl hw; exact absurd hw (by unfold wp_X7_move_28; exact id)
      | succ n28 ih28 =>
        intro x7 μ H locs ls h hl hw
        unfold wp_X7_move_28 at hw
        refine lv_iload hx hb dX7_move_28 (lv_at hl 6 rfl) ?_
        refine lv_iload hx hb dX7_move_30 (lv_at hl 5 rfl) ?_
        refine lv_icmp_ge (tgt := 90) hx hb dX7_move_32 (by decide) (fun hc => ?_) (fun hc => ?_)
        · rw [if_pos hc] at hw
          refine lv_iload hx hb dX7_move_90 (lv_at hl 5 rfl) ?_
          exact r_iret X h hw dX7_move_92
        · rw [if_neg hc] at hw
          refine lv_iload_n hx hb dX7_move_35 rfl (lv_at hl 2 rfl) ?_
          refine lv_iload hx hb dX7_move_36 (lv_at hl 4 rfl) ?_
          have s53 : ∀ (x7 : Int32) (t0 : Int32) (μ : vM), ∀ (H : Heap) (locs : List Loc) (ls : Array Slot), bw G s μ H locs → lv_has ls 9 [(0, .ref (ga G 0)), (1, .int a1), (2, .int a2), (3, .int a3), (4, .int a4), (5, .int a5), (7, .int x7)] → wp_X7_move_53 a1 a2 a3 a4 a5 Q (fun x7 μ => wp_X7_move_28 a1 a2 a3 a4 a5 Q n28 x7 μ) x7 t0 μ → W p l e ({ frames := 3, cells := 0, slots := 0, locals := 68 } : Room) s m ([.ref (ga G 0), .int a1, .int a2, .int a3, .int a4, .int a5] : List Value).toArray below meth c H locs 0 0 (MQ below (qI G Q) ([.ref (ga G 0), .int a1, .int a2, .int a3, .int a4, .int a5] : List Value).toArray s 0 0 (gA G)) (F0 m 53 ls [.int t0]) := by
            intro x7 t0 μ H locs ls h hl hw
            unfold wp_X7_move_53 at hw
            refine lv_istore (lv' := [(8, .int t0), (0, .ref (ga G 0)), (1, .int a1), (2, .int a2), (3, .int a3), (4, .int a4), (5, .int a5), (7, .int x7)]) hx hb dX7_move_53 hl (by decide) rfl (fun ls hl => ?_)
            refine lv_aload_n hx hb dX7_move_55 rfl (lv_at hl 1 rfl) ?_
            refine r_getR (q := 7) X h (X7_o h0) rfl uX7 7 (by decide) lf_4_58 rfl dX7_move_56 ?_
            refine lv_bipush (v := (24 : Int32)) hx hb dX7_move_59 (by decide) ?_
            refine lv_iload_n hx hb dX7_move_61 rfl (lv_at hl 4 rfl) ?_
            refine lv_imul hx hb dX7_move_62 ?_
            refine lv_iload hx hb dX7_move_63 (lv_at hl 5 rfl) ?_
            refine lv_iadd hx hb dX7_move_65 ?_
            refine lv_iload hx hb dX7_move_66 (lv_at hl 0 rfl) ?_
            refine lv_iadd hx hb dX7_move_68 ?_
            refine lv_aload_n hx hb dX7_move_69 rfl (lv_at hl 1 rfl) ?_
            refine r_getR (q := 7) X h (X7_o h0) rfl uX7 7 (by decide) lf_4_58 rfl dX7_move_70 ?_
            refine lv_bipush (v := (24 : Int32)) hx hb dX7_move_73 (by decide) ?_
            refine lv_iload_n hx hb dX7_move_75 rfl (lv_at hl 2 rfl) ?_
            refine lv_imul hx hb dX7_move_76 ?_
            refine lv_iload_n hx hb dX7_move_77 rfl (lv_at hl 3 rfl) ?_
            refine lv_iadd hx hb dX7_move_78 ?_
            refine lv_iload hx hb dX7_move_79 (lv_at hl 0 rfl) ?_
            refine lv_iadd hx hb dX7_move_81 ?_
            obtain ⟨hi, hw⟩ := hw
            refine r_ald X h (X7_cells h0) hi dX7_move_82 ?_
            obtain ⟨hi, μ83, eμ83, hw⟩ := hw
            refine r_ast X h (X7_cells h0) hi eμ83 dX7_move_83 (fun H locs h => ?_)
            obtain ⟨x7_84, ex7_84, hw⟩ := hw
            refine lv_iinc (v := x7_84) (lv' := [(7, .int x7_84), (8, .int t0), (0, .ref (ga G 0)), (1, .int a1), (2, .int a2), (3, .int a3), (4, .int a4), (5, .int a5)]) hx hb dX7_move_84 hl (k := 7) rfl (by rw [ex7_84]; rfl) (by decide) rfl (fun ls hl => ?_)
            refine lv_goto (tgt := 28) hx hb dX7_move_87 (by decide) ?_
            exact ih28 x7_84 μ83 _ _ _ h (lv_sub hl [2, 3, 4, 5, 6, 7, 0] rfl) hw
          refine lv_icmp_ge (tgt := 51) hx hb dX7_move_38 (by decide) (fun hc => ?_) (fun hc => ?_)
          · rw [if_pos hc] at hw
            refine lv_iload hx hb dX7_move_51 (lv_at hl 6 rfl) ?_
            exact s53 x7 x7 μ _ _ _ h (lv_sub hl [0, 1, 2, 3, 4, 5, 6] rfl) hw
          · rw [if_neg hc] at hw
            refine lv_iload hx hb dX7_move_41 (lv_at hl 5 rfl) ?_
            refine lv_iconst (v := (1 : Int32)) hx hb dX7_move_43 (by decide) ?_
            refine lv_isub hx hb dX7_move_44 ?_
            refine lv_iload hx hb dX7_move_45 (lv_at hl 6 rfl) ?_
            refine lv_isub hx hb dX7_move_47 ?_
            refine lv_goto (tgt := 53) hx hb dX7_move_48 (by decide) ?_
            exact s53 x7 ((a5 - (1 : Int32)) - x7) μ _ _ _ h (lv_sub hl [0, 1, 2, 3, 4, 5, 6] rfl) hw
    obtain ⟨n, hw⟩ := hw
    exact s28 n (0 : Int32) μ8 _ _ _ h (lv_sub hl [2, 3, 4, 5, 6, 7, 0] rfl) hw
  · rw [if_neg hc] at hw
    refine lv_aload_n hx hb dX7_move_18 rfl (lv_at hl 1 rfl) ?_
    refine lv_iload hx hb dX7_move_19 (lv_at hl 0 rfl) ?_
    refine k_i h (n_V (rest := []) (As := [.int r8]) X h hl.1 (c_X7_error l G hG r8 h0 _ _ hw) gk_X7_104 rfl hd_X7_error ⟨rfl, rfl⟩ ⟨Nat.le_of_ble_eq_true rfl, Nat.le_of_ble_eq_true rfl⟩ (X7_o h0) rfl rfl (Nat.le_of_ble_eq_true rfl) dX7_move_21 ⟨Nat.zero_le _, Nat.zero_le _⟩) (fun r21 μ21 H locs hw h => ?_)
    exact r_iret X h hw dX7_move_24
def wp_X7_lays_18 (a1 : Int32) (Q : Int32 → vM → Prop) : Nat → Int32 → vM → Prop
  | 0, _, _ => False
  | n18 + 1, x3, μ => vp_in a1 4 ∧ if (μ 6 a1.toNatClampNeg) ≤ x3 then Q x3 μ else vp_in (2 : Int32) 385 ∧ if (μ 1 (2 : Int32).toNatClampNeg) ≤ x3 then Q x3 μ else vp_in (((24 : Int32) * a1) + x3) 96 ∧ wp_X7_isPlace (μ 7 (((24 : Int32) * a1) + x3).toNatClampNeg) (fun r49 μ49 => if r49 = 0 then Q x3 μ49 else vp_in (((24 : Int32) * a1) + x3) 96 ∧ wp_X7_lets x3 (3 : Int32) (μ49 7 (((24 : Int32) * a1) + x3).toNatClampNeg) (fun μ69 => ∃ x3_72 : Int32, x3_72 = x3 + (1 : Int32) ∧ wp_X7_lays_18 a1 Q n18 x3_72 μ69) μ49) μ
def wp_X7_lays (a1 : Int32) (Q : Int32 → vM → Prop) (μ : vM) : Prop := wp_X7_notThere a1 (fun r2 μ2 => if r2 = 0 then ∃ n18, wp_X7_lays_18 a1 Q n18 (0 : Int32) μ2 else wp_X7_error r2 (fun r12 μ12 => Q r12 μ12) μ2) μ
set_option maxRecDepth 100000 in
set_option maxHeartbeats 4000000 in
theorem c_X7_lays (l : Launch) (G : vG) (hG : gO G) (a1 : Int32) (h0 : isX7 G) (Q : Int32 → vM → Prop) (μ : vM) (hw : wp_X7_lays a1 Q μ) : mt l G yX7_lays vX7_lays { frames := 3, cells := 0, slots := 0, locals := 63 } [.ref (ga G 0), .int a1] μ (qI G Q) := by
  refine met_of (cc := cX7_lays) (maxL := 4) (ret := (some .int)) RX7 (by decide) rfl rfl hG (Nat.le_of_ble_eq_true rfl) ?_
  intro p e s m below meth c X h ls hl
  have hl : lv_has ls 4 [(0, .ref (ga G 0)), (1, .int a1)] := hl
  have hx := X.1
  have hb := X.2.1
  unfold wp_X7_lays at hw
  refine lv_aload_n hx hb dX7_lays_0 rfl (lv_at hl 0 rfl) ?_
  refine lv_iload_n hx hb dX7_lays_1 rfl (lv_at hl 1 rfl) ?_
  refine k_i h (n_V (rest := []) (As := [.int a1]) X h hl.1 (c_X7_notThere l G hG a1 h0 _ _ hw) gk_X7_284 rfl hd_X7_notThere ⟨rfl, rfl⟩ ⟨Nat.le_of_ble_eq_true rfl, Nat.le_of_ble_eq_true rfl⟩ (X7_o h0) rfl rfl (Nat.le_of_ble_eq_true rfl) dX7_lays_2 ⟨Nat.zero_le _, Nat.zero_le _⟩) (fun r2 μ2 H locs hw h => ?_)
  refine lv_istore_n (lv' := [(2, .int r2), (0, .ref (ga G 0)), (1, .int a1)]) hx hb dX7_lays_5 rfl hl (by decide) rfl (fun ls hl => ?_)
  refine lv_iload_n hx hb dX7_lays_6 rfl (lv_at hl 0 rfl) ?_
  refine lv_if_eq (tgt := 16) hx hb dX7_lays_7 (by decide) (fun hc => ?_) (fun hc => ?_)
  · rw [if_pos hc] at hw
    refine lv_iconst (v := (0 : Int32)) hx hb dX7_lays_16 (by decide) ?_
    refine lv_istore_n (lv' := [(3, .int (0 : Int32)), (2, .int r2), (0, .ref (ga G 0)), (1, .int a1)]) hx hb dX7_lays_17 rfl hl (by decide) rfl (fun ls hl => ?_)
    have s18 : ∀ (n18 : Nat) (x3 : Int32) (μ : vM), ∀ (H : Heap) (locs : List Loc) (ls : Array Slot), bw G s μ H locs → lv_has ls 4 [(0, .ref (ga G 0)), (1, .int a1), (3, .int x3)] → wp_X7_lays_18 a1 Q n18 x3 μ → W p l e ({ frames := 3, cells := 0, slots := 0, locals := 63 } : Room) s m ([.ref (ga G 0), .int a1] : List Value).toArray below meth c H locs 0 0 (MQ below (qI G Q) ([.ref (ga G 0), .int a1] : List Value).toArray s 0 0 (gA G)) (F0 m 18 ls []) := by
      intro n18
      induction n18 with
      | zero => intro x3 μ H locs ls h hl hw; exact absurd hw (by unfold wp_X7_lays_18; exact id)
      | succ n18 ih18 =>
        intro x3 μ H locs ls h hl hw
        unfold wp_X7_lays_18 at hw
        refine lv_iload_n hx hb dX7_lays_18 rfl (lv_at hl 2 rfl) ?_
        refine lv_aload_n hx hb dX7_lays_19 rfl (lv_at hl 0 rfl) ?_
        refine r_getR (q := 6) X h (X7_o h0) rfl uX7 6 (by decide) lf_4_57 rfl dX7_lays_20 ?_
        refine lv_iload_n hx hb dX7_lays_23 rfl (lv_at hl 1 rfl) ?_
        obtain ⟨hi, hw⟩ := hw
        refine r_ald X h (X7_sizeOf h0) hi dX7_lays_24 ?_
        refine lv_icmp_ge (tgt := 78) hx hb dX7_lays_25 (by decide) (fun hc => ?_) (fun hc => ?_)
        · rw [if_pos hc] at hw
          refine lv_iload_n hx hb dX7_lays_78 rfl (lv_at hl 2 rfl) ?_
          exact r_iret X h hw dX7_lays_79
        · rw [if_neg hc] at hw
          refine lv_iload_n hx hb dX7_lays_28 rfl (lv_at hl 2 rfl) ?_
          refine lv_aload_n hx hb dX7_lays_29 rfl (lv_at hl 0 rfl) ?_
          refine r_getR (q := 1) X h (X7_o h0) rfl uX7 0 (by decide) lf_4_51 rfl dX7_lays_30 ?_
          refine lv_iconst (v := (2 : Int32)) hx hb dX7_lays_33 (by decide) ?_
          obtain ⟨hi, hw⟩ := hw
          refine r_ald X h (X7_row h0) hi dX7_lays_34 ?_
          refine lv_icmp_ge (tgt := 78) hx hb dX7_lays_35 (by decide) (fun hc => ?_) (fun hc => ?_)
          · rw [if_pos hc] at hw
            refine lv_iload_n hx hb dX7_lays_78 rfl (lv_at hl 2 rfl) ?_
            exact r_iret X h hw dX7_lays_79
          · rw [if_neg hc] at hw
            refine lv_aload_n hx hb dX7_lays_38 rfl (lv_at hl 0 rfl) ?_
            refine r_getR (q := 7) X h (X7_o h0) rfl uX7 7 (by decide) lf_4_58 rfl dX7_lays_39 ?_
            refine lv_bipush (v := (24 : Int32)) hx hb dX7_lays_42 (by decide) ?_
            refine lv_iload_n hx hb dX7_lays_44 rfl (lv_at hl 1 rfl) ?_
            refine lv_imul hx hb dX7_lays_45 ?_
            refine lv_iload_n hx hb dX7_lays_46 rfl (lv_at hl 2 rfl) ?_
            refine lv_iadd hx hb dX7_lays_47 ?_
            obtain ⟨hi, hw⟩ := hw
            refine r_ald X h (X7_cells h0) hi dX7_lays_48 ?_
            refine k_i h (n_T (rest := []) (As := [.int (μ 7 (((24 : Int32) * a1) + x3).toNatClampNeg)]) X h hl.1 (c_X7_isPlace l G hG (μ 7 (((24 : Int32) * a1) + x3).toNatClampNeg) _ _ hw) gk_X7_100 rfl hd_X7_isPlace ⟨rfl, rfl⟩ ⟨Nat.le_of_ble_eq_true rfl, Nat.le_of_ble_eq_true rfl⟩ rfl (Nat.le_of_ble_eq_true rfl) dX7_lays_49 ⟨Nat.zero_le _, Nat.zero_le _⟩) (fun r49 μ49 H locs hw h => ?_)
            refine lv_if_eq (tgt := 78) hx hb dX7_lays_52 (by decide) (fun hc => ?_) (fun hc => ?_)
            · rw [if_pos hc] at hw
              refine lv_iload_n hx hb dX7_lays_78 rfl (lv_at hl 2 rfl) ?_
              exact r_iret X h hw dX7_lays_79
            · rw [if_neg hc] at hw
              refine lv_aload_n hx hb dX7_lays_55 rfl (lv_at hl 0 rfl) ?_
              refine lv_iload_n hx hb dX7_lays_56 rfl (lv_at hl 2 rfl) ?_
              refine lv_iconst (v := (3 : Int32)) hx hb dX7_lays_57 (by decide) ?_
              refine lv_aload_n hx hb dX7_lays_58 rfl (lv_at hl 0 rfl) ?_
              refine r_getR (q := 7) X h (X7_o h0) rfl uX7 7 (by decide) lf_4_58 rfl dX7_lays_59 ?_
              refine lv_bipush (v := (24 : Int32)) hx hb dX7_lays_62 (by decide) ?_
              refine lv_iload_n hx hb dX7_lays_64 rfl (lv_at hl 1 rfl) ?_
              refine lv_imul hx hb dX7_lays_65 ?_
              refine lv_iload_n hx hb dX7_lays_66 rfl (lv_at hl 2 rfl) ?_
              refine lv_iadd hx hb dX7_lays_67 ?_
              obtain ⟨hi, hw⟩ := hw
              refine r_ald X h (X7_cells h0) hi dX7_lays_68 ?_
              refine k_v h (n_V (rest := []) (As := [.int x3, .int (3 : Int32), .int (μ49 7 (((24 : Int32) * a1) + x3).toNatClampNeg)]) X h hl.1 (c_X7_lets l G hG x3 (3 : Int32) (μ49 7 (((24 : Int32) * a1) + x3).toNatClampNeg) h0 _ _ hw) gk_X7_122 rfl hd_X7_lets ⟨rfl, rfl⟩ ⟨Nat.le_of_ble_eq_true rfl, Nat.le_of_ble_eq_true rfl⟩ (X7_o h0) rfl rfl (Nat.le_of_ble_eq_true rfl) dX7_lays_69 ⟨Nat.zero_le _, Nat.zero_le _⟩) (fun μ69 H locs hw h => ?_)
              obtain ⟨x3_72, ex3_72, hw⟩ := hw
              refine lv_iinc (v := x3_72) (lv' := [(3, .int x3_72), (0, .ref (ga G 0)), (1, .int a1)]) hx hb dX7_lays_72 hl (k := 2) rfl (by rw [ex3_72]; rfl) (by decide) rfl (fun ls hl => ?_)
              refine lv_goto (tgt := 18) hx hb dX7_lays_75 (by decide) ?_
              exact ih18 x3_72 μ69 _ _ _ h (lv_sub hl [1, 2, 0] rfl) hw
    obtain ⟨n, hw⟩ := hw
    exact s18 n (0 : Int32) μ2 _ _ _ h (lv_sub hl [2, 3, 0] rfl) hw
  · rw [if_neg hc] at hw
    refine lv_aload_n hx hb dX7_lays_10 rfl (lv_at hl 1 rfl) ?_
    refine lv_iload_n hx hb dX7_lays_11 rfl (lv_at hl 0 rfl) ?_
    refine k_i h (n_V (rest := []) (As := [.int r2]) X h hl.1 (c_X7_error l G hG r2 h0 _ _ hw) gk_X7_104 rfl hd_X7_error ⟨rfl, rfl⟩ ⟨Nat.le_of_ble_eq_true rfl, Nat.le_of_ble_eq_true rfl⟩ (X7_o h0) rfl rfl (Nat.le_of_ble_eq_true rfl) dX7_lays_12 ⟨Nat.zero_le _, Nat.zero_le _⟩) (fun r12 μ12 H locs hw h => ?_)
    exact r_iret X h hw dX7_lays_15
def wp_X7_judge_18 (a1 : Int32) (Q : Int32 → vM → Prop) : Nat → Int32 → vM → Prop
  | 0, _, _ => False
  | n18 + 1, x3, μ => vp_in a1 4 ∧ if (μ 6 a1.toNatClampNeg) ≤ x3 then Q x3 μ else vp_in (2 : Int32) 385 ∧ if (μ 1 (2 : Int32).toNatClampNeg) ≤ x3 then Q x3 μ else vp_in (((24 : Int32) * a1) + x3) 96 ∧ wp_X7_warmth x3 (fun r51 μ51 => if (μ 7 (((24 : Int32) * a1) + x3).toNatClampNeg) = r51 then ∃ x3_57 : Int32, x3_57 = x3 + (1 : Int32) ∧ wp_X7_judge_18 a1 Q n18 x3_57 μ51 else Q x3 μ51) μ
def wp_X7_judge (a1 : Int32) (Q : Int32 → vM → Prop) (μ : vM) : Prop := wp_X7_notThere a1 (fun r2 μ2 => if r2 = 0 then ∃ n18, wp_X7_judge_18 a1 Q n18 (0 : Int32) μ2 else wp_X7_error r2 (fun r12 μ12 => Q r12 μ12) μ2) μ
set_option maxRecDepth 100000 in
set_option maxHeartbeats 4000000 in
theorem c_X7_judge (l : Launch) (G : vG) (hG : gO G) (a1 : Int32) (h0 : isX7 G) (Q : Int32 → vM → Prop) (μ : vM) (hw : wp_X7_judge a1 Q μ) : mt l G yX7_judge vX7_judge { frames := 4, cells := 0, slots := 0, locals := 92 } [.ref (ga G 0), .int a1] μ (qI G Q) := by
  refine met_of (cc := cX7_judge) (maxL := 4) (ret := (some .int)) RX7 (by decide) rfl rfl hG (Nat.le_of_ble_eq_true rfl) ?_
  intro p e s m below meth c X h ls hl
  have hl : lv_has ls 4 [(0, .ref (ga G 0)), (1, .int a1)] := hl
  have hx := X.1
  have hb := X.2.1
  unfold wp_X7_judge at hw
  refine lv_aload_n hx hb dX7_judge_0 rfl (lv_at hl 0 rfl) ?_
  refine lv_iload_n hx hb dX7_judge_1 rfl (lv_at hl 1 rfl) ?_
  refine k_i h (n_V (rest := []) (As := [.int a1]) X h hl.1 (c_X7_notThere l G hG a1 h0 _ _ hw) gk_X7_284 rfl hd_X7_notThere ⟨rfl, rfl⟩ ⟨Nat.le_of_ble_eq_true rfl, Nat.le_of_ble_eq_true rfl⟩ (X7_o h0) rfl rfl (Nat.le_of_ble_eq_true rfl) dX7_judge_2 ⟨Nat.zero_le _, Nat.zero_le _⟩) (fun r2 μ2 H locs hw h => ?_)
  refine lv_istore_n (lv' := [(2, .int r2), (0, .ref (ga G 0)), (1, .int a1)]) hx hb dX7_judge_5 rfl hl (by decide) rfl (fun ls hl => ?_)
  refine lv_iload_n hx hb dX7_judge_6 rfl (lv_at hl 0 rfl) ?_
  refine lv_if_eq (tgt := 16) hx hb dX7_judge_7 (by decide) (fun hc => ?_) (fun hc => ?_)
  · rw [if_pos hc] at hw
    refine lv_iconst (v := (0 : Int32)) hx hb dX7_judge_16 (by decide) ?_
    refine lv_istore_n (lv' := [(3, .int (0 : Int32)), (2, .int r2), (0, .ref (ga G 0)), (1, .int a1)]) hx hb dX7_judge_17 rfl hl (by decide) rfl (fun ls hl => ?_)
    have s18 : ∀ (n18 : Nat) (x3 : Int32) (μ : vM), ∀ (H : Heap) (locs : List Loc) (ls : Array Slot), bw G s μ H locs → lv_has ls 4 [(0, .ref (ga G 0)), (1, .int a1), (3, .int x3)] → wp_X7_judge_18 a1 Q n18 x3 μ → W p l e ({ frames := 4, cells := 0, slots := 0, locals := 92 } : Room) s m ([.ref (ga G 0), .int a1] : List Value).toArray below meth c H locs 0 0 (MQ below (qI G Q) ([.ref (ga G 0), .int a1] : List Value).toArray s 0 0 (gA G)) (F0 m 18 ls []) := by
      intro n18
      induction n18 with
      | zero => intro x3 μ H locs ls h hl hw; exact absurd hw (by unfold wp_X7_judge_18; exact id)
      | succ n18 ih18 =>
        intro x3 μ H locs ls h hl hw
        unfold wp_X7_judge_18 at hw
        refine lv_iload_n hx hb dX7_judge_18 rfl (lv_at hl 2 rfl) ?_
        refine lv_aload_n hx hb dX7_judge_19 rfl (lv_at hl 0 rfl) ?_
        refine r_getR (q := 6) X h (X7_o h0) rfl uX7 6 (by decide) lf_4_57 rfl dX7_judge_20 ?_
        refine lv_iload_n hx hb dX7_judge_23 rfl (lv_at hl 1 rfl) ?_
        obtain ⟨hi, hw⟩ := hw
        refine r_ald X h (X7_sizeOf h0) hi dX7_judge_24 ?_
        refine lv_icmp_ge (tgt := 63) hx hb dX7_judge_25 (by decide) (fun hc => ?_) (fun hc => ?_)
        · rw [if_pos hc] at hw
          refine lv_iload_n hx hb dX7_judge_63 rfl (lv_at hl 2 rfl) ?_
          exact r_iret X h hw dX7_judge_64
        · rw [if_neg hc] at hw
          refine lv_iload_n hx hb dX7_judge_28 rfl (lv_at hl 2 rfl) ?_
          refine lv_aload_n hx hb dX7_judge_29 rfl (lv_at hl 0 rfl) ?_
          refine r_getR (q := 1) X h (X7_o h0) rfl uX7 0 (by decide) lf_4_51 rfl dX7_judge_30 ?_
          refine lv_iconst (v := (2 : Int32)) hx hb dX7_judge_33 (by decide) ?_
          obtain ⟨hi, hw⟩ := hw
          refine r_ald X h (X7_row h0) hi dX7_judge_34 ?_
          refine lv_icmp_ge (tgt := 63) hx hb dX7_judge_35 (by decide) (fun hc => ?_) (fun hc => ?_)
          · rw [if_pos hc] at hw
            refine lv_iload_n hx hb dX7_judge_63 rfl (lv_at hl 2 rfl) ?_
            exact r_iret X h hw dX7_judge_64
          · rw [if_neg hc] at hw
            refine lv_aload_n hx hb dX7_judge_38 rfl (lv_at hl 0 rfl) ?_
            refine r_getR (q := 7) X h (X7_o h0) rfl uX7 7 (by decide) lf_4_58 rfl dX7_judge_39 ?_
            refine lv_bipush (v := (24 : Int32)) hx hb dX7_judge_42 (by decide) ?_
            refine lv_iload_n hx hb dX7_judge_44 rfl (lv_at hl 1 rfl) ?_
            refine lv_imul hx hb dX7_judge_45 ?_
            refine lv_iload_n hx hb dX7_judge_46 rfl (lv_at hl 2 rfl) ?_
            refine lv_iadd hx hb dX7_judge_47 ?_
            obtain ⟨hi, hw⟩ := hw
            refine r_ald X h (X7_cells h0) hi dX7_judge_48 ?_
            refine lv_aload_n hx hb dX7_judge_49 rfl (lv_at hl 0 rfl) ?_
            refine lv_iload_n hx hb dX7_judge_50 rfl (lv_at hl 2 rfl) ?_
            refine k_i h (n_V (rest := [.int (μ 7 (((24 : Int32) * a1) + x3).toNatClampNeg)]) (As := [.int x3]) X h hl.1 (c_X7_warmth l G hG x3 h0 _ _ hw) gk_X7_134 rfl hd_X7_warmth ⟨rfl, rfl⟩ ⟨Nat.le_of_ble_eq_true rfl, Nat.le_of_ble_eq_true rfl⟩ (X7_o h0) rfl rfl (Nat.le_of_ble_eq_true rfl) dX7_judge_51 ⟨Nat.zero_le _, Nat.zero_le _⟩) (fun r51 μ51 H locs hw h => ?_)
            refine lv_icmp_ne (tgt := 63) hx hb dX7_judge_54 (by decide) (fun hc => ?_) (fun hc => ?_)
            · rw [if_neg hc] at hw
              refine lv_iload_n hx hb dX7_judge_63 rfl (lv_at hl 2 rfl) ?_
              exact r_iret X h hw dX7_judge_64
            · rw [if_pos hc] at hw
              obtain ⟨x3_57, ex3_57, hw⟩ := hw
              refine lv_iinc (v := x3_57) (lv' := [(3, .int x3_57), (0, .ref (ga G 0)), (1, .int a1)]) hx hb dX7_judge_57 hl (k := 2) rfl (by rw [ex3_57]; rfl) (by decide) rfl (fun ls hl => ?_)
              refine lv_goto (tgt := 18) hx hb dX7_judge_60 (by decide) ?_
              exact ih18 x3_57 μ51 _ _ _ h (lv_sub hl [1, 2, 0] rfl) hw
    obtain ⟨n, hw⟩ := hw
    exact s18 n (0 : Int32) μ2 _ _ _ h (lv_sub hl [2, 3, 0] rfl) hw
  · rw [if_neg hc] at hw
    refine lv_aload_n hx hb dX7_judge_10 rfl (lv_at hl 1 rfl) ?_
    refine lv_iload_n hx hb dX7_judge_11 rfl (lv_at hl 0 rfl) ?_
    refine k_i h (n_V (rest := []) (As := [.int r2]) X h hl.1 (c_X7_error l G hG r2 h0 _ _ hw) gk_X7_104 rfl hd_X7_error ⟨rfl, rfl⟩ ⟨Nat.le_of_ble_eq_true rfl, Nat.le_of_ble_eq_true rfl⟩ (X7_o h0) rfl rfl (Nat.le_of_ble_eq_true rfl) dX7_judge_12 ⟨Nat.zero_le _, Nat.zero_le _⟩) (fun r12 μ12 H locs hw h => ?_)
    exact r_iret X h hw dX7_judge_15
def wp_X7_image (Q : Int32 → vM → Prop) (μ : vM) : Prop := wp_X7_copyAll 1 385 2 385 (fun μ8 => ∃ μ18 : vM, μ18 = st μ8 0 3 ((μ8 0 3) + (1 : Int32)) ∧ Q (μ18 0 3) μ18) μ
set_option maxRecDepth 100000 in
set_option maxHeartbeats 4000000 in
theorem c_X7_image (l : Launch) (G : vG) (hG : gO G)  (h0 : isX7 G) (Q : Int32 → vM → Prop) (μ : vM) (hw : wp_X7_image Q μ) : mt l G yX7_image vX7_image { frames := 1, cells := 0, slots := 0, locals := 22 } [.ref (ga G 0)] μ (qI G Q) := by
  refine met_of (cc := cX7_image) (maxL := 1) (ret := (some .int)) RX7 (by decide) rfl rfl hG (Nat.le_of_ble_eq_true rfl) ?_
  intro p e s m below meth c X h ls hl
  have hl : lv_has ls 1 [(0, .ref (ga G 0))] := hl
  have hx := X.1
  have hb := X.2.1
  unfold wp_X7_image at hw
  refine lv_aload_n hx hb dX7_image_0 rfl (lv_at hl 0 rfl) ?_
  refine r_getR (q := 1) X h (X7_o h0) rfl uX7 0 (by decide) lf_4_51 rfl dX7_image_1 ?_
  refine lv_aload_n hx hb dX7_image_4 rfl (lv_at hl 0 rfl) ?_
  refine r_getR (q := 2) X h (X7_o h0) rfl uX7 1 (by decide) lf_4_52 rfl dX7_image_5 ?_
  refine k_v h (n_T (rest := []) (As := [.ref (ga G 1), .ref (ga G 2)]) X h hl.1 (c_X7_copyAll l G hG 1 385 2 385 (X7_row h0) (X7_kept h0) _ _ hw) gk_X7_53 rfl hd_X7_copyAll ⟨rfl, rfl⟩ ⟨Nat.le_of_ble_eq_true rfl, Nat.le_of_ble_eq_true rfl⟩ rfl (Nat.le_of_ble_eq_true rfl) dX7_image_8 ⟨Nat.zero_le _, Nat.zero_le _⟩) (fun μ8 H locs hw h => ?_)
  refine lv_aload_n hx hb dX7_image_11 rfl (lv_at hl 0 rfl) ?_
  refine lv_dup hx hb dX7_image_12 rfl ?_
  refine r_getI X h (X7_o h0) rfl uX7 3 (by decide) lf_4_54 rfl dX7_image_13 ?_
  refine lv_iconst (v := (1 : Int32)) hx hb dX7_image_16 (by decide) ?_
  refine lv_iadd hx hb dX7_image_17 ?_
  obtain ⟨μ18, eμ18, hw⟩ := hw
  refine r_putI X h (X7_o h0) rfl uX7 tyX7 tyX7_ok nmX7 3 (by decide) lf_4_54 rfl rfl rfl  eμ18 dX7_image_18 (fun H locs h => ?_)
  refine lv_aload_n hx hb dX7_image_21 rfl (lv_at hl 0 rfl) ?_
  refine r_getI X h (X7_o h0) rfl uX7 3 (by decide) lf_4_54 rfl dX7_image_22 ?_
  exact r_iret X h hw dX7_image_25
def wp_X7_restore (Q : Int32 → vM → Prop) (μ : vM) : Prop := if (μ 0 3) = 0 then wp_X7_error (-1000000002 : Int32) (fun r10 μ10 => Q r10 μ10) μ else wp_X7_copyAll 2 385 1 385 (fun μ22 => bz (0 : Int32) ∧ ∃ μ27 : vM, μ27 = st μ22 0 9 (0 : Int32) ∧ vp_in (0 : Int32) 385 ∧ Q (μ27 1 (0 : Int32).toNatClampNeg) μ27) μ
set_option maxRecDepth 100000 in
set_option maxHeartbeats 4000000 in
theorem c_X7_restore (l : Launch) (G : vG) (hG : gO G)  (h0 : isX7 G) (Q : Int32 → vM → Prop) (μ : vM) (hw : wp_X7_restore Q μ) : mt l G yX7_restore vX7_restore { frames := 1, cells := 0, slots := 0, locals := 22 } [.ref (ga G 0)] μ (qI G Q) := by
  refine met_of (cc := cX7_restore) (maxL := 1) (ret := (some .int)) RX7 (by decide) rfl rfl hG (Nat.le_of_ble_eq_true rfl) ?_
  intro p e s m below meth c X h ls hl
  have hl : lv_has ls 1 [(0, .ref (ga G 0))] := hl
  have hx := X.1
  have hb := X.2.1
  unfold wp_X7_restore at hw
  refine lv_aload_n hx hb dX7_restore_0 rfl (lv_at hl 0 rfl) ?_
  refine r_getI X h (X7_o h0) rfl uX7 3 (by decide) lf_4_54 rfl dX7_restore_1 ?_
  refine lv_if_ne (tgt := 14) hx hb dX7_restore_4 (by decide) (fun hc => ?_) (fun hc => ?_)
  · rw [if_neg hc] at hw
    refine lv_aload_n hx hb dX7_restore_14 rfl (lv_at hl 0 rfl) ?_
    refine r_getR (q := 2) X h (X7_o h0) rfl uX7 1 (by decide) lf_4_52 rfl dX7_restore_15 ?_
    refine lv_aload_n hx hb dX7_restore_18 rfl (lv_at hl 0 rfl) ?_
    refine r_getR (q := 1) X h (X7_o h0) rfl uX7 0 (by decide) lf_4_51 rfl dX7_restore_19 ?_
    refine k_v h (n_T (rest := []) (As := [.ref (ga G 2), .ref (ga G 1)]) X h hl.1 (c_X7_copyAll l G hG 2 385 1 385 (X7_kept h0) (X7_row h0) _ _ hw) gk_X7_53 rfl hd_X7_copyAll ⟨rfl, rfl⟩ ⟨Nat.le_of_ble_eq_true rfl, Nat.le_of_ble_eq_true rfl⟩ rfl (Nat.le_of_ble_eq_true rfl) dX7_restore_22 ⟨Nat.zero_le _, Nat.zero_le _⟩) (fun μ22 H locs hw h => ?_)
    refine lv_aload_n hx hb dX7_restore_25 rfl (lv_at hl 0 rfl) ?_
    refine lv_iconst (v := (0 : Int32)) hx hb dX7_restore_26 (by decide) ?_
    obtain ⟨hz, hw⟩ := hw
    obtain ⟨μ27, eμ27, hw⟩ := hw
    refine r_putZ X h (X7_o h0) rfl uX7 tyX7 tyX7_ok nmX7 9 (by decide) lf_4_60 rfl rfl rfl  hz eμ27 dX7_restore_27 (fun H locs h => ?_)
    refine lv_aload_n hx hb dX7_restore_30 rfl (lv_at hl 0 rfl) ?_
    refine r_getR (q := 1) X h (X7_o h0) rfl uX7 0 (by decide) lf_4_51 rfl dX7_restore_31 ?_
    refine lv_iconst (v := (0 : Int32)) hx hb dX7_restore_34 (by decide) ?_
    obtain ⟨hi, hw⟩ := hw
    refine r_ald X h (X7_row h0) hi dX7_restore_35 ?_
    exact r_iret X h hw dX7_restore_36
  · rw [if_pos hc] at hw
    refine lv_aload_n hx hb dX7_restore_7 rfl (lv_at hl 0 rfl) ?_
    refine r_ldc X (v := (-1000000002 : Int32)) ww_4_164 dX7_restore_8 ?_
    refine k_i h (n_V (rest := []) (As := [.int (-1000000002 : Int32)]) X h hl.1 (c_X7_error l G hG (-1000000002 : Int32) h0 _ _ hw) gk_X7_104 rfl hd_X7_error ⟨rfl, rfl⟩ ⟨Nat.le_of_ble_eq_true rfl, Nat.le_of_ble_eq_true rfl⟩ (X7_o h0) rfl rfl (Nat.le_of_ble_eq_true rfl) dX7_restore_10 ⟨Nat.zero_le _, Nat.zero_le _⟩) (fun r10 μ10 H locs hw h => ?_)
    exact r_iret X h hw dX7_restore_13
def wp_X7_tell (a1 : Int32) (Q : Int32 → vM → Prop) (μ : vM) : Prop := vp_in (4 : Int32) 385 ∧ if (μ 1 (4 : Int32).toNatClampNeg) = (24 : Int32) then wp_X7_error (-1000000004 : Int32) (fun r14 μ14 => Q r14 μ14) μ else vp_in (4 : Int32) 385 ∧ vp_in ((119 : Int32) + (μ 1 (4 : Int32).toNatClampNeg)) 385 ∧ ∃ μ32 : vM, μ32 = st μ 1 ((119 : Int32) + (μ 1 (4 : Int32).toNatClampNeg)).toNatClampNeg a1 ∧ vp_in (4 : Int32) 385 ∧ vp_in (4 : Int32) 385 ∧ ∃ μ42 : vM, μ42 = st μ32 1 (4 : Int32).toNatClampNeg ((μ32 1 (4 : Int32).toNatClampNeg) + (1 : Int32)) ∧ vp_in (4 : Int32) 385 ∧ Q (μ42 1 (4 : Int32).toNatClampNeg) μ42
set_option maxRecDepth 100000 in
set_option maxHeartbeats 4000000 in
theorem c_X7_tell (l : Launch) (G : vG) (hG : gO G) (a1 : Int32) (h0 : isX7 G) (Q : Int32 → vM → Prop) (μ : vM) (hw : wp_X7_tell a1 Q μ) : mt l G yX7_tell vX7_tell { frames := 1, cells := 0, slots := 0, locals := 21 } [.ref (ga G 0), .int a1] μ (qI G Q) := by
  refine met_of (cc := cX7_tell) (maxL := 2) (ret := (some .int)) RX7 (by decide) rfl rfl hG (Nat.le_of_ble_eq_true rfl) ?_
  intro p e s m below meth c X h ls hl
  have hl : lv_has ls 2 [(0, .ref (ga G 0)), (1, .int a1)] := hl
  have hx := X.1
  have hb := X.2.1
  unfold wp_X7_tell at hw
  refine lv_aload_n hx hb dX7_tell_0 rfl (lv_at hl 0 rfl) ?_
  refine r_getR (q := 1) X h (X7_o h0) rfl uX7 0 (by decide) lf_4_51 rfl dX7_tell_1 ?_
  refine lv_iconst (v := (4 : Int32)) hx hb dX7_tell_4 (by decide) ?_
  obtain ⟨hi, hw⟩ := hw
  refine r_ald X h (X7_row h0) hi dX7_tell_5 ?_
  refine lv_bipush (v := (24 : Int32)) hx hb dX7_tell_6 (by decide) ?_
  refine lv_icmp_ne (tgt := 18) hx hb dX7_tell_8 (by decide) (fun hc => ?_) (fun hc => ?_)
  · rw [if_neg hc] at hw
    refine lv_aload_n hx hb dX7_tell_18 rfl (lv_at hl 0 rfl) ?_
    refine r_getR (q := 1) X h (X7_o h0) rfl uX7 0 (by decide) lf_4_51 rfl dX7_tell_19 ?_
    refine lv_bipush (v := (119 : Int32)) hx hb dX7_tell_22 (by decide) ?_
    refine lv_aload_n hx hb dX7_tell_24 rfl (lv_at hl 0 rfl) ?_
    refine r_getR (q := 1) X h (X7_o h0) rfl uX7 0 (by decide) lf_4_51 rfl dX7_tell_25 ?_
    refine lv_iconst (v := (4 : Int32)) hx hb dX7_tell_28 (by decide) ?_
    obtain ⟨hi, hw⟩ := hw
    refine r_ald X h (X7_row h0) hi dX7_tell_29 ?_
    refine lv_iadd hx hb dX7_tell_30 ?_
    refine lv_iload_n hx hb dX7_tell_31 rfl (lv_at hl 1 rfl) ?_
    obtain ⟨hi, μ32, eμ32, hw⟩ := hw
    refine r_ast X h (X7_row h0) hi eμ32 dX7_tell_32 (fun H locs h => ?_)
    refine lv_aload_n hx hb dX7_tell_33 rfl (lv_at hl 0 rfl) ?_
    refine r_getR (q := 1) X h (X7_o h0) rfl uX7 0 (by decide) lf_4_51 rfl dX7_tell_34 ?_
    refine lv_iconst (v := (4 : Int32)) hx hb dX7_tell_37 (by decide) ?_
    refine lv_dup2_11 hx hb dX7_tell_38 rfl rfl ?_
    obtain ⟨hi, hw⟩ := hw
    refine r_ald X h (X7_row h0) hi dX7_tell_39 ?_
    refine lv_iconst (v := (1 : Int32)) hx hb dX7_tell_40 (by decide) ?_
    refine lv_iadd hx hb dX7_tell_41 ?_
    obtain ⟨hi, μ42, eμ42, hw⟩ := hw
    refine r_ast X h (X7_row h0) hi eμ42 dX7_tell_42 (fun H locs h => ?_)
    refine lv_aload_n hx hb dX7_tell_43 rfl (lv_at hl 0 rfl) ?_
    refine r_getR (q := 1) X h (X7_o h0) rfl uX7 0 (by decide) lf_4_51 rfl dX7_tell_44 ?_
    refine lv_iconst (v := (4 : Int32)) hx hb dX7_tell_47 (by decide) ?_
    obtain ⟨hi, hw⟩ := hw
    refine r_ald X h (X7_row h0) hi dX7_tell_48 ?_
    exact r_iret X h hw dX7_tell_49
  · rw [if_pos hc] at hw
    refine lv_aload_n hx hb dX7_tell_11 rfl (lv_at hl 0 rfl) ?_
    refine r_ldc X (v := (-1000000004 : Int32)) ww_4_172 dX7_tell_12 ?_
    refine k_i h (n_V (rest := []) (As := [.int (-1000000004 : Int32)]) X h hl.1 (c_X7_error l G hG (-1000000004 : Int32) h0 _ _ hw) gk_X7_104 rfl hd_X7_error ⟨rfl, rfl⟩ ⟨Nat.le_of_ble_eq_true rfl, Nat.le_of_ble_eq_true rfl⟩ (X7_o h0) rfl rfl (Nat.le_of_ble_eq_true rfl) dX7_tell_14 ⟨Nat.zero_le _, Nat.zero_le _⟩) (fun r14 μ14 H locs hw h => ?_)
    exact r_iret X h hw dX7_tell_17
def wp_X7_check_16 (Q : Int32 → vM → Prop) : Nat → Int32 → Int32 → vM → Prop
  | 0, _, _, _ => False
  | n16 + 1, x1, x2, μ => if x1 ≤ x2 then Q (0 : Int32) μ else wp_X7_isBit x2 (fun r23 μ23 => if r23 = 0 then Q ((1 : Int32) + x2) μ23 else vp_in ((119 : Int32) + x2) 385 ∧ wp_X7_of x2 (3 : Int32) (fun r41 μ41 => if (μ23 1 ((119 : Int32) + x2).toNatClampNeg) = r41 then ∃ x2_51 : Int32, x2_51 = x2 + (1 : Int32) ∧ wp_X7_check_16 Q n16 x1 x2_51 μ41 else Q ((1 : Int32) + x2) μ41) μ23) μ
def wp_X7_check (Q : Int32 → vM → Prop) (μ : vM) : Prop := vp_in (4 : Int32) 385 ∧ ∃ x1_6 : Int32, x1_6 = μ 1 (4 : Int32).toNatClampNeg ∧ vp_in (4 : Int32) 385 ∧ ∃ μ13 : vM, μ13 = st μ 1 (4 : Int32).toNatClampNeg (0 : Int32) ∧ ∃ n16, wp_X7_check_16 Q n16 x1_6 (0 : Int32) μ13
set_option maxRecDepth 100000 in
set_option maxHeartbeats 4000000 in
theorem c_X7_check (l : Launch) (G : vG) (hG : gO G)  (h0 : isX7 G) (Q : Int32 → vM → Prop) (μ : vM) (hw : wp_X7_check Q μ) : mt l G yX7_check vX7_check { frames := 2, cells := 0, slots := 0, locals := 43 } [.ref (ga G 0)] μ (qI G Q) := by
  refine met_of (cc := cX7_check) (maxL := 3) (ret := (some .int)) RX7 (by decide) rfl rfl hG (Nat.le_of_ble_eq_true rfl) ?_
  intro p e s m below meth c X h ls hl
  have hl : lv_has ls 3 [(0, .ref (ga G 0))] := hl
  have hx := X.1
  have hb := X.2.1
  unfold wp_X7_check at hw
  refine lv_aload_n hx hb dX7_check_0 rfl (lv_at hl 0 rfl) ?_
  refine r_getR (q := 1) X h (X7_o h0) rfl uX7 0 (by decide) lf_4_51 rfl dX7_check_1 ?_
  refine lv_iconst (v := (4 : Int32)) hx hb dX7_check_4 (by decide) ?_
  obtain ⟨hi, hw⟩ := hw
  refine r_ald X h (X7_row h0) hi dX7_check_5 ?_
  obtain ⟨x1_6, ex1_6, hw⟩ := hw
  refine topE ex1_6 ?_
  refine lv_istore_n (lv' := [(1, .int x1_6), (0, .ref (ga G 0))]) hx hb dX7_check_6 rfl hl (by decide) rfl (fun ls hl => ?_)
  refine lv_aload_n hx hb dX7_check_7 rfl (lv_at hl 1 rfl) ?_
  refine r_getR (q := 1) X h (X7_o h0) rfl uX7 0 (by decide) lf_4_51 rfl dX7_check_8 ?_
  refine lv_iconst (v := (4 : Int32)) hx hb dX7_check_11 (by decide) ?_
  refine lv_iconst (v := (0 : Int32)) hx hb dX7_check_12 (by decide) ?_
  obtain ⟨hi, μ13, eμ13, hw⟩ := hw
  refine r_ast X h (X7_row h0) hi eμ13 dX7_check_13 (fun H locs h => ?_)
  refine lv_iconst (v := (0 : Int32)) hx hb dX7_check_14 (by decide) ?_
  refine lv_istore_n (lv' := [(2, .int (0 : Int32)), (1, .int x1_6), (0, .ref (ga G 0))]) hx hb dX7_check_15 rfl hl (by decide) rfl (fun ls hl => ?_)
  have s16 : ∀ (n16 : Nat) (x1 : Int32) (x2 : Int32) (μ : vM), ∀ (H : Heap) (locs : List Loc) (ls : Array Slot), bw G s μ H locs → lv_has ls 3 [(0, .ref (ga G 0)), (1, .int x1), (2, .int x2)] → wp_X7_check_16 Q n16 x1 x2 μ → W p l e ({ frames := 2, cells := 0, slots := 0, locals := 43 } : Room) s m ([.ref (ga G 0)] : List Value).toArray below meth c H locs 0 0 (MQ below (qI G Q) ([.ref (ga G 0)] : List Value).toArray s 0 0 (gA G)) (F0 m 16 ls []) := by
    intro n16
    induction n16 with
    | zero => intro x1 x2 μ H locs ls h hl hw; exact absurd hw (by unfold wp_X7_check_16; exact id)
    | succ n16 ih16 =>
      intro x1 x2 μ H locs ls h hl hw
      unfold wp_X7_check_16 at hw
      refine lv_iload_n hx hb dX7_check_16 rfl (lv_at hl 2 rfl) ?_
      refine lv_iload_n hx hb dX7_check_17 rfl (lv_at hl 1 rfl) ?_
      refine lv_icmp_ge (tgt := 57) hx hb dX7_check_18 (by decide) (fun hc => ?_) (fun hc => ?_)
      · rw [if_pos hc] at hw
        refine lv_iconst (v := (0 : Int32)) hx hb dX7_check_57 (by decide) ?_
        exact r_iret X h hw dX7_check_58
      · rw [if_neg hc] at hw
        refine lv_aload_n hx hb dX7_check_21 rfl (lv_at hl 0 rfl) ?_
        refine lv_iload_n hx hb dX7_check_22 rfl (lv_at hl 2 rfl) ?_
        refine k_i h (n_V (rest := []) (As := [.int x2]) X h hl.1 (c_X7_isBit l G hG x2 h0 _ _ hw) gk_X7_125 rfl hd_X7_isBit ⟨rfl, rfl⟩ ⟨Nat.le_of_ble_eq_true rfl, Nat.le_of_ble_eq_true rfl⟩ (X7_o h0) rfl rfl (Nat.le_of_ble_eq_true rfl) dX7_check_23 ⟨Nat.zero_le _, Nat.zero_le _⟩) (fun r23 μ23 H locs hw h => ?_)
        refine lv_if_eq (tgt := 47) hx hb dX7_check_26 (by decide) (fun hc => ?_) (fun hc => ?_)
        · rw [if_pos hc] at hw
          refine lv_iconst (v := (1 : Int32)) hx hb dX7_check_47 (by decide) ?_
          refine lv_iload_n hx hb dX7_check_48 rfl (lv_at hl 2 rfl) ?_
          refine lv_iadd hx hb dX7_check_49 ?_
          exact r_iret X h hw dX7_check_50
        · rw [if_neg hc] at hw
          refine lv_aload_n hx hb dX7_check_29 rfl (lv_at hl 0 rfl) ?_
          refine r_getR (q := 1) X h (X7_o h0) rfl uX7 0 (by decide) lf_4_51 rfl dX7_check_30 ?_
          refine lv_bipush (v := (119 : Int32)) hx hb dX7_check_33 (by decide) ?_
          refine lv_iload_n hx hb dX7_check_35 rfl (lv_at hl 2 rfl) ?_
          refine lv_iadd hx hb dX7_check_36 ?_
          obtain ⟨hi, hw⟩ := hw
          refine r_ald X h (X7_row h0) hi dX7_check_37 ?_
          refine lv_aload_n hx hb dX7_check_38 rfl (lv_at hl 0 rfl) ?_
          refine lv_iload_n hx hb dX7_check_39 rfl (lv_at hl 2 rfl) ?_
          refine lv_iconst (v := (3 : Int32)) hx hb dX7_check_40 (by decide) ?_
          refine k_i h (n_V (rest := [.int (μ23 1 ((119 : Int32) + x2).toNatClampNeg)]) (As := [.int x2, .int (3 : Int32)]) X h hl.1 (c_X7_of l G hG x2 (3 : Int32) h0 _ _ hw) gk_X7_61 rfl hd_X7_of ⟨rfl, rfl⟩ ⟨Nat.le_of_ble_eq_true rfl, Nat.le_of_ble_eq_true rfl⟩ (X7_o h0) rfl rfl (Nat.le_of_ble_eq_true rfl) dX7_check_41 ⟨Nat.zero_le _, Nat.zero_le _⟩) (fun r41 μ41 H locs hw h => ?_)
          refine lv_icmp_eq (tgt := 51) hx hb dX7_check_44 (by decide) (fun hc => ?_) (fun hc => ?_)
          · rw [if_pos hc] at hw
            obtain ⟨x2_51, ex2_51, hw⟩ := hw
            refine lv_iinc (v := x2_51) (lv' := [(2, .int x2_51), (0, .ref (ga G 0)), (1, .int x1)]) hx hb dX7_check_51 hl (k := 2) rfl (by rw [ex2_51]; rfl) (by decide) rfl (fun ls hl => ?_)
            refine lv_goto (tgt := 16) hx hb dX7_check_54 (by decide) ?_
            exact ih16 x1 x2_51 μ41 _ _ _ h (lv_sub hl [1, 2, 0] rfl) hw
          · rw [if_neg hc] at hw
            refine lv_iconst (v := (1 : Int32)) hx hb dX7_check_47 (by decide) ?_
            refine lv_iload_n hx hb dX7_check_48 rfl (lv_at hl 2 rfl) ?_
            refine lv_iadd hx hb dX7_check_49 ?_
            exact r_iret X h hw dX7_check_50
  obtain ⟨n, hw⟩ := hw
  exact s16 n x1_6 (0 : Int32) μ13 _ _ _ h (lv_sub hl [2, 1, 0] rfl) hw
def wp_X7_count (a1 : Int32) (Q : Int32 → vM → Prop) (μ : vM) : Prop := if a1 = (0 : Int32) then vp_in (2 : Int32) 385 ∧ Q (μ 1 (2 : Int32).toNatClampNeg) μ else if a1 = (1 : Int32) then vp_in (0 : Int32) 385 ∧ Q (μ 1 (0 : Int32).toNatClampNeg) μ else if a1 = (2 : Int32) then wp_X7_homes  (fun r59 μ59 => Q r59 μ59) μ else if a1 = (3 : Int32) then vp_in (3 : Int32) 385 ∧ Q (μ 1 (3 : Int32).toNatClampNeg) μ else if a1 = (4 : Int32) then vp_in (4 : Int32) 385 ∧ Q (μ 1 (4 : Int32).toNatClampNeg) μ else if a1 = (5 : Int32) then Q (μ 0 21) μ else if a1 = (6 : Int32) then vp_in (1 : Int32) 385 ∧ Q (μ 1 (1 : Int32).toNatClampNeg) μ else wp_X7_error (-1000000001 : Int32) (fun r92 μ92 => Q r92 μ92) μ
set_option maxRecDepth 100000 in
set_option maxHeartbeats 4000000 in
theorem c_X7_count (l : Launch) (G : vG) (hG : gO G) (a1 : Int32) (h0 : isX7 G) (Q : Int32 → vM → Prop) (μ : vM) (hw : wp_X7_count a1 Q μ) : mt l G yX7_count vX7_count { frames := 4, cells := 0, slots := 0, locals := 86 } [.ref (ga G 0), .int a1] μ (qI G Q) := by
  refine met_of (cc := cX7_count) (maxL := 2) (ret := (some .int)) RX7 (by decide) rfl rfl hG (Nat.le_of_ble_eq_true rfl) ?_
  intro p e s m below meth c X h ls hl
  have hl : lv_has ls 2 [(0, .ref (ga G 0)), (1, .int a1)] := hl
  have hx := X.1
  have hb := X.2.1
  unfold wp_X7_count at hw
  refine lv_iload_n hx hb dX7_count_0 rfl (lv_at hl 1 rfl) ?_
  by_cases hc0 : a1 = (0 : Int32)
  · rw [if_pos hc0] at hw
    refine lv_tableIn (off := 43) (tgt := 44) hx hb dX7_count_1 (by rw [hc0]; decide) (by rw [hc0]; decide) (by rw [hc0]; rfl) (by decide) ?_
    refine lv_aload_n hx hb dX7_count_44 rfl (lv_at hl 0 rfl) ?_
    refine r_getR (q := 1) X h (X7_o h0) rfl uX7 0 (by decide) lf_4_51 rfl dX7_count_45 ?_
    refine lv_iconst (v := (2 : Int32)) hx hb dX7_count_48 (by decide) ?_
    obtain ⟨hi, hw⟩ := hw
    refine r_ald X h (X7_row h0) hi dX7_count_49 ?_
    exact r_iret X h hw dX7_count_50
  · rw [if_neg hc0] at hw
    by_cases hc1 : a1 = (1 : Int32)
    · rw [if_pos hc1] at hw
      refine lv_tableIn (off := 50) (tgt := 51) hx hb dX7_count_1 (by rw [hc1]; decide) (by rw [hc1]; decide) (by rw [hc1]; rfl) (by decide) ?_
      refine lv_aload_n hx hb dX7_count_51 rfl (lv_at hl 0 rfl) ?_
      refine r_getR (q := 1) X h (X7_o h0) rfl uX7 0 (by decide) lf_4_51 rfl dX7_count_52 ?_
      refine lv_iconst (v := (0 : Int32)) hx hb dX7_count_55 (by decide) ?_
      obtain ⟨hi, hw⟩ := hw
      refine r_ald X h (X7_row h0) hi dX7_count_56 ?_
      exact r_iret X h hw dX7_count_57
    · rw [if_neg hc1] at hw
      by_cases hc2 : a1 = (2 : Int32)
      · rw [if_pos hc2] at hw
        refine lv_tableIn (off := 57) (tgt := 58) hx hb dX7_count_1 (by rw [hc2]; decide) (by rw [hc2]; decide) (by rw [hc2]; rfl) (by decide) ?_
        refine lv_aload_n hx hb dX7_count_58 rfl (lv_at hl 0 rfl) ?_
        refine k_i h (n_V (rest := []) (As := []) X h hl.1 (c_X7_homes l G hG h0 _ _ hw) gk_X7_211 rfl hd_X7_homes ⟨rfl, rfl⟩ ⟨Nat.le_of_ble_eq_true rfl, Nat.le_of_ble_eq_true rfl⟩ (X7_o h0) rfl rfl (Nat.le_of_ble_eq_true rfl) dX7_count_59 ⟨Nat.zero_le _, Nat.zero_le _⟩) (fun r59 μ59 H locs hw h => ?_)
        exact r_iret X h hw dX7_count_62
      · rw [if_neg hc2] at hw
        by_cases hc3 : a1 = (3 : Int32)
        · rw [if_pos hc3] at hw
          refine lv_tableIn (off := 62) (tgt := 63) hx hb dX7_count_1 (by rw [hc3]; decide) (by rw [hc3]; decide) (by rw [hc3]; rfl) (by decide) ?_
          refine lv_aload_n hx hb dX7_count_63 rfl (lv_at hl 0 rfl) ?_
          refine r_getR (q := 1) X h (X7_o h0) rfl uX7 0 (by decide) lf_4_51 rfl dX7_count_64 ?_
          refine lv_iconst (v := (3 : Int32)) hx hb dX7_count_67 (by decide) ?_
          obtain ⟨hi, hw⟩ := hw
          refine r_ald X h (X7_row h0) hi dX7_count_68 ?_
          exact r_iret X h hw dX7_count_69
        · rw [if_neg hc3] at hw
          by_cases hc4 : a1 = (4 : Int32)
          · rw [if_pos hc4] at hw
            refine lv_tableIn (off := 69) (tgt := 70) hx hb dX7_count_1 (by rw [hc4]; decide) (by rw [hc4]; decide) (by rw [hc4]; rfl) (by decide) ?_
            refine lv_aload_n hx hb dX7_count_70 rfl (lv_at hl 0 rfl) ?_
            refine r_getR (q := 1) X h (X7_o h0) rfl uX7 0 (by decide) lf_4_51 rfl dX7_count_71 ?_
            refine lv_iconst (v := (4 : Int32)) hx hb dX7_count_74 (by decide) ?_
            obtain ⟨hi, hw⟩ := hw
            refine r_ald X h (X7_row h0) hi dX7_count_75 ?_
            exact r_iret X h hw dX7_count_76
          · rw [if_neg hc4] at hw
            by_cases hc5 : a1 = (5 : Int32)
            · rw [if_pos hc5] at hw
              refine lv_tableIn (off := 76) (tgt := 77) hx hb dX7_count_1 (by rw [hc5]; decide) (by rw [hc5]; decide) (by rw [hc5]; rfl) (by decide) ?_
              refine lv_aload_n hx hb dX7_count_77 rfl (lv_at hl 0 rfl) ?_
              refine r_getI X h (X7_o h0) rfl uX7 21 (by decide) lf_4_72 rfl dX7_count_78 ?_
              exact r_iret X h hw dX7_count_81
            · rw [if_neg hc5] at hw
              by_cases hc6 : a1 = (6 : Int32)
              · rw [if_pos hc6] at hw
                refine lv_tableIn (off := 81) (tgt := 82) hx hb dX7_count_1 (by rw [hc6]; decide) (by rw [hc6]; decide) (by rw [hc6]; rfl) (by decide) ?_
                refine lv_aload_n hx hb dX7_count_82 rfl (lv_at hl 0 rfl) ?_
                refine r_getR (q := 1) X h (X7_o h0) rfl uX7 0 (by decide) lf_4_51 rfl dX7_count_83 ?_
                refine lv_iconst (v := (1 : Int32)) hx hb dX7_count_86 (by decide) ?_
                obtain ⟨hi, hw⟩ := hw
                refine r_ald X h (X7_row h0) hi dX7_count_87 ?_
                exact r_iret X h hw dX7_count_88
              · rw [if_neg hc6] at hw
                refine lv_tableOut (tgt := 89) hx hb dX7_count_1 (by have q0 := lv_neT hc0 (a := 0) (by decide); have q1 := lv_neT hc1 (a := 1) (by decide); have q2 := lv_neT hc2 (a := 2) (by decide); have q3 := lv_neT hc3 (a := 3) (by decide); have q4 := lv_neT hc4 (a := 4) (by decide); have q5 := lv_neT hc5 (a := 5) (by decide); have q6 := lv_neT hc6 (a := 6) (by decide); omega) (by decide) ?_
                refine lv_aload_n hx hb dX7_count_89 rfl (lv_at hl 0 rfl) ?_
                refine r_ldc X (v := (-1000000001 : Int32)) ww_4_131 dX7_count_90 ?_
                refine k_i h (n_V (rest := []) (As := [.int (-1000000001 : Int32)]) X h hl.1 (c_X7_error l G hG (-1000000001 : Int32) h0 _ _ hw) gk_X7_104 rfl hd_X7_error ⟨rfl, rfl⟩ ⟨Nat.le_of_ble_eq_true rfl, Nat.le_of_ble_eq_true rfl⟩ (X7_o h0) rfl rfl (Nat.le_of_ble_eq_true rfl) dX7_count_92 ⟨Nat.zero_le _, Nat.zero_le _⟩) (fun r92 μ92 H locs hw h => ?_)
                exact r_iret X h hw dX7_count_95
def wp_X7_told (a1 : Int32) (Q : Int32 → vM → Prop) (μ : vM) : Prop := wp_X7_in a1 (1 : Int32) (6 : Int32) (fun r4 μ4 => if r4 = 0 then wp_X7_error (-1000000001 : Int32) (fun r22 μ22 => Q r22 μ22) μ4 else vp_in a1 7 ∧ Q (μ4 4 a1.toNatClampNeg) μ4) μ
set_option maxRecDepth 100000 in
set_option maxHeartbeats 4000000 in
theorem c_X7_told (l : Launch) (G : vG) (hG : gO G) (a1 : Int32) (h0 : isX7 G) (Q : Int32 → vM → Prop) (μ : vM) (hw : wp_X7_told a1 Q μ) : mt l G yX7_told vX7_told { frames := 1, cells := 0, slots := 0, locals := 22 } [.ref (ga G 0), .int a1] μ (qI G Q) := by
  refine met_of (cc := cX7_told) (maxL := 2) (ret := (some .int)) RX7 (by decide) rfl rfl hG (Nat.le_of_ble_eq_true rfl) ?_
  intro p e s m below meth c X h ls hl
  have hl : lv_has ls 2 [(0, .ref (ga G 0)), (1, .int a1)] := hl
  have hx := X.1
  have hb := X.2.1
  unfold wp_X7_told at hw
  refine lv_iload_n hx hb dX7_told_0 rfl (lv_at hl 1 rfl) ?_
  refine lv_iconst (v := (1 : Int32)) hx hb dX7_told_1 (by decide) ?_
  refine lv_bipush (v := (6 : Int32)) hx hb dX7_told_2 (by decide) ?_
  refine k_i h (n_T (rest := []) (As := [.int a1, .int (1 : Int32), .int (6 : Int32)]) X h hl.1 (c_X7_in l G hG a1 (1 : Int32) (6 : Int32) _ _ hw) gk_X7_57 rfl hd_X7_in ⟨rfl, rfl⟩ ⟨Nat.le_of_ble_eq_true rfl, Nat.le_of_ble_eq_true rfl⟩ rfl (Nat.le_of_ble_eq_true rfl) dX7_told_4 ⟨Nat.zero_le _, Nat.zero_le _⟩) (fun r4 μ4 H locs hw h => ?_)
  refine lv_if_eq (tgt := 19) hx hb dX7_told_7 (by decide) (fun hc => ?_) (fun hc => ?_)
  · rw [if_pos hc] at hw
    refine lv_aload_n hx hb dX7_told_19 rfl (lv_at hl 0 rfl) ?_
    refine r_ldc X (v := (-1000000001 : Int32)) ww_4_131 dX7_told_20 ?_
    refine k_i h (n_V (rest := []) (As := [.int (-1000000001 : Int32)]) X h hl.1 (c_X7_error l G hG (-1000000001 : Int32) h0 _ _ hw) gk_X7_104 rfl hd_X7_error ⟨rfl, rfl⟩ ⟨Nat.le_of_ble_eq_true rfl, Nat.le_of_ble_eq_true rfl⟩ (X7_o h0) rfl rfl (Nat.le_of_ble_eq_true rfl) dX7_told_22 ⟨Nat.zero_le _, Nat.zero_le _⟩) (fun r22 μ22 H locs hw h => ?_)
    exact r_iret X h hw dX7_told_25
  · rw [if_neg hc] at hw
    refine lv_aload_n hx hb dX7_told_10 rfl (lv_at hl 0 rfl) ?_
    refine r_getR (q := 4) X h (X7_o h0) rfl uX7 4 (by decide) lf_4_55 rfl dX7_told_11 ?_
    refine lv_iload_n hx hb dX7_told_14 rfl (lv_at hl 1 rfl) ?_
    obtain ⟨hi, hw⟩ := hw
    refine r_ald X h (X7_errors h0) hi dX7_told_15 ?_
    refine lv_goto (tgt := 25) hx hb dX7_told_16 (by decide) ?_
    exact r_iret X h hw dX7_told_25
