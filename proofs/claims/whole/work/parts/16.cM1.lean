def wp_X7_error (a1 : Int32) (Q : Int32 → vM → Prop) (μ : vM) : Prop := vp_in ((-1000000000 : Int32) - a1) 7 ∧ vp_in ((-1000000000 : Int32) - a1) 7 ∧ ∃ μ12 : vM, μ12 = st μ 4 ((-1000000000 : Int32) - a1).toNatClampNeg ((μ 4 ((-1000000000 : Int32) - a1).toNatClampNeg) + (1 : Int32)) ∧ Q a1 μ12
set_option maxRecDepth 100000 in
set_option maxHeartbeats 4000000 in
theorem c_X7_error (l : Launch) (G : vG) (hG : gO G) (a1 : Int32) (h0 : isX7 G) (Q : Int32 → vM → Prop) (μ : vM) (hw : wp_X7_error a1 Q μ) : mt l G yX7_error vX7_error { frames := 0, cells := 0, slots := 0, locals := 0 } [.ref (ga G 0), .int a1] μ (qI G Q) := by
  refine met_of (cc := cX7_error) (maxL := 2) (ret := (some .int)) RX7 (by decide) rfl rfl hG (Nat.le_of_ble_eq_true rfl) ?_
  intro p e s m below meth c X h ls hl
  have hl : lv_has ls 2 [(0, .ref (ga G 0)), (1, .int a1)] := hl
  have hx := X.1
  have hb := X.2.1
  unfold wp_X7_error at hw
  refine lv_aload_n hx hb dX7_error_0 rfl (lv_at hl 0 rfl) ?_
  refine r_getR (q := 4) X h (X7_o h0) rfl uX7 4 (by decide) lf_4_55 rfl dX7_error_1 ?_
  refine r_ldc X (v := (-1000000000 : Int32)) ww_4_136 dX7_error_4 ?_
  refine lv_iload_n hx hb dX7_error_6 rfl (lv_at hl 1 rfl) ?_
  refine lv_isub hx hb dX7_error_7 ?_
  refine lv_dup2_11 hx hb dX7_error_8 rfl rfl ?_
  obtain ⟨hi, hw⟩ := hw
  refine r_ald X h (X7_errors h0) hi dX7_error_9 ?_
  refine lv_iconst (v := (1 : Int32)) hx hb dX7_error_10 (by decide) ?_
  refine lv_iadd hx hb dX7_error_11 ?_
  obtain ⟨hi, μ12, eμ12, hw⟩ := hw
  refine r_ast X h (X7_errors h0) hi eμ12 dX7_error_12 (fun H locs h => ?_)
  refine lv_iload_n hx hb dX7_error_13 rfl (lv_at hl 1 rfl) ?_
  exact r_iret X h hw dX7_error_14
def wp_X7_in_14 (a0 : Int32) (a1 : Int32) (a2 : Int32) (Q : Int32 → vM → Prop)  (μ : vM) : Prop := Q (0 : Int32) μ
def wp_X7_in (a0 : Int32) (a1 : Int32) (a2 : Int32) (Q : Int32 → vM → Prop) (μ : vM) : Prop := if a0 < a1 then wp_X7_in_14 a0 a1 a2 Q μ else if a2 < a0 then wp_X7_in_14 a0 a1 a2 Q μ else Q (1 : Int32) μ
set_option maxRecDepth 100000 in
set_option maxHeartbeats 4000000 in
theorem c_X7_in (l : Launch) (G : vG) (hG : gO G) (a0 : Int32) (a1 : Int32) (a2 : Int32)  (Q : Int32 → vM → Prop) (μ : vM) (hw : wp_X7_in a0 a1 a2 Q μ) : mt l G yX7_in vX7_in { frames := 0, cells := 0, slots := 0, locals := 0 } [.int a0, .int a1, .int a2] μ (qI G Q) := by
  refine met_of (cc := cX7_in) (maxL := 3) (ret := (some .boolean)) RX7 (by decide) rfl rfl hG (Nat.le_of_ble_eq_true rfl) ?_
  intro p e s m below meth c X h ls hl
  have hl : lv_has ls 3 [(0, .int a0), (1, .int a1), (2, .int a2)] := hl
  have hx := X.1
  have hb := X.2.1
  unfold wp_X7_in at hw
  refine lv_iload_n hx hb dX7_in_0 rfl (lv_at hl 0 rfl) ?_
  refine lv_iload_n hx hb dX7_in_1 rfl (lv_at hl 1 rfl) ?_
  have s14 : ∀  (μ : vM), ∀ (H : Heap) (locs : List Loc) (ls : Array Slot), bw G s μ H locs → lv_has ls 3 [] → wp_X7_in_14 a0 a1 a2 Q μ → W p l e ({ frames := 0, cells := 0, slots := 0, locals := 0 } : Room) s m ([.int a0, .int a1, .int a2] : List Value).toArray below meth c H locs 0 0 (MQ below (qI G Q) ([.int a0, .int a1, .int a2] : List Value).toArray s 0 0 (gA G)) (F0 m 14 ls []) := by
    intro  μ H locs ls h hl hw
    unfold wp_X7_in_14 at hw
    refine lv_iconst (v := (0 : Int32)) hx hb dX7_in_14 (by decide) ?_
    exact r_zret X h (Or.inl rfl) hw dX7_in_15
  refine lv_icmp_lt (tgt := 14) hx hb dX7_in_2 (by decide) (fun hc => ?_) (fun hc => ?_)
  · rw [if_pos hc] at hw
    exact s14 μ _ _ _ h (lv_sub hl [] rfl) hw
  · rw [if_neg hc] at hw
    refine lv_iload_n hx hb dX7_in_5 rfl (lv_at hl 0 rfl) ?_
    refine lv_iload_n hx hb dX7_in_6 rfl (lv_at hl 2 rfl) ?_
    refine lv_icmp_gt (tgt := 14) hx hb dX7_in_7 (by decide) (fun hc => ?_) (fun hc => ?_)
    · rw [if_pos hc] at hw
      exact s14 μ _ _ _ h (lv_sub hl [] rfl) hw
    · rw [if_neg hc] at hw
      refine lv_iconst (v := (1 : Int32)) hx hb dX7_in_10 (by decide) ?_
      refine lv_goto (tgt := 15) hx hb dX7_in_11 (by decide) ?_
      exact r_zret X h (Or.inr rfl) hw dX7_in_15
def wp_X7_held (a0 : Int32) (a1 : Int32) (a2 : Int32) (Q : Int32 → vM → Prop) (μ : vM) : Prop := if a1 ≤ a0 then if a0 ≤ a2 then Q a0 μ else Q a2 μ else Q a1 μ
set_option maxRecDepth 100000 in
set_option maxHeartbeats 4000000 in
theorem c_X7_held (l : Launch) (G : vG) (hG : gO G) (a0 : Int32) (a1 : Int32) (a2 : Int32)  (Q : Int32 → vM → Prop) (μ : vM) (hw : wp_X7_held a0 a1 a2 Q μ) : mt l G yX7_held vX7_held { frames := 0, cells := 0, slots := 0, locals := 0 } [.int a0, .int a1, .int a2] μ (qI G Q) := by
  refine met_of (cc := cX7_held) (maxL := 3) (ret := (some .int)) RX7 (by decide) rfl rfl hG (Nat.le_of_ble_eq_true rfl) ?_
  intro p e s m below meth c X h ls hl
  have hl : lv_has ls 3 [(0, .int a0), (1, .int a1), (2, .int a2)] := hl
  have hx := X.1
  have hb := X.2.1
  unfold wp_X7_held at hw
  refine lv_iload_n hx hb dX7_held_0 rfl (lv_at hl 0 rfl) ?_
  refine lv_iload_n hx hb dX7_held_1 rfl (lv_at hl 1 rfl) ?_
  refine lv_icmp_ge (tgt := 9) hx hb dX7_held_2 (by decide) (fun hc => ?_) (fun hc => ?_)
  · rw [if_pos hc] at hw
    refine lv_iload_n hx hb dX7_held_9 rfl (lv_at hl 0 rfl) ?_
    refine lv_iload_n hx hb dX7_held_10 rfl (lv_at hl 2 rfl) ?_
    refine lv_icmp_le (tgt := 18) hx hb dX7_held_11 (by decide) (fun hc => ?_) (fun hc => ?_)
    · rw [if_pos hc] at hw
      refine lv_iload_n hx hb dX7_held_18 rfl (lv_at hl 0 rfl) ?_
      exact r_iret X h hw dX7_held_19
    · rw [if_neg hc] at hw
      refine lv_iload_n hx hb dX7_held_14 rfl (lv_at hl 2 rfl) ?_
      refine lv_goto (tgt := 19) hx hb dX7_held_15 (by decide) ?_
      exact r_iret X h hw dX7_held_19
  · rw [if_neg hc] at hw
    refine lv_iload_n hx hb dX7_held_5 rfl (lv_at hl 1 rfl) ?_
    refine lv_goto (tgt := 19) hx hb dX7_held_6 (by decide) ?_
    exact r_iret X h hw dX7_held_19
def wp_X7_copyAll_2 (p0 n0 : Nat) (p1 n1 : Nat) (Q : vM → Prop) : Nat → Int32 → vM → Prop
  | 0, _, _ => False
  | n2 + 1, x2, μ => if (385 : Int32) ≤ x2 then Q μ else vp_in x2 n0 ∧ vp_in x2 n1 ∧ ∃ μ14 : vM, μ14 = st μ p1 x2.toNatClampNeg (μ p0 x2.toNatClampNeg) ∧ ∃ x2_15 : Int32, x2_15 = x2 + (1 : Int32) ∧ wp_X7_copyAll_2 p0 n0 p1 n1 Q n2 x2_15 μ14
def wp_X7_copyAll (p0 n0 : Nat) (p1 n1 : Nat) (Q : vM → Prop) (μ : vM) : Prop := ∃ n2, wp_X7_copyAll_2 p0 n0 p1 n1 Q n2 (0 : Int32) μ
set_option maxRecDepth 100000 in
set_option maxHeartbeats 4000000 in
theorem c_X7_copyAll (l : Launch) (G : vG) (hG : gO G) (p0 n0 : Nat) (p1 n1 : Nat) (h0 : gt G p0 = .inl n0 ∧ p0 < gN G) (h1 : gt G p1 = .inl n1 ∧ p1 < gN G) (Q : vM → Prop) (μ : vM) (hw : wp_X7_copyAll p0 n0 p1 n1 Q μ) : mt l G yX7_copyAll vX7_copyAll { frames := 0, cells := 0, slots := 0, locals := 0 } [.ref (ga G p0), .ref (ga G p1)] μ (qV G Q) := by
  refine met_of (cc := cX7_copyAll) (maxL := 3) (ret := none) RX7 (by decide) rfl rfl hG (Nat.le_of_ble_eq_true rfl) ?_
  intro p e s m below meth c X h ls hl
  have hl : lv_has ls 3 [(0, .ref (ga G p0)), (1, .ref (ga G p1))] := hl
  have hx := X.1
  have hb := X.2.1
  unfold wp_X7_copyAll at hw
  refine lv_iconst (v := (0 : Int32)) hx hb dX7_copyAll_0 (by decide) ?_
  refine lv_istore_n (lv' := [(2, .int (0 : Int32)), (0, .ref (ga G p0)), (1, .ref (ga G p1))]) hx hb dX7_copyAll_1 rfl hl (by decide) rfl (fun ls hl => ?_)
  have s2 : ∀ (n2 : Nat) (x2 : Int32) (μ : vM), ∀ (H : Heap) (locs : List Loc) (ls : Array Slot), bw G s μ H locs → lv_has ls 3 [(0, .ref (ga G p0)), (1, .ref (ga G p1)), (2, .int x2)] → wp_X7_copyAll_2 p0 n0 p1 n1 Q n2 x2 μ → W p l e ({ frames := 0, cells := 0, slots := 0, locals := 0 } : Room) s m ([.ref (ga G p0), .ref (ga G p1)] : List Value).toArray below meth c H locs 0 0 (MQ below (qV G Q) ([.ref (ga G p0), .ref (ga G p1)] : List Value).toArray s 0 0 (gA G)) (F0 m 2 ls []) := by
    intro n2
    induction n2 with
    | zero => intro x2 μ H locs ls h hl hw; exact absurd hw (by unfold wp_X7_copyAll_2; exact id)
    | succ n2 ih2 =>
      intro x2 μ H locs ls h hl hw
      unfold wp_X7_copyAll_2 at hw
      refine lv_iload_n hx hb dX7_copyAll_2 rfl (lv_at hl 2 rfl) ?_
      refine lv_sipush (v := (385 : Int32)) hx hb dX7_copyAll_3 (by decide) ?_
      refine lv_icmp_ge (tgt := 21) hx hb dX7_copyAll_6 (by decide) (fun hc => ?_) (fun hc => ?_)
      · rw [if_pos hc] at hw
        exact r_vret X h hw dX7_copyAll_21
      · rw [if_neg hc] at hw
        refine lv_aload_n hx hb dX7_copyAll_9 rfl (lv_at hl 1 rfl) ?_
        refine lv_iload_n hx hb dX7_copyAll_10 rfl (lv_at hl 2 rfl) ?_
        refine lv_aload_n hx hb dX7_copyAll_11 rfl (lv_at hl 0 rfl) ?_
        refine lv_iload_n hx hb dX7_copyAll_12 rfl (lv_at hl 2 rfl) ?_
        obtain ⟨hi, hw⟩ := hw
        refine r_ald X h h0 hi dX7_copyAll_13 ?_
        obtain ⟨hi, μ14, eμ14, hw⟩ := hw
        refine r_ast X h h1 hi eμ14 dX7_copyAll_14 (fun H locs h => ?_)
        obtain ⟨x2_15, ex2_15, hw⟩ := hw
        refine lv_iinc (v := x2_15) (lv' := [(2, .int x2_15), (0, .ref (ga G p0)), (1, .ref (ga G p1))]) hx hb dX7_copyAll_15 hl (k := 2) rfl (by rw [ex2_15]; rfl) (by decide) rfl (fun ls hl => ?_)
        refine lv_goto (tgt := 2) hx hb dX7_copyAll_18 (by decide) ?_
        exact ih2 x2_15 μ14 _ _ _ h (lv_sub hl [1, 2, 0] rfl) hw
  obtain ⟨n, hw⟩ := hw
  exact s2 n (0 : Int32) μ _ _ _ h (lv_sub hl [1, 2, 0] rfl) hw
def wp_X7_thinks (Q : vM → Prop) (μ : vM) : Prop := wp_X7_copyAll 1 385 3 385 (fun μ8 => Q μ8) μ
set_option maxRecDepth 100000 in
set_option maxHeartbeats 4000000 in
theorem c_X7_thinks (l : Launch) (G : vG) (hG : gO G)  (h0 : isX7 G) (Q : vM → Prop) (μ : vM) (hw : wp_X7_thinks Q μ) : mt l G yX7_thinks vX7_thinks { frames := 1, cells := 0, slots := 0, locals := 22 } [.ref (ga G 0)] μ (qV G Q) := by
  refine met_of (cc := cX7_thinks) (maxL := 1) (ret := none) RX7 (by decide) rfl rfl hG (Nat.le_of_ble_eq_true rfl) ?_
  intro p e s m below meth c X h ls hl
  have hl : lv_has ls 1 [(0, .ref (ga G 0))] := hl
  have hx := X.1
  have hb := X.2.1
  unfold wp_X7_thinks at hw
  refine lv_aload_n hx hb dX7_thinks_0 rfl (lv_at hl 0 rfl) ?_
  refine r_getR (q := 1) X h (X7_o h0) rfl uX7 0 (by decide) lf_4_51 rfl dX7_thinks_1 ?_
  refine lv_aload_n hx hb dX7_thinks_4 rfl (lv_at hl 0 rfl) ?_
  refine r_getR (q := 3) X h (X7_o h0) rfl uX7 2 (by decide) lf_4_53 rfl dX7_thinks_5 ?_
  refine k_v h (n_T (rest := []) (As := [.ref (ga G 1), .ref (ga G 3)]) X h hl.1 (c_X7_copyAll l G hG 1 385 3 385 (X7_row h0) (X7_before h0) _ _ hw) gk_X7_53 rfl hd_X7_copyAll ⟨rfl, rfl⟩ ⟨Nat.le_of_ble_eq_true rfl, Nat.le_of_ble_eq_true rfl⟩ rfl (Nat.le_of_ble_eq_true rfl) dX7_thinks_8 ⟨Nat.zero_le _, Nat.zero_le _⟩) (fun μ8 H locs hw h => ?_)
  exact r_vret X h hw dX7_thinks_11
def wp_X7_putsBack (Q : vM → Prop) (μ : vM) : Prop := wp_X7_copyAll 3 385 1 385 (fun μ8 => Q μ8) μ
set_option maxRecDepth 100000 in
set_option maxHeartbeats 4000000 in
theorem c_X7_putsBack (l : Launch) (G : vG) (hG : gO G)  (h0 : isX7 G) (Q : vM → Prop) (μ : vM) (hw : wp_X7_putsBack Q μ) : mt l G yX7_putsBack vX7_putsBack { frames := 1, cells := 0, slots := 0, locals := 22 } [.ref (ga G 0)] μ (qV G Q) := by
  refine met_of (cc := cX7_putsBack) (maxL := 1) (ret := none) RX7 (by decide) rfl rfl hG (Nat.le_of_ble_eq_true rfl) ?_
  intro p e s m below meth c X h ls hl
  have hl : lv_has ls 1 [(0, .ref (ga G 0))] := hl
  have hx := X.1
  have hb := X.2.1
  unfold wp_X7_putsBack at hw
  refine lv_aload_n hx hb dX7_putsBack_0 rfl (lv_at hl 0 rfl) ?_
  refine r_getR (q := 3) X h (X7_o h0) rfl uX7 2 (by decide) lf_4_53 rfl dX7_putsBack_1 ?_
  refine lv_aload_n hx hb dX7_putsBack_4 rfl (lv_at hl 0 rfl) ?_
  refine r_getR (q := 1) X h (X7_o h0) rfl uX7 0 (by decide) lf_4_51 rfl dX7_putsBack_5 ?_
  refine k_v h (n_T (rest := []) (As := [.ref (ga G 3), .ref (ga G 1)]) X h hl.1 (c_X7_copyAll l G hG 3 385 1 385 (X7_before h0) (X7_row h0) _ _ hw) gk_X7_53 rfl hd_X7_copyAll ⟨rfl, rfl⟩ ⟨Nat.le_of_ble_eq_true rfl, Nat.le_of_ble_eq_true rfl⟩ rfl (Nat.le_of_ble_eq_true rfl) dX7_putsBack_8 ⟨Nat.zero_le _, Nat.zero_le _⟩) (fun μ8 H locs hw h => ?_)
  exact r_vret X h hw dX7_putsBack_11
def wp_X7_bits_4 (a0 : Int32) (Q : Int32 → vM → Prop) : Nat → Int32 → Int32 → vM → Prop
  | 0, _, _, _ => False
  | n4 + 1, x1, x2, μ => if x2 = 0 then Q x1 μ else ∃ x1_8 : Int32, x1_8 = x1 + (1 : Int32) ∧ ∃ x2_16 : Int32, x2_16 = x2 &&& (x2 - (1 : Int32)) ∧ wp_X7_bits_4 a0 Q n4 x1_8 x2_16 μ
def wp_X7_bits (a0 : Int32) (Q : Int32 → vM → Prop) (μ : vM) : Prop := ∃ n4, wp_X7_bits_4 a0 Q n4 (0 : Int32) a0 μ
set_option maxRecDepth 100000 in
set_option maxHeartbeats 4000000 in
theorem c_X7_bits (l : Launch) (G : vG) (hG : gO G) (a0 : Int32)  (Q : Int32 → vM → Prop) (μ : vM) (hw : wp_X7_bits a0 Q μ) : mt l G yX7_bits vX7_bits { frames := 0, cells := 0, slots := 0, locals := 0 } [.int a0] μ (qI G Q) := by
  refine met_of (cc := cX7_bits) (maxL := 3) (ret := (some .int)) RX7 (by decide) rfl rfl hG (Nat.le_of_ble_eq_true rfl) ?_
  intro p e s m below meth c X h ls hl
  have hl : lv_has ls 3 [(0, .int a0)] := hl
  have hx := X.1
  have hb := X.2.1
  unfold wp_X7_bits at hw
  refine lv_iconst (v := (0 : Int32)) hx hb dX7_bits_0 (by decide) ?_
  refine lv_istore_n (lv' := [(1, .int (0 : Int32)), (0, .int a0)]) hx hb dX7_bits_1 rfl hl (by decide) rfl (fun ls hl => ?_)
  refine lv_iload_n hx hb dX7_bits_2 rfl (lv_at hl 1 rfl) ?_
  refine lv_istore_n (lv' := [(2, .int a0), (1, .int (0 : Int32)), (0, .int a0)]) hx hb dX7_bits_3 rfl hl (by decide) rfl (fun ls hl => ?_)
  have s4 : ∀ (n4 : Nat) (x1 : Int32) (x2 : Int32) (μ : vM), ∀ (H : Heap) (locs : List Loc) (ls : Array Slot), bw G s μ H locs → lv_has ls 3 [(1, .int x1), (2, .int x2)] → wp_X7_bits_4 a0 Q n4 x1 x2 μ → W p l e ({ frames := 0, cells := 0, slots := 0, locals := 0 } : Room) s m ([.int a0] : List Value).toArray below meth c H locs 0 0 (MQ below (qI G Q) ([.int a0] : List Value).toArray s 0 0 (gA G)) (F0 m 4 ls []) := by
    intro n4
    induction n4 with
    | zero => intro x1 x2 μ H locs ls h hl hw; exact absurd hw (by unfold wp_X7_bits_4; exact id)
    | succ n4 ih4 =>
      intro x1 x2 μ H locs ls h hl hw
      unfold wp_X7_bits_4 at hw
      refine lv_iload_n hx hb dX7_bits_4 rfl (lv_at hl 1 rfl) ?_
      refine lv_if_eq (tgt := 20) hx hb dX7_bits_5 (by decide) (fun hc => ?_) (fun hc => ?_)
      · rw [if_pos hc] at hw
        refine lv_iload_n hx hb dX7_bits_20 rfl (lv_at hl 0 rfl) ?_
        exact r_iret X h hw dX7_bits_21
      · rw [if_neg hc] at hw
        obtain ⟨x1_8, ex1_8, hw⟩ := hw
        refine lv_iinc (v := x1_8) (lv' := [(1, .int x1_8), (2, .int x2)]) hx hb dX7_bits_8 hl (k := 0) rfl (by rw [ex1_8]; rfl) (by decide) rfl (fun ls hl => ?_)
        refine lv_iload_n hx hb dX7_bits_11 rfl (lv_at hl 1 rfl) ?_
        refine lv_iload_n hx hb dX7_bits_12 rfl (lv_at hl 1 rfl) ?_
        refine lv_iconst (v := (1 : Int32)) hx hb dX7_bits_13 (by decide) ?_
        refine lv_isub hx hb dX7_bits_14 ?_
        refine lv_iand hx hb dX7_bits_15 ?_
        obtain ⟨x2_16, ex2_16, hw⟩ := hw
        refine topE ex2_16 ?_
        refine lv_istore_n (lv' := [(2, .int x2_16), (1, .int x1_8)]) hx hb dX7_bits_16 rfl hl (by decide) rfl (fun ls hl => ?_)
        refine lv_goto (tgt := 4) hx hb dX7_bits_17 (by decide) ?_
        exact ih4 x1_8 x2_16 μ _ _ _ h (lv_sub hl [1, 0] rfl) hw
  obtain ⟨n, hw⟩ := hw
  exact s4 n (0 : Int32) a0 μ _ _ _ h (lv_sub hl [1, 0] rfl) hw
def wp_X7_isBit (a1 : Int32) (Q : Int32 → vM → Prop) (μ : vM) : Prop := vp_in (2 : Int32) 385 ∧ wp_X7_in a1 (0 : Int32) ((μ 1 (2 : Int32).toNatClampNeg) - (1 : Int32)) (fun r10 μ10 => bz r10 ∧ Q r10 μ10) μ
set_option maxRecDepth 100000 in
set_option maxHeartbeats 4000000 in
theorem c_X7_isBit (l : Launch) (G : vG) (hG : gO G) (a1 : Int32) (h0 : isX7 G) (Q : Int32 → vM → Prop) (μ : vM) (hw : wp_X7_isBit a1 Q μ) : mt l G yX7_isBit vX7_isBit { frames := 1, cells := 0, slots := 0, locals := 22 } [.ref (ga G 0), .int a1] μ (qI G Q) := by
  refine met_of (cc := cX7_isBit) (maxL := 2) (ret := (some .boolean)) RX7 (by decide) rfl rfl hG (Nat.le_of_ble_eq_true rfl) ?_
  intro p e s m below meth c X h ls hl
  have hl : lv_has ls 2 [(0, .ref (ga G 0)), (1, .int a1)] := hl
  have hx := X.1
  have hb := X.2.1
  unfold wp_X7_isBit at hw
  refine lv_iload_n hx hb dX7_isBit_0 rfl (lv_at hl 1 rfl) ?_
  refine lv_iconst (v := (0 : Int32)) hx hb dX7_isBit_1 (by decide) ?_
  refine lv_aload_n hx hb dX7_isBit_2 rfl (lv_at hl 0 rfl) ?_
  refine r_getR (q := 1) X h (X7_o h0) rfl uX7 0 (by decide) lf_4_51 rfl dX7_isBit_3 ?_
  refine lv_iconst (v := (2 : Int32)) hx hb dX7_isBit_6 (by decide) ?_
  obtain ⟨hi, hw⟩ := hw
  refine r_ald X h (X7_row h0) hi dX7_isBit_7 ?_
  refine lv_iconst (v := (1 : Int32)) hx hb dX7_isBit_8 (by decide) ?_
  refine lv_isub hx hb dX7_isBit_9 ?_
  refine k_i h (n_T (rest := []) (As := [.int a1, .int (0 : Int32), .int ((μ 1 (2 : Int32).toNatClampNeg) - (1 : Int32))]) X h hl.1 (c_X7_in l G hG a1 (0 : Int32) ((μ 1 (2 : Int32).toNatClampNeg) - (1 : Int32)) _ _ hw) gk_X7_57 rfl hd_X7_in ⟨rfl, rfl⟩ ⟨Nat.le_of_ble_eq_true rfl, Nat.le_of_ble_eq_true rfl⟩ rfl (Nat.le_of_ble_eq_true rfl) dX7_isBit_10 ⟨Nat.zero_le _, Nat.zero_le _⟩) (fun r10 μ10 H locs hw h => ?_)
  exact r_zret X h hw.1 hw.2 dX7_isBit_13
def wp_X7_isPlace (a0 : Int32) (Q : Int32 → vM → Prop) (μ : vM) : Prop := wp_X7_in a0 (0 : Int32) (9 : Int32) (fun r4 μ4 => bz r4 ∧ Q r4 μ4) μ
set_option maxRecDepth 100000 in
set_option maxHeartbeats 4000000 in
theorem c_X7_isPlace (l : Launch) (G : vG) (hG : gO G) (a0 : Int32)  (Q : Int32 → vM → Prop) (μ : vM) (hw : wp_X7_isPlace a0 Q μ) : mt l G yX7_isPlace vX7_isPlace { frames := 1, cells := 0, slots := 0, locals := 22 } [.int a0] μ (qI G Q) := by
  refine met_of (cc := cX7_isPlace) (maxL := 1) (ret := (some .boolean)) RX7 (by decide) rfl rfl hG (Nat.le_of_ble_eq_true rfl) ?_
  intro p e s m below meth c X h ls hl
  have hl : lv_has ls 1 [(0, .int a0)] := hl
  have hx := X.1
  have hb := X.2.1
  unfold wp_X7_isPlace at hw
  refine lv_iload_n hx hb dX7_isPlace_0 rfl (lv_at hl 0 rfl) ?_
  refine lv_iconst (v := (0 : Int32)) hx hb dX7_isPlace_1 (by decide) ?_
  refine lv_bipush (v := (9 : Int32)) hx hb dX7_isPlace_2 (by decide) ?_
  refine k_i h (n_T (rest := []) (As := [.int a0, .int (0 : Int32), .int (9 : Int32)]) X h hl.1 (c_X7_in l G hG a0 (0 : Int32) (9 : Int32) _ _ hw) gk_X7_57 rfl hd_X7_in ⟨rfl, rfl⟩ ⟨Nat.le_of_ble_eq_true rfl, Nat.le_of_ble_eq_true rfl⟩ rfl (Nat.le_of_ble_eq_true rfl) dX7_isPlace_4 ⟨Nat.zero_le _, Nat.zero_le _⟩) (fun r4 μ4 H locs hw h => ?_)
  exact r_zret X h hw.1 hw.2 dX7_isPlace_7
def wp_X7_isField (a0 : Int32) (Q : Int32 → vM → Prop) (μ : vM) : Prop := wp_X7_in a0 (0 : Int32) (3 : Int32) (fun r3 μ3 => bz r3 ∧ Q r3 μ3) μ
set_option maxRecDepth 100000 in
set_option maxHeartbeats 4000000 in
theorem c_X7_isField (l : Launch) (G : vG) (hG : gO G) (a0 : Int32)  (Q : Int32 → vM → Prop) (μ : vM) (hw : wp_X7_isField a0 Q μ) : mt l G yX7_isField vX7_isField { frames := 1, cells := 0, slots := 0, locals := 22 } [.int a0] μ (qI G Q) := by
  refine met_of (cc := cX7_isField) (maxL := 1) (ret := (some .boolean)) RX7 (by decide) rfl rfl hG (Nat.le_of_ble_eq_true rfl) ?_
  intro p e s m below meth c X h ls hl
  have hl : lv_has ls 1 [(0, .int a0)] := hl
  have hx := X.1
  have hb := X.2.1
  unfold wp_X7_isField at hw
  refine lv_iload_n hx hb dX7_isField_0 rfl (lv_at hl 0 rfl) ?_
  refine lv_iconst (v := (0 : Int32)) hx hb dX7_isField_1 (by decide) ?_
  refine lv_iconst (v := (3 : Int32)) hx hb dX7_isField_2 (by decide) ?_
  refine k_i h (n_T (rest := []) (As := [.int a0, .int (0 : Int32), .int (3 : Int32)]) X h hl.1 (c_X7_in l G hG a0 (0 : Int32) (3 : Int32) _ _ hw) gk_X7_57 rfl hd_X7_in ⟨rfl, rfl⟩ ⟨Nat.le_of_ble_eq_true rfl, Nat.le_of_ble_eq_true rfl⟩ rfl (Nat.le_of_ble_eq_true rfl) dX7_isField_3 ⟨Nat.zero_le _, Nat.zero_le _⟩) (fun r3 μ3 H locs hw h => ?_)
  exact r_zret X h hw.1 hw.2 dX7_isField_6
def wp_X7_becomes (a1 : Int32) (a2 : Int32) (Q : Int32 → vM → Prop) (μ : vM) : Prop := vp_in a1 385 ∧ ∃ x3_6 : Int32, x3_6 = μ 1 a1.toNatClampNeg ∧ vp_in a1 385 ∧ ∃ μ13 : vM, μ13 = st μ 1 a1.toNatClampNeg a2 ∧ Q x3_6 μ13
set_option maxRecDepth 100000 in
set_option maxHeartbeats 4000000 in
theorem c_X7_becomes (l : Launch) (G : vG) (hG : gO G) (a1 : Int32) (a2 : Int32) (h0 : isX7 G) (Q : Int32 → vM → Prop) (μ : vM) (hw : wp_X7_becomes a1 a2 Q μ) : mt l G yX7_becomes vX7_becomes { frames := 0, cells := 0, slots := 0, locals := 0 } [.ref (ga G 0), .int a1, .int a2] μ (qI G Q) := by
  refine met_of (cc := cX7_becomes) (maxL := 4) (ret := (some .int)) RX7 (by decide) rfl rfl hG (Nat.le_of_ble_eq_true rfl) ?_
  intro p e s m below meth c X h ls hl
  have hl : lv_has ls 4 [(0, .ref (ga G 0)), (1, .int a1), (2, .int a2)] := hl
  have hx := X.1
  have hb := X.2.1
  unfold wp_X7_becomes at hw
  refine lv_aload_n hx hb dX7_becomes_0 rfl (lv_at hl 0 rfl) ?_
  refine r_getR (q := 1) X h (X7_o h0) rfl uX7 0 (by decide) lf_4_51 rfl dX7_becomes_1 ?_
  refine lv_iload_n hx hb dX7_becomes_4 rfl (lv_at hl 1 rfl) ?_
  obtain ⟨hi, hw⟩ := hw
  refine r_ald X h (X7_row h0) hi dX7_becomes_5 ?_
  obtain ⟨x3_6, ex3_6, hw⟩ := hw
  refine topE ex3_6 ?_
  refine lv_istore_n (lv' := [(3, .int x3_6), (0, .ref (ga G 0)), (1, .int a1), (2, .int a2)]) hx hb dX7_becomes_6 rfl hl (by decide) rfl (fun ls hl => ?_)
  refine lv_aload_n hx hb dX7_becomes_7 rfl (lv_at hl 1 rfl) ?_
  refine r_getR (q := 1) X h (X7_o h0) rfl uX7 0 (by decide) lf_4_51 rfl dX7_becomes_8 ?_
  refine lv_iload_n hx hb dX7_becomes_11 rfl (lv_at hl 2 rfl) ?_
  refine lv_iload_n hx hb dX7_becomes_12 rfl (lv_at hl 3 rfl) ?_
  obtain ⟨hi, μ13, eμ13, hw⟩ := hw
  refine r_ast X h (X7_row h0) hi eμ13 dX7_becomes_13 (fun H locs h => ?_)
  refine lv_iload_n hx hb dX7_becomes_14 rfl (lv_at hl 0 rfl) ?_
  exact r_iret X h hw dX7_becomes_15
def wp_X7_of (a1 : Int32) (a2 : Int32) (Q : Int32 → vM → Prop) (μ : vM) : Prop := vp_in (((19 : Int32) + ((5 : Int32) * a1)) + a2) 385 ∧ Q (μ 1 (((19 : Int32) + ((5 : Int32) * a1)) + a2).toNatClampNeg) μ
set_option maxRecDepth 100000 in
set_option maxHeartbeats 4000000 in
theorem c_X7_of (l : Launch) (G : vG) (hG : gO G) (a1 : Int32) (a2 : Int32) (h0 : isX7 G) (Q : Int32 → vM → Prop) (μ : vM) (hw : wp_X7_of a1 a2 Q μ) : mt l G yX7_of vX7_of { frames := 0, cells := 0, slots := 0, locals := 0 } [.ref (ga G 0), .int a1, .int a2] μ (qI G Q) := by
  refine met_of (cc := cX7_of) (maxL := 3) (ret := (some .int)) RX7 (by decide) rfl rfl hG (Nat.le_of_ble_eq_true rfl) ?_
  intro p e s m below meth c X h ls hl
  have hl : lv_has ls 3 [(0, .ref (ga G 0)), (1, .int a1), (2, .int a2)] := hl
  have hx := X.1
  have hb := X.2.1
  unfold wp_X7_of at hw
  refine lv_aload_n hx hb dX7_of_0 rfl (lv_at hl 0 rfl) ?_
  refine r_getR (q := 1) X h (X7_o h0) rfl uX7 0 (by decide) lf_4_51 rfl dX7_of_1 ?_
  refine lv_bipush (v := (19 : Int32)) hx hb dX7_of_4 (by decide) ?_
  refine lv_iconst (v := (5 : Int32)) hx hb dX7_of_6 (by decide) ?_
  refine lv_iload_n hx hb dX7_of_7 rfl (lv_at hl 1 rfl) ?_
  refine lv_imul hx hb dX7_of_8 ?_
  refine lv_iadd hx hb dX7_of_9 ?_
  refine lv_iload_n hx hb dX7_of_10 rfl (lv_at hl 2 rfl) ?_
  refine lv_iadd hx hb dX7_of_11 ?_
  obtain ⟨hi, hw⟩ := hw
  refine r_ald X h (X7_row h0) hi dX7_of_12 ?_
  exact r_iret X h hw dX7_of_13
def wp_X7_lets (a1 : Int32) (a2 : Int32) (a3 : Int32) (Q : vM → Prop) (μ : vM) : Prop := vp_in (((19 : Int32) + ((5 : Int32) * a1)) + a2) 385 ∧ ∃ μ13 : vM, μ13 = st μ 1 (((19 : Int32) + ((5 : Int32) * a1)) + a2).toNatClampNeg a3 ∧ Q μ13
set_option maxRecDepth 100000 in
set_option maxHeartbeats 4000000 in
theorem c_X7_lets (l : Launch) (G : vG) (hG : gO G) (a1 : Int32) (a2 : Int32) (a3 : Int32) (h0 : isX7 G) (Q : vM → Prop) (μ : vM) (hw : wp_X7_lets a1 a2 a3 Q μ) : mt l G yX7_lets vX7_lets { frames := 0, cells := 0, slots := 0, locals := 0 } [.ref (ga G 0), .int a1, .int a2, .int a3] μ (qV G Q) := by
  refine met_of (cc := cX7_lets) (maxL := 4) (ret := none) RX7 (by decide) rfl rfl hG (Nat.le_of_ble_eq_true rfl) ?_
  intro p e s m below meth c X h ls hl
  have hl : lv_has ls 4 [(0, .ref (ga G 0)), (1, .int a1), (2, .int a2), (3, .int a3)] := hl
  have hx := X.1
  have hb := X.2.1
  unfold wp_X7_lets at hw
  refine lv_aload_n hx hb dX7_lets_0 rfl (lv_at hl 0 rfl) ?_
  refine r_getR (q := 1) X h (X7_o h0) rfl uX7 0 (by decide) lf_4_51 rfl dX7_lets_1 ?_
  refine lv_bipush (v := (19 : Int32)) hx hb dX7_lets_4 (by decide) ?_
  refine lv_iconst (v := (5 : Int32)) hx hb dX7_lets_6 (by decide) ?_
  refine lv_iload_n hx hb dX7_lets_7 rfl (lv_at hl 1 rfl) ?_
  refine lv_imul hx hb dX7_lets_8 ?_
  refine lv_iadd hx hb dX7_lets_9 ?_
  refine lv_iload_n hx hb dX7_lets_10 rfl (lv_at hl 2 rfl) ?_
  refine lv_iadd hx hb dX7_lets_11 ?_
  refine lv_iload_n hx hb dX7_lets_12 rfl (lv_at hl 3 rfl) ?_
  obtain ⟨hi, μ13, eμ13, hw⟩ := hw
  refine r_ast X h (X7_row h0) hi eμ13 dX7_lets_13 (fun H locs h => ?_)
  exact r_vret X h hw dX7_lets_14
def wp_X7_homeOf (a1 : Int32) (Q : Int32 → vM → Prop) (μ : vM) : Prop := wp_X7_of a1 (2 : Int32) (fun r8 μ8 => vp_in ((5 : Int32) + r8) 385 ∧ Q (μ8 1 ((5 : Int32) + r8).toNatClampNeg) μ8) μ
set_option maxRecDepth 100000 in
set_option maxHeartbeats 4000000 in
theorem c_X7_homeOf (l : Launch) (G : vG) (hG : gO G) (a1 : Int32) (h0 : isX7 G) (Q : Int32 → vM → Prop) (μ : vM) (hw : wp_X7_homeOf a1 Q μ) : mt l G yX7_homeOf vX7_homeOf { frames := 1, cells := 0, slots := 0, locals := 22 } [.ref (ga G 0), .int a1] μ (qI G Q) := by
  refine met_of (cc := cX7_homeOf) (maxL := 2) (ret := (some .int)) RX7 (by decide) rfl rfl hG (Nat.le_of_ble_eq_true rfl) ?_
  intro p e s m below meth c X h ls hl
  have hl : lv_has ls 2 [(0, .ref (ga G 0)), (1, .int a1)] := hl
  have hx := X.1
  have hb := X.2.1
  unfold wp_X7_homeOf at hw
  refine lv_aload_n hx hb dX7_homeOf_0 rfl (lv_at hl 0 rfl) ?_
  refine r_getR (q := 1) X h (X7_o h0) rfl uX7 0 (by decide) lf_4_51 rfl dX7_homeOf_1 ?_
  refine lv_iconst (v := (5 : Int32)) hx hb dX7_homeOf_4 (by decide) ?_
  refine lv_aload_n hx hb dX7_homeOf_5 rfl (lv_at hl 0 rfl) ?_
  refine lv_iload_n hx hb dX7_homeOf_6 rfl (lv_at hl 1 rfl) ?_
  refine lv_iconst (v := (2 : Int32)) hx hb dX7_homeOf_7 (by decide) ?_
  refine k_i h (n_V (rest := [.int (5 : Int32), .ref (ga G 1)]) (As := [.int a1, .int (2 : Int32)]) X h hl.1 (c_X7_of l G hG a1 (2 : Int32) h0 _ _ hw) gk_X7_61 rfl hd_X7_of ⟨rfl, rfl⟩ ⟨Nat.le_of_ble_eq_true rfl, Nat.le_of_ble_eq_true rfl⟩ (X7_o h0) rfl rfl (Nat.le_of_ble_eq_true rfl) dX7_homeOf_8 ⟨Nat.zero_le _, Nat.zero_le _⟩) (fun r8 μ8 H locs hw h => ?_)
  refine lv_iadd hx hb dX7_homeOf_11 ?_
  obtain ⟨hi, hw⟩ := hw
  refine r_ald X h (X7_row h0) hi dX7_homeOf_12 ?_
  exact r_iret X h hw dX7_homeOf_13
def wp_X7_isHome (a1 : Int32) (Q : Int32 → vM → Prop) (μ : vM) : Prop := wp_X7_of a1 (3 : Int32) (fun r3 μ3 => wp_X7_homeOf a1 (fun r8 μ8 => if r3 = r8 then Q (1 : Int32) μ8 else Q (0 : Int32) μ8) μ3) μ
set_option maxRecDepth 100000 in
set_option maxHeartbeats 4000000 in
theorem c_X7_isHome (l : Launch) (G : vG) (hG : gO G) (a1 : Int32) (h0 : isX7 G) (Q : Int32 → vM → Prop) (μ : vM) (hw : wp_X7_isHome a1 Q μ) : mt l G yX7_isHome vX7_isHome { frames := 2, cells := 0, slots := 0, locals := 43 } [.ref (ga G 0), .int a1] μ (qI G Q) := by
  refine met_of (cc := cX7_isHome) (maxL := 2) (ret := (some .boolean)) RX7 (by decide) rfl rfl hG (Nat.le_of_ble_eq_true rfl) ?_
  intro p e s m below meth c X h ls hl
  have hl : lv_has ls 2 [(0, .ref (ga G 0)), (1, .int a1)] := hl
  have hx := X.1
  have hb := X.2.1
  unfold wp_X7_isHome at hw
  refine lv_aload_n hx hb dX7_isHome_0 rfl (lv_at hl 0 rfl) ?_
  refine lv_iload_n hx hb dX7_isHome_1 rfl (lv_at hl 1 rfl) ?_
  refine lv_iconst (v := (3 : Int32)) hx hb dX7_isHome_2 (by decide) ?_
  refine k_i h (n_V (rest := []) (As := [.int a1, .int (3 : Int32)]) X h hl.1 (c_X7_of l G hG a1 (3 : Int32) h0 _ _ hw) gk_X7_61 rfl hd_X7_of ⟨rfl, rfl⟩ ⟨Nat.le_of_ble_eq_true rfl, Nat.le_of_ble_eq_true rfl⟩ (X7_o h0) rfl rfl (Nat.le_of_ble_eq_true rfl) dX7_isHome_3 ⟨Nat.zero_le _, Nat.zero_le _⟩) (fun r3 μ3 H locs hw h => ?_)
  refine lv_aload_n hx hb dX7_isHome_6 rfl (lv_at hl 0 rfl) ?_
  refine lv_iload_n hx hb dX7_isHome_7 rfl (lv_at hl 1 rfl) ?_
  refine k_i h (n_V (rest := [.int r3]) (As := [.int a1]) X h hl.1 (c_X7_homeOf l G hG a1 h0 _ _ hw) gk_X7_65 rfl hd_X7_homeOf ⟨rfl, rfl⟩ ⟨Nat.le_of_ble_eq_true rfl, Nat.le_of_ble_eq_true rfl⟩ (X7_o h0) rfl rfl (Nat.le_of_ble_eq_true rfl) dX7_isHome_8 ⟨Nat.zero_le _, Nat.zero_le _⟩) (fun r8 μ8 H locs hw h => ?_)
  refine lv_icmp_ne (tgt := 18) hx hb dX7_isHome_11 (by decide) (fun hc => ?_) (fun hc => ?_)
  · rw [if_neg hc] at hw
    refine lv_iconst (v := (0 : Int32)) hx hb dX7_isHome_18 (by decide) ?_
    exact r_zret X h (Or.inl rfl) hw dX7_isHome_19
  · rw [if_pos hc] at hw
    refine lv_iconst (v := (1 : Int32)) hx hb dX7_isHome_14 (by decide) ?_
    refine lv_goto (tgt := 19) hx hb dX7_isHome_15 (by decide) ?_
    exact r_zret X h (Or.inr rfl) hw dX7_isHome_19
def wp_X7_homes_30 (Q : Int32 → vM → Prop) (k4 : Int32 → Int32 → vM → Prop) (x2 : Int32) (t0 : Int32) (t1 : Int32) (μ : vM) : Prop := ∃ x1_31 : Int32, x1_31 = t0 ||| t1 ∧ ∃ x2_32 : Int32, x2_32 = x2 + (1 : Int32) ∧ k4 x1_31 x2_32 μ
def wp_X7_homes_4 (Q : Int32 → vM → Prop) : Nat → Int32 → Int32 → vM → Prop
  | 0, _, _, _ => False
  | n4 + 1, x1, x2, μ => vp_in (2 : Int32) 385 ∧ if (μ 1 (2 : Int32).toNatClampNeg) ≤ x2 then Q x1 μ else wp_X7_isHome x2 (fun r17 μ17 => wp_X7_homes_30 Q (fun x1 x2 μ => wp_X7_homes_4 Q n4 x1 x2 μ) x2 x1 (if r17 = 0 then (0 : Int32) else (1 : Int32) <<< (x2 &&& 31)) μ17) μ
def wp_X7_homes (Q : Int32 → vM → Prop) (μ : vM) : Prop := ∃ n4, wp_X7_homes_4 Q n4 (0 : Int32) (0 : Int32) μ
set_option maxRecDepth 100000 in
set_option maxHeartbeats 4000000 in
theorem c_X7_homes (l : Launch) (G : vG) (hG : gO G)  (h0 : isX7 G) (Q : Int32 → vM → Prop) (μ : vM) (hw : wp_X7_homes Q μ) : mt l G yX7_homes vX7_homes { frames := 3, cells := 0, slots := 0, locals := 64 } [.ref (ga G 0)] μ (qI G Q) := by
  refine met_of (cc := cX7_homes) (maxL := 3) (ret := (some .int)) RX7 (by decide) rfl rfl hG (Nat.le_of_ble_eq_true rfl) ?_
  intro p e s m below meth c X h ls hl
  have hl : lv_has ls 3 [(0, .ref (ga G 0))] := hl
  have hx := X.1
  have hb := X.2.1
  unfold wp_X7_homes at hw
  refine lv_iconst (v := (0 : Int32)) hx hb dX7_homes_0 (by decide) ?_
  refine lv_istore_n (lv' := [(1, .int (0 : Int32)), (0, .ref (ga G 0))]) hx hb dX7_homes_1 rfl hl (by decide) rfl (fun ls hl => ?_)
  refine lv_iconst (v := (0 : Int32)) hx hb dX7_homes_2 (by decide) ?_
  refine lv_istore_n (lv' := [(2, .int (0 : Int32)), (1, .int (0 : Int32)), (0, .ref (ga G 0))]) hx hb dX7_homes_3 rfl hl (by decide) rfl (fun ls hl => ?_)
  have s4 : ∀ (n4 : Nat) (x1 : Int32) (x2 : Int32) (μ : vM), ∀ (H : Heap) (locs : List Loc) (ls : Array Slot), bw G s μ H locs → lv_has ls 3 [(0, .ref (ga G 0)), (1, .int x1), (2, .int x2)] → wp_X7_homes_4 Q n4 x1 x2 μ → W p l e ({ frames := 3, cells := 0, slots := 0, locals := 64 } : Room) s m ([.ref (ga G 0)] : List Value).toArray below meth c H locs 0 0 (MQ below (qI G Q) ([.ref (ga G 0)] : List Value).toArray s 0 0 (gA G)) (F0 m 4 ls []) := by
    intro n4
    induction n4 with
    | zero => intro x1 x2 μ H locs ls h hl hw; exact absurd hw (by unfold wp_X7_homes_4; exact id)
    | succ n4 ih4 =>
      intro x1 x2 μ H locs ls h hl hw
      unfold wp_X7_homes_4 at hw
      refine lv_iload_n hx hb dX7_homes_4 rfl (lv_at hl 2 rfl) ?_
      refine lv_aload_n hx hb dX7_homes_5 rfl (lv_at hl 0 rfl) ?_
      refine r_getR (q := 1) X h (X7_o h0) rfl uX7 0 (by decide) lf_4_51 rfl dX7_homes_6 ?_
      refine lv_iconst (v := (2 : Int32)) hx hb dX7_homes_9 (by decide) ?_
      obtain ⟨hi, hw⟩ := hw
      refine r_ald X h (X7_row h0) hi dX7_homes_10 ?_
      refine lv_icmp_ge (tgt := 38) hx hb dX7_homes_11 (by decide) (fun hc => ?_) (fun hc => ?_)
      · rw [if_pos hc] at hw
        refine lv_iload_n hx hb dX7_homes_38 rfl (lv_at hl 1 rfl) ?_
        exact r_iret X h hw dX7_homes_39
      · rw [if_neg hc] at hw
        refine lv_iload_n hx hb dX7_homes_14 rfl (lv_at hl 1 rfl) ?_
        refine lv_aload_n hx hb dX7_homes_15 rfl (lv_at hl 0 rfl) ?_
        refine lv_iload_n hx hb dX7_homes_16 rfl (lv_at hl 2 rfl) ?_
        refine k_i h (n_V (rest := [.int x1]) (As := [.int x2]) X h hl.1 (c_X7_isHome l G hG x2 h0 _ _ hw) gk_X7_69 rfl hd_X7_isHome ⟨rfl, rfl⟩ ⟨Nat.le_of_ble_eq_true rfl, Nat.le_of_ble_eq_true rfl⟩ (X7_o h0) rfl rfl (Nat.le_of_ble_eq_true rfl) dX7_homes_17 ⟨Nat.zero_le _, Nat.zero_le _⟩) (fun r17 μ17 H locs hw h => ?_)
        have s30 : ∀ (x2 : Int32) (t0 : Int32) (t1 : Int32) (μ : vM), ∀ (H : Heap) (locs : List Loc) (ls : Array Slot), bw G s μ H locs → lv_has ls 3 [(0, .ref (ga G 0)), (2, .int x2)] → wp_X7_homes_30 Q (fun x1 x2 μ => wp_X7_homes_4 Q n4 x1 x2 μ) x2 t0 t1 μ → W p l e ({ frames := 3, cells := 0, slots := 0, locals := 64 } : Room) s m ([.ref (ga G 0)] : List Value).toArray below meth c H locs 0 0 (MQ below (qI G Q) ([.ref (ga G 0)] : List Value).toArray s 0 0 (gA G)) (F0 m 30 ls [.int t1, .int t0]) := by
          intro x2 t0 t1 μ H locs ls h hl hw
          unfold wp_X7_homes_30 at hw
          refine lv_ior hx hb dX7_homes_30 ?_
          obtain ⟨x1_31, ex1_31, hw⟩ := hw
          refine topE ex1_31 ?_
          refine lv_istore_n (lv' := [(1, .int x1_31), (0, .ref (ga G 0)), (2, .int x2)]) hx hb dX7_homes_31 rfl hl (by decide) rfl (fun ls hl => ?_)
          obtain ⟨x2_32, ex2_32, hw⟩ := hw
          refine lv_iinc (v := x2_32) (lv' := [(2, .int x2_32), (1, .int x1_31), (0, .ref (ga G 0))]) hx hb dX7_homes_32 hl (k := 2) rfl (by rw [ex2_32]; rfl) (by decide) rfl (fun ls hl => ?_)
          refine lv_goto (tgt := 4) hx hb dX7_homes_35 (by decide) ?_
          exact ih4 x1_31 x2_32 μ _ _ _ h (lv_sub hl [2, 1, 0] rfl) hw
        refine lv_if_eq (tgt := 29) hx hb dX7_homes_20 (by decide) (fun hc => ?_) (fun hc => ?_)
        · rw [if_pos hc] at hw
          refine lv_iconst (v := (0 : Int32)) hx hb dX7_homes_29 (by decide) ?_
          exact s30 x2 x1 (0 : Int32) μ17 _ _ _ h (lv_sub hl [0, 2] rfl) hw
        · rw [if_neg hc] at hw
          refine lv_iconst (v := (1 : Int32)) hx hb dX7_homes_23 (by decide) ?_
          refine lv_iload_n hx hb dX7_homes_24 rfl (lv_at hl 2 rfl) ?_
          refine lv_ishl hx hb dX7_homes_25 ?_
          refine lv_goto (tgt := 30) hx hb dX7_homes_26 (by decide) ?_
          exact s30 x2 x1 ((1 : Int32) <<< (x2 &&& 31)) μ17 _ _ _ h (lv_sub hl [0, 2] rfl) hw
  obtain ⟨n, hw⟩ := hw
  exact s4 n (0 : Int32) (0 : Int32) μ _ _ _ h (lv_sub hl [2, 1, 0] rfl) hw
def wp_X7_findFrom_140 (a1 : Int32) (Q : vM → Prop) (k54 : Int32 → Int32 → Int32 → Int32 → vM → Prop) (x2 : Int32) (x3 : Int32) (x5 : Int32) (t0 : Int32) (t1 : Int32) (μ : vM) : Prop := ∃ x4_141 : Int32, x4_141 = t0 ||| t1 ∧ ∃ x5_143 : Int32, x5_143 = x5 + (1 : Int32) ∧ k54 x2 x3 x4_141 x5_143 μ
def wp_X7_findFrom_124 (a1 : Int32) (Q : vM → Prop) (k54 : Int32 → Int32 → Int32 → Int32 → vM → Prop) (x2 : Int32) (x3 : Int32) (x4 : Int32) (x5 : Int32) (x6 : Int32) (t1 : Int32) (t2 : Int32) (μ : vM) : Prop := vp_in t1 100 ∧ ∃ μ124 : vM, μ124 = st μ 8 t1.toNatClampNeg t2 ∧ wp_X7_findFrom_140 a1 Q k54 x2 x3 x5 x4 (if x6 = 0 then (0 : Int32) else (1 : Int32) <<< (x5 &&& 31)) μ124
def wp_X7_findFrom_90 (a1 : Int32) (Q : vM → Prop) (k54 : Int32 → Int32 → Int32 → Int32 → vM → Prop) (x2 : Int32) (x3 : Int32) (x4 : Int32) (x5 : Int32) (t0 : Int32) (μ : vM) : Prop := if t0 = 0 then vp_in (((10 : Int32) * a1) + x5) 100 ∧ wp_X7_findFrom_124 a1 Q k54 x2 x3 x4 x5 t0 (((10 : Int32) * a1) + x5) (μ 8 (((10 : Int32) * a1) + x5).toNatClampNeg) μ else wp_X7_findFrom_124 a1 Q k54 x2 x3 x4 x5 t0 (((10 : Int32) * a1) + x5) x3 μ
def wp_X7_findFrom_89 (a1 : Int32) (Q : vM → Prop) (k54 : Int32 → Int32 → Int32 → Int32 → vM → Prop) (x2 : Int32) (x3 : Int32) (x4 : Int32) (x5 : Int32) (μ : vM) : Prop := wp_X7_findFrom_90 a1 Q k54 x2 x3 x4 x5 (0 : Int32) μ
def wp_X7_findFrom_54 (a1 : Int32) (Q : vM → Prop) (k42 : Int32 → Int32 → vM → Prop) : Nat → Int32 → Int32 → Int32 → Int32 → vM → Prop
  | 0, _, _, _, _, _ => False
  | n54 + 1, x2, x3, x4, x5, μ => if (10 : Int32) ≤ x5 then ∃ x3_152 : Int32, x3_152 = x3 + (1 : Int32) ∧ k42 x4 x3_152 μ else if ((x2 >>> (x5 &&& 31)) &&& (1 : Int32)) = 0 then vp_in ((9 : Int32) + x5) 385 ∧ if ((μ 1 ((9 : Int32) + x5).toNatClampNeg) &&& x2) = 0 then wp_X7_findFrom_89 a1 Q (fun x2 x3 x4 x5 μ => wp_X7_findFrom_54 a1 Q k42 n54 x2 x3 x4 x5 μ) x2 x3 x4 x5 μ else wp_X7_findFrom_90 a1 Q (fun x2 x3 x4 x5 μ => wp_X7_findFrom_54 a1 Q k42 n54 x2 x3 x4 x5 μ) x2 x3 x4 x5 (1 : Int32) μ else wp_X7_findFrom_89 a1 Q (fun x2 x3 x4 x5 μ => wp_X7_findFrom_54 a1 Q k42 n54 x2 x3 x4 x5 μ) x2 x3 x4 x5 μ
def wp_X7_findFrom_42 (a1 : Int32) (Q : vM → Prop) : Nat → Int32 → Int32 → vM → Prop
  | 0, _, _, _ => False
  | n42 + 1, x2, x3, μ => if (10 : Int32) ≤ x3 then Q μ else ∃ n54, wp_X7_findFrom_54 a1 Q (fun x2 x3 μ => wp_X7_findFrom_42 a1 Q n42 x2 x3 μ) n54 x2 x3 x2 (0 : Int32) μ
def wp_X7_findFrom_33 (a1 : Int32) (Q : vM → Prop) (k6 : Int32 → Int32 → vM → Prop) (x2 : Int32) (x3 : Int32) (t1 : Int32) (t2 : Int32) (μ : vM) : Prop := vp_in t1 100 ∧ ∃ μ33 : vM, μ33 = st μ 8 t1.toNatClampNeg t2 ∧ ∃ x3_34 : Int32, x3_34 = x3 + (1 : Int32) ∧ k6 x2 x3_34 μ33
def wp_X7_findFrom_6 (a1 : Int32) (Q : vM → Prop) : Nat → Int32 → Int32 → vM → Prop
  | 0, _, _, _ => False
  | n6 + 1, x2, x3, μ => if (10 : Int32) ≤ x3 then ∃ n42, wp_X7_findFrom_42 a1 Q n42 x2 (1 : Int32) μ else wp_X7_findFrom_33 a1 Q (fun x2 x3 μ => wp_X7_findFrom_6 a1 Q n6 x2 x3 μ) x2 x3 (((10 : Int32) * a1) + x3) (if x3 = a1 then (0 : Int32) else (99 : Int32)) μ
def wp_X7_findFrom (a1 : Int32) (Q : vM → Prop) (μ : vM) : Prop := ∃ x2_3 : Int32, x2_3 = (1 : Int32) <<< (a1 &&& 31) ∧ ∃ n6, wp_X7_findFrom_6 a1 Q n6 x2_3 (0 : Int32) μ
set_option maxRecDepth 100000 in
set_option maxHeartbeats 4000000 in
theorem c_X7_findFrom (l : Launch) (G : vG) (hG : gO G) (a1 : Int32) (h0 : isX7 G) (Q : vM → Prop) (μ : vM) (hw : wp_X7_findFrom a1 Q μ) : mt l G yX7_findFrom vX7_findFrom { frames := 0, cells := 0, slots := 0, locals := 0 } [.ref (ga G 0), .int a1] μ (qV G Q) := by
  refine met_of (cc := cX7_findFrom) (maxL := 7) (ret := none) RX7 (by decide) rfl rfl hG (Nat.le_of_ble_eq_true rfl) ?_
  intro p e s m below meth c X h ls hl
  have hl : lv_has ls 7 [(0, .ref (ga G 0)), (1, .int a1)] := hl
  have hx := X.1
  have hb := X.2.1
  unfold wp_X7_findFrom at hw
  refine lv_iconst (v := (1 : Int32)) hx hb dX7_findFrom_0 (by decide) ?_
  refine lv_iload_n hx hb dX7_findFrom_1 rfl (lv_at hl 1 rfl) ?_
  refine lv_ishl hx hb dX7_findFrom_2 ?_
  obtain ⟨x2_3, ex2_3, hw⟩ := hw
  refine topE ex2_3 ?_
  refine lv_istore_n (lv' := [(2, .int x2_3), (0, .ref (ga G 0)), (1, .int a1)]) hx hb dX7_findFrom_3 rfl hl (by decide) rfl (fun ls hl => ?_)
  refine lv_iconst (v := (0 : Int32)) hx hb dX7_findFrom_4 (by decide) ?_
  refine lv_istore_n (lv' := [(3, .int (0 : Int32)), (2, .int x2_3), (0, .ref (ga G 0)), (1, .int a1)]) hx hb dX7_findFrom_5 rfl hl (by decide) rfl (fun ls hl => ?_)
  have s6 : ∀ (n6 : Nat) (x2 : Int32) (x3 : Int32) (μ : vM), ∀ (H : Heap) (locs : List Loc) (ls : Array Slot), bw G s μ H locs → lv_has ls 7 [(0, .ref (ga G 0)), (1, .int a1), (2, .int x2), (3, .int x3)] → wp_X7_findFrom_6 a1 Q n6 x2 x3 μ → W p l e ({ frames := 0, cells := 0, slots := 0, locals := 0 } : Room) s m ([.ref (ga G 0), .int a1] : List Value).toArray below meth c H locs 0 0 (MQ below (qV G Q) ([.ref (ga G 0), .int a1] : List Value).toArray s 0 0 (gA G)) (F0 m 6 ls []) := by
    intro n6
    induction n6 with
    | zero => intro x2 x3 μ H locs ls h hl hw; exact absurd hw (by unfold wp_X7_findFrom_6; exact id)
    | succ n6 ih6 =>
      intro x2 x3 μ H locs ls h hl hw
      unfold wp_X7_findFrom_6 at hw
      refine lv_iload_n hx hb dX7_findFrom_6 rfl (lv_at hl 3 rfl) ?_
      refine lv_bipush (v := (10 : Int32)) hx hb dX7_findFrom_7 (by decide) ?_
      refine lv_icmp_ge (tgt := 40) hx hb dX7_findFrom_9 (by decide) (fun hc => ?_) (fun hc => ?_)
      · rw [if_pos hc] at hw
        refine lv_iconst (v := (1 : Int32)) hx hb dX7_findFrom_40 (by decide) ?_
        refine lv_istore_n (lv' := [(3, .int (1 : Int32)), (0, .ref (ga G 0)), (1, .int a1), (2, .int x2)]) hx hb dX7_findFrom_41 rfl hl (by decide) rfl (fun ls hl => ?_)
        have s42 : ∀ (n42 : Nat) (x2 : Int32) (x3 : Int32) (μ : vM), ∀ (H : Heap) (locs : List Loc) (ls : Array Slot), bw G s μ H locs → lv_has ls 7 [(0, .ref (ga G 0)), (1, .int a1), (2, .int x2), (3, .int x3)] → wp_X7_findFrom_42 a1 Q n42 x2 x3 μ → W p l e ({ frames := 0, cells := 0, slots := 0, locals := 0 } : Room) s m ([.ref (ga G 0), .int a1] : List Value).toArray below meth c H locs 0 0 (MQ below (qV G Q) ([.ref (ga G 0), .int a1] : List Value).toArray s 0 0 (gA G)) (F0 m 42 ls []) := by
          intro n42
          induction n42 with
          | zero => intro x2 x3 μ H locs ls h hl hw; exact absurd hw (by unfold wp_X7_findFrom_42; exact id)
          | succ n42 ih42 =>
            intro x2 x3 μ H locs ls h hl hw
            unfold wp_X7_findFrom_42 at hw
            refine lv_iload_n hx hb dX7_findFrom_42 rfl (lv_at hl 3 rfl) ?_
            refine lv_bipush (v := (10 : Int32)) hx hb dX7_findFrom_43 (by decide) ?_
            refine lv_icmp_ge (tgt := 158) hx hb dX7_findFrom_45 (by decide) (fun hc => ?_) (fun hc => ?_)
            · rw [if_pos hc] at hw
              exact r_vret X h hw dX7_findFrom_158
            · rw [if_neg hc] at hw
              refine lv_iload_n hx hb dX7_findFrom_48 rfl (lv_at hl 2 rfl) ?_
              refine lv_istore (lv' := [(4, .int x2), (0, .ref (ga G 0)), (1, .int a1), (2, .int x2), (3, .int x3)]) hx hb dX7_findFrom_49 hl (by decide) rfl (fun ls hl => ?_)
              refine lv_iconst (v := (0 : Int32)) hx hb dX7_findFrom_51 (by decide) ?_
              refine lv_istore (lv' := [(5, .int (0 : Int32)), (4, .int x2), (0, .ref (ga G 0)), (1, .int a1), (2, .int x2), (3, .int x3)]) hx hb dX7_findFrom_52 hl (by decide) rfl (fun ls hl => ?_)
              have s54 : ∀ (n54 : Nat) (x2 : Int32) (x3 : Int32) (x4 : Int32) (x5 : Int32) (μ : vM), ∀ (H : Heap) (locs : List Loc) (ls : Array Slot), bw G s μ H locs → lv_has ls 7 [(0, .ref (ga G 0)), (1, .int a1), (2, .int x2), (3, .int x3), (4, .int x4), (5, .int x5)] → wp_X7_findFrom_54 a1 Q (fun x2 x3 μ => wp_X7_findFrom_42 a1 Q n42 x2 x3 μ) n54 x2 x3 x4 x5 μ → W p l e ({ frames := 0, cells := 0, slots := 0, locals := 0 } : Room) s m ([.ref (ga G 0), .int a1] : List Value).toArray below meth c H locs 0 0 (MQ below (qV G Q) ([.ref (ga G 0), .int a1] : List Value).toArray s 0 0 (gA G)) (F0 m 54 ls []) := by
                intro n54
                induction n54 with
                | zero => intro x2 x3 x4 x5 μ H locs ls h hl hw; exact absurd hw (by unfold wp_X7_findFrom_54; exact id)
                | succ n54 ih54 =>
                  intro x2 x3 x4 x5 μ H locs ls h hl hw
                  unfold wp_X7_findFrom_54 at hw
                  refine lv_iload hx hb dX7_findFrom_54 (lv_at hl 5 rfl) ?_
                  refine lv_bipush (v := (10 : Int32)) hx hb dX7_findFrom_56 (by decide) ?_
                  refine lv_icmp_ge (tgt := 149) hx hb dX7_findFrom_58 (by decide) (fun hc => ?_) (fun hc => ?_)
                  · rw [if_pos hc] at hw
                    refine lv_iload hx hb dX7_findFrom_149 (lv_at hl 4 rfl) ?_
                    refine lv_istore_n (lv' := [(2, .int x4), (0, .ref (ga G 0)), (1, .int a1), (3, .int x3), (4, .int x4), (5, .int x5)]) hx hb dX7_findFrom_151 rfl hl (by decide) rfl (fun ls hl => ?_)
                    obtain ⟨x3_152, ex3_152, hw⟩ := hw
                    refine lv_iinc (v := x3_152) (lv' := [(3, .int x3_152), (2, .int x4), (0, .ref (ga G 0)), (1, .int a1), (4, .int x4), (5, .int x5)]) hx hb dX7_findFrom_152 hl (k := 3) rfl (by rw [ex3_152]; rfl) (by decide) rfl (fun ls hl => ?_)
                    refine lv_goto (tgt := 42) hx hb dX7_findFrom_155 (by decide) ?_
                    exact ih42 x4 x3_152 μ _ _ _ h (lv_sub hl [2, 3, 1, 0] rfl) hw
                  · rw [if_neg hc] at hw
                    refine lv_iload_n hx hb dX7_findFrom_61 rfl (lv_at hl 2 rfl) ?_
                    refine lv_iload hx hb dX7_findFrom_62 (lv_at hl 5 rfl) ?_
                    refine lv_ishr hx hb dX7_findFrom_64 ?_
                    refine lv_iconst (v := (1 : Int32)) hx hb dX7_findFrom_65 (by decide) ?_
                    refine lv_iand hx hb dX7_findFrom_66 ?_
                    have s90 : ∀ (x2 : Int32) (x3 : Int32) (x4 : Int32) (x5 : Int32) (t0 : Int32) (μ : vM), ∀ (H : Heap) (locs : List Loc) (ls : Array Slot), bw G s μ H locs → lv_has ls 7 [(0, .ref (ga G 0)), (1, .int a1), (2, .int x2), (3, .int x3), (4, .int x4), (5, .int x5)] → wp_X7_findFrom_90 a1 Q (fun x2 x3 x4 x5 μ => wp_X7_findFrom_54 a1 Q (fun x2 x3 μ => wp_X7_findFrom_42 a1 Q n42 x2 x3 μ) n54 x2 x3 x4 x5 μ) x2 x3 x4 x5 t0 μ → W p l e ({ frames := 0, cells := 0, slots := 0, locals := 0 } : Room) s m ([.ref (ga G 0), .int a1] : List Value).toArray below meth c H locs 0 0 (MQ below (qV G Q) ([.ref (ga G 0), .int a1] : List Value).toArray s 0 0 (gA G)) (F0 m 90 ls [.int t0]) := by
                      intro x2 x3 x4 x5 t0 μ H locs ls h hl hw
                      unfold wp_X7_findFrom_90 at hw
                      refine lv_istore (lv' := [(6, .int t0), (0, .ref (ga G 0)), (1, .int a1), (2, .int x2), (3, .int x3), (4, .int x4), (5, .int x5)]) hx hb dX7_findFrom_90 hl (by decide) rfl (fun ls hl => ?_)
                      refine lv_aload_n hx hb dX7_findFrom_92 rfl (lv_at hl 1 rfl) ?_
                      refine r_getR (q := 8) X h (X7_o h0) rfl uX7 8 (by decide) lf_4_59 rfl dX7_findFrom_93 ?_
                      refine lv_bipush (v := (10 : Int32)) hx hb dX7_findFrom_96 (by decide) ?_
                      refine lv_iload_n hx hb dX7_findFrom_98 rfl (lv_at hl 2 rfl) ?_
                      refine lv_imul hx hb dX7_findFrom_99 ?_
                      refine lv_iload hx hb dX7_findFrom_100 (lv_at hl 6 rfl) ?_
                      refine lv_iadd hx hb dX7_findFrom_102 ?_
                      refine lv_iload hx hb dX7_findFrom_103 (lv_at hl 0 rfl) ?_
                      have s124 : ∀ (x2 : Int32) (x3 : Int32) (x4 : Int32) (x5 : Int32) (x6 : Int32) (t1 : Int32) (t2 : Int32) (μ : vM), ∀ (H : Heap) (locs : List Loc) (ls : Array Slot), bw G s μ H locs → lv_has ls 7 [(0, .ref (ga G 0)), (1, .int a1), (2, .int x2), (3, .int x3), (4, .int x4), (5, .int x5), (6, .int x6)] → wp_X7_findFrom_124 a1 Q (fun x2 x3 x4 x5 μ => wp_X7_findFrom_54 a1 Q (fun x2 x3 μ => wp_X7_findFrom_42 a1 Q n42 x2 x3 μ) n54 x2 x3 x4 x5 μ) x2 x3 x4 x5 x6 t1 t2 μ → W p l e ({ frames := 0, cells := 0, slots := 0, locals := 0 } : Room) s m ([.ref (ga G 0), .int a1] : List Value).toArray below meth c H locs 0 0 (MQ below (qV G Q) ([.ref (ga G 0), .int a1] : List Value).toArray s 0 0 (gA G)) (F0 m 124 ls [.int t2, .int t1, .ref (ga G 8)]) := by
                        intro x2 x3 x4 x5 x6 t1 t2 μ H locs ls h hl hw
                        unfold wp_X7_findFrom_124 at hw
                        obtain ⟨hi, μ124, eμ124, hw⟩ := hw
                        refine r_ast X h (X7_steps h0) hi eμ124 dX7_findFrom_124 (fun H locs h => ?_)
                        refine lv_iload hx hb dX7_findFrom_125 (lv_at hl 4 rfl) ?_
                        refine lv_iload hx hb dX7_findFrom_127 (lv_at hl 6 rfl) ?_
                        have s140 : ∀ (x2 : Int32) (x3 : Int32) (x5 : Int32) (t0 : Int32) (t1 : Int32) (μ : vM), ∀ (H : Heap) (locs : List Loc) (ls : Array Slot), bw G s μ H locs → lv_has ls 7 [(0, .ref (ga G 0)), (1, .int a1), (2, .int x2), (3, .int x3), (5, .int x5)] → wp_X7_findFrom_140 a1 Q (fun x2 x3 x4 x5 μ => wp_X7_findFrom_54 a1 Q (fun x2 x3 μ => wp_X7_findFrom_42 a1 Q n42 x2 x3 μ) n54 x2 x3 x4 x5 μ) x2 x3 x5 t0 t1 μ → W p l e ({ frames := 0, cells := 0, slots := 0, locals := 0 } : Room) s m ([.ref (ga G 0), .int a1] : List Value).toArray below meth c H locs 0 0 (MQ below (qV G Q) ([.ref (ga G 0), .int a1] : List Value).toArray s 0 0 (gA G)) (F0 m 140 ls [.int t1, .int t0]) := by
                          intro x2 x3 x5 t0 t1 μ H locs ls h hl hw
                          unfold wp_X7_findFrom_140 at hw
                          refine lv_ior hx hb dX7_findFrom_140 ?_
                          obtain ⟨x4_141, ex4_141, hw⟩ := hw
                          refine topE ex4_141 ?_
                          refine lv_istore (lv' := [(4, .int x4_141), (0, .ref (ga G 0)), (1, .int a1), (2, .int x2), (3, .int x3), (5, .int x5)]) hx hb dX7_findFrom_141 hl (by decide) rfl (fun ls hl => ?_)
                          obtain ⟨x5_143, ex5_143, hw⟩ := hw
                          refine lv_iinc (v := x5_143) (lv' := [(5, .int x5_143), (4, .int x4_141), (0, .ref (ga G 0)), (1, .int a1), (2, .int x2), (3, .int x3)]) hx hb dX7_findFrom_143 hl (k := 5) rfl (by rw [ex5_143]; rfl) (by decide) rfl (fun ls hl => ?_)
                          refine lv_goto (tgt := 54) hx hb dX7_findFrom_146 (by decide) ?_
                          exact ih54 x2 x3 x4_141 x5_143 μ _ _ _ h (lv_sub hl [2, 3, 4, 5, 1, 0] rfl) hw
                        refine lv_if_eq (tgt := 139) hx hb dX7_findFrom_129 (by decide) (fun hc => ?_) (fun hc => ?_)
                        · rw [if_pos hc] at hw
                          refine lv_iconst (v := (0 : Int32)) hx hb dX7_findFrom_139 (by decide) ?_
                          exact s140 x2 x3 x5 x4 (0 : Int32) μ124 _ _ _ h (lv_sub hl [0, 1, 2, 3, 5] rfl) hw
                        · rw [if_neg hc] at hw
                          refine lv_iconst (v := (1 : Int32)) hx hb dX7_findFrom_132 (by decide) ?_
                          refine lv_iload hx hb dX7_findFrom_133 (lv_at hl 5 rfl) ?_
                          refine lv_ishl hx hb dX7_findFrom_135 ?_
                          refine lv_goto (tgt := 140) hx hb dX7_findFrom_136 (by decide) ?_
                          exact s140 x2 x3 x5 x4 ((1 : Int32) <<< (x5 &&& 31)) μ124 _ _ _ h (lv_sub hl [0, 1, 2, 3, 5] rfl) hw
                      refine lv_if_eq (tgt := 112) hx hb dX7_findFrom_105 (by decide) (fun hc => ?_) (fun hc => ?_)
                      · rw [if_pos hc] at hw
                        refine lv_aload_n hx hb dX7_findFrom_112 rfl (lv_at hl 1 rfl) ?_
                        refine r_getR (q := 8) X h (X7_o h0) rfl uX7 8 (by decide) lf_4_59 rfl dX7_findFrom_113 ?_
                        refine lv_bipush (v := (10 : Int32)) hx hb dX7_findFrom_116 (by decide) ?_
                        refine lv_iload_n hx hb dX7_findFrom_118 rfl (lv_at hl 2 rfl) ?_
                        refine lv_imul hx hb dX7_findFrom_119 ?_
                        refine lv_iload hx hb dX7_findFrom_120 (lv_at hl 6 rfl) ?_
                        refine lv_iadd hx hb dX7_findFrom_122 ?_
                        obtain ⟨hi, hw⟩ := hw
                        refine r_ald X h (X7_steps h0) hi dX7_findFrom_123 ?_
                        exact s124 x2 x3 x4 x5 t0 (((10 : Int32) * a1) + x5) (μ 8 (((10 : Int32) * a1) + x5).toNatClampNeg) μ _ _ _ h (lv_sub hl [1, 2, 3, 4, 5, 6, 0] rfl) hw
                      · rw [if_neg hc] at hw
                        refine lv_iload_n hx hb dX7_findFrom_108 rfl (lv_at hl 4 rfl) ?_
                        refine lv_goto (tgt := 124) hx hb dX7_findFrom_109 (by decide) ?_
                        exact s124 x2 x3 x4 x5 t0 (((10 : Int32) * a1) + x5) x3 μ _ _ _ h (lv_sub hl [1, 2, 3, 4, 5, 6, 0] rfl) hw
                    have s89 : ∀ (x2 : Int32) (x3 : Int32) (x4 : Int32) (x5 : Int32) (μ : vM), ∀ (H : Heap) (locs : List Loc) (ls : Array Slot), bw G s μ H locs → lv_has ls 7 [(0, .ref (ga G 0)), (1, .int a1), (2, .int x2), (3, .int x3), (4, .int x4), (5, .int x5)] → wp_X7_findFrom_89 a1 Q (fun x2 x3 x4 x5 μ => wp_X7_findFrom_54 a1 Q (fun x2 x3 μ => wp_X7_findFrom_42 a1 Q n42 x2 x3 μ) n54 x2 x3 x4 x5 μ) x2 x3 x4 x5 μ → W p l e ({ frames := 0, cells := 0, slots := 0, locals := 0 } : Room) s m ([.ref (ga G 0), .int a1] : List Value).toArray below meth c H locs 0 0 (MQ below (qV G Q) ([.ref (ga G 0), .int a1] : List Value).toArray s 0 0 (gA G)) (F0 m 89 ls []) := by
                      intro x2 x3 x4 x5 μ H locs ls h hl hw
                      unfold wp_X7_findFrom_89 at hw
                      refine lv_iconst (v := (0 : Int32)) hx hb dX7_findFrom_89 (by decide) ?_
                      exact s90 x2 x3 x4 x5 (0 : Int32) μ _ _ _ h (lv_sub hl [0, 1, 2, 3, 4, 5] rfl) hw
                    refine lv_if_ne (tgt := 89) hx hb dX7_findFrom_67 (by decide) (fun hc => ?_) (fun hc => ?_)
                    · rw [if_neg hc] at hw
                      exact s89 x2 x3 x4 x5 μ _ _ _ h (lv_sub hl [0, 1, 2, 3, 4, 5] rfl) hw
                    · rw [if_pos hc] at hw
                      refine lv_aload_n hx hb dX7_findFrom_70 rfl (lv_at hl 0 rfl) ?_
                      refine r_getR (q := 1) X h (X7_o h0) rfl uX7 0 (by decide) lf_4_51 rfl dX7_findFrom_71 ?_
                      refine lv_bipush (v := (9 : Int32)) hx hb dX7_findFrom_74 (by decide) ?_
                      refine lv_iload hx hb dX7_findFrom_76 (lv_at hl 5 rfl) ?_
                      refine lv_iadd hx hb dX7_findFrom_78 ?_
                      obtain ⟨hi, hw⟩ := hw
                      refine r_ald X h (X7_row h0) hi dX7_findFrom_79 ?_
                      refine lv_iload_n hx hb dX7_findFrom_80 rfl (lv_at hl 2 rfl) ?_
                      refine lv_iand hx hb dX7_findFrom_81 ?_
                      refine lv_if_eq (tgt := 89) hx hb dX7_findFrom_82 (by decide) (fun hc => ?_) (fun hc => ?_)
                      · rw [if_pos hc] at hw
                        exact s89 x2 x3 x4 x5 μ _ _ _ h (lv_sub hl [0, 1, 2, 3, 4, 5] rfl) hw
                      · rw [if_neg hc] at hw
                        refine lv_iconst (v := (1 : Int32)) hx hb dX7_findFrom_85 (by decide) ?_
                        refine lv_goto (tgt := 90) hx hb dX7_findFrom_86 (by decide) ?_
                        exact s90 x2 x3 x4 x5 (1 : Int32) μ _ _ _ h (lv_sub hl [0, 1, 2, 3, 4, 5] rfl) hw
              obtain ⟨n, hw⟩ := hw
              exact s54 n x2 x3 x2 (0 : Int32) μ _ _ _ h (lv_sub hl [2, 3, 4, 5, 1, 0] rfl) hw
        obtain ⟨n, hw⟩ := hw
        exact s42 n x2 (1 : Int32) μ _ _ _ h (lv_sub hl [1, 2, 3, 0] rfl) hw
      · rw [if_neg hc] at hw
        refine lv_aload_n hx hb dX7_findFrom_12 rfl (lv_at hl 0 rfl) ?_
        refine r_getR (q := 8) X h (X7_o h0) rfl uX7 8 (by decide) lf_4_59 rfl dX7_findFrom_13 ?_
        refine lv_bipush (v := (10 : Int32)) hx hb dX7_findFrom_16 (by decide) ?_
        refine lv_iload_n hx hb dX7_findFrom_18 rfl (lv_at hl 1 rfl) ?_
        refine lv_imul hx hb dX7_findFrom_19 ?_
        refine lv_iload_n hx hb dX7_findFrom_20 rfl (lv_at hl 3 rfl) ?_
        refine lv_iadd hx hb dX7_findFrom_21 ?_
        refine lv_iload_n hx hb dX7_findFrom_22 rfl (lv_at hl 3 rfl) ?_
        refine lv_iload_n hx hb dX7_findFrom_23 rfl (lv_at hl 1 rfl) ?_
        have s33 : ∀ (x2 : Int32) (x3 : Int32) (t1 : Int32) (t2 : Int32) (μ : vM), ∀ (H : Heap) (locs : List Loc) (ls : Array Slot), bw G s μ H locs → lv_has ls 7 [(0, .ref (ga G 0)), (1, .int a1), (2, .int x2), (3, .int x3)] → wp_X7_findFrom_33 a1 Q (fun x2 x3 μ => wp_X7_findFrom_6 a1 Q n6 x2 x3 μ) x2 x3 t1 t2 μ → W p l e ({ frames := 0, cells := 0, slots := 0, locals := 0 } : Room) s m ([.ref (ga G 0), .int a1] : List Value).toArray below meth c H locs 0 0 (MQ below (qV G Q) ([.ref (ga G 0), .int a1] : List Value).toArray s 0 0 (gA G)) (F0 m 33 ls [.int t2, .int t1, .ref (ga G 8)]) := by
          intro x2 x3 t1 t2 μ H locs ls h hl hw
          unfold wp_X7_findFrom_33 at hw
          obtain ⟨hi, μ33, eμ33, hw⟩ := hw
          refine r_ast X h (X7_steps h0) hi eμ33 dX7_findFrom_33 (fun H locs h => ?_)
          obtain ⟨x3_34, ex3_34, hw⟩ := hw
          refine lv_iinc (v := x3_34) (lv' := [(3, .int x3_34), (0, .ref (ga G 0)), (1, .int a1), (2, .int x2)]) hx hb dX7_findFrom_34 hl (k := 3) rfl (by rw [ex3_34]; rfl) (by decide) rfl (fun ls hl => ?_)
          refine lv_goto (tgt := 6) hx hb dX7_findFrom_37 (by decide) ?_
          exact ih6 x2 x3_34 μ33 _ _ _ h (lv_sub hl [1, 2, 3, 0] rfl) hw
        refine lv_icmp_ne (tgt := 31) hx hb dX7_findFrom_24 (by decide) (fun hc => ?_) (fun hc => ?_)
        · rw [if_neg hc] at hw
          refine lv_bipush (v := (99 : Int32)) hx hb dX7_findFrom_31 (by decide) ?_
          exact s33 x2 x3 (((10 : Int32) * a1) + x3) (99 : Int32) μ _ _ _ h (lv_sub hl [0, 1, 2, 3] rfl) hw
        · rw [if_pos hc] at hw
          refine lv_iconst (v := (0 : Int32)) hx hb dX7_findFrom_27 (by decide) ?_
          refine lv_goto (tgt := 33) hx hb dX7_findFrom_28 (by decide) ?_
          exact s33 x2 x3 (((10 : Int32) * a1) + x3) (0 : Int32) μ _ _ _ h (lv_sub hl [0, 1, 2, 3] rfl) hw
  obtain ⟨n, hw⟩ := hw
  exact s6 n x2_3 (0 : Int32) μ _ _ _ h (lv_sub hl [2, 3, 1, 0] rfl) hw
def wp_X7_farBy_26 (a1 : Int32) (a2 : Int32) (Q : Int32 → vM → Prop)  (μ : vM) : Prop := bz (1 : Int32) ∧ ∃ μ28 : vM, μ28 = st μ 0 9 (1 : Int32) ∧ vp_in (((10 : Int32) * a1) + a2) 100 ∧ Q (μ28 8 (((10 : Int32) * a1) + a2).toNatClampNeg) μ28
def wp_X7_farBy_2 (a1 : Int32) (a2 : Int32) (Q : Int32 → vM → Prop) : Nat → Int32 → vM → Prop
  | 0, _, _ => False
  | n2 + 1, x3, μ => if (10 : Int32) ≤ x3 then wp_X7_farBy_26 a1 a2 Q μ else if (μ 0 9) = 0 then wp_X7_findFrom x3 (fun μ17 => ∃ x3_20 : Int32, x3_20 = x3 + (1 : Int32) ∧ wp_X7_farBy_2 a1 a2 Q n2 x3_20 μ17) μ else wp_X7_farBy_26 a1 a2 Q μ
def wp_X7_farBy (a1 : Int32) (a2 : Int32) (Q : Int32 → vM → Prop) (μ : vM) : Prop := ∃ n2, wp_X7_farBy_2 a1 a2 Q n2 (0 : Int32) μ
set_option maxRecDepth 100000 in
set_option maxHeartbeats 4000000 in
theorem c_X7_farBy (l : Launch) (G : vG) (hG : gO G) (a1 : Int32) (a2 : Int32) (h0 : isX7 G) (Q : Int32 → vM → Prop) (μ : vM) (hw : wp_X7_farBy a1 a2 Q μ) : mt l G yX7_farBy vX7_farBy { frames := 1, cells := 0, slots := 0, locals := 26 } [.ref (ga G 0), .int a1, .int a2] μ (qI G Q) := by
  refine met_of (cc := cX7_farBy) (maxL := 4) (ret := (some .int)) RX7 (by decide) rfl rfl hG (Nat.le_of_ble_eq_true rfl) ?_
  intro p e s m below meth c X h ls hl
  have hl : lv_has ls 4 [(0, .ref (ga G 0)), (1, .int a1), (2, .int a2)] := hl
  have hx := X.1
  have hb := X.2.1
  unfold wp_X7_farBy at hw
  refine lv_iconst (v := (0 : Int32)) hx hb dX7_farBy_0 (by decide) ?_
  refine lv_istore_n (lv' := [(3, .int (0 : Int32)), (0, .ref (ga G 0)), (1, .int a1), (2, .int a2)]) hx hb dX7_farBy_1 rfl hl (by decide) rfl (fun ls hl => ?_)
  have s2 : ∀ (n2 : Nat) (x3 : Int32) (μ : vM), ∀ (H : Heap) (locs : List Loc) (ls : Array Slot), bw G s μ H locs → lv_has ls 4 [(0, .ref (ga G 0)), (1, .int a1), (2, .int a2), (3, .int x3)] → wp_X7_farBy_2 a1 a2 Q n2 x3 μ → W p l e ({ frames := 1, cells := 0, slots := 0, locals := 26 } : Room) s m ([.ref (ga G 0), .int a1, .int a2] : List Value).toArray below meth c H locs 0 0 (MQ below (qI G Q) ([.ref (ga G 0), .int a1, .int a2] : List Value).toArray s 0 0 (gA G)) (F0 m 2 ls []) := by
    intro n2
    induction n2 with
    | zero => intro x3 μ H locs ls h hl hw; exact absurd hw (by unfold wp_X7_farBy_2; exact id)
    | succ n2 ih2 =>
      intro x3 μ H locs ls h hl hw
      unfold wp_X7_farBy_2 at hw
      refine lv_iload_n hx hb dX7_farBy_2 rfl (lv_at hl 3 rfl) ?_
      refine lv_bipush (v := (10 : Int32)) hx hb dX7_farBy_3 (by decide) ?_
      have s26 : ∀  (μ : vM), ∀ (H : Heap) (locs : List Loc) (ls : Array Slot), bw G s μ H locs → lv_has ls 4 [(0, .ref (ga G 0)), (1, .int a1), (2, .int a2)] → wp_X7_farBy_26 a1 a2 Q μ → W p l e ({ frames := 1, cells := 0, slots := 0, locals := 26 } : Room) s m ([.ref (ga G 0), .int a1, .int a2] : List Value).toArray below meth c H locs 0 0 (MQ below (qI G Q) ([.ref (ga G 0), .int a1, .int a2] : List Value).toArray s 0 0 (gA G)) (F0 m 26 ls []) := by
        intro  μ H locs ls h hl hw
        unfold wp_X7_farBy_26 at hw
        refine lv_aload_n hx hb dX7_farBy_26 rfl (lv_at hl 0 rfl) ?_
        refine lv_iconst (v := (1 : Int32)) hx hb dX7_farBy_27 (by decide) ?_
        obtain ⟨hz, hw⟩ := hw
        obtain ⟨μ28, eμ28, hw⟩ := hw
        refine r_putZ X h (X7_o h0) rfl uX7 tyX7 tyX7_ok nmX7 9 (by decide) lf_4_60 rfl rfl rfl  hz eμ28 dX7_farBy_28 (fun H locs h => ?_)
        refine lv_aload_n hx hb dX7_farBy_31 rfl (lv_at hl 0 rfl) ?_
        refine r_getR (q := 8) X h (X7_o h0) rfl uX7 8 (by decide) lf_4_59 rfl dX7_farBy_32 ?_
        refine lv_bipush (v := (10 : Int32)) hx hb dX7_farBy_35 (by decide) ?_
        refine lv_iload_n hx hb dX7_farBy_37 rfl (lv_at hl 1 rfl) ?_
        refine lv_imul hx hb dX7_farBy_38 ?_
        refine lv_iload_n hx hb dX7_farBy_39 rfl (lv_at hl 2 rfl) ?_
        refine lv_iadd hx hb dX7_farBy_40 ?_
        obtain ⟨hi, hw⟩ := hw
        refine r_ald X h (X7_steps h0) hi dX7_farBy_41 ?_
        exact r_iret X h hw dX7_farBy_42
      refine lv_icmp_ge (tgt := 26) hx hb dX7_farBy_5 (by decide) (fun hc => ?_) (fun hc => ?_)
      · rw [if_pos hc] at hw
        exact s26 μ _ _ _ h (lv_sub hl [0, 1, 2] rfl) hw
      · rw [if_neg hc] at hw
        refine lv_aload_n hx hb dX7_farBy_8 rfl (lv_at hl 0 rfl) ?_
        refine r_getI X h (X7_o h0) rfl uX7 9 (by decide) lf_4_60 rfl dX7_farBy_9 ?_
        refine lv_if_ne (tgt := 26) hx hb dX7_farBy_12 (by decide) (fun hc => ?_) (fun hc => ?_)
        · rw [if_neg hc] at hw
          exact s26 μ _ _ _ h (lv_sub hl [0, 1, 2] rfl) hw
        · rw [if_pos hc] at hw
          refine lv_aload_n hx hb dX7_farBy_15 rfl (lv_at hl 0 rfl) ?_
          refine lv_iload_n hx hb dX7_farBy_16 rfl (lv_at hl 3 rfl) ?_
          refine k_v h (n_V (rest := []) (As := [.int x3]) X h hl.1 (c_X7_findFrom l G hG x3 h0 _ _ hw) gk_X7_77 rfl hd_X7_findFrom ⟨rfl, rfl⟩ ⟨Nat.le_of_ble_eq_true rfl, Nat.le_of_ble_eq_true rfl⟩ (X7_o h0) rfl rfl (Nat.le_of_ble_eq_true rfl) dX7_farBy_17 ⟨Nat.zero_le _, Nat.zero_le _⟩) (fun μ17 H locs hw h => ?_)
          obtain ⟨x3_20, ex3_20, hw⟩ := hw
          refine lv_iinc (v := x3_20) (lv' := [(3, .int x3_20), (0, .ref (ga G 0)), (1, .int a1), (2, .int a2)]) hx hb dX7_farBy_20 hl (k := 3) rfl (by rw [ex3_20]; rfl) (by decide) rfl (fun ls hl => ?_)
          refine lv_goto (tgt := 2) hx hb dX7_farBy_23 (by decide) ?_
          exact ih2 x3_20 μ17 _ _ _ h (lv_sub hl [1, 2, 3, 0] rfl) hw
  obtain ⟨n, hw⟩ := hw
  exact s2 n (0 : Int32) μ _ _ _ h (lv_sub hl [1, 2, 3, 0] rfl) hw
def wp_X7_farHome (a1 : Int32) (Q : Int32 → vM → Prop) (μ : vM) : Prop := wp_X7_of a1 (3 : Int32) (fun r4 μ4 => wp_X7_homeOf a1 (fun r9 μ9 => wp_X7_farBy r4 r9 (fun r12 μ12 => Q r12 μ12) μ9) μ4) μ
set_option maxRecDepth 100000 in
set_option maxHeartbeats 4000000 in
theorem c_X7_farHome (l : Launch) (G : vG) (hG : gO G) (a1 : Int32) (h0 : isX7 G) (Q : Int32 → vM → Prop) (μ : vM) (hw : wp_X7_farHome a1 Q μ) : mt l G yX7_farHome vX7_farHome { frames := 2, cells := 0, slots := 0, locals := 49 } [.ref (ga G 0), .int a1] μ (qI G Q) := by
  refine met_of (cc := cX7_farHome) (maxL := 2) (ret := (some .int)) RX7 (by decide) rfl rfl hG (Nat.le_of_ble_eq_true rfl) ?_
  intro p e s m below meth c X h ls hl
  have hl : lv_has ls 2 [(0, .ref (ga G 0)), (1, .int a1)] := hl
  have hx := X.1
  have hb := X.2.1
  unfold wp_X7_farHome at hw
  refine lv_aload_n hx hb dX7_farHome_0 rfl (lv_at hl 0 rfl) ?_
  refine lv_aload_n hx hb dX7_farHome_1 rfl (lv_at hl 0 rfl) ?_
  refine lv_iload_n hx hb dX7_farHome_2 rfl (lv_at hl 1 rfl) ?_
  refine lv_iconst (v := (3 : Int32)) hx hb dX7_farHome_3 (by decide) ?_
  refine k_i h (n_V (rest := [.ref (ga G 0)]) (As := [.int a1, .int (3 : Int32)]) X h hl.1 (c_X7_of l G hG a1 (3 : Int32) h0 _ _ hw) gk_X7_61 rfl hd_X7_of ⟨rfl, rfl⟩ ⟨Nat.le_of_ble_eq_true rfl, Nat.le_of_ble_eq_true rfl⟩ (X7_o h0) rfl rfl (Nat.le_of_ble_eq_true rfl) dX7_farHome_4 ⟨Nat.zero_le _, Nat.zero_le _⟩) (fun r4 μ4 H locs hw h => ?_)
  refine lv_aload_n hx hb dX7_farHome_7 rfl (lv_at hl 0 rfl) ?_
  refine lv_iload_n hx hb dX7_farHome_8 rfl (lv_at hl 1 rfl) ?_
  refine k_i h (n_V (rest := [.int r4, .ref (ga G 0)]) (As := [.int a1]) X h hl.1 (c_X7_homeOf l G hG a1 h0 _ _ hw) gk_X7_65 rfl hd_X7_homeOf ⟨rfl, rfl⟩ ⟨Nat.le_of_ble_eq_true rfl, Nat.le_of_ble_eq_true rfl⟩ (X7_o h0) rfl rfl (Nat.le_of_ble_eq_true rfl) dX7_farHome_9 ⟨Nat.zero_le _, Nat.zero_le _⟩) (fun r9 μ9 H locs hw h => ?_)
  refine k_i h (n_V (rest := []) (As := [.int r4, .int r9]) X h hl.1 (c_X7_farBy l G hG r4 r9 h0 _ _ hw) gk_X7_81 rfl hd_X7_farBy ⟨rfl, rfl⟩ ⟨Nat.le_of_ble_eq_true rfl, Nat.le_of_ble_eq_true rfl⟩ (X7_o h0) rfl rfl (Nat.le_of_ble_eq_true rfl) dX7_farHome_12 ⟨Nat.zero_le _, Nat.zero_le _⟩) (fun r12 μ12 H locs hw h => ?_)
  exact r_iret X h hw dX7_farHome_15
def wp_X7_warmth (a1 : Int32) (Q : Int32 → vM → Prop) (μ : vM) : Prop := wp_X7_farHome a1 (fun r2 μ2 => if r2 = (99 : Int32) then Q (0 : Int32) μ2 else Q ((9 : Int32) - r2) μ2) μ
set_option maxRecDepth 100000 in
set_option maxHeartbeats 4000000 in
theorem c_X7_warmth (l : Launch) (G : vG) (hG : gO G) (a1 : Int32) (h0 : isX7 G) (Q : Int32 → vM → Prop) (μ : vM) (hw : wp_X7_warmth a1 Q μ) : mt l G yX7_warmth vX7_warmth { frames := 3, cells := 0, slots := 0, locals := 70 } [.ref (ga G 0), .int a1] μ (qI G Q) := by
  refine met_of (cc := cX7_warmth) (maxL := 3) (ret := (some .int)) RX7 (by decide) rfl rfl hG (Nat.le_of_ble_eq_true rfl) ?_
  intro p e s m below meth c X h ls hl
  have hl : lv_has ls 3 [(0, .ref (ga G 0)), (1, .int a1)] := hl
  have hx := X.1
  have hb := X.2.1
  unfold wp_X7_warmth at hw
  refine lv_aload_n hx hb dX7_warmth_0 rfl (lv_at hl 0 rfl) ?_
  refine lv_iload_n hx hb dX7_warmth_1 rfl (lv_at hl 1 rfl) ?_
  refine k_i h (n_V (rest := []) (As := [.int a1]) X h hl.1 (c_X7_farHome l G hG a1 h0 _ _ hw) gk_X7_84 rfl hd_X7_farHome ⟨rfl, rfl⟩ ⟨Nat.le_of_ble_eq_true rfl, Nat.le_of_ble_eq_true rfl⟩ (X7_o h0) rfl rfl (Nat.le_of_ble_eq_true rfl) dX7_warmth_2 ⟨Nat.zero_le _, Nat.zero_le _⟩) (fun r2 μ2 H locs hw h => ?_)
  refine lv_istore_n (lv' := [(2, .int r2), (0, .ref (ga G 0)), (1, .int a1)]) hx hb dX7_warmth_5 rfl hl (by decide) rfl (fun ls hl => ?_)
  refine lv_iload_n hx hb dX7_warmth_6 rfl (lv_at hl 0 rfl) ?_
  refine lv_bipush (v := (99 : Int32)) hx hb dX7_warmth_7 (by decide) ?_
  refine lv_icmp_ne (tgt := 16) hx hb dX7_warmth_9 (by decide) (fun hc => ?_) (fun hc => ?_)
  · rw [if_neg hc] at hw
    refine lv_bipush (v := (9 : Int32)) hx hb dX7_warmth_16 (by decide) ?_
    refine lv_iload_n hx hb dX7_warmth_18 rfl (lv_at hl 0 rfl) ?_
    refine lv_isub hx hb dX7_warmth_19 ?_
    exact r_iret X h hw dX7_warmth_20
  · rw [if_pos hc] at hw
    refine lv_iconst (v := (0 : Int32)) hx hb dX7_warmth_12 (by decide) ?_
    refine lv_goto (tgt := 20) hx hb dX7_warmth_13 (by decide) ?_
    exact r_iret X h hw dX7_warmth_20
def wp_X7_isTogether_58 (a1 : Int32) (Q : Int32 → vM → Prop) (k4 : Int32 → Int32 → vM → Prop) (x3 : Int32) (t0 : Int32) (μ : vM) : Prop := ∃ x3_59 : Int32, x3_59 = x3 + (1 : Int32) ∧ k4 t0 x3_59 μ
def wp_X7_isTogether_53 (a1 : Int32) (Q : Int32 → vM → Prop) (k4 : Int32 → Int32 → vM → Prop) (x3 : Int32) (μ : vM) : Prop := wp_X7_isTogether_58 a1 Q k4 x3 (1 : Int32) μ
def wp_X7_isTogether_57 (a1 : Int32) (Q : Int32 → vM → Prop) (k4 : Int32 → Int32 → vM → Prop) (x3 : Int32) (μ : vM) : Prop := wp_X7_isTogether_58 a1 Q k4 x3 (0 : Int32) μ
def wp_X7_isTogether_4 (a1 : Int32) (Q : Int32 → vM → Prop) : Nat → Int32 → Int32 → vM → Prop
  | 0, _, _, _ => False
  | n4 + 1, x2, x3, μ => vp_in (2 : Int32) 385 ∧ if (μ 1 (2 : Int32).toNatClampNeg) ≤ x3 then bz x2 ∧ Q x2 μ else if x2 = 0 then if x3 = a1 then wp_X7_isTogether_57 a1 Q (fun x2 x3 μ => wp_X7_isTogether_4 a1 Q n4 x2 x3 μ) x3 μ else wp_X7_of x3 (2 : Int32) (fun r26 μ26 => wp_X7_of a1 (2 : Int32) (fun r32 μ32 => if r26 = r32 then wp_X7_of x3 (3 : Int32) (fun r41 μ41 => wp_X7_of a1 (3 : Int32) (fun r47 μ47 => if r41 = r47 then wp_X7_isTogether_53 a1 Q (fun x2 x3 μ => wp_X7_isTogether_4 a1 Q n4 x2 x3 μ) x3 μ47 else wp_X7_isTogether_57 a1 Q (fun x2 x3 μ => wp_X7_isTogether_4 a1 Q n4 x2 x3 μ) x3 μ47) μ41) μ32 else wp_X7_isTogether_57 a1 Q (fun x2 x3 μ => wp_X7_isTogether_4 a1 Q n4 x2 x3 μ) x3 μ32) μ26) μ else wp_X7_isTogether_53 a1 Q (fun x2 x3 μ => wp_X7_isTogether_4 a1 Q n4 x2 x3 μ) x3 μ
def wp_X7_isTogether (a1 : Int32) (Q : Int32 → vM → Prop) (μ : vM) : Prop := ∃ n4, wp_X7_isTogether_4 a1 Q n4 (0 : Int32) (0 : Int32) μ
set_option maxRecDepth 100000 in
set_option maxHeartbeats 4000000 in
theorem c_X7_isTogether (l : Launch) (G : vG) (hG : gO G) (a1 : Int32) (h0 : isX7 G) (Q : Int32 → vM → Prop) (μ : vM) (hw : wp_X7_isTogether a1 Q μ) : mt l G yX7_isTogether vX7_isTogether { frames := 1, cells := 0, slots := 0, locals := 22 } [.ref (ga G 0), .int a1] μ (qI G Q) := by
  refine met_of (cc := cX7_isTogether) (maxL := 4) (ret := (some .boolean)) RX7 (by decide) rfl rfl hG (Nat.le_of_ble_eq_true rfl) ?_
  intro p e s m below meth c X h ls hl
  have hl : lv_has ls 4 [(0, .ref (ga G 0)), (1, .int a1)] := hl
  have hx := X.1
  have hb := X.2.1
  unfold wp_X7_isTogether at hw
  refine lv_iconst (v := (0 : Int32)) hx hb dX7_isTogether_0 (by decide) ?_
  refine lv_istore_n (lv' := [(2, .int (0 : Int32)), (0, .ref (ga G 0)), (1, .int a1)]) hx hb dX7_isTogether_1 rfl hl (by decide) rfl (fun ls hl => ?_)
  refine lv_iconst (v := (0 : Int32)) hx hb dX7_isTogether_2 (by decide) ?_
  refine lv_istore_n (lv' := [(3, .int (0 : Int32)), (2, .int (0 : Int32)), (0, .ref (ga G 0)), (1, .int a1)]) hx hb dX7_isTogether_3 rfl hl (by decide) rfl (fun ls hl => ?_)
  have s4 : ∀ (n4 : Nat) (x2 : Int32) (x3 : Int32) (μ : vM), ∀ (H : Heap) (locs : List Loc) (ls : Array Slot), bw G s μ H locs → lv_has ls 4 [(0, .ref (ga G 0)), (1, .int a1), (2, .int x2), (3, .int x3)] → wp_X7_isTogether_4 a1 Q n4 x2 x3 μ → W p l e ({ frames := 1, cells := 0, slots := 0, locals := 22 } : Room) s m ([.ref (ga G 0), .int a1] : List Value).toArray below meth c H locs 0 0 (MQ below (qI G Q) ([.ref (ga G 0), .int a1] : List Value).toArray s 0 0 (gA G)) (F0 m 4 ls []) := by
    intro n4
    induction n4 with
    | zero => intro x2 x3 μ H locs ls h hl hw; exact absurd hw (by unfold wp_X7_isTogether_4; exact id)
    | succ n4 ih4 =>
      intro x2 x3 μ H locs ls h hl hw
      unfold wp_X7_isTogether_4 at hw
      refine lv_iload_n hx hb dX7_isTogether_4 rfl (lv_at hl 3 rfl) ?_
      refine lv_aload_n hx hb dX7_isTogether_5 rfl (lv_at hl 0 rfl) ?_
      refine r_getR (q := 1) X h (X7_o h0) rfl uX7 0 (by decide) lf_4_51 rfl dX7_isTogether_6 ?_
      refine lv_iconst (v := (2 : Int32)) hx hb dX7_isTogether_9 (by decide) ?_
      obtain ⟨hi, hw⟩ := hw
      refine r_ald X h (X7_row h0) hi dX7_isTogether_10 ?_
      refine lv_icmp_ge (tgt := 65) hx hb dX7_isTogether_11 (by decide) (fun hc => ?_) (fun hc => ?_)
      · rw [if_pos hc] at hw
        refine lv_iload_n hx hb dX7_isTogether_65 rfl (lv_at hl 2 rfl) ?_
        exact r_zret X h hw.1 hw.2 dX7_isTogether_66
      · rw [if_neg hc] at hw
        refine lv_iload_n hx hb dX7_isTogether_14 rfl (lv_at hl 2 rfl) ?_
        have s58 : ∀ (x3 : Int32) (t0 : Int32) (μ : vM), ∀ (H : Heap) (locs : List Loc) (ls : Array Slot), bw G s μ H locs → lv_has ls 4 [(0, .ref (ga G 0)), (1, .int a1), (3, .int x3)] → wp_X7_isTogether_58 a1 Q (fun x2 x3 μ => wp_X7_isTogether_4 a1 Q n4 x2 x3 μ) x3 t0 μ → W p l e ({ frames := 1, cells := 0, slots := 0, locals := 22 } : Room) s m ([.ref (ga G 0), .int a1] : List Value).toArray below meth c H locs 0 0 (MQ below (qI G Q) ([.ref (ga G 0), .int a1] : List Value).toArray s 0 0 (gA G)) (F0 m 58 ls [.int t0]) := by
          intro x3 t0 μ H locs ls h hl hw
          unfold wp_X7_isTogether_58 at hw
          refine lv_istore_n (lv' := [(2, .int t0), (0, .ref (ga G 0)), (1, .int a1), (3, .int x3)]) hx hb dX7_isTogether_58 rfl hl (by decide) rfl (fun ls hl => ?_)
          obtain ⟨x3_59, ex3_59, hw⟩ := hw
          refine lv_iinc (v := x3_59) (lv' := [(3, .int x3_59), (2, .int t0), (0, .ref (ga G 0)), (1, .int a1)]) hx hb dX7_isTogether_59 hl (k := 3) rfl (by rw [ex3_59]; rfl) (by decide) rfl (fun ls hl => ?_)
          refine lv_goto (tgt := 4) hx hb dX7_isTogether_62 (by decide) ?_
          exact ih4 t0 x3_59 μ _ _ _ h (lv_sub hl [2, 3, 1, 0] rfl) hw
        have s53 : ∀ (x3 : Int32) (μ : vM), ∀ (H : Heap) (locs : List Loc) (ls : Array Slot), bw G s μ H locs → lv_has ls 4 [(0, .ref (ga G 0)), (1, .int a1), (3, .int x3)] → wp_X7_isTogether_53 a1 Q (fun x2 x3 μ => wp_X7_isTogether_4 a1 Q n4 x2 x3 μ) x3 μ → W p l e ({ frames := 1, cells := 0, slots := 0, locals := 22 } : Room) s m ([.ref (ga G 0), .int a1] : List Value).toArray below meth c H locs 0 0 (MQ below (qI G Q) ([.ref (ga G 0), .int a1] : List Value).toArray s 0 0 (gA G)) (F0 m 53 ls []) := by
          intro x3 μ H locs ls h hl hw
          unfold wp_X7_isTogether_53 at hw
          refine lv_iconst (v := (1 : Int32)) hx hb dX7_isTogether_53 (by decide) ?_
          refine lv_goto (tgt := 58) hx hb dX7_isTogether_54 (by decide) ?_
          exact s58 x3 (1 : Int32) μ _ _ _ h (lv_sub hl [0, 1, 2] rfl) hw
        refine lv_if_ne (tgt := 53) hx hb dX7_isTogether_15 (by decide) (fun hc => ?_) (fun hc => ?_)
        · rw [if_neg hc] at hw
          exact s53 x3 μ _ _ _ h (lv_sub hl [0, 1, 3] rfl) hw
        · rw [if_pos hc] at hw
          refine lv_iload_n hx hb dX7_isTogether_18 rfl (lv_at hl 3 rfl) ?_
          refine lv_iload_n hx hb dX7_isTogether_19 rfl (lv_at hl 1 rfl) ?_
          have s57 : ∀ (x3 : Int32) (μ : vM), ∀ (H : Heap) (locs : List Loc) (ls : Array Slot), bw G s μ H locs → lv_has ls 4 [(0, .ref (ga G 0)), (1, .int a1), (3, .int x3)] → wp_X7_isTogether_57 a1 Q (fun x2 x3 μ => wp_X7_isTogether_4 a1 Q n4 x2 x3 μ) x3 μ → W p l e ({ frames := 1, cells := 0, slots := 0, locals := 22 } : Room) s m ([.ref (ga G 0), .int a1] : List Value).toArray below meth c H locs 0 0 (MQ below (qI G Q) ([.ref (ga G 0), .int a1] : List Value).toArray s 0 0 (gA G)) (F0 m 57 ls []) := by
            intro x3 μ H locs ls h hl hw
            unfold wp_X7_isTogether_57 at hw
            refine lv_iconst (v := (0 : Int32)) hx hb dX7_isTogether_57 (by decide) ?_
            exact s58 x3 (0 : Int32) μ _ _ _ h (lv_sub hl [0, 1, 2] rfl) hw
          refine lv_icmp_eq (tgt := 57) hx hb dX7_isTogether_20 (by decide) (fun hc => ?_) (fun hc => ?_)
          · rw [if_pos hc] at hw
            exact s57 x3 μ _ _ _ h (lv_sub hl [0, 1, 3] rfl) hw
          · rw [if_neg hc] at hw
            refine lv_aload_n hx hb dX7_isTogether_23 rfl (lv_at hl 0 rfl) ?_
            refine lv_iload_n hx hb dX7_isTogether_24 rfl (lv_at hl 3 rfl) ?_
            refine lv_iconst (v := (2 : Int32)) hx hb dX7_isTogether_25 (by decide) ?_
            refine k_i h (n_V (rest := []) (As := [.int x3, .int (2 : Int32)]) X h hl.1 (c_X7_of l G hG x3 (2 : Int32) h0 _ _ hw) gk_X7_61 rfl hd_X7_of ⟨rfl, rfl⟩ ⟨Nat.le_of_ble_eq_true rfl, Nat.le_of_ble_eq_true rfl⟩ (X7_o h0) rfl rfl (Nat.le_of_ble_eq_true rfl) dX7_isTogether_26 ⟨Nat.zero_le _, Nat.zero_le _⟩) (fun r26 μ26 H locs hw h => ?_)
            refine lv_aload_n hx hb dX7_isTogether_29 rfl (lv_at hl 0 rfl) ?_
            refine lv_iload_n hx hb dX7_isTogether_30 rfl (lv_at hl 1 rfl) ?_
            refine lv_iconst (v := (2 : Int32)) hx hb dX7_isTogether_31 (by decide) ?_
            refine k_i h (n_V (rest := [.int r26]) (As := [.int a1, .int (2 : Int32)]) X h hl.1 (c_X7_of l G hG a1 (2 : Int32) h0 _ _ hw) gk_X7_61 rfl hd_X7_of ⟨rfl, rfl⟩ ⟨Nat.le_of_ble_eq_true rfl, Nat.le_of_ble_eq_true rfl⟩ (X7_o h0) rfl rfl (Nat.le_of_ble_eq_true rfl) dX7_isTogether_32 ⟨Nat.zero_le _, Nat.zero_le _⟩) (fun r32 μ32 H locs hw h => ?_)
            refine lv_icmp_ne (tgt := 57) hx hb dX7_isTogether_35 (by decide) (fun hc => ?_) (fun hc => ?_)
            · rw [if_neg hc] at hw
              exact s57 x3 μ32 _ _ _ h (lv_sub hl [0, 1, 3] rfl) hw
            · rw [if_pos hc] at hw
              refine lv_aload_n hx hb dX7_isTogether_38 rfl (lv_at hl 0 rfl) ?_
              refine lv_iload_n hx hb dX7_isTogether_39 rfl (lv_at hl 3 rfl) ?_
              refine lv_iconst (v := (3 : Int32)) hx hb dX7_isTogether_40 (by decide) ?_
              refine k_i h (n_V (rest := []) (As := [.int x3, .int (3 : Int32)]) X h hl.1 (c_X7_of l G hG x3 (3 : Int32) h0 _ _ hw) gk_X7_61 rfl hd_X7_of ⟨rfl, rfl⟩ ⟨Nat.le_of_ble_eq_true rfl, Nat.le_of_ble_eq_true rfl⟩ (X7_o h0) rfl rfl (Nat.le_of_ble_eq_true rfl) dX7_isTogether_41 ⟨Nat.zero_le _, Nat.zero_le _⟩) (fun r41 μ41 H locs hw h => ?_)
              refine lv_aload_n hx hb dX7_isTogether_44 rfl (lv_at hl 0 rfl) ?_
              refine lv_iload_n hx hb dX7_isTogether_45 rfl (lv_at hl 1 rfl) ?_
              refine lv_iconst (v := (3 : Int32)) hx hb dX7_isTogether_46 (by decide) ?_
              refine k_i h (n_V (rest := [.int r41]) (As := [.int a1, .int (3 : Int32)]) X h hl.1 (c_X7_of l G hG a1 (3 : Int32) h0 _ _ hw) gk_X7_61 rfl hd_X7_of ⟨rfl, rfl⟩ ⟨Nat.le_of_ble_eq_true rfl, Nat.le_of_ble_eq_true rfl⟩ (X7_o h0) rfl rfl (Nat.le_of_ble_eq_true rfl) dX7_isTogether_47 ⟨Nat.zero_le _, Nat.zero_le _⟩) (fun r47 μ47 H locs hw h => ?_)
              refine lv_icmp_ne (tgt := 57) hx hb dX7_isTogether_50 (by decide) (fun hc => ?_) (fun hc => ?_)
              · rw [if_neg hc] at hw
                exact s57 x3 μ47 _ _ _ h (lv_sub hl [0, 1, 3] rfl) hw
              · rw [if_pos hc] at hw
                exact s53 x3 μ47 _ _ _ h (lv_sub hl [0, 1, 3] rfl) hw
  obtain ⟨n, hw⟩ := hw
  exact s4 n (0 : Int32) (0 : Int32) μ _ _ _ h (lv_sub hl [2, 3, 1, 0] rfl) hw
def wp_X7_walksBy_111 (a1 : Int32) (Q : Int32 → vM → Prop)  (μ : vM) : Prop := Q (1 : Int32) μ
def wp_X7_walksBy_45 (a1 : Int32) (Q : Int32 → vM → Prop) (x2 : Int32) (x3 : Int32) (t0 : Int32) (μ : vM) : Prop := wp_X7_of a1 (0 : Int32) (fun r50 μ50 => if r50 = (1 : Int32) then Q x3 μ50 else if r50 = (2 : Int32) then Q t0 μ50 else if r50 = (3 : Int32) then if (6 : Int32) < x2 then wp_X7_walksBy_111 a1 Q μ50 else wp_X7_isTogether a1 (fun r105 μ105 => if r105 = 0 then Q (0 : Int32) μ105 else wp_X7_walksBy_111 a1 Q μ105) μ50 else if r50 = (4 : Int32) then vp_in (0 : Int32) 385 ∧ if ((μ50 1 (0 : Int32).toNatClampNeg) % (3 : Int32)) = 0 then Q (x3 + (1 : Int32)) μ50 else Q (x3 + (0 : Int32)) μ50 else if r50 = (5 : Int32) then Q (t0 + (1 : Int32)) μ50 else if r50 = (6 : Int32) then if x2 = (9 : Int32) then Q (1 : Int32) μ50 else Q (0 : Int32) μ50 else Q (1 : Int32) μ50) μ
def wp_X7_walksBy_23 (a1 : Int32) (Q : Int32 → vM → Prop) (x2 : Int32) (t0 : Int32) (μ : vM) : Prop := vp_in (0 : Int32) 385 ∧ wp_X7_walksBy_45 a1 Q x2 t0 (if ((μ 1 (0 : Int32).toNatClampNeg) % (7 : Int32)) = (x2 % (7 : Int32)) then (2 : Int32) else (0 : Int32)) μ
def wp_X7_walksBy (a1 : Int32) (Q : Int32 → vM → Prop) (μ : vM) : Prop := wp_X7_of a1 (1 : Int32) (fun r3 μ3 => vp_in (0 : Int32) 385 ∧ wp_X7_walksBy_23 a1 Q r3 (if ((μ3 1 (0 : Int32).toNatClampNeg) % (2 : Int32)) = 0 then (1 : Int32) else (0 : Int32)) μ3) μ
set_option maxRecDepth 100000 in
set_option maxHeartbeats 4000000 in
theorem c_X7_walksBy (l : Launch) (G : vG) (hG : gO G) (a1 : Int32) (h0 : isX7 G) (Q : Int32 → vM → Prop) (μ : vM) (hw : wp_X7_walksBy a1 Q μ) : mt l G yX7_walksBy vX7_walksBy { frames := 2, cells := 0, slots := 0, locals := 45 } [.ref (ga G 0), .int a1] μ (qI G Q) := by
  refine met_of (cc := cX7_walksBy) (maxL := 5) (ret := (some .int)) RX7 (by decide) rfl rfl hG (Nat.le_of_ble_eq_true rfl) ?_
  intro p e s m below meth c X h ls hl
  have hl : lv_has ls 5 [(0, .ref (ga G 0)), (1, .int a1)] := hl
  have hx := X.1
  have hb := X.2.1
  unfold wp_X7_walksBy at hw
  refine lv_aload_n hx hb dX7_walksBy_0 rfl (lv_at hl 0 rfl) ?_
  refine lv_iload_n hx hb dX7_walksBy_1 rfl (lv_at hl 1 rfl) ?_
  refine lv_iconst (v := (1 : Int32)) hx hb dX7_walksBy_2 (by decide) ?_
  refine k_i h (n_V (rest := []) (As := [.int a1, .int (1 : Int32)]) X h hl.1 (c_X7_of l G hG a1 (1 : Int32) h0 _ _ hw) gk_X7_61 rfl hd_X7_of ⟨rfl, rfl⟩ ⟨Nat.le_of_ble_eq_true rfl, Nat.le_of_ble_eq_true rfl⟩ (X7_o h0) rfl rfl (Nat.le_of_ble_eq_true rfl) dX7_walksBy_3 ⟨Nat.zero_le _, Nat.zero_le _⟩) (fun r3 μ3 H locs hw h => ?_)
  refine lv_istore_n (lv' := [(2, .int r3), (0, .ref (ga G 0)), (1, .int a1)]) hx hb dX7_walksBy_6 rfl hl (by decide) rfl (fun ls hl => ?_)
  refine lv_aload_n hx hb dX7_walksBy_7 rfl (lv_at hl 1 rfl) ?_
  refine r_getR (q := 1) X h (X7_o h0) rfl uX7 0 (by decide) lf_4_51 rfl dX7_walksBy_8 ?_
  refine lv_iconst (v := (0 : Int32)) hx hb dX7_walksBy_11 (by decide) ?_
  obtain ⟨hi, hw⟩ := hw
  refine r_ald X h (X7_row h0) hi dX7_walksBy_12 ?_
  refine lv_iconst (v := (2 : Int32)) hx hb dX7_walksBy_13 (by decide) ?_
  refine r_irem hx hb dX7_walksBy_14 (by decide) ?_
  have s23 : ∀ (x2 : Int32) (t0 : Int32) (μ : vM), ∀ (H : Heap) (locs : List Loc) (ls : Array Slot), bw G s μ H locs → lv_has ls 5 [(0, .ref (ga G 0)), (1, .int a1), (2, .int x2)] → wp_X7_walksBy_23 a1 Q x2 t0 μ → W p l e ({ frames := 2, cells := 0, slots := 0, locals := 45 } : Room) s m ([.ref (ga G 0), .int a1] : List Value).toArray below meth c H locs 0 0 (MQ below (qI G Q) ([.ref (ga G 0), .int a1] : List Value).toArray s 0 0 (gA G)) (F0 m 23 ls [.int t0]) := by
    intro x2 t0 μ H locs ls h hl hw
    unfold wp_X7_walksBy_23 at hw
    refine lv_istore_n (lv' := [(3, .int t0), (0, .ref (ga G 0)), (1, .int a1), (2, .int x2)]) hx hb dX7_walksBy_23 rfl hl (by decide) rfl (fun ls hl => ?_)
    refine lv_aload_n hx hb dX7_walksBy_24 rfl (lv_at hl 1 rfl) ?_
    refine r_getR (q := 1) X h (X7_o h0) rfl uX7 0 (by decide) lf_4_51 rfl dX7_walksBy_25 ?_
    refine lv_iconst (v := (0 : Int32)) hx hb dX7_walksBy_28 (by decide) ?_
    obtain ⟨hi, hw⟩ := hw
    refine r_ald X h (X7_row h0) hi dX7_walksBy_29 ?_
    refine lv_bipush (v := (7 : Int32)) hx hb dX7_walksBy_30 (by decide) ?_
    refine r_irem hx hb dX7_walksBy_32 (by decide) ?_
    refine lv_iload_n hx hb dX7_walksBy_33 rfl (lv_at hl 3 rfl) ?_
    refine lv_bipush (v := (7 : Int32)) hx hb dX7_walksBy_34 (by decide) ?_
    refine r_irem hx hb dX7_walksBy_36 (by decide) ?_
    have s45 : ∀ (x2 : Int32) (x3 : Int32) (t0 : Int32) (μ : vM), ∀ (H : Heap) (locs : List Loc) (ls : Array Slot), bw G s μ H locs → lv_has ls 5 [(0, .ref (ga G 0)), (1, .int a1), (2, .int x2), (3, .int x3)] → wp_X7_walksBy_45 a1 Q x2 x3 t0 μ → W p l e ({ frames := 2, cells := 0, slots := 0, locals := 45 } : Room) s m ([.ref (ga G 0), .int a1] : List Value).toArray below meth c H locs 0 0 (MQ below (qI G Q) ([.ref (ga G 0), .int a1] : List Value).toArray s 0 0 (gA G)) (F0 m 45 ls [.int t0]) := by
      intro x2 x3 t0 μ H locs ls h hl hw
      unfold wp_X7_walksBy_45 at hw
      refine lv_istore (lv' := [(4, .int t0), (0, .ref (ga G 0)), (1, .int a1), (2, .int x2), (3, .int x3)]) hx hb dX7_walksBy_45 hl (by decide) rfl (fun ls hl => ?_)
      refine lv_aload_n hx hb dX7_walksBy_47 rfl (lv_at hl 1 rfl) ?_
      refine lv_iload_n hx hb dX7_walksBy_48 rfl (lv_at hl 2 rfl) ?_
      refine lv_iconst (v := (0 : Int32)) hx hb dX7_walksBy_49 (by decide) ?_
      refine k_i h (n_V (rest := []) (As := [.int a1, .int (0 : Int32)]) X h hl.1 (c_X7_of l G hG a1 (0 : Int32) h0 _ _ hw) gk_X7_61 rfl hd_X7_of ⟨rfl, rfl⟩ ⟨Nat.le_of_ble_eq_true rfl, Nat.le_of_ble_eq_true rfl⟩ (X7_o h0) rfl rfl (Nat.le_of_ble_eq_true rfl) dX7_walksBy_50 ⟨Nat.zero_le _, Nat.zero_le _⟩) (fun r50 μ50 H locs hw h => ?_)
      by_cases hc1 : r50 = (1 : Int32)
      · rw [if_pos hc1] at hw
        refine lv_tableIn (off := 39) (tgt := 92) hx hb dX7_walksBy_53 (by rw [hc1]; decide) (by rw [hc1]; decide) (by rw [hc1]; rfl) (by decide) ?_
        refine lv_iload_n hx hb dX7_walksBy_92 rfl (lv_at hl 4 rfl) ?_
        exact r_iret X h hw dX7_walksBy_93
      · rw [if_neg hc1] at hw
        by_cases hc2 : r50 = (2 : Int32)
        · rw [if_pos hc2] at hw
          refine lv_tableIn (off := 41) (tgt := 94) hx hb dX7_walksBy_53 (by rw [hc2]; decide) (by rw [hc2]; decide) (by rw [hc2]; rfl) (by decide) ?_
          refine lv_iload hx hb dX7_walksBy_94 (lv_at hl 0 rfl) ?_
          exact r_iret X h hw dX7_walksBy_96
        · rw [if_neg hc2] at hw
          by_cases hc3 : r50 = (3 : Int32)
          · rw [if_pos hc3] at hw
            refine lv_tableIn (off := 44) (tgt := 97) hx hb dX7_walksBy_53 (by rw [hc3]; decide) (by rw [hc3]; decide) (by rw [hc3]; rfl) (by decide) ?_
            refine lv_iload_n hx hb dX7_walksBy_97 rfl (lv_at hl 3 rfl) ?_
            refine lv_bipush (v := (6 : Int32)) hx hb dX7_walksBy_98 (by decide) ?_
            have s111 : ∀  (μ : vM), ∀ (H : Heap) (locs : List Loc) (ls : Array Slot), bw G s μ H locs → lv_has ls 5 [] → wp_X7_walksBy_111 a1 Q μ → W p l e ({ frames := 2, cells := 0, slots := 0, locals := 45 } : Room) s m ([.ref (ga G 0), .int a1] : List Value).toArray below meth c H locs 0 0 (MQ below (qI G Q) ([.ref (ga G 0), .int a1] : List Value).toArray s 0 0 (gA G)) (F0 m 111 ls []) := by
              intro  μ H locs ls h hl hw
              unfold wp_X7_walksBy_111 at hw
              refine lv_iconst (v := (1 : Int32)) hx hb dX7_walksBy_111 (by decide) ?_
              refine lv_goto (tgt := 116) hx hb dX7_walksBy_112 (by decide) ?_
              exact r_iret X h hw dX7_walksBy_116
            refine lv_icmp_gt (tgt := 111) hx hb dX7_walksBy_100 (by decide) (fun hc => ?_) (fun hc => ?_)
            · rw [if_pos hc] at hw
              exact s111 μ50 _ _ _ h (lv_sub hl [] rfl) hw
            · rw [if_neg hc] at hw
              refine lv_aload_n hx hb dX7_walksBy_103 rfl (lv_at hl 1 rfl) ?_
              refine lv_iload_n hx hb dX7_walksBy_104 rfl (lv_at hl 2 rfl) ?_
              refine k_i h (n_V (rest := []) (As := [.int a1]) X h hl.1 (c_X7_isTogether l G hG a1 h0 _ _ hw) gk_X7_87 rfl hd_X7_isTogether ⟨rfl, rfl⟩ ⟨Nat.le_of_ble_eq_true rfl, Nat.le_of_ble_eq_true rfl⟩ (X7_o h0) rfl rfl (Nat.le_of_ble_eq_true rfl) dX7_walksBy_105 ⟨Nat.zero_le _, Nat.zero_le _⟩) (fun r105 μ105 H locs hw h => ?_)
              refine lv_if_eq (tgt := 115) hx hb dX7_walksBy_108 (by decide) (fun hc => ?_) (fun hc => ?_)
              · rw [if_pos hc] at hw
                refine lv_iconst (v := (0 : Int32)) hx hb dX7_walksBy_115 (by decide) ?_
                exact r_iret X h hw dX7_walksBy_116
              · rw [if_neg hc] at hw
                exact s111 μ105 _ _ _ h (lv_sub hl [] rfl) hw
          · rw [if_neg hc3] at hw
            by_cases hc4 : r50 = (4 : Int32)
            · rw [if_pos hc4] at hw
              refine lv_tableIn (off := 64) (tgt := 117) hx hb dX7_walksBy_53 (by rw [hc4]; decide) (by rw [hc4]; decide) (by rw [hc4]; rfl) (by decide) ?_
              refine lv_iload_n hx hb dX7_walksBy_117 rfl (lv_at hl 4 rfl) ?_
              refine lv_aload_n hx hb dX7_walksBy_118 rfl (lv_at hl 1 rfl) ?_
              refine r_getR (q := 1) X h (X7_o h0) rfl uX7 0 (by decide) lf_4_51 rfl dX7_walksBy_119 ?_
              refine lv_iconst (v := (0 : Int32)) hx hb dX7_walksBy_122 (by decide) ?_
              obtain ⟨hi, hw⟩ := hw
              refine r_ald X h (X7_row h0) hi dX7_walksBy_123 ?_
              refine lv_iconst (v := (3 : Int32)) hx hb dX7_walksBy_124 (by decide) ?_
              refine r_irem hx hb dX7_walksBy_125 (by decide) ?_
              refine lv_if_ne (tgt := 133) hx hb dX7_walksBy_126 (by decide) (fun hc => ?_) (fun hc => ?_)
              · rw [if_neg hc] at hw
                refine lv_iconst (v := (0 : Int32)) hx hb dX7_walksBy_133 (by decide) ?_
                refine lv_iadd hx hb dX7_walksBy_134 ?_
                exact r_iret X h hw dX7_walksBy_135
              · rw [if_pos hc] at hw
                refine lv_iconst (v := (1 : Int32)) hx hb dX7_walksBy_129 (by decide) ?_
                refine lv_goto (tgt := 134) hx hb dX7_walksBy_130 (by decide) ?_
                refine lv_iadd hx hb dX7_walksBy_134 ?_
                exact r_iret X h hw dX7_walksBy_135
            · rw [if_neg hc4] at hw
              by_cases hc5 : r50 = (5 : Int32)
              · rw [if_pos hc5] at hw
                refine lv_tableIn (off := 83) (tgt := 136) hx hb dX7_walksBy_53 (by rw [hc5]; decide) (by rw [hc5]; decide) (by rw [hc5]; rfl) (by decide) ?_
                refine lv_iload hx hb dX7_walksBy_136 (lv_at hl 0 rfl) ?_
                refine lv_iconst (v := (1 : Int32)) hx hb dX7_walksBy_138 (by decide) ?_
                refine lv_iadd hx hb dX7_walksBy_139 ?_
                exact r_iret X h hw dX7_walksBy_140
              · rw [if_neg hc5] at hw
                by_cases hc6 : r50 = (6 : Int32)
                · rw [if_pos hc6] at hw
                  refine lv_tableIn (off := 88) (tgt := 141) hx hb dX7_walksBy_53 (by rw [hc6]; decide) (by rw [hc6]; decide) (by rw [hc6]; rfl) (by decide) ?_
                  refine lv_iload_n hx hb dX7_walksBy_141 rfl (lv_at hl 3 rfl) ?_
                  refine lv_bipush (v := (9 : Int32)) hx hb dX7_walksBy_142 (by decide) ?_
                  refine lv_icmp_ne (tgt := 151) hx hb dX7_walksBy_144 (by decide) (fun hc => ?_) (fun hc => ?_)
                  · rw [if_neg hc] at hw
                    refine lv_iconst (v := (0 : Int32)) hx hb dX7_walksBy_151 (by decide) ?_
                    exact r_iret X h hw dX7_walksBy_152
                  · rw [if_pos hc] at hw
                    refine lv_iconst (v := (1 : Int32)) hx hb dX7_walksBy_147 (by decide) ?_
                    refine lv_goto (tgt := 152) hx hb dX7_walksBy_148 (by decide) ?_
                    exact r_iret X h hw dX7_walksBy_152
                · rw [if_neg hc6] at hw
                  refine lv_tableOut (tgt := 153) hx hb dX7_walksBy_53 (by have q0 := lv_neT hc1 (a := 1) (by decide); have q1 := lv_neT hc2 (a := 2) (by decide); have q2 := lv_neT hc3 (a := 3) (by decide); have q3 := lv_neT hc4 (a := 4) (by decide); have q4 := lv_neT hc5 (a := 5) (by decide); have q5 := lv_neT hc6 (a := 6) (by decide); omega) (by decide) ?_
                  refine lv_iconst (v := (1 : Int32)) hx hb dX7_walksBy_153 (by decide) ?_
                  exact r_iret X h hw dX7_walksBy_154
    refine lv_icmp_ne (tgt := 44) hx hb dX7_walksBy_37 (by decide) (fun hc => ?_) (fun hc => ?_)
    · rw [if_neg hc] at hw
      refine lv_iconst (v := (0 : Int32)) hx hb dX7_walksBy_44 (by decide) ?_
      exact s45 x2 t0 (0 : Int32) μ _ _ _ h (lv_sub hl [1, 2, 3, 0] rfl) hw
    · rw [if_pos hc] at hw
      refine lv_iconst (v := (2 : Int32)) hx hb dX7_walksBy_40 (by decide) ?_
      refine lv_goto (tgt := 45) hx hb dX7_walksBy_41 (by decide) ?_
      exact s45 x2 t0 (2 : Int32) μ _ _ _ h (lv_sub hl [1, 2, 3, 0] rfl) hw
  refine lv_if_ne (tgt := 22) hx hb dX7_walksBy_15 (by decide) (fun hc => ?_) (fun hc => ?_)
  · rw [if_neg hc] at hw
    refine lv_iconst (v := (0 : Int32)) hx hb dX7_walksBy_22 (by decide) ?_
    exact s23 r3 (0 : Int32) μ3 _ _ _ h (lv_sub hl [1, 2, 0] rfl) hw
  · rw [if_pos hc] at hw
    refine lv_iconst (v := (1 : Int32)) hx hb dX7_walksBy_18 (by decide) ?_
    refine lv_goto (tgt := 23) hx hb dX7_walksBy_19 (by decide) ?_
    exact s23 r3 (1 : Int32) μ3 _ _ _ h (lv_sub hl [1, 2, 0] rfl) hw
def wp_X7_weighsOf_27 (a1 : Int32) (Q : Int32 → vM → Prop) (x2 : Int32) (x3 : Int32) (t0 : Int32) (μ : vM) : Prop := wp_X7_of a1 (0 : Int32) (fun r32 μ32 => if r32 = (1 : Int32) then wp_X7_of a1 (4 : Int32) (fun r76 μ76 => Q (x3 + r76) μ76) μ32 else if r32 = (2 : Int32) then Q t0 μ32 else if r32 = (3 : Int32) then Q (x3 / (2 : Int32)) μ32 else if r32 = (4 : Int32) then wp_X7_of a1 (4 : Int32) (fun r92 μ92 => Q ((x3 + r92) + (5 : Int32)) μ92) μ32 else if r32 = (5 : Int32) then Q (((2 : Int32) * t0) + x2) μ32 else if r32 = (6 : Int32) then Q ((3 : Int32) * x3) μ32 else Q x3 μ32) μ
def wp_X7_weighsOf (a1 : Int32) (Q : Int32 → vM → Prop) (μ : vM) : Prop := wp_X7_of a1 (1 : Int32) (fun r3 μ3 => ∃ x3_11 : Int32, x3_11 = (10 : Int32) + r3 ∧ wp_X7_of a1 (4 : Int32) (fun r15 μ15 => wp_X7_weighsOf_27 a1 Q r3 x3_11 (if r15 ≤ (4 : Int32) then (0 : Int32) else x3_11) μ15) μ3) μ
set_option maxRecDepth 100000 in
set_option maxHeartbeats 4000000 in
theorem c_X7_weighsOf (l : Launch) (G : vG) (hG : gO G) (a1 : Int32) (h0 : isX7 G) (Q : Int32 → vM → Prop) (μ : vM) (hw : wp_X7_weighsOf a1 Q μ) : mt l G yX7_weighsOf vX7_weighsOf { frames := 1, cells := 0, slots := 0, locals := 22 } [.ref (ga G 0), .int a1] μ (qI G Q) := by
  refine met_of (cc := cX7_weighsOf) (maxL := 5) (ret := (some .int)) RX7 (by decide) rfl rfl hG (Nat.le_of_ble_eq_true rfl) ?_
  intro p e s m below meth c X h ls hl
  have hl : lv_has ls 5 [(0, .ref (ga G 0)), (1, .int a1)] := hl
  have hx := X.1
  have hb := X.2.1
  unfold wp_X7_weighsOf at hw
  refine lv_aload_n hx hb dX7_weighsOf_0 rfl (lv_at hl 0 rfl) ?_
  refine lv_iload_n hx hb dX7_weighsOf_1 rfl (lv_at hl 1 rfl) ?_
  refine lv_iconst (v := (1 : Int32)) hx hb dX7_weighsOf_2 (by decide) ?_
  refine k_i h (n_V (rest := []) (As := [.int a1, .int (1 : Int32)]) X h hl.1 (c_X7_of l G hG a1 (1 : Int32) h0 _ _ hw) gk_X7_61 rfl hd_X7_of ⟨rfl, rfl⟩ ⟨Nat.le_of_ble_eq_true rfl, Nat.le_of_ble_eq_true rfl⟩ (X7_o h0) rfl rfl (Nat.le_of_ble_eq_true rfl) dX7_weighsOf_3 ⟨Nat.zero_le _, Nat.zero_le _⟩) (fun r3 μ3 H locs hw h => ?_)
  refine lv_istore_n (lv' := [(2, .int r3), (0, .ref (ga G 0)), (1, .int a1)]) hx hb dX7_weighsOf_6 rfl hl (by decide) rfl (fun ls hl => ?_)
  refine lv_bipush (v := (10 : Int32)) hx hb dX7_weighsOf_7 (by decide) ?_
  refine lv_iload_n hx hb dX7_weighsOf_9 rfl (lv_at hl 0 rfl) ?_
  refine lv_iadd hx hb dX7_weighsOf_10 ?_
  obtain ⟨x3_11, ex3_11, hw⟩ := hw
  refine topE ex3_11 ?_
  refine lv_istore_n (lv' := [(3, .int x3_11), (2, .int r3), (0, .ref (ga G 0)), (1, .int a1)]) hx hb dX7_weighsOf_11 rfl hl (by decide) rfl (fun ls hl => ?_)
  refine lv_aload_n hx hb dX7_weighsOf_12 rfl (lv_at hl 2 rfl) ?_
  refine lv_iload_n hx hb dX7_weighsOf_13 rfl (lv_at hl 3 rfl) ?_
  refine lv_iconst (v := (4 : Int32)) hx hb dX7_weighsOf_14 (by decide) ?_
  refine k_i h (n_V (rest := []) (As := [.int a1, .int (4 : Int32)]) X h hl.1 (c_X7_of l G hG a1 (4 : Int32) h0 _ _ hw) gk_X7_61 rfl hd_X7_of ⟨rfl, rfl⟩ ⟨Nat.le_of_ble_eq_true rfl, Nat.le_of_ble_eq_true rfl⟩ (X7_o h0) rfl rfl (Nat.le_of_ble_eq_true rfl) dX7_weighsOf_15 ⟨Nat.zero_le _, Nat.zero_le _⟩) (fun r15 μ15 H locs hw h => ?_)
  refine lv_iconst (v := (4 : Int32)) hx hb dX7_weighsOf_18 (by decide) ?_
  have s27 : ∀ (x2 : Int32) (x3 : Int32) (t0 : Int32) (μ : vM), ∀ (H : Heap) (locs : List Loc) (ls : Array Slot), bw G s μ H locs → lv_has ls 5 [(0, .ref (ga G 0)), (1, .int a1), (2, .int x2), (3, .int x3)] → wp_X7_weighsOf_27 a1 Q x2 x3 t0 μ → W p l e ({ frames := 1, cells := 0, slots := 0, locals := 22 } : Room) s m ([.ref (ga G 0), .int a1] : List Value).toArray below meth c H locs 0 0 (MQ below (qI G Q) ([.ref (ga G 0), .int a1] : List Value).toArray s 0 0 (gA G)) (F0 m 27 ls [.int t0]) := by
    intro x2 x3 t0 μ H locs ls h hl hw
    unfold wp_X7_weighsOf_27 at hw
    refine lv_istore (lv' := [(4, .int t0), (0, .ref (ga G 0)), (1, .int a1), (2, .int x2), (3, .int x3)]) hx hb dX7_weighsOf_27 hl (by decide) rfl (fun ls hl => ?_)
    refine lv_aload_n hx hb dX7_weighsOf_29 rfl (lv_at hl 1 rfl) ?_
    refine lv_iload_n hx hb dX7_weighsOf_30 rfl (lv_at hl 2 rfl) ?_
    refine lv_iconst (v := (0 : Int32)) hx hb dX7_weighsOf_31 (by decide) ?_
    refine k_i h (n_V (rest := []) (As := [.int a1, .int (0 : Int32)]) X h hl.1 (c_X7_of l G hG a1 (0 : Int32) h0 _ _ hw) gk_X7_61 rfl hd_X7_of ⟨rfl, rfl⟩ ⟨Nat.le_of_ble_eq_true rfl, Nat.le_of_ble_eq_true rfl⟩ (X7_o h0) rfl rfl (Nat.le_of_ble_eq_true rfl) dX7_weighsOf_32 ⟨Nat.zero_le _, Nat.zero_le _⟩) (fun r32 μ32 H locs hw h => ?_)
    by_cases hc1 : r32 = (1 : Int32)
    · rw [if_pos hc1] at hw
      refine lv_tableIn (off := 37) (tgt := 72) hx hb dX7_weighsOf_35 (by rw [hc1]; decide) (by rw [hc1]; decide) (by rw [hc1]; rfl) (by decide) ?_
      refine lv_iload_n hx hb dX7_weighsOf_72 rfl (lv_at hl 4 rfl) ?_
      refine lv_aload_n hx hb dX7_weighsOf_73 rfl (lv_at hl 1 rfl) ?_
      refine lv_iload_n hx hb dX7_weighsOf_74 rfl (lv_at hl 2 rfl) ?_
      refine lv_iconst (v := (4 : Int32)) hx hb dX7_weighsOf_75 (by decide) ?_
      refine k_i h (n_V (rest := [.int x3]) (As := [.int a1, .int (4 : Int32)]) X h hl.1 (c_X7_of l G hG a1 (4 : Int32) h0 _ _ hw) gk_X7_61 rfl hd_X7_of ⟨rfl, rfl⟩ ⟨Nat.le_of_ble_eq_true rfl, Nat.le_of_ble_eq_true rfl⟩ (X7_o h0) rfl rfl (Nat.le_of_ble_eq_true rfl) dX7_weighsOf_76 ⟨Nat.zero_le _, Nat.zero_le _⟩) (fun r76 μ76 H locs hw h => ?_)
      refine lv_iadd hx hb dX7_weighsOf_79 ?_
      exact r_iret X h hw dX7_weighsOf_80
    · rw [if_neg hc1] at hw
      by_cases hc2 : r32 = (2 : Int32)
      · rw [if_pos hc2] at hw
        refine lv_tableIn (off := 46) (tgt := 81) hx hb dX7_weighsOf_35 (by rw [hc2]; decide) (by rw [hc2]; decide) (by rw [hc2]; rfl) (by decide) ?_
        refine lv_iload hx hb dX7_weighsOf_81 (lv_at hl 0 rfl) ?_
        exact r_iret X h hw dX7_weighsOf_83
      · rw [if_neg hc2] at hw
        by_cases hc3 : r32 = (3 : Int32)
        · rw [if_pos hc3] at hw
          refine lv_tableIn (off := 49) (tgt := 84) hx hb dX7_weighsOf_35 (by rw [hc3]; decide) (by rw [hc3]; decide) (by rw [hc3]; rfl) (by decide) ?_
          refine lv_iload_n hx hb dX7_weighsOf_84 rfl (lv_at hl 4 rfl) ?_
          refine lv_iconst (v := (2 : Int32)) hx hb dX7_weighsOf_85 (by decide) ?_
          refine lv_idiv hx hb dX7_weighsOf_86 (by decide) ?_
          exact r_iret X h hw dX7_weighsOf_87
        · rw [if_neg hc3] at hw
          by_cases hc4 : r32 = (4 : Int32)
          · rw [if_pos hc4] at hw
            refine lv_tableIn (off := 53) (tgt := 88) hx hb dX7_weighsOf_35 (by rw [hc4]; decide) (by rw [hc4]; decide) (by rw [hc4]; rfl) (by decide) ?_
            refine lv_iload_n hx hb dX7_weighsOf_88 rfl (lv_at hl 4 rfl) ?_
            refine lv_aload_n hx hb dX7_weighsOf_89 rfl (lv_at hl 1 rfl) ?_
            refine lv_iload_n hx hb dX7_weighsOf_90 rfl (lv_at hl 2 rfl) ?_
            refine lv_iconst (v := (4 : Int32)) hx hb dX7_weighsOf_91 (by decide) ?_
            refine k_i h (n_V (rest := [.int x3]) (As := [.int a1, .int (4 : Int32)]) X h hl.1 (c_X7_of l G hG a1 (4 : Int32) h0 _ _ hw) gk_X7_61 rfl hd_X7_of ⟨rfl, rfl⟩ ⟨Nat.le_of_ble_eq_true rfl, Nat.le_of_ble_eq_true rfl⟩ (X7_o h0) rfl rfl (Nat.le_of_ble_eq_true rfl) dX7_weighsOf_92 ⟨Nat.zero_le _, Nat.zero_le _⟩) (fun r92 μ92 H locs hw h => ?_)
            refine lv_iadd hx hb dX7_weighsOf_95 ?_
            refine lv_iconst (v := (5 : Int32)) hx hb dX7_weighsOf_96 (by decide) ?_
            refine lv_iadd hx hb dX7_weighsOf_97 ?_
            exact r_iret X h hw dX7_weighsOf_98
          · rw [if_neg hc4] at hw
            by_cases hc5 : r32 = (5 : Int32)
            · rw [if_pos hc5] at hw
              refine lv_tableIn (off := 64) (tgt := 99) hx hb dX7_weighsOf_35 (by rw [hc5]; decide) (by rw [hc5]; decide) (by rw [hc5]; rfl) (by decide) ?_
              refine lv_iconst (v := (2 : Int32)) hx hb dX7_weighsOf_99 (by decide) ?_
              refine lv_iload hx hb dX7_weighsOf_100 (lv_at hl 0 rfl) ?_
              refine lv_imul hx hb dX7_weighsOf_102 ?_
              refine lv_iload_n hx hb dX7_weighsOf_103 rfl (lv_at hl 3 rfl) ?_
              refine lv_iadd hx hb dX7_weighsOf_104 ?_
              exact r_iret X h hw dX7_weighsOf_105
            · rw [if_neg hc5] at hw
              by_cases hc6 : r32 = (6 : Int32)
              · rw [if_pos hc6] at hw
                refine lv_tableIn (off := 71) (tgt := 106) hx hb dX7_weighsOf_35 (by rw [hc6]; decide) (by rw [hc6]; decide) (by rw [hc6]; rfl) (by decide) ?_
                refine lv_iconst (v := (3 : Int32)) hx hb dX7_weighsOf_106 (by decide) ?_
                refine lv_iload_n hx hb dX7_weighsOf_107 rfl (lv_at hl 4 rfl) ?_
                refine lv_imul hx hb dX7_weighsOf_108 ?_
                exact r_iret X h hw dX7_weighsOf_109
              · rw [if_neg hc6] at hw
                refine lv_tableOut (tgt := 110) hx hb dX7_weighsOf_35 (by have q0 := lv_neT hc1 (a := 1) (by decide); have q1 := lv_neT hc2 (a := 2) (by decide); have q2 := lv_neT hc3 (a := 3) (by decide); have q3 := lv_neT hc4 (a := 4) (by decide); have q4 := lv_neT hc5 (a := 5) (by decide); have q5 := lv_neT hc6 (a := 6) (by decide); omega) (by decide) ?_
                refine lv_iload_n hx hb dX7_weighsOf_110 rfl (lv_at hl 4 rfl) ?_
                exact r_iret X h hw dX7_weighsOf_111
  refine lv_icmp_le (tgt := 26) hx hb dX7_weighsOf_19 (by decide) (fun hc => ?_) (fun hc => ?_)
  · rw [if_pos hc] at hw
    refine lv_iconst (v := (0 : Int32)) hx hb dX7_weighsOf_26 (by decide) ?_
    exact s27 r3 x3_11 (0 : Int32) μ15 _ _ _ h (lv_sub hl [2, 3, 1, 0] rfl) hw
  · rw [if_neg hc] at hw
    refine lv_iload_n hx hb dX7_weighsOf_22 rfl (lv_at hl 0 rfl) ?_
    refine lv_goto (tgt := 27) hx hb dX7_weighsOf_23 (by decide) ?_
    exact s27 r3 x3_11 x3_11 μ15 _ _ _ h (lv_sub hl [2, 3, 1, 0] rfl) hw
def wp_X7_twoOf_201 (a0 : Int32) (a1 : Int32) (a2 : Int32) (Q : Int32 → vM → Prop)  (μ : vM) : Prop := Q (0 : Int32) μ
def wp_X7_twoOf_211 (a0 : Int32) (a1 : Int32) (a2 : Int32) (Q : Int32 → vM → Prop)  (μ : vM) : Prop := Q (1 : Int32) μ
def wp_X7_twoOf (a0 : Int32) (a1 : Int32) (a2 : Int32) (Q : Int32 → vM → Prop) (μ : vM) : Prop := if a0 = (37 : Int32) then if a2 = 0 then Q (0 : Int32) μ else ¬ a2 = 0 ∧ Q (a1 % a2) μ else if a0 = (38 : Int32) then if a1 = 0 then wp_X7_twoOf_201 a0 a1 a2 Q μ else if a2 = 0 then wp_X7_twoOf_201 a0 a1 a2 Q μ else Q (1 : Int32) μ else if a0 = (42 : Int32) then Q (a1 * a2) μ else if a0 = (43 : Int32) then Q (a1 + a2) μ else if a0 = (45 : Int32) then Q (a1 - a2) μ else if a0 = (47 : Int32) then if a2 = 0 then Q (0 : Int32) μ else ¬ a2 = 0 ∧ Q (a1 / a2) μ else if a0 = (60 : Int32) then if a2 ≤ a1 then Q (0 : Int32) μ else Q (1 : Int32) μ else if a0 = (61 : Int32) then if a1 = a2 then Q (1 : Int32) μ else Q (0 : Int32) μ else if a0 = (62 : Int32) then if a1 ≤ a2 then Q (0 : Int32) μ else Q (1 : Int32) μ else if a1 = 0 then if a2 = 0 then Q (0 : Int32) μ else wp_X7_twoOf_211 a0 a1 a2 Q μ else wp_X7_twoOf_211 a0 a1 a2 Q μ
set_option maxRecDepth 100000 in
set_option maxHeartbeats 4000000 in
theorem c_X7_twoOf (l : Launch) (G : vG) (hG : gO G) (a0 : Int32) (a1 : Int32) (a2 : Int32)  (Q : Int32 → vM → Prop) (μ : vM) (hw : wp_X7_twoOf a0 a1 a2 Q μ) : mt l G yX7_twoOf vX7_twoOf { frames := 0, cells := 0, slots := 0, locals := 0 } [.int a0, .int a1, .int a2] μ (qI G Q) := by
  refine met_of (cc := cX7_twoOf) (maxL := 3) (ret := (some .int)) RX7 (by decide) rfl rfl hG (Nat.le_of_ble_eq_true rfl) ?_
  intro p e s m below meth c X h ls hl
  have hl : lv_has ls 3 [(0, .int a0), (1, .int a1), (2, .int a2)] := hl
  have hx := X.1
  have hb := X.2.1
  unfold wp_X7_twoOf at hw
  refine lv_iload_n hx hb dX7_twoOf_0 rfl (lv_at hl 0 rfl) ?_
  by_cases hc37 : a0 = (37 : Int32)
  · rw [if_pos hc37] at hw
    refine lv_tableIn (off := 143) (tgt := 144) hx hb dX7_twoOf_1 (by rw [hc37]; decide) (by rw [hc37]; decide) (by rw [hc37]; rfl) (by decide) ?_
    refine lv_iload_n hx hb dX7_twoOf_144 rfl (lv_at hl 2 rfl) ?_
    refine lv_if_ne (tgt := 152) hx hb dX7_twoOf_145 (by decide) (fun hc => ?_) (fun hc => ?_)
    · rw [if_neg hc] at hw
      refine lv_iload_n hx hb dX7_twoOf_152 rfl (lv_at hl 1 rfl) ?_
      refine lv_iload_n hx hb dX7_twoOf_153 rfl (lv_at hl 2 rfl) ?_
      obtain ⟨hne, hw⟩ := hw
      refine r_irem hx hb dX7_twoOf_154 hne ?_
      exact r_iret X h hw dX7_twoOf_155
    · rw [if_pos hc] at hw
      refine lv_iconst (v := (0 : Int32)) hx hb dX7_twoOf_148 (by decide) ?_
      refine lv_goto (tgt := 155) hx hb dX7_twoOf_149 (by decide) ?_
      exact r_iret X h hw dX7_twoOf_155
  · rw [if_neg hc37] at hw
    by_cases hc38 : a0 = (38 : Int32)
    · rw [if_pos hc38] at hw
      refine lv_tableIn (off := 188) (tgt := 189) hx hb dX7_twoOf_1 (by rw [hc38]; decide) (by rw [hc38]; decide) (by rw [hc38]; rfl) (by decide) ?_
      refine lv_iload_n hx hb dX7_twoOf_189 rfl (lv_at hl 1 rfl) ?_
      have s201 : ∀  (μ : vM), ∀ (H : Heap) (locs : List Loc) (ls : Array Slot), bw G s μ H locs → lv_has ls 3 [] → wp_X7_twoOf_201 a0 a1 a2 Q μ → W p l e ({ frames := 0, cells := 0, slots := 0, locals := 0 } : Room) s m ([.int a0, .int a1, .int a2] : List Value).toArray below meth c H locs 0 0 (MQ below (qI G Q) ([.int a0, .int a1, .int a2] : List Value).toArray s 0 0 (gA G)) (F0 m 201 ls []) := by
        intro  μ H locs ls h hl hw
        unfold wp_X7_twoOf_201 at hw
        refine lv_iconst (v := (0 : Int32)) hx hb dX7_twoOf_201 (by decide) ?_
        exact r_iret X h hw dX7_twoOf_202
      refine lv_if_eq (tgt := 201) hx hb dX7_twoOf_190 (by decide) (fun hc => ?_) (fun hc => ?_)
      · rw [if_pos hc] at hw
        exact s201 μ _ _ _ h (lv_sub hl [] rfl) hw
      · rw [if_neg hc] at hw
        refine lv_iload_n hx hb dX7_twoOf_193 rfl (lv_at hl 2 rfl) ?_
        refine lv_if_eq (tgt := 201) hx hb dX7_twoOf_194 (by decide) (fun hc => ?_) (fun hc => ?_)
        · rw [if_pos hc] at hw
          exact s201 μ _ _ _ h (lv_sub hl [] rfl) hw
        · rw [if_neg hc] at hw
          refine lv_iconst (v := (1 : Int32)) hx hb dX7_twoOf_197 (by decide) ?_
          refine lv_goto (tgt := 202) hx hb dX7_twoOf_198 (by decide) ?_
          exact r_iret X h hw dX7_twoOf_202
    · rw [if_neg hc38] at hw
      by_cases hc42 : a0 = (42 : Int32)
      · rw [if_pos hc42] at hw
        refine lv_tableIn (off := 127) (tgt := 128) hx hb dX7_twoOf_1 (by rw [hc42]; decide) (by rw [hc42]; decide) (by rw [hc42]; rfl) (by decide) ?_
        refine lv_iload_n hx hb dX7_twoOf_128 rfl (lv_at hl 1 rfl) ?_
        refine lv_iload_n hx hb dX7_twoOf_129 rfl (lv_at hl 2 rfl) ?_
        refine lv_imul hx hb dX7_twoOf_130 ?_
        exact r_iret X h hw dX7_twoOf_131
      · rw [if_neg hc42] at hw
        by_cases hc43 : a0 = (43 : Int32)
        · rw [if_pos hc43] at hw
          refine lv_tableIn (off := 119) (tgt := 120) hx hb dX7_twoOf_1 (by rw [hc43]; decide) (by rw [hc43]; decide) (by rw [hc43]; rfl) (by decide) ?_
          refine lv_iload_n hx hb dX7_twoOf_120 rfl (lv_at hl 1 rfl) ?_
          refine lv_iload_n hx hb dX7_twoOf_121 rfl (lv_at hl 2 rfl) ?_
          refine lv_iadd hx hb dX7_twoOf_122 ?_
          exact r_iret X h hw dX7_twoOf_123
        · rw [if_neg hc43] at hw
          by_cases hc45 : a0 = (45 : Int32)
          · rw [if_pos hc45] at hw
            refine lv_tableIn (off := 123) (tgt := 124) hx hb dX7_twoOf_1 (by rw [hc45]; decide) (by rw [hc45]; decide) (by rw [hc45]; rfl) (by decide) ?_
            refine lv_iload_n hx hb dX7_twoOf_124 rfl (lv_at hl 1 rfl) ?_
            refine lv_iload_n hx hb dX7_twoOf_125 rfl (lv_at hl 2 rfl) ?_
            refine lv_isub hx hb dX7_twoOf_126 ?_
            exact r_iret X h hw dX7_twoOf_127
          · rw [if_neg hc45] at hw
            by_cases hc47 : a0 = (47 : Int32)
            · rw [if_pos hc47] at hw
              refine lv_tableIn (off := 131) (tgt := 132) hx hb dX7_twoOf_1 (by rw [hc47]; decide) (by rw [hc47]; decide) (by rw [hc47]; rfl) (by decide) ?_
              refine lv_iload_n hx hb dX7_twoOf_132 rfl (lv_at hl 2 rfl) ?_
              refine lv_if_ne (tgt := 140) hx hb dX7_twoOf_133 (by decide) (fun hc => ?_) (fun hc => ?_)
              · rw [if_neg hc] at hw
                refine lv_iload_n hx hb dX7_twoOf_140 rfl (lv_at hl 1 rfl) ?_
                refine lv_iload_n hx hb dX7_twoOf_141 rfl (lv_at hl 2 rfl) ?_
                obtain ⟨hne, hw⟩ := hw
                refine lv_idiv hx hb dX7_twoOf_142 hne ?_
                exact r_iret X h hw dX7_twoOf_143
              · rw [if_pos hc] at hw
                refine lv_iconst (v := (0 : Int32)) hx hb dX7_twoOf_136 (by decide) ?_
                refine lv_goto (tgt := 143) hx hb dX7_twoOf_137 (by decide) ?_
                exact r_iret X h hw dX7_twoOf_143
            · rw [if_neg hc47] at hw
              by_cases hc60 : a0 = (60 : Int32)
              · rw [if_pos hc60] at hw
                refine lv_tableIn (off := 155) (tgt := 156) hx hb dX7_twoOf_1 (by rw [hc60]; decide) (by rw [hc60]; decide) (by rw [hc60]; rfl) (by decide) ?_
                refine lv_iload_n hx hb dX7_twoOf_156 rfl (lv_at hl 1 rfl) ?_
                refine lv_iload_n hx hb dX7_twoOf_157 rfl (lv_at hl 2 rfl) ?_
                refine lv_icmp_ge (tgt := 165) hx hb dX7_twoOf_158 (by decide) (fun hc => ?_) (fun hc => ?_)
                · rw [if_pos hc] at hw
                  refine lv_iconst (v := (0 : Int32)) hx hb dX7_twoOf_165 (by decide) ?_
                  exact r_iret X h hw dX7_twoOf_166
                · rw [if_neg hc] at hw
                  refine lv_iconst (v := (1 : Int32)) hx hb dX7_twoOf_161 (by decide) ?_
                  refine lv_goto (tgt := 166) hx hb dX7_twoOf_162 (by decide) ?_
                  exact r_iret X h hw dX7_twoOf_166
              · rw [if_neg hc60] at hw
                by_cases hc61 : a0 = (61 : Int32)
                · rw [if_pos hc61] at hw
                  refine lv_tableIn (off := 166) (tgt := 167) hx hb dX7_twoOf_1 (by rw [hc61]; decide) (by rw [hc61]; decide) (by rw [hc61]; rfl) (by decide) ?_
                  refine lv_iload_n hx hb dX7_twoOf_167 rfl (lv_at hl 1 rfl) ?_
                  refine lv_iload_n hx hb dX7_twoOf_168 rfl (lv_at hl 2 rfl) ?_
                  refine lv_icmp_ne (tgt := 176) hx hb dX7_twoOf_169 (by decide) (fun hc => ?_) (fun hc => ?_)
                  · rw [if_neg hc] at hw
                    refine lv_iconst (v := (0 : Int32)) hx hb dX7_twoOf_176 (by decide) ?_
                    exact r_iret X h hw dX7_twoOf_177
                  · rw [if_pos hc] at hw
                    refine lv_iconst (v := (1 : Int32)) hx hb dX7_twoOf_172 (by decide) ?_
                    refine lv_goto (tgt := 177) hx hb dX7_twoOf_173 (by decide) ?_
                    exact r_iret X h hw dX7_twoOf_177
                · rw [if_neg hc61] at hw
                  by_cases hc62 : a0 = (62 : Int32)
                  · rw [if_pos hc62] at hw
                    refine lv_tableIn (off := 177) (tgt := 178) hx hb dX7_twoOf_1 (by rw [hc62]; decide) (by rw [hc62]; decide) (by rw [hc62]; rfl) (by decide) ?_
                    refine lv_iload_n hx hb dX7_twoOf_178 rfl (lv_at hl 1 rfl) ?_
                    refine lv_iload_n hx hb dX7_twoOf_179 rfl (lv_at hl 2 rfl) ?_
                    refine lv_icmp_le (tgt := 187) hx hb dX7_twoOf_180 (by decide) (fun hc => ?_) (fun hc => ?_)
                    · rw [if_pos hc] at hw
                      refine lv_iconst (v := (0 : Int32)) hx hb dX7_twoOf_187 (by decide) ?_
                      exact r_iret X h hw dX7_twoOf_188
                    · rw [if_neg hc] at hw
                      refine lv_iconst (v := (1 : Int32)) hx hb dX7_twoOf_183 (by decide) ?_
                      refine lv_goto (tgt := 188) hx hb dX7_twoOf_184 (by decide) ?_
                      exact r_iret X h hw dX7_twoOf_188
                  · rw [if_neg hc62] at hw
                    by_cases hc39 : a0 = (39 : Int32)
                    · refine lv_tableIn (off := 202) (tgt := 203) hx hb dX7_twoOf_1 (by rw [hc39]; decide) (by rw [hc39]; decide) (by rw [hc39]; rfl) (by decide) ?_
                      refine lv_iload_n hx hb dX7_twoOf_203 rfl (lv_at hl 1 rfl) ?_
                      have s211 : ∀  (μ : vM), ∀ (H : Heap) (locs : List Loc) (ls : Array Slot), bw G s μ H locs → lv_has ls 3 [] → wp_X7_twoOf_211 a0 a1 a2 Q μ → W p l e ({ frames := 0, cells := 0, slots := 0, locals := 0 } : Room) s m ([.int a0, .int a1, .int a2] : List Value).toArray below meth c H locs 0 0 (MQ below (qI G Q) ([.int a0, .int a1, .int a2] : List Value).toArray s 0 0 (gA G)) (F0 m 211 ls []) := by
                        intro  μ H locs ls h hl hw
                        unfold wp_X7_twoOf_211 at hw
                        refine lv_iconst (v := (1 : Int32)) hx hb dX7_twoOf_211 (by decide) ?_
                        refine lv_goto (tgt := 216) hx hb dX7_twoOf_212 (by decide) ?_
                        exact r_iret X h hw dX7_twoOf_216
                      refine lv_if_ne (tgt := 211) hx hb dX7_twoOf_204 (by decide) (fun hc => ?_) (fun hc => ?_)
                      · rw [if_neg hc] at hw
                        exact s211 μ _ _ _ h (lv_sub hl [] rfl) hw
                      · rw [if_pos hc] at hw
                        refine lv_iload_n hx hb dX7_twoOf_207 rfl (lv_at hl 2 rfl) ?_
                        refine lv_if_eq (tgt := 215) hx hb dX7_twoOf_208 (by decide) (fun hc => ?_) (fun hc => ?_)
                        · rw [if_pos hc] at hw
                          refine lv_iconst (v := (0 : Int32)) hx hb dX7_twoOf_215 (by decide) ?_
                          exact r_iret X h hw dX7_twoOf_216
                        · rw [if_neg hc] at hw
                          exact s211 μ _ _ _ h (lv_sub hl [] rfl) hw
                    · skip
                      by_cases hc40 : a0 = (40 : Int32)
                      · refine lv_tableIn (off := 202) (tgt := 203) hx hb dX7_twoOf_1 (by rw [hc40]; decide) (by rw [hc40]; decide) (by rw [hc40]; rfl) (by decide) ?_
                        refine lv_iload_n hx hb dX7_twoOf_203 rfl (lv_at hl 1 rfl) ?_
                        have s211 : ∀  (μ : vM), ∀ (H : Heap) (locs : List Loc) (ls : Array Slot), bw G s μ H locs → lv_has ls 3 [] → wp_X7_twoOf_211 a0 a1 a2 Q μ → W p l e ({ frames := 0, cells := 0, slots := 0, locals := 0 } : Room) s m ([.int a0, .int a1, .int a2] : List Value).toArray below meth c H locs 0 0 (MQ below (qI G Q) ([.int a0, .int a1, .int a2] : List Value).toArray s 0 0 (gA G)) (F0 m 211 ls []) := by
                          intro  μ H locs ls h hl hw
                          unfold wp_X7_twoOf_211 at hw
                          refine lv_iconst (v := (1 : Int32)) hx hb dX7_twoOf_211 (by decide) ?_
                          refine lv_goto (tgt := 216) hx hb dX7_twoOf_212 (by decide) ?_
                          exact r_iret X h hw dX7_twoOf_216
                        refine lv_if_ne (tgt := 211) hx hb dX7_twoOf_204 (by decide) (fun hc => ?_) (fun hc => ?_)
                        · rw [if_neg hc] at hw
                          exact s211 μ _ _ _ h (lv_sub hl [] rfl) hw
                        · rw [if_pos hc] at hw
                          refine lv_iload_n hx hb dX7_twoOf_207 rfl (lv_at hl 2 rfl) ?_
                          refine lv_if_eq (tgt := 215) hx hb dX7_twoOf_208 (by decide) (fun hc => ?_) (fun hc => ?_)
                          · rw [if_pos hc] at hw
                            refine lv_iconst (v := (0 : Int32)) hx hb dX7_twoOf_215 (by decide) ?_
                            exact r_iret X h hw dX7_twoOf_216
                          · rw [if_neg hc] at hw
                            exact s211 μ _ _ _ h (lv_sub hl [] rfl) hw
                      · skip
                        by_cases hc41 : a0 = (41 : Int32)
                        · refine lv_tableIn (off := 202) (tgt := 203) hx hb dX7_twoOf_1 (by rw [hc41]; decide) (by rw [hc41]; decide) (by rw [hc41]; rfl) (by decide) ?_
                          refine lv_iload_n hx hb dX7_twoOf_203 rfl (lv_at hl 1 rfl) ?_
                          have s211 : ∀  (μ : vM), ∀ (H : Heap) (locs : List Loc) (ls : Array Slot), bw G s μ H locs → lv_has ls 3 [] → wp_X7_twoOf_211 a0 a1 a2 Q μ → W p l e ({ frames := 0, cells := 0, slots := 0, locals := 0 } : Room) s m ([.int a0, .int a1, .int a2] : List Value).toArray below meth c H locs 0 0 (MQ below (qI G Q) ([.int a0, .int a1, .int a2] : List Value).toArray s 0 0 (gA G)) (F0 m 211 ls []) := by
                            intro  μ H locs ls h hl hw
                            unfold wp_X7_twoOf_211 at hw
                            refine lv_iconst (v := (1 : Int32)) hx hb dX7_twoOf_211 (by decide) ?_
                            refine lv_goto (tgt := 216) hx hb dX7_twoOf_212 (by decide) ?_
                            exact r_iret X h hw dX7_twoOf_216
                          refine lv_if_ne (tgt := 211) hx hb dX7_twoOf_204 (by decide) (fun hc => ?_) (fun hc => ?_)
                          · rw [if_neg hc] at hw
                            exact s211 μ _ _ _ h (lv_sub hl [] rfl) hw
                          · rw [if_pos hc] at hw
                            refine lv_iload_n hx hb dX7_twoOf_207 rfl (lv_at hl 2 rfl) ?_
                            refine lv_if_eq (tgt := 215) hx hb dX7_twoOf_208 (by decide) (fun hc => ?_) (fun hc => ?_)
                            · rw [if_pos hc] at hw
                              refine lv_iconst (v := (0 : Int32)) hx hb dX7_twoOf_215 (by decide) ?_
                              exact r_iret X h hw dX7_twoOf_216
                            · rw [if_neg hc] at hw
                              exact s211 μ _ _ _ h (lv_sub hl [] rfl) hw
                        · skip
                          by_cases hc44 : a0 = (44 : Int32)
                          · refine lv_tableIn (off := 202) (tgt := 203) hx hb dX7_twoOf_1 (by rw [hc44]; decide) (by rw [hc44]; decide) (by rw [hc44]; rfl) (by decide) ?_
                            refine lv_iload_n hx hb dX7_twoOf_203 rfl (lv_at hl 1 rfl) ?_
                            have s211 : ∀  (μ : vM), ∀ (H : Heap) (locs : List Loc) (ls : Array Slot), bw G s μ H locs → lv_has ls 3 [] → wp_X7_twoOf_211 a0 a1 a2 Q μ → W p l e ({ frames := 0, cells := 0, slots := 0, locals := 0 } : Room) s m ([.int a0, .int a1, .int a2] : List Value).toArray below meth c H locs 0 0 (MQ below (qI G Q) ([.int a0, .int a1, .int a2] : List Value).toArray s 0 0 (gA G)) (F0 m 211 ls []) := by
                              intro  μ H locs ls h hl hw
                              unfold wp_X7_twoOf_211 at hw
                              refine lv_iconst (v := (1 : Int32)) hx hb dX7_twoOf_211 (by decide) ?_
                              refine lv_goto (tgt := 216) hx hb dX7_twoOf_212 (by decide) ?_
                              exact r_iret X h hw dX7_twoOf_216
                            refine lv_if_ne (tgt := 211) hx hb dX7_twoOf_204 (by decide) (fun hc => ?_) (fun hc => ?_)
                            · rw [if_neg hc] at hw
                              exact s211 μ _ _ _ h (lv_sub hl [] rfl) hw
                            · rw [if_pos hc] at hw
                              refine lv_iload_n hx hb dX7_twoOf_207 rfl (lv_at hl 2 rfl) ?_
                              refine lv_if_eq (tgt := 215) hx hb dX7_twoOf_208 (by decide) (fun hc => ?_) (fun hc => ?_)
                              · rw [if_pos hc] at hw
                                refine lv_iconst (v := (0 : Int32)) hx hb dX7_twoOf_215 (by decide) ?_
                                exact r_iret X h hw dX7_twoOf_216
                              · rw [if_neg hc] at hw
                                exact s211 μ _ _ _ h (lv_sub hl [] rfl) hw
                          · skip
                            by_cases hc46 : a0 = (46 : Int32)
                            · refine lv_tableIn (off := 202) (tgt := 203) hx hb dX7_twoOf_1 (by rw [hc46]; decide) (by rw [hc46]; decide) (by rw [hc46]; rfl) (by decide) ?_
                              refine lv_iload_n hx hb dX7_twoOf_203 rfl (lv_at hl 1 rfl) ?_
                              have s211 : ∀  (μ : vM), ∀ (H : Heap) (locs : List Loc) (ls : Array Slot), bw G s μ H locs → lv_has ls 3 [] → wp_X7_twoOf_211 a0 a1 a2 Q μ → W p l e ({ frames := 0, cells := 0, slots := 0, locals := 0 } : Room) s m ([.int a0, .int a1, .int a2] : List Value).toArray below meth c H locs 0 0 (MQ below (qI G Q) ([.int a0, .int a1, .int a2] : List Value).toArray s 0 0 (gA G)) (F0 m 211 ls []) := by
                                intro  μ H locs ls h hl hw
                                unfold wp_X7_twoOf_211 at hw
                                refine lv_iconst (v := (1 : Int32)) hx hb dX7_twoOf_211 (by decide) ?_
                                refine lv_goto (tgt := 216) hx hb dX7_twoOf_212 (by decide) ?_
                                exact r_iret X h hw dX7_twoOf_216
                              refine lv_if_ne (tgt := 211) hx hb dX7_twoOf_204 (by decide) (fun hc => ?_) (fun hc => ?_)
                              · rw [if_neg hc] at hw
                                exact s211 μ _ _ _ h (lv_sub hl [] rfl) hw
                              · rw [if_pos hc] at hw
                                refine lv_iload_n hx hb dX7_twoOf_207 rfl (lv_at hl 2 rfl) ?_
                                refine lv_if_eq (tgt := 215) hx hb dX7_twoOf_208 (by decide) (fun hc => ?_) (fun hc => ?_)
                                · rw [if_pos hc] at hw
                                  refine lv_iconst (v := (0 : Int32)) hx hb dX7_twoOf_215 (by decide) ?_
                                  exact r_iret X h hw dX7_twoOf_216
                                · rw [if_neg hc] at hw
                                  exact s211 μ _ _ _ h (lv_sub hl [] rfl) hw
                            · skip
                              by_cases hc48 : a0 = (48 : Int32)
                              · refine lv_tableIn (off := 202) (tgt := 203) hx hb dX7_twoOf_1 (by rw [hc48]; decide) (by rw [hc48]; decide) (by rw [hc48]; rfl) (by decide) ?_
                                refine lv_iload_n hx hb dX7_twoOf_203 rfl (lv_at hl 1 rfl) ?_
                                have s211 : ∀  (μ : vM), ∀ (H : Heap) (locs : List Loc) (ls : Array Slot), bw G s μ H locs → lv_has ls 3 [] → wp_X7_twoOf_211 a0 a1 a2 Q μ → W p l e ({ frames := 0, cells := 0, slots := 0, locals := 0 } : Room) s m ([.int a0, .int a1, .int a2] : List Value).toArray below meth c H locs 0 0 (MQ below (qI G Q) ([.int a0, .int a1, .int a2] : List Value).toArray s 0 0 (gA G)) (F0 m 211 ls []) := by
                                  intro  μ H locs ls h hl hw
                                  unfold wp_X7_twoOf_211 at hw
                                  refine lv_iconst (v := (1 : Int32)) hx hb dX7_twoOf_211 (by decide) ?_
                                  refine lv_goto (tgt := 216) hx hb dX7_twoOf_212 (by decide) ?_
                                  exact r_iret X h hw dX7_twoOf_216
                                refine lv_if_ne (tgt := 211) hx hb dX7_twoOf_204 (by decide) (fun hc => ?_) (fun hc => ?_)
                                · rw [if_neg hc] at hw
                                  exact s211 μ _ _ _ h (lv_sub hl [] rfl) hw
                                · rw [if_pos hc] at hw
                                  refine lv_iload_n hx hb dX7_twoOf_207 rfl (lv_at hl 2 rfl) ?_
                                  refine lv_if_eq (tgt := 215) hx hb dX7_twoOf_208 (by decide) (fun hc => ?_) (fun hc => ?_)
                                  · rw [if_pos hc] at hw
                                    refine lv_iconst (v := (0 : Int32)) hx hb dX7_twoOf_215 (by decide) ?_
                                    exact r_iret X h hw dX7_twoOf_216
                                  · rw [if_neg hc] at hw
                                    exact s211 μ _ _ _ h (lv_sub hl [] rfl) hw
                              · skip
                                by_cases hc49 : a0 = (49 : Int32)
                                · refine lv_tableIn (off := 202) (tgt := 203) hx hb dX7_twoOf_1 (by rw [hc49]; decide) (by rw [hc49]; decide) (by rw [hc49]; rfl) (by decide) ?_
                                  refine lv_iload_n hx hb dX7_twoOf_203 rfl (lv_at hl 1 rfl) ?_
                                  have s211 : ∀  (μ : vM), ∀ (H : Heap) (locs : List Loc) (ls : Array Slot), bw G s μ H locs → lv_has ls 3 [] → wp_X7_twoOf_211 a0 a1 a2 Q μ → W p l e ({ frames := 0, cells := 0, slots := 0, locals := 0 } : Room) s m ([.int a0, .int a1, .int a2] : List Value).toArray below meth c H locs 0 0 (MQ below (qI G Q) ([.int a0, .int a1, .int a2] : List Value).toArray s 0 0 (gA G)) (F0 m 211 ls []) := by
                                    intro  μ H locs ls h hl hw
                                    unfold wp_X7_twoOf_211 at hw
                                    refine lv_iconst (v := (1 : Int32)) hx hb dX7_twoOf_211 (by decide) ?_
                                    refine lv_goto (tgt := 216) hx hb dX7_twoOf_212 (by decide) ?_
                                    exact r_iret X h hw dX7_twoOf_216
                                  refine lv_if_ne (tgt := 211) hx hb dX7_twoOf_204 (by decide) (fun hc => ?_) (fun hc => ?_)
                                  · rw [if_neg hc] at hw
                                    exact s211 μ _ _ _ h (lv_sub hl [] rfl) hw
                                  · rw [if_pos hc] at hw
                                    refine lv_iload_n hx hb dX7_twoOf_207 rfl (lv_at hl 2 rfl) ?_
                                    refine lv_if_eq (tgt := 215) hx hb dX7_twoOf_208 (by decide) (fun hc => ?_) (fun hc => ?_)
                                    · rw [if_pos hc] at hw
                                      refine lv_iconst (v := (0 : Int32)) hx hb dX7_twoOf_215 (by decide) ?_
                                      exact r_iret X h hw dX7_twoOf_216
                                    · rw [if_neg hc] at hw
                                      exact s211 μ _ _ _ h (lv_sub hl [] rfl) hw
                                · skip
                                  by_cases hc50 : a0 = (50 : Int32)
                                  · refine lv_tableIn (off := 202) (tgt := 203) hx hb dX7_twoOf_1 (by rw [hc50]; decide) (by rw [hc50]; decide) (by rw [hc50]; rfl) (by decide) ?_
                                    refine lv_iload_n hx hb dX7_twoOf_203 rfl (lv_at hl 1 rfl) ?_
                                    have s211 : ∀  (μ : vM), ∀ (H : Heap) (locs : List Loc) (ls : Array Slot), bw G s μ H locs → lv_has ls 3 [] → wp_X7_twoOf_211 a0 a1 a2 Q μ → W p l e ({ frames := 0, cells := 0, slots := 0, locals := 0 } : Room) s m ([.int a0, .int a1, .int a2] : List Value).toArray below meth c H locs 0 0 (MQ below (qI G Q) ([.int a0, .int a1, .int a2] : List Value).toArray s 0 0 (gA G)) (F0 m 211 ls []) := by
                                      intro  μ H locs ls h hl hw
                                      unfold wp_X7_twoOf_211 at hw
                                      refine lv_iconst (v := (1 : Int32)) hx hb dX7_twoOf_211 (by decide) ?_
                                      refine lv_goto (tgt := 216) hx hb dX7_twoOf_212 (by decide) ?_
                                      exact r_iret X h hw dX7_twoOf_216
                                    refine lv_if_ne (tgt := 211) hx hb dX7_twoOf_204 (by decide) (fun hc => ?_) (fun hc => ?_)
                                    · rw [if_neg hc] at hw
                                      exact s211 μ _ _ _ h (lv_sub hl [] rfl) hw
                                    · rw [if_pos hc] at hw
                                      refine lv_iload_n hx hb dX7_twoOf_207 rfl (lv_at hl 2 rfl) ?_
                                      refine lv_if_eq (tgt := 215) hx hb dX7_twoOf_208 (by decide) (fun hc => ?_) (fun hc => ?_)
                                      · rw [if_pos hc] at hw
                                        refine lv_iconst (v := (0 : Int32)) hx hb dX7_twoOf_215 (by decide) ?_
                                        exact r_iret X h hw dX7_twoOf_216
                                      · rw [if_neg hc] at hw
                                        exact s211 μ _ _ _ h (lv_sub hl [] rfl) hw
                                  · skip
                                    by_cases hc51 : a0 = (51 : Int32)
                                    · refine lv_tableIn (off := 202) (tgt := 203) hx hb dX7_twoOf_1 (by rw [hc51]; decide) (by rw [hc51]; decide) (by rw [hc51]; rfl) (by decide) ?_
                                      refine lv_iload_n hx hb dX7_twoOf_203 rfl (lv_at hl 1 rfl) ?_
                                      have s211 : ∀  (μ : vM), ∀ (H : Heap) (locs : List Loc) (ls : Array Slot), bw G s μ H locs → lv_has ls 3 [] → wp_X7_twoOf_211 a0 a1 a2 Q μ → W p l e ({ frames := 0, cells := 0, slots := 0, locals := 0 } : Room) s m ([.int a0, .int a1, .int a2] : List Value).toArray below meth c H locs 0 0 (MQ below (qI G Q) ([.int a0, .int a1, .int a2] : List Value).toArray s 0 0 (gA G)) (F0 m 211 ls []) := by
                                        intro  μ H locs ls h hl hw
                                        unfold wp_X7_twoOf_211 at hw
                                        refine lv_iconst (v := (1 : Int32)) hx hb dX7_twoOf_211 (by decide) ?_
                                        refine lv_goto (tgt := 216) hx hb dX7_twoOf_212 (by decide) ?_
                                        exact r_iret X h hw dX7_twoOf_216
                                      refine lv_if_ne (tgt := 211) hx hb dX7_twoOf_204 (by decide) (fun hc => ?_) (fun hc => ?_)
                                      · rw [if_neg hc] at hw
                                        exact s211 μ _ _ _ h (lv_sub hl [] rfl) hw
                                      · rw [if_pos hc] at hw
                                        refine lv_iload_n hx hb dX7_twoOf_207 rfl (lv_at hl 2 rfl) ?_
                                        refine lv_if_eq (tgt := 215) hx hb dX7_twoOf_208 (by decide) (fun hc => ?_) (fun hc => ?_)
                                        · rw [if_pos hc] at hw
                                          refine lv_iconst (v := (0 : Int32)) hx hb dX7_twoOf_215 (by decide) ?_
                                          exact r_iret X h hw dX7_twoOf_216
                                        · rw [if_neg hc] at hw
                                          exact s211 μ _ _ _ h (lv_sub hl [] rfl) hw
                                    · skip
                                      by_cases hc52 : a0 = (52 : Int32)
                                      · refine lv_tableIn (off := 202) (tgt := 203) hx hb dX7_twoOf_1 (by rw [hc52]; decide) (by rw [hc52]; decide) (by rw [hc52]; rfl) (by decide) ?_
                                        refine lv_iload_n hx hb dX7_twoOf_203 rfl (lv_at hl 1 rfl) ?_
                                        have s211 : ∀  (μ : vM), ∀ (H : Heap) (locs : List Loc) (ls : Array Slot), bw G s μ H locs → lv_has ls 3 [] → wp_X7_twoOf_211 a0 a1 a2 Q μ → W p l e ({ frames := 0, cells := 0, slots := 0, locals := 0 } : Room) s m ([.int a0, .int a1, .int a2] : List Value).toArray below meth c H locs 0 0 (MQ below (qI G Q) ([.int a0, .int a1, .int a2] : List Value).toArray s 0 0 (gA G)) (F0 m 211 ls []) := by
                                          intro  μ H locs ls h hl hw
                                          unfold wp_X7_twoOf_211 at hw
                                          refine lv_iconst (v := (1 : Int32)) hx hb dX7_twoOf_211 (by decide) ?_
                                          refine lv_goto (tgt := 216) hx hb dX7_twoOf_212 (by decide) ?_
                                          exact r_iret X h hw dX7_twoOf_216
                                        refine lv_if_ne (tgt := 211) hx hb dX7_twoOf_204 (by decide) (fun hc => ?_) (fun hc => ?_)
                                        · rw [if_neg hc] at hw
                                          exact s211 μ _ _ _ h (lv_sub hl [] rfl) hw
                                        · rw [if_pos hc] at hw
                                          refine lv_iload_n hx hb dX7_twoOf_207 rfl (lv_at hl 2 rfl) ?_
                                          refine lv_if_eq (tgt := 215) hx hb dX7_twoOf_208 (by decide) (fun hc => ?_) (fun hc => ?_)
                                          · rw [if_pos hc] at hw
                                            refine lv_iconst (v := (0 : Int32)) hx hb dX7_twoOf_215 (by decide) ?_
                                            exact r_iret X h hw dX7_twoOf_216
                                          · rw [if_neg hc] at hw
                                            exact s211 μ _ _ _ h (lv_sub hl [] rfl) hw
                                      · skip
                                        by_cases hc53 : a0 = (53 : Int32)
                                        · refine lv_tableIn (off := 202) (tgt := 203) hx hb dX7_twoOf_1 (by rw [hc53]; decide) (by rw [hc53]; decide) (by rw [hc53]; rfl) (by decide) ?_
                                          refine lv_iload_n hx hb dX7_twoOf_203 rfl (lv_at hl 1 rfl) ?_
                                          have s211 : ∀  (μ : vM), ∀ (H : Heap) (locs : List Loc) (ls : Array Slot), bw G s μ H locs → lv_has ls 3 [] → wp_X7_twoOf_211 a0 a1 a2 Q μ → W p l e ({ frames := 0, cells := 0, slots := 0, locals := 0 } : Room) s m ([.int a0, .int a1, .int a2] : List Value).toArray below meth c H locs 0 0 (MQ below (qI G Q) ([.int a0, .int a1, .int a2] : List Value).toArray s 0 0 (gA G)) (F0 m 211 ls []) := by
                                            intro  μ H locs ls h hl hw
                                            unfold wp_X7_twoOf_211 at hw
                                            refine lv_iconst (v := (1 : Int32)) hx hb dX7_twoOf_211 (by decide) ?_
                                            refine lv_goto (tgt := 216) hx hb dX7_twoOf_212 (by decide) ?_
                                            exact r_iret X h hw dX7_twoOf_216
                                          refine lv_if_ne (tgt := 211) hx hb dX7_twoOf_204 (by decide) (fun hc => ?_) (fun hc => ?_)
                                          · rw [if_neg hc] at hw
                                            exact s211 μ _ _ _ h (lv_sub hl [] rfl) hw
                                          · rw [if_pos hc] at hw
                                            refine lv_iload_n hx hb dX7_twoOf_207 rfl (lv_at hl 2 rfl) ?_
                                            refine lv_if_eq (tgt := 215) hx hb dX7_twoOf_208 (by decide) (fun hc => ?_) (fun hc => ?_)
                                            · rw [if_pos hc] at hw
                                              refine lv_iconst (v := (0 : Int32)) hx hb dX7_twoOf_215 (by decide) ?_
                                              exact r_iret X h hw dX7_twoOf_216
                                            · rw [if_neg hc] at hw
                                              exact s211 μ _ _ _ h (lv_sub hl [] rfl) hw
                                        · skip
                                          by_cases hc54 : a0 = (54 : Int32)
                                          · refine lv_tableIn (off := 202) (tgt := 203) hx hb dX7_twoOf_1 (by rw [hc54]; decide) (by rw [hc54]; decide) (by rw [hc54]; rfl) (by decide) ?_
                                            refine lv_iload_n hx hb dX7_twoOf_203 rfl (lv_at hl 1 rfl) ?_
                                            have s211 : ∀  (μ : vM), ∀ (H : Heap) (locs : List Loc) (ls : Array Slot), bw G s μ H locs → lv_has ls 3 [] → wp_X7_twoOf_211 a0 a1 a2 Q μ → W p l e ({ frames := 0, cells := 0, slots := 0, locals := 0 } : Room) s m ([.int a0, .int a1, .int a2] : List Value).toArray below meth c H locs 0 0 (MQ below (qI G Q) ([.int a0, .int a1, .int a2] : List Value).toArray s 0 0 (gA G)) (F0 m 211 ls []) := by
                                              intro  μ H locs ls h hl hw
                                              unfold wp_X7_twoOf_211 at hw
                                              refine lv_iconst (v := (1 : Int32)) hx hb dX7_twoOf_211 (by decide) ?_
                                              refine lv_goto (tgt := 216) hx hb dX7_twoOf_212 (by decide) ?_
                                              exact r_iret X h hw dX7_twoOf_216
                                            refine lv_if_ne (tgt := 211) hx hb dX7_twoOf_204 (by decide) (fun hc => ?_) (fun hc => ?_)
                                            · rw [if_neg hc] at hw
                                              exact s211 μ _ _ _ h (lv_sub hl [] rfl) hw
                                            · rw [if_pos hc] at hw
                                              refine lv_iload_n hx hb dX7_twoOf_207 rfl (lv_at hl 2 rfl) ?_
                                              refine lv_if_eq (tgt := 215) hx hb dX7_twoOf_208 (by decide) (fun hc => ?_) (fun hc => ?_)
                                              · rw [if_pos hc] at hw
                                                refine lv_iconst (v := (0 : Int32)) hx hb dX7_twoOf_215 (by decide) ?_
                                                exact r_iret X h hw dX7_twoOf_216
                                              · rw [if_neg hc] at hw
                                                exact s211 μ _ _ _ h (lv_sub hl [] rfl) hw
                                          · skip
                                            by_cases hc55 : a0 = (55 : Int32)
                                            · refine lv_tableIn (off := 202) (tgt := 203) hx hb dX7_twoOf_1 (by rw [hc55]; decide) (by rw [hc55]; decide) (by rw [hc55]; rfl) (by decide) ?_
                                              refine lv_iload_n hx hb dX7_twoOf_203 rfl (lv_at hl 1 rfl) ?_
                                              have s211 : ∀  (μ : vM), ∀ (H : Heap) (locs : List Loc) (ls : Array Slot), bw G s μ H locs → lv_has ls 3 [] → wp_X7_twoOf_211 a0 a1 a2 Q μ → W p l e ({ frames := 0, cells := 0, slots := 0, locals := 0 } : Room) s m ([.int a0, .int a1, .int a2] : List Value).toArray below meth c H locs 0 0 (MQ below (qI G Q) ([.int a0, .int a1, .int a2] : List Value).toArray s 0 0 (gA G)) (F0 m 211 ls []) := by
                                                intro  μ H locs ls h hl hw
                                                unfold wp_X7_twoOf_211 at hw
                                                refine lv_iconst (v := (1 : Int32)) hx hb dX7_twoOf_211 (by decide) ?_
                                                refine lv_goto (tgt := 216) hx hb dX7_twoOf_212 (by decide) ?_
                                                exact r_iret X h hw dX7_twoOf_216
                                              refine lv_if_ne (tgt := 211) hx hb dX7_twoOf_204 (by decide) (fun hc => ?_) (fun hc => ?_)
                                              · rw [if_neg hc] at hw
                                                exact s211 μ _ _ _ h (lv_sub hl [] rfl) hw
                                              · rw [if_pos hc] at hw
                                                refine lv_iload_n hx hb dX7_twoOf_207 rfl (lv_at hl 2 rfl) ?_
                                                refine lv_if_eq (tgt := 215) hx hb dX7_twoOf_208 (by decide) (fun hc => ?_) (fun hc => ?_)
                                                · rw [if_pos hc] at hw
                                                  refine lv_iconst (v := (0 : Int32)) hx hb dX7_twoOf_215 (by decide) ?_
                                                  exact r_iret X h hw dX7_twoOf_216
                                                · rw [if_neg hc] at hw
                                                  exact s211 μ _ _ _ h (lv_sub hl [] rfl) hw
                                            · skip
                                              by_cases hc56 : a0 = (56 : Int32)
                                              · refine lv_tableIn (off := 202) (tgt := 203) hx hb dX7_twoOf_1 (by rw [hc56]; decide) (by rw [hc56]; decide) (by rw [hc56]; rfl) (by decide) ?_
                                                refine lv_iload_n hx hb dX7_twoOf_203 rfl (lv_at hl 1 rfl) ?_
                                                have s211 : ∀  (μ : vM), ∀ (H : Heap) (locs : List Loc) (ls : Array Slot), bw G s μ H locs → lv_has ls 3 [] → wp_X7_twoOf_211 a0 a1 a2 Q μ → W p l e ({ frames := 0, cells := 0, slots := 0, locals := 0 } : Room) s m ([.int a0, .int a1, .int a2] : List Value).toArray below meth c H locs 0 0 (MQ below (qI G Q) ([.int a0, .int a1, .int a2] : List Value).toArray s 0 0 (gA G)) (F0 m 211 ls []) := by
                                                  intro  μ H locs ls h hl hw
                                                  unfold wp_X7_twoOf_211 at hw
                                                  refine lv_iconst (v := (1 : Int32)) hx hb dX7_twoOf_211 (by decide) ?_
                                                  refine lv_goto (tgt := 216) hx hb dX7_twoOf_212 (by decide) ?_
                                                  exact r_iret X h hw dX7_twoOf_216
                                                refine lv_if_ne (tgt := 211) hx hb dX7_twoOf_204 (by decide) (fun hc => ?_) (fun hc => ?_)
                                                · rw [if_neg hc] at hw
                                                  exact s211 μ _ _ _ h (lv_sub hl [] rfl) hw
                                                · rw [if_pos hc] at hw
                                                  refine lv_iload_n hx hb dX7_twoOf_207 rfl (lv_at hl 2 rfl) ?_
                                                  refine lv_if_eq (tgt := 215) hx hb dX7_twoOf_208 (by decide) (fun hc => ?_) (fun hc => ?_)
                                                  · rw [if_pos hc] at hw
                                                    refine lv_iconst (v := (0 : Int32)) hx hb dX7_twoOf_215 (by decide) ?_
                                                    exact r_iret X h hw dX7_twoOf_216
                                                  · rw [if_neg hc] at hw
                                                    exact s211 μ _ _ _ h (lv_sub hl [] rfl) hw
                                              · skip
                                                by_cases hc57 : a0 = (57 : Int32)
                                                · refine lv_tableIn (off := 202) (tgt := 203) hx hb dX7_twoOf_1 (by rw [hc57]; decide) (by rw [hc57]; decide) (by rw [hc57]; rfl) (by decide) ?_
                                                  refine lv_iload_n hx hb dX7_twoOf_203 rfl (lv_at hl 1 rfl) ?_
                                                  have s211 : ∀  (μ : vM), ∀ (H : Heap) (locs : List Loc) (ls : Array Slot), bw G s μ H locs → lv_has ls 3 [] → wp_X7_twoOf_211 a0 a1 a2 Q μ → W p l e ({ frames := 0, cells := 0, slots := 0, locals := 0 } : Room) s m ([.int a0, .int a1, .int a2] : List Value).toArray below meth c H locs 0 0 (MQ below (qI G Q) ([.int a0, .int a1, .int a2] : List Value).toArray s 0 0 (gA G)) (F0 m 211 ls []) := by
                                                    intro  μ H locs ls h hl hw
                                                    unfold wp_X7_twoOf_211 at hw
                                                    refine lv_iconst (v := (1 : Int32)) hx hb dX7_twoOf_211 (by decide) ?_
                                                    refine lv_goto (tgt := 216) hx hb dX7_twoOf_212 (by decide) ?_
                                                    exact r_iret X h hw dX7_twoOf_216
                                                  refine lv_if_ne (tgt := 211) hx hb dX7_twoOf_204 (by decide) (fun hc => ?_) (fun hc => ?_)
                                                  · rw [if_neg hc] at hw
                                                    exact s211 μ _ _ _ h (lv_sub hl [] rfl) hw
                                                  · rw [if_pos hc] at hw
                                                    refine lv_iload_n hx hb dX7_twoOf_207 rfl (lv_at hl 2 rfl) ?_
                                                    refine lv_if_eq (tgt := 215) hx hb dX7_twoOf_208 (by decide) (fun hc => ?_) (fun hc => ?_)
                                                    · rw [if_pos hc] at hw
                                                      refine lv_iconst (v := (0 : Int32)) hx hb dX7_twoOf_215 (by decide) ?_
                                                      exact r_iret X h hw dX7_twoOf_216
                                                    · rw [if_neg hc] at hw
                                                      exact s211 μ _ _ _ h (lv_sub hl [] rfl) hw
                                                · skip
                                                  by_cases hc58 : a0 = (58 : Int32)
                                                  · refine lv_tableIn (off := 202) (tgt := 203) hx hb dX7_twoOf_1 (by rw [hc58]; decide) (by rw [hc58]; decide) (by rw [hc58]; rfl) (by decide) ?_
                                                    refine lv_iload_n hx hb dX7_twoOf_203 rfl (lv_at hl 1 rfl) ?_
                                                    have s211 : ∀  (μ : vM), ∀ (H : Heap) (locs : List Loc) (ls : Array Slot), bw G s μ H locs → lv_has ls 3 [] → wp_X7_twoOf_211 a0 a1 a2 Q μ → W p l e ({ frames := 0, cells := 0, slots := 0, locals := 0 } : Room) s m ([.int a0, .int a1, .int a2] : List Value).toArray below meth c H locs 0 0 (MQ below (qI G Q) ([.int a0, .int a1, .int a2] : List Value).toArray s 0 0 (gA G)) (F0 m 211 ls []) := by
                                                      intro  μ H locs ls h hl hw
                                                      unfold wp_X7_twoOf_211 at hw
                                                      refine lv_iconst (v := (1 : Int32)) hx hb dX7_twoOf_211 (by decide) ?_
                                                      refine lv_goto (tgt := 216) hx hb dX7_twoOf_212 (by decide) ?_
                                                      exact r_iret X h hw dX7_twoOf_216
                                                    refine lv_if_ne (tgt := 211) hx hb dX7_twoOf_204 (by decide) (fun hc => ?_) (fun hc => ?_)
                                                    · rw [if_neg hc] at hw
                                                      exact s211 μ _ _ _ h (lv_sub hl [] rfl) hw
                                                    · rw [if_pos hc] at hw
                                                      refine lv_iload_n hx hb dX7_twoOf_207 rfl (lv_at hl 2 rfl) ?_
                                                      refine lv_if_eq (tgt := 215) hx hb dX7_twoOf_208 (by decide) (fun hc => ?_) (fun hc => ?_)
                                                      · rw [if_pos hc] at hw
                                                        refine lv_iconst (v := (0 : Int32)) hx hb dX7_twoOf_215 (by decide) ?_
                                                        exact r_iret X h hw dX7_twoOf_216
                                                      · rw [if_neg hc] at hw
                                                        exact s211 μ _ _ _ h (lv_sub hl [] rfl) hw
                                                  · skip
                                                    by_cases hc59 : a0 = (59 : Int32)
                                                    · refine lv_tableIn (off := 202) (tgt := 203) hx hb dX7_twoOf_1 (by rw [hc59]; decide) (by rw [hc59]; decide) (by rw [hc59]; rfl) (by decide) ?_
                                                      refine lv_iload_n hx hb dX7_twoOf_203 rfl (lv_at hl 1 rfl) ?_
                                                      have s211 : ∀  (μ : vM), ∀ (H : Heap) (locs : List Loc) (ls : Array Slot), bw G s μ H locs → lv_has ls 3 [] → wp_X7_twoOf_211 a0 a1 a2 Q μ → W p l e ({ frames := 0, cells := 0, slots := 0, locals := 0 } : Room) s m ([.int a0, .int a1, .int a2] : List Value).toArray below meth c H locs 0 0 (MQ below (qI G Q) ([.int a0, .int a1, .int a2] : List Value).toArray s 0 0 (gA G)) (F0 m 211 ls []) := by
                                                        intro  μ H locs ls h hl hw
                                                        unfold wp_X7_twoOf_211 at hw
                                                        refine lv_iconst (v := (1 : Int32)) hx hb dX7_twoOf_211 (by decide) ?_
                                                        refine lv_goto (tgt := 216) hx hb dX7_twoOf_212 (by decide) ?_
                                                        exact r_iret X h hw dX7_twoOf_216
                                                      refine lv_if_ne (tgt := 211) hx hb dX7_twoOf_204 (by decide) (fun hc => ?_) (fun hc => ?_)
                                                      · rw [if_neg hc] at hw
                                                        exact s211 μ _ _ _ h (lv_sub hl [] rfl) hw
                                                      · rw [if_pos hc] at hw
                                                        refine lv_iload_n hx hb dX7_twoOf_207 rfl (lv_at hl 2 rfl) ?_
                                                        refine lv_if_eq (tgt := 215) hx hb dX7_twoOf_208 (by decide) (fun hc => ?_) (fun hc => ?_)
                                                        · rw [if_pos hc] at hw
                                                          refine lv_iconst (v := (0 : Int32)) hx hb dX7_twoOf_215 (by decide) ?_
                                                          exact r_iret X h hw dX7_twoOf_216
                                                        · rw [if_neg hc] at hw
                                                          exact s211 μ _ _ _ h (lv_sub hl [] rfl) hw
                                                    · skip
                                                      refine lv_tableOut (tgt := 203) hx hb dX7_twoOf_1 (by have q0 := lv_neT hc37 (a := 37) (by decide); have q1 := lv_neT hc38 (a := 38) (by decide); have q2 := lv_neT hc39 (a := 39) (by decide); have q3 := lv_neT hc40 (a := 40) (by decide); have q4 := lv_neT hc41 (a := 41) (by decide); have q5 := lv_neT hc42 (a := 42) (by decide); have q6 := lv_neT hc43 (a := 43) (by decide); have q7 := lv_neT hc44 (a := 44) (by decide); have q8 := lv_neT hc45 (a := 45) (by decide); have q9 := lv_neT hc46 (a := 46) (by decide); have q10 := lv_neT hc47 (a := 47) (by decide); have q11 := lv_neT hc48 (a := 48) (by decide); have q12 := lv_neT hc49 (a := 49) (by decide); have q13 := lv_neT hc50 (a := 50) (by decide); have q14 := lv_neT hc51 (a := 51) (by decide); have q15 := lv_neT hc52 (a := 52) (by decide); have q16 := lv_neT hc53 (a := 53) (by decide); have q17 := lv_neT hc54 (a := 54) (by decide); have q18 := lv_neT hc55 (a := 55) (by decide); have q19 := lv_neT hc56 (a := 56) (by decide); have q20 := lv_neT hc57 (a := 57) (by decide); have q21 := lv_neT hc58 (a := 58) (by decide); have q22 := lv_neT hc59 (a := 59) (by decide); have q23 := lv_neT hc60 (a := 60) (by decide); have q24 := lv_neT hc61 (a := 61) (by decide); have q25 := lv_neT hc62 (a := 62) (by decide); omega) (by decide) ?_
                                                      refine lv_iload_n hx hb dX7_twoOf_203 rfl (lv_at hl 1 rfl) ?_
                                                      have s211 : ∀  (μ : vM), ∀ (H : Heap) (locs : List Loc) (ls : Array Slot), bw G s μ H locs → lv_has ls 3 [] → wp_X7_twoOf_211 a0 a1 a2 Q μ → W p l e ({ frames := 0, cells := 0, slots := 0, locals := 0 } : Room) s m ([.int a0, .int a1, .int a2] : List Value).toArray below meth c H locs 0 0 (MQ below (qI G Q) ([.int a0, .int a1, .int a2] : List Value).toArray s 0 0 (gA G)) (F0 m 211 ls []) := by
                                                        intro  μ H locs ls h hl hw
                                                        unfold wp_X7_twoOf_211 at hw
                                                        refine lv_iconst (v := (1 : Int32)) hx hb dX7_twoOf_211 (by decide) ?_
                                                        refine lv_goto (tgt := 216) hx hb dX7_twoOf_212 (by decide) ?_
                                                        exact r_iret X h hw dX7_twoOf_216
                                                      refine lv_if_ne (tgt := 211) hx hb dX7_twoOf_204 (by decide) (fun hc => ?_) (fun hc => ?_)
                                                      · rw [if_neg hc] at hw
                                                        exact s211 μ _ _ _ h (lv_sub hl [] rfl) hw
                                                      · rw [if_pos hc] at hw
                                                        refine lv_iload_n hx hb dX7_twoOf_207 rfl (lv_at hl 2 rfl) ?_
                                                        refine lv_if_eq (tgt := 215) hx hb dX7_twoOf_208 (by decide) (fun hc => ?_) (fun hc => ?_)
                                                        · rw [if_pos hc] at hw
                                                          refine lv_iconst (v := (0 : Int32)) hx hb dX7_twoOf_215 (by decide) ?_
                                                          exact r_iret X h hw dX7_twoOf_216
                                                        · rw [if_neg hc] at hw
                                                          exact s211 μ _ _ _ h (lv_sub hl [] rfl) hw
def wp_X7_works_149 (a1 : Int32) (Q : Int32 → vM → Prop) (k4 : Int32 → Int32 → vM → Prop) (x2 : Int32) (x3 : Int32) (μ : vM) : Prop := ∃ x3_149 : Int32, x3_149 = x3 + (1 : Int32) ∧ k4 x2 x3_149 μ
def wp_X7_works_79 (a1 : Int32) (Q : Int32 → vM → Prop) (k4 : Int32 → Int32 → vM → Prop) (x2 : Int32) (x3 : Int32) (t1 : Int32) (t2 : Int32) (μ : vM) : Prop := vp_in t1 60 ∧ ∃ μ79 : vM, μ79 = st μ 12 t1.toNatClampNeg t2 ∧ ∃ x2_80 : Int32, x2_80 = x2 + (1 : Int32) ∧ wp_X7_works_149 a1 Q k4 x2_80 x3 μ79
def wp_X7_works_38 (a1 : Int32) (Q : Int32 → vM → Prop) (k4 : Int32 → Int32 → vM → Prop) (x2 : Int32) (x3 : Int32) (x4 : Int32) (μ : vM) : Prop := if x4 = (1 : Int32) then vp_in ((a1 + (61 : Int32)) + x3) 385 ∧ wp_X7_works_79 a1 Q k4 x2 x3 x2 (μ 1 ((a1 + (61 : Int32)) + x3).toNatClampNeg) μ else vp_in ((a1 + (61 : Int32)) + x3) 385 ∧ vp_in (μ 1 ((a1 + (61 : Int32)) + x3).toNatClampNeg) 3 ∧ wp_X7_works_79 a1 Q k4 x2 x3 x2 (μ 11 (μ 1 ((a1 + (61 : Int32)) + x3).toNatClampNeg).toNatClampNeg) μ
def wp_X7_works_115 (a1 : Int32) (Q : Int32 → vM → Prop) (k4 : Int32 → Int32 → vM → Prop) (x2 : Int32) (x3 : Int32) (t1 : Int32) (t2 : Int32) (μ : vM) : Prop := vp_in t1 60 ∧ ∃ μ115 : vM, μ115 = st μ 12 t1.toNatClampNeg t2 ∧ wp_X7_works_149 a1 Q k4 x2 x3 μ115
def wp_X7_works_4 (a1 : Int32) (Q : Int32 → vM → Prop) : Nat → Int32 → Int32 → vM → Prop
  | 0, _, _, _ => False
  | n4 + 1, x2, x3, μ => vp_in a1 385 ∧ if (μ 1 a1.toNatClampNeg) ≤ x3 then vp_in (0 : Int32) 60 ∧ Q (μ 12 (0 : Int32).toNatClampNeg) μ else vp_in ((a1 + (1 : Int32)) + x3) 385 ∧ ∃ x4_24 : Int32, x4_24 = μ 1 ((a1 + (1 : Int32)) + x3).toNatClampNeg ∧ if x4_24 = (1 : Int32) then wp_X7_works_38 a1 Q (fun x2 x3 μ => wp_X7_works_4 a1 Q n4 x2 x3 μ) x2 x3 x4_24 μ else if x4_24 = (2 : Int32) then wp_X7_works_38 a1 Q (fun x2 x3 μ => wp_X7_works_4 a1 Q n4 x2 x3 μ) x2 x3 x4_24 μ else if x4_24 = (3 : Int32) then vp_in (x2 - (1 : Int32)) 60 ∧ wp_X7_works_115 a1 Q (fun x2 x3 μ => wp_X7_works_4 a1 Q n4 x2 x3 μ) x2 x3 (x2 - (1 : Int32)) (if (μ 12 (x2 - (1 : Int32)).toNatClampNeg) = 0 then (1 : Int32) else (0 : Int32)) μ else ∃ x2_119 : Int32, x2_119 = x2 + (-1 : Int32) ∧ vp_in (x2_119 - (1 : Int32)) 60 ∧ vp_in x2_119 60 ∧ wp_X7_twoOf x4_24 (μ 12 (x2_119 - (1 : Int32)).toNatClampNeg) (μ 12 x2_119.toNatClampNeg) (fun r145 μ145 => vp_in (x2_119 - (1 : Int32)) 60 ∧ ∃ μ148 : vM, μ148 = st μ145 12 (x2_119 - (1 : Int32)).toNatClampNeg r145 ∧ wp_X7_works_149 a1 Q (fun x2 x3 μ => wp_X7_works_4 a1 Q n4 x2 x3 μ) x2_119 x3 μ148) μ
def wp_X7_works (a1 : Int32) (Q : Int32 → vM → Prop) (μ : vM) : Prop := ∃ n4, wp_X7_works_4 a1 Q n4 (0 : Int32) (0 : Int32) μ
set_option maxRecDepth 100000 in
set_option maxHeartbeats 4000000 in
theorem c_X7_works (l : Launch) (G : vG) (hG : gO G) (a1 : Int32) (h0 : isX7 G) (Q : Int32 → vM → Prop) (μ : vM) (hw : wp_X7_works a1 Q μ) : mt l G yX7_works vX7_works { frames := 1, cells := 0, slots := 0, locals := 22 } [.ref (ga G 0), .int a1] μ (qI G Q) := by
  refine met_of (cc := cX7_works) (maxL := 5) (ret := (some .int)) RX7 (by decide) rfl rfl hG (Nat.le_of_ble_eq_true rfl) ?_
  intro p e s m below meth c X h ls hl
  have hl : lv_has ls 5 [(0, .ref (ga G 0)), (1, .int a1)] := hl
  have hx := X.1
  have hb := X.2.1
  unfold wp_X7_works at hw
  refine lv_iconst (v := (0 : Int32)) hx hb dX7_works_0 (by decide) ?_
  refine lv_istore_n (lv' := [(2, .int (0 : Int32)), (0, .ref (ga G 0)), (1, .int a1)]) hx hb dX7_works_1 rfl hl (by decide) rfl (fun ls hl => ?_)
  refine lv_iconst (v := (0 : Int32)) hx hb dX7_works_2 (by decide) ?_
  refine lv_istore_n (lv' := [(3, .int (0 : Int32)), (2, .int (0 : Int32)), (0, .ref (ga G 0)), (1, .int a1)]) hx hb dX7_works_3 rfl hl (by decide) rfl (fun ls hl => ?_)
  have s4 : ∀ (n4 : Nat) (x2 : Int32) (x3 : Int32) (μ : vM), ∀ (H : Heap) (locs : List Loc) (ls : Array Slot), bw G s μ H locs → lv_has ls 5 [(0, .ref (ga G 0)), (1, .int a1), (2, .int x2), (3, .int x3)] → wp_X7_works_4 a1 Q n4 x2 x3 μ → W p l e ({ frames := 1, cells := 0, slots := 0, locals := 22 } : Room) s m ([.ref (ga G 0), .int a1] : List Value).toArray below meth c H locs 0 0 (MQ below (qI G Q) ([.ref (ga G 0), .int a1] : List Value).toArray s 0 0 (gA G)) (F0 m 4 ls []) := by
    intro n4
    induction n4 with
    | zero => intro x2 x3 μ H locs ls h hl hw; exact absurd hw (by unfold wp_X7_works_4; exact id)
    | succ n4 ih4 =>
      intro x2 x3 μ H locs ls h hl hw
      unfold wp_X7_works_4 at hw
      refine lv_iload_n hx hb dX7_works_4 rfl (lv_at hl 3 rfl) ?_
      refine lv_aload_n hx hb dX7_works_5 rfl (lv_at hl 0 rfl) ?_
      refine r_getR (q := 1) X h (X7_o h0) rfl uX7 0 (by decide) lf_4_51 rfl dX7_works_6 ?_
      refine lv_iload_n hx hb dX7_works_9 rfl (lv_at hl 1 rfl) ?_
      obtain ⟨hi, hw⟩ := hw
      refine r_ald X h (X7_row h0) hi dX7_works_10 ?_
      refine lv_icmp_ge (tgt := 155) hx hb dX7_works_11 (by decide) (fun hc => ?_) (fun hc => ?_)
      · rw [if_pos hc] at hw
        refine lv_aload_n hx hb dX7_works_155 rfl (lv_at hl 0 rfl) ?_
        refine r_getR (q := 12) X h (X7_o h0) rfl uX7 13 (by decide) lf_4_64 rfl dX7_works_156 ?_
        refine lv_iconst (v := (0 : Int32)) hx hb dX7_works_159 (by decide) ?_
        obtain ⟨hi, hw⟩ := hw
        refine r_ald X h (X7_pile h0) hi dX7_works_160 ?_
        exact r_iret X h hw dX7_works_161
      · rw [if_neg hc] at hw
        refine lv_aload_n hx hb dX7_works_14 rfl (lv_at hl 0 rfl) ?_
        refine r_getR (q := 1) X h (X7_o h0) rfl uX7 0 (by decide) lf_4_51 rfl dX7_works_15 ?_
        refine lv_iload_n hx hb dX7_works_18 rfl (lv_at hl 1 rfl) ?_
        refine lv_iconst (v := (1 : Int32)) hx hb dX7_works_19 (by decide) ?_
        refine lv_iadd hx hb dX7_works_20 ?_
        refine lv_iload_n hx hb dX7_works_21 rfl (lv_at hl 3 rfl) ?_
        refine lv_iadd hx hb dX7_works_22 ?_
        obtain ⟨hi, hw⟩ := hw
        refine r_ald X h (X7_row h0) hi dX7_works_23 ?_
        obtain ⟨x4_24, ex4_24, hw⟩ := hw
        refine topE ex4_24 ?_
        refine lv_istore (lv' := [(4, .int x4_24), (0, .ref (ga G 0)), (1, .int a1), (2, .int x2), (3, .int x3)]) hx hb dX7_works_24 hl (by decide) rfl (fun ls hl => ?_)
        refine lv_iload hx hb dX7_works_26 (lv_at hl 0 rfl) ?_
        refine lv_iconst (v := (1 : Int32)) hx hb dX7_works_28 (by decide) ?_
        have s149 : ∀ (x2 : Int32) (x3 : Int32) (μ : vM), ∀ (H : Heap) (locs : List Loc) (ls : Array Slot), bw G s μ H locs → lv_has ls 5 [(0, .ref (ga G 0)), (1, .int a1), (2, .int x2), (3, .int x3)] → wp_X7_works_149 a1 Q (fun x2 x3 μ => wp_X7_works_4 a1 Q n4 x2 x3 μ) x2 x3 μ → W p l e ({ frames := 1, cells := 0, slots := 0, locals := 22 } : Room) s m ([.ref (ga G 0), .int a1] : List Value).toArray below meth c H locs 0 0 (MQ below (qI G Q) ([.ref (ga G 0), .int a1] : List Value).toArray s 0 0 (gA G)) (F0 m 149 ls []) := by
          intro x2 x3 μ H locs ls h hl hw
          unfold wp_X7_works_149 at hw
          obtain ⟨x3_149, ex3_149, hw⟩ := hw
          refine lv_iinc (v := x3_149) (lv' := [(3, .int x3_149), (0, .ref (ga G 0)), (1, .int a1), (2, .int x2)]) hx hb dX7_works_149 hl (k := 3) rfl (by rw [ex3_149]; rfl) (by decide) rfl (fun ls hl => ?_)
          refine lv_goto (tgt := 4) hx hb dX7_works_152 (by decide) ?_
          exact ih4 x2 x3_149 μ _ _ _ h (lv_sub hl [1, 2, 3, 0] rfl) hw
        have s38 : ∀ (x2 : Int32) (x3 : Int32) (x4 : Int32) (μ : vM), ∀ (H : Heap) (locs : List Loc) (ls : Array Slot), bw G s μ H locs → lv_has ls 5 [(0, .ref (ga G 0)), (1, .int a1), (2, .int x2), (3, .int x3), (4, .int x4)] → wp_X7_works_38 a1 Q (fun x2 x3 μ => wp_X7_works_4 a1 Q n4 x2 x3 μ) x2 x3 x4 μ → W p l e ({ frames := 1, cells := 0, slots := 0, locals := 22 } : Room) s m ([.ref (ga G 0), .int a1] : List Value).toArray below meth c H locs 0 0 (MQ below (qI G Q) ([.ref (ga G 0), .int a1] : List Value).toArray s 0 0 (gA G)) (F0 m 38 ls []) := by
          intro x2 x3 x4 μ H locs ls h hl hw
          unfold wp_X7_works_38 at hw
          refine lv_aload_n hx hb dX7_works_38 rfl (lv_at hl 0 rfl) ?_
          refine r_getR (q := 12) X h (X7_o h0) rfl uX7 13 (by decide) lf_4_64 rfl dX7_works_39 ?_
          refine lv_iload_n hx hb dX7_works_42 rfl (lv_at hl 2 rfl) ?_
          refine lv_iload hx hb dX7_works_43 (lv_at hl 4 rfl) ?_
          refine lv_iconst (v := (1 : Int32)) hx hb dX7_works_45 (by decide) ?_
          have s79 : ∀ (x2 : Int32) (x3 : Int32) (t1 : Int32) (t2 : Int32) (μ : vM), ∀ (H : Heap) (locs : List Loc) (ls : Array Slot), bw G s μ H locs → lv_has ls 5 [(0, .ref (ga G 0)), (1, .int a1), (2, .int x2), (3, .int x3)] → wp_X7_works_79 a1 Q (fun x2 x3 μ => wp_X7_works_4 a1 Q n4 x2 x3 μ) x2 x3 t1 t2 μ → W p l e ({ frames := 1, cells := 0, slots := 0, locals := 22 } : Room) s m ([.ref (ga G 0), .int a1] : List Value).toArray below meth c H locs 0 0 (MQ below (qI G Q) ([.ref (ga G 0), .int a1] : List Value).toArray s 0 0 (gA G)) (F0 m 79 ls [.int t2, .int t1, .ref (ga G 12)]) := by
            intro x2 x3 t1 t2 μ H locs ls h hl hw
            unfold wp_X7_works_79 at hw
            obtain ⟨hi, μ79, eμ79, hw⟩ := hw
            refine r_ast X h (X7_pile h0) hi eμ79 dX7_works_79 (fun H locs h => ?_)
            obtain ⟨x2_80, ex2_80, hw⟩ := hw
            refine lv_iinc (v := x2_80) (lv' := [(2, .int x2_80), (0, .ref (ga G 0)), (1, .int a1), (3, .int x3)]) hx hb dX7_works_80 hl (k := 2) rfl (by rw [ex2_80]; rfl) (by decide) rfl (fun ls hl => ?_)
            refine lv_goto (tgt := 149) hx hb dX7_works_83 (by decide) ?_
            exact s149 x2_80 x3 μ79 _ _ _ h (lv_sub hl [1, 2, 0, 3] rfl) hw
          refine lv_icmp_ne (tgt := 63) hx hb dX7_works_46 (by decide) (fun hc => ?_) (fun hc => ?_)
          · rw [if_neg hc] at hw
            refine lv_aload_n hx hb dX7_works_63 rfl (lv_at hl 0 rfl) ?_
            refine r_getR (q := 11) X h (X7_o h0) rfl uX7 12 (by decide) lf_4_63 rfl dX7_works_64 ?_
            refine lv_aload_n hx hb dX7_works_67 rfl (lv_at hl 0 rfl) ?_
            refine r_getR (q := 1) X h (X7_o h0) rfl uX7 0 (by decide) lf_4_51 rfl dX7_works_68 ?_
            refine lv_iload_n hx hb dX7_works_71 rfl (lv_at hl 1 rfl) ?_
            refine lv_bipush (v := (61 : Int32)) hx hb dX7_works_72 (by decide) ?_
            refine lv_iadd hx hb dX7_works_74 ?_
            refine lv_iload_n hx hb dX7_works_75 rfl (lv_at hl 3 rfl) ?_
            refine lv_iadd hx hb dX7_works_76 ?_
            obtain ⟨hi, hw⟩ := hw
            refine r_ald X h (X7_row h0) hi dX7_works_77 ?_
            obtain ⟨hi, hw⟩ := hw
            refine r_ald X h (X7_facts h0) hi dX7_works_78 ?_
            exact s79 x2 x3 x2 (μ 11 (μ 1 ((a1 + (61 : Int32)) + x3).toNatClampNeg).toNatClampNeg) μ _ _ _ h (lv_sub hl [0, 1, 2, 3] rfl) hw
          · rw [if_pos hc] at hw
            refine lv_aload_n hx hb dX7_works_49 rfl (lv_at hl 0 rfl) ?_
            refine r_getR (q := 1) X h (X7_o h0) rfl uX7 0 (by decide) lf_4_51 rfl dX7_works_50 ?_
            refine lv_iload_n hx hb dX7_works_53 rfl (lv_at hl 1 rfl) ?_
            refine lv_bipush (v := (61 : Int32)) hx hb dX7_works_54 (by decide) ?_
            refine lv_iadd hx hb dX7_works_56 ?_
            refine lv_iload_n hx hb dX7_works_57 rfl (lv_at hl 3 rfl) ?_
            refine lv_iadd hx hb dX7_works_58 ?_
            obtain ⟨hi, hw⟩ := hw
            refine r_ald X h (X7_row h0) hi dX7_works_59 ?_
            refine lv_goto (tgt := 79) hx hb dX7_works_60 (by decide) ?_
            exact s79 x2 x3 x2 (μ 1 ((a1 + (61 : Int32)) + x3).toNatClampNeg) μ _ _ _ h (lv_sub hl [0, 1, 2, 3] rfl) hw
        refine lv_icmp_eq (tgt := 38) hx hb dX7_works_29 (by decide) (fun hc => ?_) (fun hc => ?_)
        · rw [if_pos hc] at hw
          exact s38 x2 x3 x4_24 μ _ _ _ h (lv_sub hl [1, 2, 3, 4, 0] rfl) hw
        · rw [if_neg hc] at hw
          refine lv_iload hx hb dX7_works_32 (lv_at hl 0 rfl) ?_
          refine lv_iconst (v := (2 : Int32)) hx hb dX7_works_34 (by decide) ?_
          refine lv_icmp_ne (tgt := 86) hx hb dX7_works_35 (by decide) (fun hc => ?_) (fun hc => ?_)
          · rw [if_neg hc] at hw
            refine lv_iload hx hb dX7_works_86 (lv_at hl 0 rfl) ?_
            refine lv_iconst (v := (3 : Int32)) hx hb dX7_works_88 (by decide) ?_
            refine lv_icmp_ne (tgt := 119) hx hb dX7_works_89 (by decide) (fun hc => ?_) (fun hc => ?_)
            · rw [if_neg hc] at hw
              obtain ⟨x2_119, ex2_119, hw⟩ := hw
              refine lv_iinc (v := x2_119) (lv' := [(2, .int x2_119), (4, .int x4_24), (0, .ref (ga G 0)), (1, .int a1), (3, .int x3)]) hx hb dX7_works_119 hl (k := 3) rfl (by rw [ex2_119]; rfl) (by decide) rfl (fun ls hl => ?_)
              refine lv_aload_n hx hb dX7_works_122 rfl (lv_at hl 2 rfl) ?_
              refine r_getR (q := 12) X h (X7_o h0) rfl uX7 13 (by decide) lf_4_64 rfl dX7_works_123 ?_
              refine lv_iload_n hx hb dX7_works_126 rfl (lv_at hl 0 rfl) ?_
              refine lv_iconst (v := (1 : Int32)) hx hb dX7_works_127 (by decide) ?_
              refine lv_isub hx hb dX7_works_128 ?_
              refine lv_iload hx hb dX7_works_129 (lv_at hl 1 rfl) ?_
              refine lv_aload_n hx hb dX7_works_131 rfl (lv_at hl 2 rfl) ?_
              refine r_getR (q := 12) X h (X7_o h0) rfl uX7 13 (by decide) lf_4_64 rfl dX7_works_132 ?_
              refine lv_iload_n hx hb dX7_works_135 rfl (lv_at hl 0 rfl) ?_
              refine lv_iconst (v := (1 : Int32)) hx hb dX7_works_136 (by decide) ?_
              refine lv_isub hx hb dX7_works_137 ?_
              obtain ⟨hi, hw⟩ := hw
              refine r_ald X h (X7_pile h0) hi dX7_works_138 ?_
              refine lv_aload_n hx hb dX7_works_139 rfl (lv_at hl 2 rfl) ?_
              refine r_getR (q := 12) X h (X7_o h0) rfl uX7 13 (by decide) lf_4_64 rfl dX7_works_140 ?_
              refine lv_iload_n hx hb dX7_works_143 rfl (lv_at hl 0 rfl) ?_
              obtain ⟨hi, hw⟩ := hw
              refine r_ald X h (X7_pile h0) hi dX7_works_144 ?_
              refine k_i h (n_T (rest := [.int (x2_119 - (1 : Int32)), .ref (ga G 12)]) (As := [.int x4_24, .int (μ 12 (x2_119 - (1 : Int32)).toNatClampNeg), .int (μ 12 x2_119.toNatClampNeg)]) X h hl.1 (c_X7_twoOf l G hG x4_24 (μ 12 (x2_119 - (1 : Int32)).toNatClampNeg) (μ 12 x2_119.toNatClampNeg) _ _ hw) gk_X7_191 rfl hd_X7_twoOf ⟨rfl, rfl⟩ ⟨Nat.le_of_ble_eq_true rfl, Nat.le_of_ble_eq_true rfl⟩ rfl (Nat.le_of_ble_eq_true rfl) dX7_works_145 ⟨Nat.zero_le _, Nat.zero_le _⟩) (fun r145 μ145 H locs hw h => ?_)
              obtain ⟨hi, μ148, eμ148, hw⟩ := hw
              refine r_ast X h (X7_pile h0) hi eμ148 dX7_works_148 (fun H locs h => ?_)
              exact s149 x2_119 x3 μ148 _ _ _ h (lv_sub hl [2, 3, 0, 4] rfl) hw
            · rw [if_pos hc] at hw
              refine lv_aload_n hx hb dX7_works_92 rfl (lv_at hl 1 rfl) ?_
              refine r_getR (q := 12) X h (X7_o h0) rfl uX7 13 (by decide) lf_4_64 rfl dX7_works_93 ?_
              refine lv_iload_n hx hb dX7_works_96 rfl (lv_at hl 3 rfl) ?_
              refine lv_iconst (v := (1 : Int32)) hx hb dX7_works_97 (by decide) ?_
              refine lv_isub hx hb dX7_works_98 ?_
              refine lv_aload_n hx hb dX7_works_99 rfl (lv_at hl 1 rfl) ?_
              refine r_getR (q := 12) X h (X7_o h0) rfl uX7 13 (by decide) lf_4_64 rfl dX7_works_100 ?_
              refine lv_iload_n hx hb dX7_works_103 rfl (lv_at hl 3 rfl) ?_
              refine lv_iconst (v := (1 : Int32)) hx hb dX7_works_104 (by decide) ?_
              refine lv_isub hx hb dX7_works_105 ?_
              obtain ⟨hi, hw⟩ := hw
              refine r_ald X h (X7_pile h0) hi dX7_works_106 ?_
              have s115 : ∀ (x2 : Int32) (x3 : Int32) (t1 : Int32) (t2 : Int32) (μ : vM), ∀ (H : Heap) (locs : List Loc) (ls : Array Slot), bw G s μ H locs → lv_has ls 5 [(0, .ref (ga G 0)), (1, .int a1), (2, .int x2), (3, .int x3)] → wp_X7_works_115 a1 Q (fun x2 x3 μ => wp_X7_works_4 a1 Q n4 x2 x3 μ) x2 x3 t1 t2 μ → W p l e ({ frames := 1, cells := 0, slots := 0, locals := 22 } : Room) s m ([.ref (ga G 0), .int a1] : List Value).toArray below meth c H locs 0 0 (MQ below (qI G Q) ([.ref (ga G 0), .int a1] : List Value).toArray s 0 0 (gA G)) (F0 m 115 ls [.int t2, .int t1, .ref (ga G 12)]) := by
                intro x2 x3 t1 t2 μ H locs ls h hl hw
                unfold wp_X7_works_115 at hw
                obtain ⟨hi, μ115, eμ115, hw⟩ := hw
                refine r_ast X h (X7_pile h0) hi eμ115 dX7_works_115 (fun H locs h => ?_)
                refine lv_goto (tgt := 149) hx hb dX7_works_116 (by decide) ?_
                exact s149 x2 x3 μ115 _ _ _ h (lv_sub hl [0, 1, 2, 3] rfl) hw
              refine lv_if_ne (tgt := 114) hx hb dX7_works_107 (by decide) (fun hc => ?_) (fun hc => ?_)
              · rw [if_neg hc] at hw
                refine lv_iconst (v := (0 : Int32)) hx hb dX7_works_114 (by decide) ?_
                exact s115 x2 x3 (x2 - (1 : Int32)) (0 : Int32) μ _ _ _ h (lv_sub hl [1, 2, 3, 4] rfl) hw
              · rw [if_pos hc] at hw
                refine lv_iconst (v := (1 : Int32)) hx hb dX7_works_110 (by decide) ?_
                refine lv_goto (tgt := 115) hx hb dX7_works_111 (by decide) ?_
                exact s115 x2 x3 (x2 - (1 : Int32)) (1 : Int32) μ _ _ _ h (lv_sub hl [1, 2, 3, 4] rfl) hw
          · rw [if_pos hc] at hw
            exact s38 x2 x3 x4_24 μ _ _ _ h (lv_sub hl [1, 2, 3, 4, 0] rfl) hw
  obtain ⟨n, hw⟩ := hw
  exact s4 n (0 : Int32) (0 : Int32) μ _ _ _ h (lv_sub hl [2, 3, 1, 0] rfl) hw
def wp_X7_gives_52 (a1 : Int32) (a2 : Int32) (a3 : Int32) (a4 : Int32) (Q : Int32 → vM → Prop) (t0 : Int32) (μ : vM) : Prop := if a1 = 0 then wp_X7_held t0 (0 : Int32) (3 : Int32) (fun r62 μ62 => Q r62 μ62) μ else wp_X7_held t0 (0 : Int32) (99 : Int32) (fun r73 μ73 => Q r73 μ73) μ
def wp_X7_gives (a1 : Int32) (a2 : Int32) (a3 : Int32) (a4 : Int32) (Q : Int32 → vM → Prop) (μ : vM) : Prop := ∃ x5_8 : Int32, x5_8 = (143 : Int32) + ((121 : Int32) * a1) ∧ vp_in (0 : Int32) 3 ∧ ∃ μ16 : vM, μ16 = st μ 11 (0 : Int32).toNatClampNeg a2 ∧ vp_in (1 : Int32) 3 ∧ ∃ μ23 : vM, μ23 = st μ16 11 (1 : Int32).toNatClampNeg a3 ∧ vp_in (2 : Int32) 3 ∧ ∃ μ31 : vM, μ31 = st μ23 11 (2 : Int32).toNatClampNeg a4 ∧ vp_in x5_8 385 ∧ if (μ31 1 x5_8.toNatClampNeg) ≤ 0 then wp_X7_gives_52 a1 a2 a3 a4 Q a2 μ31 else wp_X7_works x5_8 (fun r45 μ45 => wp_X7_gives_52 a1 a2 a3 a4 Q r45 μ45) μ31
set_option maxRecDepth 100000 in
set_option maxHeartbeats 4000000 in
theorem c_X7_gives (l : Launch) (G : vG) (hG : gO G) (a1 : Int32) (a2 : Int32) (a3 : Int32) (a4 : Int32) (h0 : isX7 G) (Q : Int32 → vM → Prop) (μ : vM) (hw : wp_X7_gives a1 a2 a3 a4 Q μ) : mt l G yX7_gives vX7_gives { frames := 2, cells := 0, slots := 0, locals := 46 } [.ref (ga G 0), .int a1, .int a2, .int a3, .int a4] μ (qI G Q) := by
  refine met_of (cc := cX7_gives) (maxL := 7) (ret := (some .int)) RX7 (by decide) rfl rfl hG (Nat.le_of_ble_eq_true rfl) ?_
  intro p e s m below meth c X h ls hl
  have hl : lv_has ls 7 [(0, .ref (ga G 0)), (1, .int a1), (2, .int a2), (3, .int a3), (4, .int a4)] := hl
  have hx := X.1
  have hb := X.2.1
  unfold wp_X7_gives at hw
  refine lv_sipush (v := (143 : Int32)) hx hb dX7_gives_0 (by decide) ?_
  refine lv_bipush (v := (121 : Int32)) hx hb dX7_gives_3 (by decide) ?_
  refine lv_iload_n hx hb dX7_gives_5 rfl (lv_at hl 1 rfl) ?_
  refine lv_imul hx hb dX7_gives_6 ?_
  refine lv_iadd hx hb dX7_gives_7 ?_
  obtain ⟨x5_8, ex5_8, hw⟩ := hw
  refine topE ex5_8 ?_
  refine lv_istore (lv' := [(5, .int x5_8), (0, .ref (ga G 0)), (1, .int a1), (2, .int a2), (3, .int a3), (4, .int a4)]) hx hb dX7_gives_8 hl (by decide) rfl (fun ls hl => ?_)
  refine lv_aload_n hx hb dX7_gives_10 rfl (lv_at hl 1 rfl) ?_
  refine r_getR (q := 11) X h (X7_o h0) rfl uX7 12 (by decide) lf_4_63 rfl dX7_gives_11 ?_
  refine lv_iconst (v := (0 : Int32)) hx hb dX7_gives_14 (by decide) ?_
  refine lv_iload_n hx hb dX7_gives_15 rfl (lv_at hl 3 rfl) ?_
  obtain ⟨hi, μ16, eμ16, hw⟩ := hw
  refine r_ast X h (X7_facts h0) hi eμ16 dX7_gives_16 (fun H locs h => ?_)
  refine lv_aload_n hx hb dX7_gives_17 rfl (lv_at hl 1 rfl) ?_
  refine r_getR (q := 11) X h (X7_o h0) rfl uX7 12 (by decide) lf_4_63 rfl dX7_gives_18 ?_
  refine lv_iconst (v := (1 : Int32)) hx hb dX7_gives_21 (by decide) ?_
  refine lv_iload_n hx hb dX7_gives_22 rfl (lv_at hl 4 rfl) ?_
  obtain ⟨hi, μ23, eμ23, hw⟩ := hw
  refine r_ast X h (X7_facts h0) hi eμ23 dX7_gives_23 (fun H locs h => ?_)
  refine lv_aload_n hx hb dX7_gives_24 rfl (lv_at hl 1 rfl) ?_
  refine r_getR (q := 11) X h (X7_o h0) rfl uX7 12 (by decide) lf_4_63 rfl dX7_gives_25 ?_
  refine lv_iconst (v := (2 : Int32)) hx hb dX7_gives_28 (by decide) ?_
  refine lv_iload hx hb dX7_gives_29 (lv_at hl 5 rfl) ?_
  obtain ⟨hi, μ31, eμ31, hw⟩ := hw
  refine r_ast X h (X7_facts h0) hi eμ31 dX7_gives_31 (fun H locs h => ?_)
  refine lv_aload_n hx hb dX7_gives_32 rfl (lv_at hl 1 rfl) ?_
  refine r_getR (q := 1) X h (X7_o h0) rfl uX7 0 (by decide) lf_4_51 rfl dX7_gives_33 ?_
  refine lv_iload hx hb dX7_gives_36 (lv_at hl 0 rfl) ?_
  obtain ⟨hi, hw⟩ := hw
  refine r_ald X h (X7_row h0) hi dX7_gives_38 ?_
  have s52 : ∀ (t0 : Int32) (μ : vM), ∀ (H : Heap) (locs : List Loc) (ls : Array Slot), bw G s μ H locs → lv_has ls 7 [(1, .int a1)] → wp_X7_gives_52 a1 a2 a3 a4 Q t0 μ → W p l e ({ frames := 2, cells := 0, slots := 0, locals := 46 } : Room) s m ([.ref (ga G 0), .int a1, .int a2, .int a3, .int a4] : List Value).toArray below meth c H locs 0 0 (MQ below (qI G Q) ([.ref (ga G 0), .int a1, .int a2, .int a3, .int a4] : List Value).toArray s 0 0 (gA G)) (F0 m 52 ls [.int t0]) := by
    intro t0 μ H locs ls h hl hw
    unfold wp_X7_gives_52 at hw
    refine lv_istore (lv' := [(6, .int t0), (1, .int a1)]) hx hb dX7_gives_52 hl (by decide) rfl (fun ls hl => ?_)
    refine lv_iload_n hx hb dX7_gives_54 rfl (lv_at hl 1 rfl) ?_
    refine lv_if_ne (tgt := 68) hx hb dX7_gives_55 (by decide) (fun hc => ?_) (fun hc => ?_)
    · rw [if_neg hc] at hw
      refine lv_iload hx hb dX7_gives_68 (lv_at hl 0 rfl) ?_
      refine lv_iconst (v := (0 : Int32)) hx hb dX7_gives_70 (by decide) ?_
      refine lv_bipush (v := (99 : Int32)) hx hb dX7_gives_71 (by decide) ?_
      refine k_i h (n_T (rest := []) (As := [.int t0, .int (0 : Int32), .int (99 : Int32)]) X h hl.1 (c_X7_held l G hG t0 (0 : Int32) (99 : Int32) _ _ hw) gk_X7_198 rfl hd_X7_held ⟨rfl, rfl⟩ ⟨Nat.le_of_ble_eq_true rfl, Nat.le_of_ble_eq_true rfl⟩ rfl (Nat.le_of_ble_eq_true rfl) dX7_gives_73 ⟨Nat.zero_le _, Nat.zero_le _⟩) (fun r73 μ73 H locs hw h => ?_)
      exact r_iret X h hw dX7_gives_76
    · rw [if_pos hc] at hw
      refine lv_iload hx hb dX7_gives_58 (lv_at hl 0 rfl) ?_
      refine lv_iconst (v := (0 : Int32)) hx hb dX7_gives_60 (by decide) ?_
      refine lv_iconst (v := (3 : Int32)) hx hb dX7_gives_61 (by decide) ?_
      refine k_i h (n_T (rest := []) (As := [.int t0, .int (0 : Int32), .int (3 : Int32)]) X h hl.1 (c_X7_held l G hG t0 (0 : Int32) (3 : Int32) _ _ hw) gk_X7_198 rfl hd_X7_held ⟨rfl, rfl⟩ ⟨Nat.le_of_ble_eq_true rfl, Nat.le_of_ble_eq_true rfl⟩ rfl (Nat.le_of_ble_eq_true rfl) dX7_gives_62 ⟨Nat.zero_le _, Nat.zero_le _⟩) (fun r62 μ62 H locs hw h => ?_)
      refine lv_goto (tgt := 76) hx hb dX7_gives_65 (by decide) ?_
      exact r_iret X h hw dX7_gives_76
  refine lv_if_le (tgt := 51) hx hb dX7_gives_39 (by decide) (fun hc => ?_) (fun hc => ?_)
  · rw [if_pos hc] at hw
    refine lv_iload_n hx hb dX7_gives_51 rfl (lv_at hl 3 rfl) ?_
    exact s52 a2 μ31 _ _ _ h (lv_sub hl [2] rfl) hw
  · rw [if_neg hc] at hw
    refine lv_aload_n hx hb dX7_gives_42 rfl (lv_at hl 1 rfl) ?_
    refine lv_iload hx hb dX7_gives_43 (lv_at hl 0 rfl) ?_
    refine k_i h (n_V (rest := []) (As := [.int x5_8]) X h hl.1 (c_X7_works l G hG x5_8 h0 _ _ hw) gk_X7_195 rfl hd_X7_works ⟨rfl, rfl⟩ ⟨Nat.le_of_ble_eq_true rfl, Nat.le_of_ble_eq_true rfl⟩ (X7_o h0) rfl rfl (Nat.le_of_ble_eq_true rfl) dX7_gives_45 ⟨Nat.zero_le _, Nat.zero_le _⟩) (fun r45 μ45 H locs hw h => ?_)
    refine lv_goto (tgt := 52) hx hb dX7_gives_48 (by decide) ?_
    exact s52 r45 μ45 _ _ _ h (lv_sub hl [2] rfl) hw
def wp_X7_stepsOf_33 (a1 : Int32) (Q : Int32 → vM → Prop) (t1 : Int32) (t2 : Int32) (t3 : Int32) (t4 : Int32) (μ : vM) : Prop := wp_X7_gives t1 t2 t3 t4 (fun r33 μ33 => Q r33 μ33) μ
def wp_X7_stepsOf (a1 : Int32) (Q : Int32 → vM → Prop) (μ : vM) : Prop := wp_X7_farHome a1 (fun r2 μ2 => wp_X7_walksBy a1 (fun r10 μ10 => vp_in (0 : Int32) 385 ∧ wp_X7_stepsOf_33 a1 Q (0 : Int32) r10 ((μ10 1 (0 : Int32).toNatClampNeg) % (7 : Int32)) (if r2 = (99 : Int32) then (0 : Int32) else r2) μ10) μ2) μ
set_option maxRecDepth 100000 in
set_option maxHeartbeats 4000000 in
theorem c_X7_stepsOf (l : Launch) (G : vG) (hG : gO G) (a1 : Int32) (h0 : isX7 G) (Q : Int32 → vM → Prop) (μ : vM) (hw : wp_X7_stepsOf a1 Q μ) : mt l G yX7_stepsOf vX7_stepsOf { frames := 3, cells := 0, slots := 0, locals := 72 } [.ref (ga G 0), .int a1] μ (qI G Q) := by
  refine met_of (cc := cX7_stepsOf) (maxL := 3) (ret := (some .int)) RX7 (by decide) rfl rfl hG (Nat.le_of_ble_eq_true rfl) ?_
  intro p e s m below meth c X h ls hl
  have hl : lv_has ls 3 [(0, .ref (ga G 0)), (1, .int a1)] := hl
  have hx := X.1
  have hb := X.2.1
  unfold wp_X7_stepsOf at hw
  refine lv_aload_n hx hb dX7_stepsOf_0 rfl (lv_at hl 0 rfl) ?_
  refine lv_iload_n hx hb dX7_stepsOf_1 rfl (lv_at hl 1 rfl) ?_
  refine k_i h (n_V (rest := []) (As := [.int a1]) X h hl.1 (c_X7_farHome l G hG a1 h0 _ _ hw) gk_X7_84 rfl hd_X7_farHome ⟨rfl, rfl⟩ ⟨Nat.le_of_ble_eq_true rfl, Nat.le_of_ble_eq_true rfl⟩ (X7_o h0) rfl rfl (Nat.le_of_ble_eq_true rfl) dX7_stepsOf_2 ⟨Nat.zero_le _, Nat.zero_le _⟩) (fun r2 μ2 H locs hw h => ?_)
  refine lv_istore_n (lv' := [(2, .int r2), (0, .ref (ga G 0)), (1, .int a1)]) hx hb dX7_stepsOf_5 rfl hl (by decide) rfl (fun ls hl => ?_)
  refine lv_aload_n hx hb dX7_stepsOf_6 rfl (lv_at hl 1 rfl) ?_
  refine lv_iconst (v := (0 : Int32)) hx hb dX7_stepsOf_7 (by decide) ?_
  refine lv_aload_n hx hb dX7_stepsOf_8 rfl (lv_at hl 1 rfl) ?_
  refine lv_iload_n hx hb dX7_stepsOf_9 rfl (lv_at hl 2 rfl) ?_
  refine k_i h (n_V (rest := [.int (0 : Int32), .ref (ga G 0)]) (As := [.int a1]) X h hl.1 (c_X7_walksBy l G hG a1 h0 _ _ hw) gk_X7_90 rfl hd_X7_walksBy ⟨rfl, rfl⟩ ⟨Nat.le_of_ble_eq_true rfl, Nat.le_of_ble_eq_true rfl⟩ (X7_o h0) rfl rfl (Nat.le_of_ble_eq_true rfl) dX7_stepsOf_10 ⟨Nat.zero_le _, Nat.zero_le _⟩) (fun r10 μ10 H locs hw h => ?_)
  refine lv_aload_n hx hb dX7_stepsOf_13 rfl (lv_at hl 1 rfl) ?_
  refine r_getR (q := 1) X h (X7_o h0) rfl uX7 0 (by decide) lf_4_51 rfl dX7_stepsOf_14 ?_
  refine lv_iconst (v := (0 : Int32)) hx hb dX7_stepsOf_17 (by decide) ?_
  obtain ⟨hi, hw⟩ := hw
  refine r_ald X h (X7_row h0) hi dX7_stepsOf_18 ?_
  refine lv_bipush (v := (7 : Int32)) hx hb dX7_stepsOf_19 (by decide) ?_
  refine r_irem hx hb dX7_stepsOf_21 (by decide) ?_
  refine lv_iload_n hx hb dX7_stepsOf_22 rfl (lv_at hl 0 rfl) ?_
  refine lv_bipush (v := (99 : Int32)) hx hb dX7_stepsOf_23 (by decide) ?_
  have s33 : ∀ (t1 : Int32) (t2 : Int32) (t3 : Int32) (t4 : Int32) (μ : vM), ∀ (H : Heap) (locs : List Loc) (ls : Array Slot), bw G s μ H locs → lv_has ls 3 [] → wp_X7_stepsOf_33 a1 Q t1 t2 t3 t4 μ → W p l e ({ frames := 3, cells := 0, slots := 0, locals := 72 } : Room) s m ([.ref (ga G 0), .int a1] : List Value).toArray below meth c H locs 0 0 (MQ below (qI G Q) ([.ref (ga G 0), .int a1] : List Value).toArray s 0 0 (gA G)) (F0 m 33 ls [.int t4, .int t3, .int t2, .int t1, .ref (ga G 0)]) := by
    intro t1 t2 t3 t4 μ H locs ls h hl hw
    unfold wp_X7_stepsOf_33 at hw
    refine k_i h (n_V (rest := []) (As := [.int t1, .int t2, .int t3, .int t4]) X h hl.1 (c_X7_gives l G hG t1 t2 t3 t4 h0 _ _ hw) gk_X7_93 rfl hd_X7_gives ⟨rfl, rfl⟩ ⟨Nat.le_of_ble_eq_true rfl, Nat.le_of_ble_eq_true rfl⟩ (X7_o h0) rfl rfl (Nat.le_of_ble_eq_true rfl) dX7_stepsOf_33 ⟨Nat.zero_le _, Nat.zero_le _⟩) (fun r33 μ33 H locs hw h => ?_)
    exact r_iret X h hw dX7_stepsOf_36
  refine lv_icmp_ne (tgt := 32) hx hb dX7_stepsOf_25 (by decide) (fun hc => ?_) (fun hc => ?_)
  · rw [if_neg hc] at hw
    refine lv_iload_n hx hb dX7_stepsOf_32 rfl (lv_at hl 0 rfl) ?_
    exact s33 (0 : Int32) r10 ((μ10 1 (0 : Int32).toNatClampNeg) % (7 : Int32)) r2 μ10 _ _ _ h (lv_sub hl [] rfl) hw
  · rw [if_pos hc] at hw
    refine lv_iconst (v := (0 : Int32)) hx hb dX7_stepsOf_28 (by decide) ?_
    refine lv_goto (tgt := 33) hx hb dX7_stepsOf_29 (by decide) ?_
    exact s33 (0 : Int32) r10 ((μ10 1 (0 : Int32).toNatClampNeg) % (7 : Int32)) (0 : Int32) μ10 _ _ _ h (lv_sub hl [] rfl) hw
def wp_X7_worthOf (a1 : Int32) (Q : Int32 → vM → Prop) (μ : vM) : Prop := wp_X7_weighsOf a1 (fun r4 μ4 => wp_X7_of a1 (4 : Int32) (fun r10 μ10 => vp_in (0 : Int32) 385 ∧ wp_X7_gives (1 : Int32) r4 r10 ((μ10 1 (0 : Int32).toNatClampNeg) % (10 : Int32)) (fun r22 μ22 => Q r22 μ22) μ10) μ4) μ
set_option maxRecDepth 100000 in
set_option maxHeartbeats 4000000 in
theorem c_X7_worthOf (l : Launch) (G : vG) (hG : gO G) (a1 : Int32) (h0 : isX7 G) (Q : Int32 → vM → Prop) (μ : vM) (hw : wp_X7_worthOf a1 Q μ) : mt l G yX7_worthOf vX7_worthOf { frames := 3, cells := 0, slots := 0, locals := 72 } [.ref (ga G 0), .int a1] μ (qI G Q) := by
  refine met_of (cc := cX7_worthOf) (maxL := 2) (ret := (some .int)) RX7 (by decide) rfl rfl hG (Nat.le_of_ble_eq_true rfl) ?_
  intro p e s m below meth c X h ls hl
  have hl : lv_has ls 2 [(0, .ref (ga G 0)), (1, .int a1)] := hl
  have hx := X.1
  have hb := X.2.1
  unfold wp_X7_worthOf at hw
  refine lv_aload_n hx hb dX7_worthOf_0 rfl (lv_at hl 0 rfl) ?_
  refine lv_iconst (v := (1 : Int32)) hx hb dX7_worthOf_1 (by decide) ?_
  refine lv_aload_n hx hb dX7_worthOf_2 rfl (lv_at hl 0 rfl) ?_
  refine lv_iload_n hx hb dX7_worthOf_3 rfl (lv_at hl 1 rfl) ?_
  refine k_i h (n_V (rest := [.int (1 : Int32), .ref (ga G 0)]) (As := [.int a1]) X h hl.1 (c_X7_weighsOf l G hG a1 h0 _ _ hw) gk_X7_97 rfl hd_X7_weighsOf ⟨rfl, rfl⟩ ⟨Nat.le_of_ble_eq_true rfl, Nat.le_of_ble_eq_true rfl⟩ (X7_o h0) rfl rfl (Nat.le_of_ble_eq_true rfl) dX7_worthOf_4 ⟨Nat.zero_le _, Nat.zero_le _⟩) (fun r4 μ4 H locs hw h => ?_)
  refine lv_aload_n hx hb dX7_worthOf_7 rfl (lv_at hl 0 rfl) ?_
  refine lv_iload_n hx hb dX7_worthOf_8 rfl (lv_at hl 1 rfl) ?_
  refine lv_iconst (v := (4 : Int32)) hx hb dX7_worthOf_9 (by decide) ?_
  refine k_i h (n_V (rest := [.int r4, .int (1 : Int32), .ref (ga G 0)]) (As := [.int a1, .int (4 : Int32)]) X h hl.1 (c_X7_of l G hG a1 (4 : Int32) h0 _ _ hw) gk_X7_61 rfl hd_X7_of ⟨rfl, rfl⟩ ⟨Nat.le_of_ble_eq_true rfl, Nat.le_of_ble_eq_true rfl⟩ (X7_o h0) rfl rfl (Nat.le_of_ble_eq_true rfl) dX7_worthOf_10 ⟨Nat.zero_le _, Nat.zero_le _⟩) (fun r10 μ10 H locs hw h => ?_)
  refine lv_aload_n hx hb dX7_worthOf_13 rfl (lv_at hl 0 rfl) ?_
  refine r_getR (q := 1) X h (X7_o h0) rfl uX7 0 (by decide) lf_4_51 rfl dX7_worthOf_14 ?_
  refine lv_iconst (v := (0 : Int32)) hx hb dX7_worthOf_17 (by decide) ?_
  obtain ⟨hi, hw⟩ := hw
  refine r_ald X h (X7_row h0) hi dX7_worthOf_18 ?_
  refine lv_bipush (v := (10 : Int32)) hx hb dX7_worthOf_19 (by decide) ?_
  refine r_irem hx hb dX7_worthOf_21 (by decide) ?_
  refine k_i h (n_V (rest := []) (As := [.int (1 : Int32), .int r4, .int r10, .int ((μ10 1 (0 : Int32).toNatClampNeg) % (10 : Int32))]) X h hl.1 (c_X7_gives l G hG (1 : Int32) r4 r10 ((μ10 1 (0 : Int32).toNatClampNeg) % (10 : Int32)) h0 _ _ hw) gk_X7_93 rfl hd_X7_gives ⟨rfl, rfl⟩ ⟨Nat.le_of_ble_eq_true rfl, Nat.le_of_ble_eq_true rfl⟩ (X7_o h0) rfl rfl (Nat.le_of_ble_eq_true rfl) dX7_worthOf_22 ⟨Nat.zero_le _, Nat.zero_le _⟩) (fun r22 μ22 H locs hw h => ?_)
  exact r_iret X h hw dX7_worthOf_25
def wp_X7_opensFrom (a1 : Int32) (a2 : Int32) (a3 : Int32) (Q : vM → Prop) (μ : vM) : Prop := if a3 = (1 : Int32) then vp_in ((9 : Int32) + a1) 385 ∧ vp_in ((9 : Int32) + a1) 385 ∧ ∃ μ44 : vM, μ44 = st μ 1 ((9 : Int32) + a1).toNatClampNeg ((μ 1 ((9 : Int32) + a1).toNatClampNeg) ||| ((1 : Int32) <<< (a2 &&& 31))) ∧ bz (0 : Int32) ∧ ∃ μ47 : vM, μ47 = st μ44 0 9 (0 : Int32) ∧ Q μ47 else vp_in ((9 : Int32) + a1) 385 ∧ vp_in ((9 : Int32) + a1) 385 ∧ ∃ μ44 : vM, μ44 = st μ 1 ((9 : Int32) + a1).toNatClampNeg ((μ 1 ((9 : Int32) + a1).toNatClampNeg) &&& (((1 : Int32) <<< (a2 &&& 31)) ^^^ (-1 : Int32))) ∧ bz (0 : Int32) ∧ ∃ μ47 : vM, μ47 = st μ44 0 9 (0 : Int32) ∧ Q μ47
set_option maxRecDepth 100000 in
set_option maxHeartbeats 4000000 in
theorem c_X7_opensFrom (l : Launch) (G : vG) (hG : gO G) (a1 : Int32) (a2 : Int32) (a3 : Int32) (h0 : isX7 G) (Q : vM → Prop) (μ : vM) (hw : wp_X7_opensFrom a1 a2 a3 Q μ) : mt l G yX7_opensFrom vX7_opensFrom { frames := 0, cells := 0, slots := 0, locals := 0 } [.ref (ga G 0), .int a1, .int a2, .int a3] μ (qV G Q) := by
  refine met_of (cc := cX7_opensFrom) (maxL := 4) (ret := none) RX7 (by decide) rfl rfl hG (Nat.le_of_ble_eq_true rfl) ?_
  intro p e s m below meth c X h ls hl
  have hl : lv_has ls 4 [(0, .ref (ga G 0)), (1, .int a1), (2, .int a2), (3, .int a3)] := hl
  have hx := X.1
  have hb := X.2.1
  unfold wp_X7_opensFrom at hw
  refine lv_aload_n hx hb dX7_opensFrom_0 rfl (lv_at hl 0 rfl) ?_
  refine r_getR (q := 1) X h (X7_o h0) rfl uX7 0 (by decide) lf_4_51 rfl dX7_opensFrom_1 ?_
  refine lv_bipush (v := (9 : Int32)) hx hb dX7_opensFrom_4 (by decide) ?_
  refine lv_iload_n hx hb dX7_opensFrom_6 rfl (lv_at hl 1 rfl) ?_
  refine lv_iadd hx hb dX7_opensFrom_7 ?_
  refine lv_iload_n hx hb dX7_opensFrom_8 rfl (lv_at hl 3 rfl) ?_
  refine lv_iconst (v := (1 : Int32)) hx hb dX7_opensFrom_9 (by decide) ?_
  refine lv_icmp_ne (tgt := 29) hx hb dX7_opensFrom_10 (by decide) (fun hc => ?_) (fun hc => ?_)
  · rw [if_neg hc] at hw
    refine lv_aload_n hx hb dX7_opensFrom_29 rfl (lv_at hl 0 rfl) ?_
    refine r_getR (q := 1) X h (X7_o h0) rfl uX7 0 (by decide) lf_4_51 rfl dX7_opensFrom_30 ?_
    refine lv_bipush (v := (9 : Int32)) hx hb dX7_opensFrom_33 (by decide) ?_
    refine lv_iload_n hx hb dX7_opensFrom_35 rfl (lv_at hl 1 rfl) ?_
    refine lv_iadd hx hb dX7_opensFrom_36 ?_
    obtain ⟨hi, hw⟩ := hw
    refine r_ald X h (X7_row h0) hi dX7_opensFrom_37 ?_
    refine lv_iconst (v := (1 : Int32)) hx hb dX7_opensFrom_38 (by decide) ?_
    refine lv_iload_n hx hb dX7_opensFrom_39 rfl (lv_at hl 2 rfl) ?_
    refine lv_ishl hx hb dX7_opensFrom_40 ?_
    refine lv_iconst (v := (-1 : Int32)) hx hb dX7_opensFrom_41 (by decide) ?_
    refine lv_ixor hx hb dX7_opensFrom_42 ?_
    refine lv_iand hx hb dX7_opensFrom_43 ?_
    obtain ⟨hi, μ44, eμ44, hw⟩ := hw
    refine r_ast X h (X7_row h0) hi eμ44 dX7_opensFrom_44 (fun H locs h => ?_)
    refine lv_aload_n hx hb dX7_opensFrom_45 rfl (lv_at hl 0 rfl) ?_
    refine lv_iconst (v := (0 : Int32)) hx hb dX7_opensFrom_46 (by decide) ?_
    obtain ⟨hz, hw⟩ := hw
    obtain ⟨μ47, eμ47, hw⟩ := hw
    refine r_putZ X h (X7_o h0) rfl uX7 tyX7 tyX7_ok nmX7 9 (by decide) lf_4_60 rfl rfl rfl  hz eμ47 dX7_opensFrom_47 (fun H locs h => ?_)
    exact r_vret X h hw dX7_opensFrom_50
  · rw [if_pos hc] at hw
    refine lv_aload_n hx hb dX7_opensFrom_13 rfl (lv_at hl 0 rfl) ?_
    refine r_getR (q := 1) X h (X7_o h0) rfl uX7 0 (by decide) lf_4_51 rfl dX7_opensFrom_14 ?_
    refine lv_bipush (v := (9 : Int32)) hx hb dX7_opensFrom_17 (by decide) ?_
    refine lv_iload_n hx hb dX7_opensFrom_19 rfl (lv_at hl 1 rfl) ?_
    refine lv_iadd hx hb dX7_opensFrom_20 ?_
    obtain ⟨hi, hw⟩ := hw
    refine r_ald X h (X7_row h0) hi dX7_opensFrom_21 ?_
    refine lv_iconst (v := (1 : Int32)) hx hb dX7_opensFrom_22 (by decide) ?_
    refine lv_iload_n hx hb dX7_opensFrom_23 rfl (lv_at hl 2 rfl) ?_
    refine lv_ishl hx hb dX7_opensFrom_24 ?_
    refine lv_ior hx hb dX7_opensFrom_25 ?_
    refine lv_goto (tgt := 44) hx hb dX7_opensFrom_26 (by decide) ?_
    obtain ⟨hi, μ44, eμ44, hw⟩ := hw
    refine r_ast X h (X7_row h0) hi eμ44 dX7_opensFrom_44 (fun H locs h => ?_)
    refine lv_aload_n hx hb dX7_opensFrom_45 rfl (lv_at hl 0 rfl) ?_
    refine lv_iconst (v := (0 : Int32)) hx hb dX7_opensFrom_46 (by decide) ?_
    obtain ⟨hz, hw⟩ := hw
    obtain ⟨μ47, eμ47, hw⟩ := hw
    refine r_putZ X h (X7_o h0) rfl uX7 tyX7 tyX7_ok nmX7 9 (by decide) lf_4_60 rfl rfl rfl  hz eμ47 dX7_opensFrom_47 (fun H locs h => ?_)
    exact r_vret X h hw dX7_opensFrom_50
def wp_X7_opens (a1 : Int32) (a2 : Int32) (a3 : Int32) (Q : Int32 → vM → Prop) (μ : vM) : Prop := wp_X7_isPlace a1 (fun r1 μ1 => if r1 = 0 then wp_X7_error (-1000000001 : Int32) (fun r31 μ31 => Q r31 μ31) μ1 else wp_X7_isPlace a2 (fun r8 μ8 => if r8 = 0 then wp_X7_error (-1000000001 : Int32) (fun r31 μ31 => Q r31 μ31) μ8 else if a1 = a2 then wp_X7_error (-1000000001 : Int32) (fun r31 μ31 => Q r31 μ31) μ8 else wp_X7_in a3 (0 : Int32) (1 : Int32) (fun r22 μ22 => if r22 = 0 then wp_X7_error (-1000000001 : Int32) (fun r31 μ31 => Q r31 μ31) μ22 else vp_in ((9 : Int32) + a1) 385 ∧ ∃ x4_48 : Int32, x4_48 = ((μ22 1 ((9 : Int32) + a1).toNatClampNeg) >>> (a2 &&& 31)) &&& (1 : Int32) ∧ wp_X7_opensFrom a1 a2 a3 (fun μ54 => wp_X7_opensFrom a2 a1 a3 (fun μ61 => Q x4_48 μ61) μ54) μ22) μ8) μ1) μ
set_option maxRecDepth 100000 in
set_option maxHeartbeats 4000000 in
theorem c_X7_opens (l : Launch) (G : vG) (hG : gO G) (a1 : Int32) (a2 : Int32) (a3 : Int32) (h0 : isX7 G) (Q : Int32 → vM → Prop) (μ : vM) (hw : wp_X7_opens a1 a2 a3 Q μ) : mt l G yX7_opens vX7_opens { frames := 2, cells := 0, slots := 0, locals := 42 } [.ref (ga G 0), .int a1, .int a2, .int a3] μ (qI G Q) := by
  refine met_of (cc := cX7_opens) (maxL := 5) (ret := (some .int)) RX7 (by decide) rfl rfl hG (Nat.le_of_ble_eq_true rfl) ?_
  intro p e s m below meth c X h ls hl
  have hl : lv_has ls 5 [(0, .ref (ga G 0)), (1, .int a1), (2, .int a2), (3, .int a3)] := hl
  have hx := X.1
  have hb := X.2.1
  unfold wp_X7_opens at hw
  refine lv_iload_n hx hb dX7_opens_0 rfl (lv_at hl 1 rfl) ?_
  refine k_i h (n_T (rest := []) (As := [.int a1]) X h hl.1 (c_X7_isPlace l G hG a1 _ _ hw) gk_X7_100 rfl hd_X7_isPlace ⟨rfl, rfl⟩ ⟨Nat.le_of_ble_eq_true rfl, Nat.le_of_ble_eq_true rfl⟩ rfl (Nat.le_of_ble_eq_true rfl) dX7_opens_1 ⟨Nat.zero_le _, Nat.zero_le _⟩) (fun r1 μ1 H locs hw h => ?_)
  refine lv_if_eq (tgt := 28) hx hb dX7_opens_4 (by decide) (fun hc => ?_) (fun hc => ?_)
  · rw [if_pos hc] at hw
    refine lv_aload_n hx hb dX7_opens_28 rfl (lv_at hl 0 rfl) ?_
    refine r_ldc X (v := (-1000000001 : Int32)) ww_4_131 dX7_opens_29 ?_
    refine k_i h (n_V (rest := []) (As := [.int (-1000000001 : Int32)]) X h hl.1 (c_X7_error l G hG (-1000000001 : Int32) h0 _ _ hw) gk_X7_104 rfl hd_X7_error ⟨rfl, rfl⟩ ⟨Nat.le_of_ble_eq_true rfl, Nat.le_of_ble_eq_true rfl⟩ (X7_o h0) rfl rfl (Nat.le_of_ble_eq_true rfl) dX7_opens_31 ⟨Nat.zero_le _, Nat.zero_le _⟩) (fun r31 μ31 H locs hw h => ?_)
    exact r_iret X h hw dX7_opens_34
  · rw [if_neg hc] at hw
    refine lv_iload_n hx hb dX7_opens_7 rfl (lv_at hl 2 rfl) ?_
    refine k_i h (n_T (rest := []) (As := [.int a2]) X h hl.1 (c_X7_isPlace l G hG a2 _ _ hw) gk_X7_100 rfl hd_X7_isPlace ⟨rfl, rfl⟩ ⟨Nat.le_of_ble_eq_true rfl, Nat.le_of_ble_eq_true rfl⟩ rfl (Nat.le_of_ble_eq_true rfl) dX7_opens_8 ⟨Nat.zero_le _, Nat.zero_le _⟩) (fun r8 μ8 H locs hw h => ?_)
    refine lv_if_eq (tgt := 28) hx hb dX7_opens_11 (by decide) (fun hc => ?_) (fun hc => ?_)
    · rw [if_pos hc] at hw
      refine lv_aload_n hx hb dX7_opens_28 rfl (lv_at hl 0 rfl) ?_
      refine r_ldc X (v := (-1000000001 : Int32)) ww_4_131 dX7_opens_29 ?_
      refine k_i h (n_V (rest := []) (As := [.int (-1000000001 : Int32)]) X h hl.1 (c_X7_error l G hG (-1000000001 : Int32) h0 _ _ hw) gk_X7_104 rfl hd_X7_error ⟨rfl, rfl⟩ ⟨Nat.le_of_ble_eq_true rfl, Nat.le_of_ble_eq_true rfl⟩ (X7_o h0) rfl rfl (Nat.le_of_ble_eq_true rfl) dX7_opens_31 ⟨Nat.zero_le _, Nat.zero_le _⟩) (fun r31 μ31 H locs hw h => ?_)
      exact r_iret X h hw dX7_opens_34
    · rw [if_neg hc] at hw
      refine lv_iload_n hx hb dX7_opens_14 rfl (lv_at hl 1 rfl) ?_
      refine lv_iload_n hx hb dX7_opens_15 rfl (lv_at hl 2 rfl) ?_
      refine lv_icmp_eq (tgt := 28) hx hb dX7_opens_16 (by decide) (fun hc => ?_) (fun hc => ?_)
      · rw [if_pos hc] at hw
        refine lv_aload_n hx hb dX7_opens_28 rfl (lv_at hl 0 rfl) ?_
        refine r_ldc X (v := (-1000000001 : Int32)) ww_4_131 dX7_opens_29 ?_
        refine k_i h (n_V (rest := []) (As := [.int (-1000000001 : Int32)]) X h hl.1 (c_X7_error l G hG (-1000000001 : Int32) h0 _ _ hw) gk_X7_104 rfl hd_X7_error ⟨rfl, rfl⟩ ⟨Nat.le_of_ble_eq_true rfl, Nat.le_of_ble_eq_true rfl⟩ (X7_o h0) rfl rfl (Nat.le_of_ble_eq_true rfl) dX7_opens_31 ⟨Nat.zero_le _, Nat.zero_le _⟩) (fun r31 μ31 H locs hw h => ?_)
        exact r_iret X h hw dX7_opens_34
      · rw [if_neg hc] at hw
        refine lv_iload_n hx hb dX7_opens_19 rfl (lv_at hl 3 rfl) ?_
        refine lv_iconst (v := (0 : Int32)) hx hb dX7_opens_20 (by decide) ?_
        refine lv_iconst (v := (1 : Int32)) hx hb dX7_opens_21 (by decide) ?_
        refine k_i h (n_T (rest := []) (As := [.int a3, .int (0 : Int32), .int (1 : Int32)]) X h hl.1 (c_X7_in l G hG a3 (0 : Int32) (1 : Int32) _ _ hw) gk_X7_57 rfl hd_X7_in ⟨rfl, rfl⟩ ⟨Nat.le_of_ble_eq_true rfl, Nat.le_of_ble_eq_true rfl⟩ rfl (Nat.le_of_ble_eq_true rfl) dX7_opens_22 ⟨Nat.zero_le _, Nat.zero_le _⟩) (fun r22 μ22 H locs hw h => ?_)
        refine lv_if_ne (tgt := 35) hx hb dX7_opens_25 (by decide) (fun hc => ?_) (fun hc => ?_)
        · rw [if_neg hc] at hw
          refine lv_aload_n hx hb dX7_opens_35 rfl (lv_at hl 0 rfl) ?_
          refine r_getR (q := 1) X h (X7_o h0) rfl uX7 0 (by decide) lf_4_51 rfl dX7_opens_36 ?_
          refine lv_bipush (v := (9 : Int32)) hx hb dX7_opens_39 (by decide) ?_
          refine lv_iload_n hx hb dX7_opens_41 rfl (lv_at hl 1 rfl) ?_
          refine lv_iadd hx hb dX7_opens_42 ?_
          obtain ⟨hi, hw⟩ := hw
          refine r_ald X h (X7_row h0) hi dX7_opens_43 ?_
          refine lv_iload_n hx hb dX7_opens_44 rfl (lv_at hl 2 rfl) ?_
          refine lv_ishr hx hb dX7_opens_45 ?_
          refine lv_iconst (v := (1 : Int32)) hx hb dX7_opens_46 (by decide) ?_
          refine lv_iand hx hb dX7_opens_47 ?_
          obtain ⟨x4_48, ex4_48, hw⟩ := hw
          refine topE ex4_48 ?_
          refine lv_istore (lv' := [(4, .int x4_48), (0, .ref (ga G 0)), (1, .int a1), (2, .int a2), (3, .int a3)]) hx hb dX7_opens_48 hl (by decide) rfl (fun ls hl => ?_)
          refine lv_aload_n hx hb dX7_opens_50 rfl (lv_at hl 1 rfl) ?_
          refine lv_iload_n hx hb dX7_opens_51 rfl (lv_at hl 2 rfl) ?_
          refine lv_iload_n hx hb dX7_opens_52 rfl (lv_at hl 3 rfl) ?_
          refine lv_iload_n hx hb dX7_opens_53 rfl (lv_at hl 4 rfl) ?_
          refine k_v h (n_V (rest := []) (As := [.int a1, .int a2, .int a3]) X h hl.1 (c_X7_opensFrom l G hG a1 a2 a3 h0 _ _ hw) gk_X7_107 rfl hd_X7_opensFrom ⟨rfl, rfl⟩ ⟨Nat.le_of_ble_eq_true rfl, Nat.le_of_ble_eq_true rfl⟩ (X7_o h0) rfl rfl (Nat.le_of_ble_eq_true rfl) dX7_opens_54 ⟨Nat.zero_le _, Nat.zero_le _⟩) (fun μ54 H locs hw h => ?_)
          refine lv_aload_n hx hb dX7_opens_57 rfl (lv_at hl 1 rfl) ?_
          refine lv_iload_n hx hb dX7_opens_58 rfl (lv_at hl 3 rfl) ?_
          refine lv_iload_n hx hb dX7_opens_59 rfl (lv_at hl 2 rfl) ?_
          refine lv_iload_n hx hb dX7_opens_60 rfl (lv_at hl 4 rfl) ?_
          refine k_v h (n_V (rest := []) (As := [.int a2, .int a1, .int a3]) X h hl.1 (c_X7_opensFrom l G hG a2 a1 a3 h0 _ _ hw) gk_X7_107 rfl hd_X7_opensFrom ⟨rfl, rfl⟩ ⟨Nat.le_of_ble_eq_true rfl, Nat.le_of_ble_eq_true rfl⟩ (X7_o h0) rfl rfl (Nat.le_of_ble_eq_true rfl) dX7_opens_61 ⟨Nat.zero_le _, Nat.zero_le _⟩) (fun μ61 H locs hw h => ?_)
          refine lv_iload hx hb dX7_opens_64 (lv_at hl 0 rfl) ?_
          exact r_iret X h hw dX7_opens_66
        · rw [if_pos hc] at hw
          refine lv_aload_n hx hb dX7_opens_28 rfl (lv_at hl 0 rfl) ?_
          refine r_ldc X (v := (-1000000001 : Int32)) ww_4_131 dX7_opens_29 ?_
          refine k_i h (n_V (rest := []) (As := [.int (-1000000001 : Int32)]) X h hl.1 (c_X7_error l G hG (-1000000001 : Int32) h0 _ _ hw) gk_X7_104 rfl hd_X7_error ⟨rfl, rfl⟩ ⟨Nat.le_of_ble_eq_true rfl, Nat.le_of_ble_eq_true rfl⟩ (X7_o h0) rfl rfl (Nat.le_of_ble_eq_true rfl) dX7_opens_31 ⟨Nat.zero_le _, Nat.zero_le _⟩) (fun r31 μ31 H locs hw h => ?_)
          exact r_iret X h hw dX7_opens_34
def wp_X7_field_25 (a1 : Int32) (a2 : Int32) (Q : Int32 → vM → Prop)  (μ : vM) : Prop := wp_X7_error (-1000000001 : Int32) (fun r28 μ28 => Q r28 μ28) μ
def wp_X7_field (a1 : Int32) (a2 : Int32) (Q : Int32 → vM → Prop) (μ : vM) : Prop := wp_X7_isField a1 (fun r1 μ1 => if r1 = 0 then wp_X7_field_25 a1 a2 Q μ1 else wp_X7_isPlace a2 (fun r8 μ8 => if r8 = 0 then wp_X7_field_25 a1 a2 Q μ8 else wp_X7_becomes ((5 : Int32) + a1) a2 (fun r19 μ19 => Q r19 μ19) μ8) μ1) μ
set_option maxRecDepth 100000 in
set_option maxHeartbeats 4000000 in
theorem c_X7_field (l : Launch) (G : vG) (hG : gO G) (a1 : Int32) (a2 : Int32) (h0 : isX7 G) (Q : Int32 → vM → Prop) (μ : vM) (hw : wp_X7_field a1 a2 Q μ) : mt l G yX7_field vX7_field { frames := 2, cells := 0, slots := 0, locals := 42 } [.ref (ga G 0), .int a1, .int a2] μ (qI G Q) := by
  refine met_of (cc := cX7_field) (maxL := 3) (ret := (some .int)) RX7 (by decide) rfl rfl hG (Nat.le_of_ble_eq_true rfl) ?_
  intro p e s m below meth c X h ls hl
  have hl : lv_has ls 3 [(0, .ref (ga G 0)), (1, .int a1), (2, .int a2)] := hl
  have hx := X.1
  have hb := X.2.1
  unfold wp_X7_field at hw
  refine lv_iload_n hx hb dX7_field_0 rfl (lv_at hl 1 rfl) ?_
  refine k_i h (n_T (rest := []) (As := [.int a1]) X h hl.1 (c_X7_isField l G hG a1 _ _ hw) gk_X7_111 rfl hd_X7_isField ⟨rfl, rfl⟩ ⟨Nat.le_of_ble_eq_true rfl, Nat.le_of_ble_eq_true rfl⟩ rfl (Nat.le_of_ble_eq_true rfl) dX7_field_1 ⟨Nat.zero_le _, Nat.zero_le _⟩) (fun r1 μ1 H locs hw h => ?_)
  have s25 : ∀  (μ : vM), ∀ (H : Heap) (locs : List Loc) (ls : Array Slot), bw G s μ H locs → lv_has ls 3 [(0, .ref (ga G 0))] → wp_X7_field_25 a1 a2 Q μ → W p l e ({ frames := 2, cells := 0, slots := 0, locals := 42 } : Room) s m ([.ref (ga G 0), .int a1, .int a2] : List Value).toArray below meth c H locs 0 0 (MQ below (qI G Q) ([.ref (ga G 0), .int a1, .int a2] : List Value).toArray s 0 0 (gA G)) (F0 m 25 ls []) := by
    intro  μ H locs ls h hl hw
    unfold wp_X7_field_25 at hw
    refine lv_aload_n hx hb dX7_field_25 rfl (lv_at hl 0 rfl) ?_
    refine r_ldc X (v := (-1000000001 : Int32)) ww_4_131 dX7_field_26 ?_
    refine k_i h (n_V (rest := []) (As := [.int (-1000000001 : Int32)]) X h hl.1 (c_X7_error l G hG (-1000000001 : Int32) h0 _ _ hw) gk_X7_104 rfl hd_X7_error ⟨rfl, rfl⟩ ⟨Nat.le_of_ble_eq_true rfl, Nat.le_of_ble_eq_true rfl⟩ (X7_o h0) rfl rfl (Nat.le_of_ble_eq_true rfl) dX7_field_28 ⟨Nat.zero_le _, Nat.zero_le _⟩) (fun r28 μ28 H locs hw h => ?_)
    exact r_iret X h hw dX7_field_31
  refine lv_if_eq (tgt := 25) hx hb dX7_field_4 (by decide) (fun hc => ?_) (fun hc => ?_)
  · rw [if_pos hc] at hw
    exact s25 μ1 _ _ _ h (lv_sub hl [0] rfl) hw
  · rw [if_neg hc] at hw
    refine lv_iload_n hx hb dX7_field_7 rfl (lv_at hl 2 rfl) ?_
    refine k_i h (n_T (rest := []) (As := [.int a2]) X h hl.1 (c_X7_isPlace l G hG a2 _ _ hw) gk_X7_100 rfl hd_X7_isPlace ⟨rfl, rfl⟩ ⟨Nat.le_of_ble_eq_true rfl, Nat.le_of_ble_eq_true rfl⟩ rfl (Nat.le_of_ble_eq_true rfl) dX7_field_8 ⟨Nat.zero_le _, Nat.zero_le _⟩) (fun r8 μ8 H locs hw h => ?_)
    refine lv_if_eq (tgt := 25) hx hb dX7_field_11 (by decide) (fun hc => ?_) (fun hc => ?_)
    · rw [if_pos hc] at hw
      exact s25 μ8 _ _ _ h (lv_sub hl [0] rfl) hw
    · rw [if_neg hc] at hw
      refine lv_aload_n hx hb dX7_field_14 rfl (lv_at hl 0 rfl) ?_
      refine lv_iconst (v := (5 : Int32)) hx hb dX7_field_15 (by decide) ?_
      refine lv_iload_n hx hb dX7_field_16 rfl (lv_at hl 1 rfl) ?_
      refine lv_iadd hx hb dX7_field_17 ?_
      refine lv_iload_n hx hb dX7_field_18 rfl (lv_at hl 2 rfl) ?_
      refine k_i h (n_V (rest := []) (As := [.int ((5 : Int32) + a1), .int a2]) X h hl.1 (c_X7_becomes l G hG ((5 : Int32) + a1) a2 h0 _ _ hw) gk_X7_114 rfl hd_X7_becomes ⟨rfl, rfl⟩ ⟨Nat.le_of_ble_eq_true rfl, Nat.le_of_ble_eq_true rfl⟩ (X7_o h0) rfl rfl (Nat.le_of_ble_eq_true rfl) dX7_field_19 ⟨Nat.zero_le _, Nat.zero_le _⟩) (fun r19 μ19 H locs hw h => ?_)
      refine lv_goto (tgt := 31) hx hb dX7_field_22 (by decide) ?_
      exact r_iret X h hw dX7_field_31
def wp_X7_far (a1 : Int32) (a2 : Int32) (Q : Int32 → vM → Prop) (μ : vM) : Prop := wp_X7_isPlace a1 (fun r1 μ1 => if r1 = 0 then wp_X7_error (-1000000001 : Int32) (fun r17 μ17 => Q r17 μ17) μ1 else wp_X7_isPlace a2 (fun r8 μ8 => if r8 = 0 then wp_X7_error (-1000000001 : Int32) (fun r17 μ17 => Q r17 μ17) μ8 else wp_X7_farBy a1 a2 (fun r24 μ24 => if r24 = (99 : Int32) then wp_X7_error (-1000000002 : Int32) (fun r37 μ37 => Q r37 μ37) μ24 else Q r24 μ24) μ8) μ1) μ
set_option maxRecDepth 100000 in
set_option maxHeartbeats 4000000 in
theorem c_X7_far (l : Launch) (G : vG) (hG : gO G) (a1 : Int32) (a2 : Int32) (h0 : isX7 G) (Q : Int32 → vM → Prop) (μ : vM) (hw : wp_X7_far a1 a2 Q μ) : mt l G yX7_far vX7_far { frames := 2, cells := 0, slots := 0, locals := 49 } [.ref (ga G 0), .int a1, .int a2] μ (qI G Q) := by
  refine met_of (cc := cX7_far) (maxL := 4) (ret := (some .int)) RX7 (by decide) rfl rfl hG (Nat.le_of_ble_eq_true rfl) ?_
  intro p e s m below meth c X h ls hl
  have hl : lv_has ls 4 [(0, .ref (ga G 0)), (1, .int a1), (2, .int a2)] := hl
  have hx := X.1
  have hb := X.2.1
  unfold wp_X7_far at hw
  refine lv_iload_n hx hb dX7_far_0 rfl (lv_at hl 1 rfl) ?_
  refine k_i h (n_T (rest := []) (As := [.int a1]) X h hl.1 (c_X7_isPlace l G hG a1 _ _ hw) gk_X7_100 rfl hd_X7_isPlace ⟨rfl, rfl⟩ ⟨Nat.le_of_ble_eq_true rfl, Nat.le_of_ble_eq_true rfl⟩ rfl (Nat.le_of_ble_eq_true rfl) dX7_far_1 ⟨Nat.zero_le _, Nat.zero_le _⟩) (fun r1 μ1 H locs hw h => ?_)
  refine lv_if_eq (tgt := 14) hx hb dX7_far_4 (by decide) (fun hc => ?_) (fun hc => ?_)
  · rw [if_pos hc] at hw
    refine lv_aload_n hx hb dX7_far_14 rfl (lv_at hl 0 rfl) ?_
    refine r_ldc X (v := (-1000000001 : Int32)) ww_4_131 dX7_far_15 ?_
    refine k_i h (n_V (rest := []) (As := [.int (-1000000001 : Int32)]) X h hl.1 (c_X7_error l G hG (-1000000001 : Int32) h0 _ _ hw) gk_X7_104 rfl hd_X7_error ⟨rfl, rfl⟩ ⟨Nat.le_of_ble_eq_true rfl, Nat.le_of_ble_eq_true rfl⟩ (X7_o h0) rfl rfl (Nat.le_of_ble_eq_true rfl) dX7_far_17 ⟨Nat.zero_le _, Nat.zero_le _⟩) (fun r17 μ17 H locs hw h => ?_)
    exact r_iret X h hw dX7_far_20
  · rw [if_neg hc] at hw
    refine lv_iload_n hx hb dX7_far_7 rfl (lv_at hl 2 rfl) ?_
    refine k_i h (n_T (rest := []) (As := [.int a2]) X h hl.1 (c_X7_isPlace l G hG a2 _ _ hw) gk_X7_100 rfl hd_X7_isPlace ⟨rfl, rfl⟩ ⟨Nat.le_of_ble_eq_true rfl, Nat.le_of_ble_eq_true rfl⟩ rfl (Nat.le_of_ble_eq_true rfl) dX7_far_8 ⟨Nat.zero_le _, Nat.zero_le _⟩) (fun r8 μ8 H locs hw h => ?_)
    refine lv_if_ne (tgt := 21) hx hb dX7_far_11 (by decide) (fun hc => ?_) (fun hc => ?_)
    · rw [if_neg hc] at hw
      refine lv_aload_n hx hb dX7_far_21 rfl (lv_at hl 0 rfl) ?_
      refine lv_iload_n hx hb dX7_far_22 rfl (lv_at hl 1 rfl) ?_
      refine lv_iload_n hx hb dX7_far_23 rfl (lv_at hl 2 rfl) ?_
      refine k_i h (n_V (rest := []) (As := [.int a1, .int a2]) X h hl.1 (c_X7_farBy l G hG a1 a2 h0 _ _ hw) gk_X7_81 rfl hd_X7_farBy ⟨rfl, rfl⟩ ⟨Nat.le_of_ble_eq_true rfl, Nat.le_of_ble_eq_true rfl⟩ (X7_o h0) rfl rfl (Nat.le_of_ble_eq_true rfl) dX7_far_24 ⟨Nat.zero_le _, Nat.zero_le _⟩) (fun r24 μ24 H locs hw h => ?_)
      refine lv_istore_n (lv' := [(3, .int r24), (0, .ref (ga G 0)), (1, .int a1), (2, .int a2)]) hx hb dX7_far_27 rfl hl (by decide) rfl (fun ls hl => ?_)
      refine lv_iload_n hx hb dX7_far_28 rfl (lv_at hl 0 rfl) ?_
      refine lv_bipush (v := (99 : Int32)) hx hb dX7_far_29 (by decide) ?_
      refine lv_icmp_ne (tgt := 43) hx hb dX7_far_31 (by decide) (fun hc => ?_) (fun hc => ?_)
      · rw [if_neg hc] at hw
        refine lv_iload_n hx hb dX7_far_43 rfl (lv_at hl 0 rfl) ?_
        exact r_iret X h hw dX7_far_44
      · rw [if_pos hc] at hw
        refine lv_aload_n hx hb dX7_far_34 rfl (lv_at hl 1 rfl) ?_
        refine r_ldc X (v := (-1000000002 : Int32)) ww_4_164 dX7_far_35 ?_
        refine k_i h (n_V (rest := []) (As := [.int (-1000000002 : Int32)]) X h hl.1 (c_X7_error l G hG (-1000000002 : Int32) h0 _ _ hw) gk_X7_104 rfl hd_X7_error ⟨rfl, rfl⟩ ⟨Nat.le_of_ble_eq_true rfl, Nat.le_of_ble_eq_true rfl⟩ (X7_o h0) rfl rfl (Nat.le_of_ble_eq_true rfl) dX7_far_37 ⟨Nat.zero_le _, Nat.zero_le _⟩) (fun r37 μ37 H locs hw h => ?_)
        refine lv_goto (tgt := 44) hx hb dX7_far_40 (by decide) ?_
        exact r_iret X h hw dX7_far_44
    · rw [if_pos hc] at hw
      refine lv_aload_n hx hb dX7_far_14 rfl (lv_at hl 0 rfl) ?_
      refine r_ldc X (v := (-1000000001 : Int32)) ww_4_131 dX7_far_15 ?_
      refine k_i h (n_V (rest := []) (As := [.int (-1000000001 : Int32)]) X h hl.1 (c_X7_error l G hG (-1000000001 : Int32) h0 _ _ hw) gk_X7_104 rfl hd_X7_error ⟨rfl, rfl⟩ ⟨Nat.le_of_ble_eq_true rfl, Nat.le_of_ble_eq_true rfl⟩ (X7_o h0) rfl rfl (Nat.le_of_ble_eq_true rfl) dX7_far_17 ⟨Nat.zero_le _, Nat.zero_le _⟩) (fun r17 μ17 H locs hw h => ?_)
      exact r_iret X h hw dX7_far_20
def wp_X7_isKm (a0 : Int32) (Q : Int32 → vM → Prop) (μ : vM) : Prop := wp_X7_in a0 (0 : Int32) (69 : Int32) (fun r4 μ4 => bz r4 ∧ Q r4 μ4) μ
set_option maxRecDepth 100000 in
set_option maxHeartbeats 4000000 in
theorem c_X7_isKm (l : Launch) (G : vG) (hG : gO G) (a0 : Int32)  (Q : Int32 → vM → Prop) (μ : vM) (hw : wp_X7_isKm a0 Q μ) : mt l G yX7_isKm vX7_isKm { frames := 1, cells := 0, slots := 0, locals := 22 } [.int a0] μ (qI G Q) := by
  refine met_of (cc := cX7_isKm) (maxL := 1) (ret := (some .boolean)) RX7 (by decide) rfl rfl hG (Nat.le_of_ble_eq_true rfl) ?_
  intro p e s m below meth c X h ls hl
  have hl : lv_has ls 1 [(0, .int a0)] := hl
  have hx := X.1
  have hb := X.2.1
  unfold wp_X7_isKm at hw
  refine lv_iload_n hx hb dX7_isKm_0 rfl (lv_at hl 0 rfl) ?_
  refine lv_iconst (v := (0 : Int32)) hx hb dX7_isKm_1 (by decide) ?_
  refine lv_bipush (v := (69 : Int32)) hx hb dX7_isKm_2 (by decide) ?_
  refine k_i h (n_T (rest := []) (As := [.int a0, .int (0 : Int32), .int (69 : Int32)]) X h hl.1 (c_X7_in l G hG a0 (0 : Int32) (69 : Int32) _ _ hw) gk_X7_57 rfl hd_X7_in ⟨rfl, rfl⟩ ⟨Nat.le_of_ble_eq_true rfl, Nat.le_of_ble_eq_true rfl⟩ rfl (Nat.le_of_ble_eq_true rfl) dX7_isKm_4 ⟨Nat.zero_le _, Nat.zero_le _⟩) (fun r4 μ4 H locs hw h => ?_)
  exact r_zret X h hw.1 hw.2 dX7_isKm_7
