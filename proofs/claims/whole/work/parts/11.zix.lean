/-! String.indexOf of a constant, over the JDK's methods -/
abbrev aT (G : vG) (t i : Nat) (U : State) (H : Heap) : Prop := va_T .byte t (c_len.getD i 0) (fun j => .int ((c_byt.getD i []).getD j 0)) (gA G) U H
abbrev prT (G : vG) (μ : vM) (t i : Nat) (av : List Value) : Array Value → State → Prop := va_Pc av (fun U => wd G μ U ∧ aT G t i U U.heap)
theorem prT_blind {G : vG} {μ : vM} {t i : Nat} {av : List Value} : FrameBlind (prT G μ t i av) := by
  intro a U g mk h
  obtain ⟨h0, ⟨h1, h2, h3⟩, h4⟩ := h
  have hA : U.vm.Alike (U.calling g mk a).vm := Vm.Alike.refl U.vm
  exact ⟨h0, ⟨h1, va_K.moved (u := U) (U := U.calling g mk a) hA h2, gE_blind (U := U) (V := U.calling g mk a) rfl rfl h3⟩, h4.moved hA⟩
abbrev mtT (l : Launch) (G : vG) (t i : Nat) (y : MethodName) (ws : List Cond) (rm : Room) (av : List Value) (μ : vM) (Qc : Array Value → State → Outcome → State → Prop) : Prop := Met l y ws rm (prT G μ t i av) Qc 0 0 (gA G)
theorem met_ofT {l : Launch} {y : MethodName} {ws : List Cond} {rm : Room} {av : List Value} {G : vG} {t i : Nat} {μ : vM} {Qc : Array Value → State → Outcome → State → Prop} {cc : ByteArray} {maxL : Nat} {ret : Option FieldType} (own : String)
    (hy : plainName y.cls = true) (hw : ws = Cond.code y cc maxL ret :: lw_gd) (hown : y.cls = own) (hG : gO G) (hn : (lg_sl av).length ≤ maxL)
    (body : ∀ (p : Program) (e : Env) (s : State) (m : MethodId) (below : List Frame) (meth : Method) (c : Code), cx G p s m av.toArray meth c cc maxL ret own → bw G s μ s.heap [] → aT G t i s s.heap → ∀ ls : Array Slot, lv_has ls maxL (lv_args 0 av) →
      W p l e rm s m av.toArray below meth c s.heap [] 0 0 (MQ below Qc av.toArray s 0 0 (gA G)) (F0 m 0 ls [])) : mtT l G t i y ws rm av μ Qc := by
  refine Met.ofW (cc := cc) (maxL := maxL) (ret := ret) hy hw ?_
  intro p e s m args below meth c s₁ B hml hv
  obtain ⟨rfl, ⟨hP, hK, hE⟩, hT⟩ := hv
  have hts := atoms_spec (ws := ws) B.pre
  have hown' : s.vm.findClass own = some m.cls := by rw [← hown]; exact findClass_of_methodNamed B.named
  rw [lg_entry_eq]
  exact body p e s m below meth c ⟨B.exec, B.bytes, hml, hown', fun w h => hts w (by rw [hw]; exact List.mem_cons_of_mem _ h), B.returns, B.notSynchronized, hK, hG, hE⟩ ⟨hP, va_S.rf⟩ hT _ (lv_entry av hn)
section IX
variable {G : vG} {p : Program} {l : Launch} {e : Env} {R : Room} {s : State} {m : MethodId} {args : Array Value} {below : List Frame} {meth : Method} {c : Code} {H : Heap} {locs : List Loc} {cells slots : Nat} {Q : State → Prop}
  {cc : ByteArray} {nL : Nat} {ret : Option FieldType} {own : String} {pc : Nat} {ls : Array Slot} {rest : List Value} {μ : vM}
theorem r_preT (X : cx G p s m args meth c cc nL ret own) (h : bw G s μ H locs) {t i : Nat} (hT : aT G t i s s.heap) {av : List Value} {a : Array Value} (ha : a = av.toArray) : ∀ U : State, U.heap = H → s.WarmedH U.vm → prT G μ t i av a U := by
  intro U hU hW
  obtain ⟨h1, h2⟩ := r_pre X h (av := av) ha U hU hW
  refine ⟨h1, h2, ?_⟩
  subst hU
  exact (hT.moved hW.alike).kept h.2.2.1
theorem n_TT {t i : Nat} {y : MethodName} {ws ws' : List Cond} {rm : Room} {As : List Value} {Qc : Array Value → State → Outcome → State → Prop} {bytes : ByteArray} {maxL : Nat} {rt : Option FieldType} {idx : Nat} {C : String} (X : cx G p s m args meth c cc nL ret own) (h : bw G s μ H locs) (hT : aT G t i s s.heap) (hsz : ls.size = nL)
    (hM : mtT l G t i y ws rm As μ Qc) (hg : GoodIn lw_gd (va_wsS own idx y ws)) (hw : ws = Cond.code y bytes maxL rt :: ws') (hd : y.cls = C ∧ y.cls ≠ "java/lang/invoke/MethodHandle" ∧ y.cls ≠ "java/lang/invoke/VarHandle" ∧ (parseMethodDescriptor y.desc).map (fun d => d.parameters.length) = some As.length) (hrc : rm.cells = 0 ∧ rm.slots = 0) (hR : rm.frames + 1 ≤ R.frames ∧ 8 + (maxL + 11) + rm.locals ≤ R.locals)
    {st0 : List Value} (hst : st0 = As.reverse ++ rest) (hW : (rest.map fun v => v.category).sum ≤ 8) (hdg : decode cc pc = .ok (.invokestatic idx, 3)) (hf : cells ≤ R.cells ∧ slots ≤ R.slots) :
    va_Run p l e R s m args below meth c H locs cells slots 0 0 (F0 m pc ls st0) rest (Qc As.toArray) (gA G) :=
  va_runS (As := As) (rest := rest) ⟨X.1, X.2.1, X.2.2.1, X.2.2.2.1, X.2.2.2.2.1⟩ hM (va_cwS As.length X.2.2.2.2.1 hg hw hrc.1 hrc.2 hd.2 hR) ⟨prT_blind, r_preT X h hT rfl⟩ rfl rfl hsz hst (lv_room hW) hdg hf
theorem r_str (X : cx G p s m args meth c cc nL ret own) : ∃ adV, vk_S 10 c_len c_byt (gS G) adV (gA G) s s.heap := X.2.2.2.2.2.2.2.2.2.2.2.1
theorem r_cs (X : cx G p s m args meth c cc nL ret own) : va_Z "java/lang/String" "COMPACT_STRINGS" "Z" (.int 1) (gA G) s s.heap := X.2.2.2.2.2.2.2.2.2.2.2.2.2.1
theorem n_VS {i : Nat} (hi : i < 10) {y : MethodName} {ws ws' : List Cond} {rm : Room} {As : List Value} {Qc : Array Value → State → Outcome → State → Prop} {bytes : ByteArray} {maxL : Nat} {rt : Option FieldType} {idx : Nat} (X : cx G p s m args meth c cc nL ret own) (h : bw G s μ H locs) (hsz : ls.size = nL)
    (hM : mt l G y ws rm (.ref (gS G i) :: As) μ Qc) (hg : GoodIn lw_gd (wsV own idx "java/lang/String" y ws)) (hw : ws = Cond.code y bytes maxL rt :: ws') (hd : y.cls = "java/lang/String" ∧ y.cls ≠ "java/lang/invoke/MethodHandle" ∧ y.cls ≠ "java/lang/invoke/VarHandle" ∧ (parseMethodDescriptor y.desc).map (fun d => d.parameters.length) = some As.length) (hrc : rm.cells = 0 ∧ rm.slots = 0) (hR : rm.frames + 1 ≤ R.frames ∧ 8 + (maxL + 11) + rm.locals ≤ R.locals)
    {st0 : List Value} (hst : st0 = As.reverse ++ .ref (gS G i) :: rest) (hW : (rest.map fun v => v.category).sum ≤ 8) (hdg : decode cc pc = .ok (.invokevirtual idx, 3)) (hf : cells ≤ R.cells ∧ slots ≤ R.slots) :
    va_Run p l e R s m args below meth c H locs cells slots 0 0 (F0 m pc ls st0) rest (Qc (Value.ref (gS G i) :: As).toArray) (gA G) := by
  obtain ⟨adV, hE⟩ := r_str X
  exact va_runV (As := As) (rest := rest) ⟨X.1, X.2.1, X.2.2.1, X.2.2.2.1, X.2.2.2.2.1⟩ hM (cwV As.length X.2.2.2.2.1 hg hw hrc.1 hrc.2 hd hR) ⟨pr_blind, vk_recv hE hi h.2, r_pre X h rfl⟩ rfl rfl hsz hst (lv_room hW) hdg hf
theorem r_co (X : cx G p s m args meth c cc nL ret own) (h : bw G s μ H locs) {i : Nat} (hi : i < 10) {index : Nat} (hlink : Cond.fieldLink own index "java/lang/String" "coder" "B" ∈ lw_gd) (hdg : decode cc pc = .ok (.getfield index, 3))
    (kk : W p l e R s m args below meth c H locs cells slots Q (F0 m (pc + 3) ls (.int 0 :: rest))) : W p l e R s m args below meth c H locs cells slots Q (F0 m pc ls (.ref (gS G i) :: rest)) := by
  obtain ⟨adV, hE⟩ := r_str X
  exact vk_getf X.1 X.2.1 (hE.1 i hi).2.1 h.2 X.2.2.2.1 (X.2.2.2.2.1 _ hlink) (fun _ h9 => h9) hdg kk
theorem r_va (X : cx G p s m args meth c cc nL ret own) (h : bw G s μ H locs) {i : Nat} (hi : i < 10) {index : Nat} (hlink : Cond.fieldLink own index "java/lang/String" "value" "[B" ∈ lw_gd) (hdg : decode cc pc = .ok (.getfield index, 3))
    (kk : ∀ t : Nat, aT G t i s s.heap → W p l e R s m args below meth c H locs cells slots Q (F0 m (pc + 3) ls (.ref t :: rest))) : W p l e R s m args below meth c H locs cells slots Q (F0 m pc ls (.ref (gS G i) :: rest)) := by
  obtain ⟨adV, hE⟩ := r_str X
  exact vk_getf X.1 X.2.1 (hE.1 i hi).2.2.1 h.2 X.2.2.2.1 (X.2.2.2.2.1 _ hlink) (fun _ h9 => h9) hdg (kk _ (hE.1 i hi).2.2.2)
end IX
abbrev vJ_ce : List Cond := Cond.code yJ1_canEncode_9a6ad cJ1_canEncode_9a6ad 1 (some .boolean) :: lw_gd
abbrev vJ_ic : List Cond := Cond.code yJ1_indexOfChar_4cfef cJ1_indexOfChar_4cfef 6 (some .int) :: lw_gd
abbrev vJ_i1 : List Cond := Cond.code yJ1_indexOf_4cfef cJ1_indexOf_4cfef 4 (some .int) :: lw_gd
abbrev vJ_la : List Cond := Cond.code yJ0_isLatin1_aae02 cJ0_isLatin1_aae02 1 (some .boolean) :: lw_gd
abbrev vJ_co : List Cond := Cond.code yJ0_coder_7d493 cJ0_coder_7d493 1 (some .byte) :: lw_gd
abbrev vJ_le : List Cond := Cond.code yJ0_length_8abf5 cJ0_length_8abf5 1 (some .int) :: lw_gd
abbrev vJ_i2 : List Cond := Cond.code yJ0_indexOf_7cf53 cJ0_indexOf_7cf53 3 (some .int) :: lw_gd
abbrev vJ_i0 : List Cond := Cond.code yJ0_indexOf_0f7a4 cJ0_indexOf_0f7a4 2 (some .int) :: lw_gd
set_option maxRecDepth 100000 in
set_option maxHeartbeats 4000000 in
theorem j_ce (l : Launch) (G : vG) (hG : gO G) (x : Int32) (Q : Int32 → vM → Prop) (μ : vM) (hw : Q (if 0 ≤ x ∧ x ≤ 255 then 1 else 0) μ) : mt l G yJ1_canEncode_9a6ad vJ_ce { frames := 0, cells := 0, slots := 0, locals := 0 } [.int x] μ (qI G Q) := by
  refine met_of (cc := cJ1_canEncode_9a6ad) (maxL := 1) (ret := (some .boolean)) RJ1 (by decide) rfl rfl hG (Nat.le_of_ble_eq_true rfl) ?_
  intro p e s m below meth c X h ls hl
  have hl : lv_has ls 1 [(0, .int x)] := hl
  have hx := X.1
  have hb := X.2.1
  have no : Q 0 μ → W p l e ({ frames := 0, cells := 0, slots := 0, locals := 0 } : Room) s m ([.int x] : List Value).toArray below meth c s.heap [] 0 0 (MQ below (qI G Q) ([.int x] : List Value).toArray s 0 0 (gA G)) (F0 m 15 ls []) := by
    intro hw
    refine lv_iconst (v := (0 : Int32)) hx hb dJ1_canEncode_9a6ad_15 (by decide) ?_
    exact r_zret X h (Or.inl rfl) hw dJ1_canEncode_9a6ad_16
  refine lv_iload_n hx hb dJ1_canEncode_9a6ad_0 rfl (lv_at hl 0 rfl) ?_
  refine lv_if_lt (tgt := 15) hx hb dJ1_canEncode_9a6ad_1 (by decide) (fun hc => ?_) (fun hc => ?_)
  · rw [if_neg (fun hh => Int32.not_le.mpr hc hh.1)] at hw
    exact no hw
  · have hc0 := Int32.not_lt.mp hc
    refine lv_iload_n hx hb dJ1_canEncode_9a6ad_4 rfl (lv_at hl 0 rfl) ?_
    refine lv_sipush (v := (255 : Int32)) hx hb dJ1_canEncode_9a6ad_5 (by decide) ?_
    refine lv_icmp_gt (tgt := 15) hx hb dJ1_canEncode_9a6ad_8 (by decide) (fun hc => ?_) (fun hc => ?_)
    · rw [if_neg (fun hh => Int32.not_le.mpr hc hh.2)] at hw
      exact no hw
    · rw [if_pos ⟨hc0, Int32.not_lt.mp hc⟩] at hw
      refine lv_iconst (v := (1 : Int32)) hx hb dJ1_canEncode_9a6ad_11 (by decide) ?_
      refine lv_goto (tgt := 16) hx hb dJ1_canEncode_9a6ad_12 (by decide) ?_
      exact r_zret X h (Or.inr rfl) hw dJ1_canEncode_9a6ad_16
theorem cl_ok : ∀ i, i < 10 → c_len.getD i 0 = (c_byt.getD i []).length ∧ (c_byt.getD i []).length < 100 := by decide +kernel
theorem dr_c {l : List Int32} {k : Nat} {x : Int32} {r : List Int32} (h : l.drop k = x :: r) : k < l.length ∧ l.getD k 0 = x ∧ l.drop (k + 1) = r := by
  have hk : k < l.length := by
    refine Nat.lt_of_not_le fun hh => ?_
    rw [List.drop_eq_nil_of_le hh] at h
    exact absurd h (by simp)
  rw [List.drop_eq_getElem_cons hk] at h
  injection h with h1 h2
  refine ⟨hk, ?_, h2⟩
  simp [List.getD, List.getElem?_eq_getElem hk, h1]
set_option maxRecDepth 100000 in
set_option maxHeartbeats 4000000 in
theorem j_ic (l : Launch) (G : vG) (hG : gO G) (t i : Nat) (hi : i < 10) (x : Int32) (Q : Int32 → vM → Prop) (μ : vM) (hw : Q (ix_of (c_byt.getD i []) x.toInt8.toInt32 0) μ) : mtT l G t i yJ1_indexOfChar_4cfef vJ_ic { frames := 0, cells := 0, slots := 0, locals := 0 } [.ref t, .int x, .int 0, .int (nI (c_len.getD i 0))] μ (qI G Q) := by
  refine met_ofT (cc := cJ1_indexOfChar_4cfef) (maxL := 6) (ret := (some .int)) RJ1 (by decide) rfl rfl hG (Nat.le_of_ble_eq_true rfl) ?_
  intro p e s m below meth c X h hT ls hl
  have hl : lv_has ls 6 [(0, .ref t), (1, .int x), (2, .int 0), (3, .int (nI (c_len.getD i 0)))] := hl
  have hx := X.1
  have hb := X.2.1
  obtain ⟨cl1, cl2⟩ := cl_ok i hi
  refine lv_iload_n hx hb dJ1_indexOfChar_4cfef_0 rfl (lv_at hl 1 rfl) ?_
  refine lv_i2b hx hb dJ1_indexOfChar_4cfef_1 rfl ?_
  refine lv_istore (lv' := [(4, .int x.toInt8.toInt32), (0, .ref t), (1, .int x), (2, .int 0), (3, .int (nI (c_len.getD i 0)))]) hx hb dJ1_indexOfChar_4cfef_2 hl (by decide) rfl (fun ls hl => ?_)
  refine lv_iload_n hx hb dJ1_indexOfChar_4cfef_4 rfl (lv_at hl 3 rfl) ?_
  refine lv_istore (lv' := [(5, .int 0), (4, .int x.toInt8.toInt32), (0, .ref t), (1, .int x), (2, .int 0), (3, .int (nI (c_len.getD i 0)))]) hx hb dJ1_indexOfChar_4cfef_5 hl (by decide) rfl (fun ls hl => ?_)
  have loop : ∀ (r : List Int32) (k : Nat), (c_byt.getD i []).drop k = r → k ≤ c_len.getD i 0 → Q (ix_of r x.toInt8.toInt32 (nI k)) μ → ∀ ls : Array Slot, lv_has ls 6 [(5, .int (nI k)), (0, .ref t), (3, .int (nI (c_len.getD i 0))), (4, .int x.toInt8.toInt32)] → W p l e ({ frames := 0, cells := 0, slots := 0, locals := 0 } : Room) s m ([.ref t, .int x, .int 0, .int (nI (c_len.getD i 0))] : List Value).toArray below meth c s.heap [] 0 0 (MQ below (qI G Q) ([.ref t, .int x, .int 0, .int (nI (c_len.getD i 0))] : List Value).toArray s 0 0 (gA G)) (F0 m 7 ls []) := by
    intro r
    induction r with
    | nil =>
      intro k hd hk hQ ls hl
      have hk2 : (c_byt.getD i []).length ≤ k := List.drop_eq_nil_iff.mp hd
      refine lv_iload hx hb dJ1_indexOfChar_4cfef_7 (lv_at hl 0 rfl) ?_
      refine lv_iload_n hx hb dJ1_indexOfChar_4cfef_9 rfl (lv_at hl 2 rfl) ?_
      refine lv_icmp_ge (tgt := 31) hx hb dJ1_indexOfChar_4cfef_10 (by decide) (fun hc => ?_) (fun hc => absurd (nI_le (show c_len.getD i 0 ≤ k by omega) (by omega)) hc)
      refine lv_iconst (v := (-1 : Int32)) hx hb dJ1_indexOfChar_4cfef_31 (by decide) ?_
      exact r_iret X h hQ dJ1_indexOfChar_4cfef_32
    | cons y r ih =>
      intro k hd hk hQ ls hl
      obtain ⟨d1, d2, d3⟩ := dr_c hd
      refine lv_iload hx hb dJ1_indexOfChar_4cfef_7 (lv_at hl 0 rfl) ?_
      refine lv_iload_n hx hb dJ1_indexOfChar_4cfef_9 rfl (lv_at hl 2 rfl) ?_
      refine lv_icmp_ge (tgt := 31) hx hb dJ1_indexOfChar_4cfef_10 (by decide) (fun hc => absurd hc (nI_ge (show k < c_len.getD i 0 by omega) (by omega))) (fun hc => ?_)
      refine lv_aload_n hx hb dJ1_indexOfChar_4cfef_13 rfl (lv_at hl 1 rfl) ?_
      refine lv_iload hx hb dJ1_indexOfChar_4cfef_14 (lv_at hl 0 rfl) ?_
      refine va_tb hx hb hT h.2 (vp_in_nI (show k < c_len.getD i 0 by omega) (by omega)) (v := .int y) (by rw [nI_clamp (by omega), d2]) dJ1_indexOfChar_4cfef_16 ?_
      refine lv_iload hx hb dJ1_indexOfChar_4cfef_17 (lv_at hl 3 rfl) ?_
      unfold ix_of at hQ
      refine lv_icmp_ne (tgt := 25) hx hb dJ1_indexOfChar_4cfef_19 (by decide) (fun hc => ?_) (fun hc => ?_)
      · rw [if_neg hc, nI_1] at hQ
        refine lv_iinc (v := nI (k + 1)) (lv' := [(5, .int (nI (k + 1))), (0, .ref t), (3, .int (nI (c_len.getD i 0))), (4, .int x.toInt8.toInt32)]) hx hb dJ1_indexOfChar_4cfef_25 hl (k := 0) rfl (nI_1 k) (by decide) rfl (fun ls hl => ?_)
        refine lv_goto (tgt := 7) hx hb dJ1_indexOfChar_4cfef_28 (by decide) ?_
        exact ih (k + 1) d3 (by omega) hQ ls hl
      · rw [if_pos hc] at hQ
        refine lv_iload hx hb dJ1_indexOfChar_4cfef_22 (lv_at hl 0 rfl) ?_
        exact r_iret X h hQ dJ1_indexOfChar_4cfef_24
  exact loop _ 0 rfl (Nat.zero_le _) hw ls (lv_sub hl [0, 2, 5, 1] rfl)
theorem hJ_ce : yJ1_canEncode_9a6ad.cls = RJ1 ∧ yJ1_canEncode_9a6ad.cls ≠ "java/lang/invoke/MethodHandle" ∧ yJ1_canEncode_9a6ad.cls ≠ "java/lang/invoke/VarHandle" ∧ (parseMethodDescriptor yJ1_canEncode_9a6ad.desc).map (fun d => d.parameters.length) = some 1 := ⟨rfl, by decide +kernel, by decide +kernel, by decide +kernel⟩
theorem hJ_ic : yJ1_indexOfChar_4cfef.cls = RJ1 ∧ yJ1_indexOfChar_4cfef.cls ≠ "java/lang/invoke/MethodHandle" ∧ yJ1_indexOfChar_4cfef.cls ≠ "java/lang/invoke/VarHandle" ∧ (parseMethodDescriptor yJ1_indexOfChar_4cfef.desc).map (fun d => d.parameters.length) = some 4 := ⟨rfl, by decide +kernel, by decide +kernel, by decide +kernel⟩
theorem hJ_i1 : yJ1_indexOf_4cfef.cls = RJ1 ∧ yJ1_indexOf_4cfef.cls ≠ "java/lang/invoke/MethodHandle" ∧ yJ1_indexOf_4cfef.cls ≠ "java/lang/invoke/VarHandle" ∧ (parseMethodDescriptor yJ1_indexOf_4cfef.desc).map (fun d => d.parameters.length) = some 4 := ⟨rfl, by decide +kernel, by decide +kernel, by decide +kernel⟩
theorem hJ_la : yJ0_isLatin1_aae02.cls = "java/lang/String" ∧ yJ0_isLatin1_aae02.cls ≠ "java/lang/invoke/MethodHandle" ∧ yJ0_isLatin1_aae02.cls ≠ "java/lang/invoke/VarHandle" ∧ (parseMethodDescriptor yJ0_isLatin1_aae02.desc).map (fun d => d.parameters.length) = some 0 := ⟨rfl, by decide +kernel, by decide +kernel, by decide +kernel⟩
theorem hJ_co : yJ0_coder_7d493.cls = "java/lang/String" ∧ yJ0_coder_7d493.cls ≠ "java/lang/invoke/MethodHandle" ∧ yJ0_coder_7d493.cls ≠ "java/lang/invoke/VarHandle" ∧ (parseMethodDescriptor yJ0_coder_7d493.desc).map (fun d => d.parameters.length) = some 0 := ⟨rfl, by decide +kernel, by decide +kernel, by decide +kernel⟩
theorem hJ_le : yJ0_length_8abf5.cls = "java/lang/String" ∧ yJ0_length_8abf5.cls ≠ "java/lang/invoke/MethodHandle" ∧ yJ0_length_8abf5.cls ≠ "java/lang/invoke/VarHandle" ∧ (parseMethodDescriptor yJ0_length_8abf5.desc).map (fun d => d.parameters.length) = some 0 := ⟨rfl, by decide +kernel, by decide +kernel, by decide +kernel⟩
theorem hJ_i2 : yJ0_indexOf_7cf53.cls = "java/lang/String" ∧ yJ0_indexOf_7cf53.cls ≠ "java/lang/invoke/MethodHandle" ∧ yJ0_indexOf_7cf53.cls ≠ "java/lang/invoke/VarHandle" ∧ (parseMethodDescriptor yJ0_indexOf_7cf53.desc).map (fun d => d.parameters.length) = some 2 := ⟨rfl, by decide +kernel, by decide +kernel, by decide +kernel⟩
theorem hJ_i0 : yJ0_indexOf_0f7a4.cls = "java/lang/String" ∧ yJ0_indexOf_0f7a4.cls ≠ "java/lang/invoke/MethodHandle" ∧ yJ0_indexOf_0f7a4.cls ≠ "java/lang/invoke/VarHandle" ∧ (parseMethodDescriptor yJ0_indexOf_0f7a4.desc).map (fun d => d.parameters.length) = some 1 := ⟨rfl, by decide +kernel, by decide +kernel, by decide +kernel⟩
theorem g1_ce : GoodIn lw_gd (va_wsS RJ1 88 yJ1_canEncode_9a6ad vJ_ce) := gw_S ww_2_208 ww_2_209 ww_1_12 ww_2_210
theorem g1_ic : GoodIn lw_gd (va_wsS RJ1 95 yJ1_indexOfChar_4cfef vJ_ic) := gw_S ww_2_213 ww_2_214 ww_1_12 ww_2_215
theorem g0_i1 : GoodIn lw_gd (va_wsS RJ0 637 yJ1_indexOf_4cfef vJ_i1) := gw_S ww_2_205 ww_2_206 ww_1_12 ww_2_207
theorem g0_la : GoodIn lw_gd (wsV RJ0 492 "java/lang/String" yJ0_isLatin1_aae02 vJ_la) := gw_V ww_2_191 ww_2_192 ww_2_193 ww_1_11 ww_2_194
theorem g0_le : GoodIn lw_gd (wsV RJ0 505 "java/lang/String" yJ0_length_8abf5 vJ_le) := gw_V ww_2_197 ww_2_198 ww_2_199 ww_1_11 ww_2_200
theorem g0_co : GoodIn lw_gd (wsV RJ0 335 "java/lang/String" yJ0_coder_7d493 vJ_co) := gw_V ww_2_201 ww_2_202 ww_2_203 ww_1_11 ww_2_204
theorem g0_i2 : GoodIn lw_gd (wsV RJ0 633 "java/lang/String" yJ0_indexOf_7cf53 vJ_i2) := gw_V ww_2_187 ww_2_188 ww_2_189 ww_1_11 ww_2_190
theorem ix_no {x : Int32} : ∀ (l : List Int32) (k : Int32), (∀ y, y ∈ l → y ≠ x) → ix_of l x k = -1
  | [], _, _ => rfl
  | y :: l, k, h => by
    unfold ix_of
    rw [if_neg (h y List.mem_cons_self)]
    exact ix_no l _ (fun z hz => h z (List.mem_cons_of_mem _ hz))
theorem cb_ok : ∀ i, i < 10 → ∀ y, y ∈ c_byt.getD i [] → 0 ≤ y ∧ y ≤ 255 := by decide +kernel
theorem cx_ok : ∀ i, i < 10 → ∀ c, c < 256 → ix_of (c_byt.getD i []) (nI c).toInt8.toInt32 0 = ix_of (c_byt.getD i []) (nI c) 0 := by decide +kernel
theorem cx_in {i : Nat} (hi : i < 10) {x : Int32} (h : 0 ≤ x ∧ x ≤ 255) : ix_of (c_byt.getD i []) x.toInt8.toInt32 0 = ix_of (c_byt.getD i []) x 0 := by
  have h1 := Int32.le_iff_toInt_le.mp h.1
  have h2 := Int32.le_iff_toInt_le.mp h.2
  rw [show (0 : Int32).toInt = 0 by decide] at h1
  rw [show (255 : Int32).toInt = 255 by decide] at h2
  obtain ⟨c, hc⟩ : ∃ c : Nat, x.toInt = c := ⟨x.toInt.toNat, by omega⟩
  have e : x = nI c := by
    apply Int32.toInt_inj.mp
    rw [nI_toInt (by omega)]
    exact hc
  subst e
  exact cx_ok i hi c (by omega)
theorem cx_out {i : Nat} (hi : i < 10) {x : Int32} (h : ¬ (0 ≤ x ∧ x ≤ 255)) : ix_of (c_byt.getD i []) x 0 = -1 := ix_no _ _ (fun y hy e => h (e ▸ cb_ok i hi y hy))
theorem z_sh : ∀ i, i < 10 → nI (c_len.getD i 0) >>> ((0 : Int32) &&& 31) = nI (c_len.getD i 0) := by decide +kernel
set_option maxRecDepth 100000 in
set_option maxHeartbeats 4000000 in
theorem j_i1 (l : Launch) (G : vG) (hG : gO G) (t i : Nat) (hi : i < 10) (x : Int32) (Q : Int32 → vM → Prop) (μ : vM) (hw : Q (ix_of (c_byt.getD i []) x 0) μ) : mtT l G t i yJ1_indexOf_4cfef vJ_i1 { frames := 1, cells := 0, slots := 0, locals := 30 } [.ref t, .int x, .int 0, .int (nI (c_len.getD i 0))] μ (qI G Q) := by
  refine met_ofT (cc := cJ1_indexOf_4cfef) (maxL := 4) (ret := (some .int)) RJ1 (by decide) rfl rfl hG (Nat.le_of_ble_eq_true rfl) ?_
  intro p e s m below meth c X h hT ls hl
  have hl : lv_has ls 4 [(0, .ref t), (1, .int x), (2, .int 0), (3, .int (nI (c_len.getD i 0)))] := hl
  have hx := X.1
  have hb := X.2.1
  obtain ⟨cl1, cl2⟩ := cl_ok i hi
  refine lv_iload_n hx hb dJ1_indexOf_4cfef_0 rfl (lv_at hl 1 rfl) ?_
  refine k_i h (n_T (rest := []) (As := [.int x]) X h hl.1 (j_ce l G hG x (fun r μ' => μ' = μ ∧ r = if 0 ≤ x ∧ x ≤ 255 then 1 else 0) μ ⟨rfl, rfl⟩) g1_ce rfl hJ_ce ⟨rfl, rfl⟩ ⟨Nat.le_of_ble_eq_true rfl, Nat.le_of_ble_eq_true rfl⟩ rfl (Nat.le_of_ble_eq_true rfl) dJ1_indexOf_4cfef_1 ⟨Nat.zero_le _, Nat.zero_le _⟩) (fun r μ' H locs hw1 h => ?_)
  obtain ⟨em, hr⟩ := hw1
  rw [em] at h
  refine lv_if_ne (tgt := 9) hx hb dJ1_indexOf_4cfef_4 (by decide) (fun hc => ?_) (fun hc => ?_)
  · have hin : 0 ≤ x ∧ x ≤ 255 := by
      by_cases q : 0 ≤ x ∧ x ≤ 255
      · exact q
      · rw [if_neg q] at hr; exact absurd hr hc
    refine lv_iload_n hx hb dJ1_indexOf_4cfef_9 rfl (lv_at hl 2 rfl) ?_
    refine lv_iconst (v := (0 : Int32)) hx hb dJ1_indexOf_4cfef_10 (by decide) ?_
    refine r_max X hl.1 ww_2_211 ww_2_107 ww_1_4 ww_2_108 (Nat.le_of_ble_eq_true rfl) (Nat.le_of_ble_eq_true rfl) (Nat.le_of_ble_eq_true rfl) (Nat.le_of_ble_eq_true rfl) dJ1_indexOf_4cfef_11 ?_
    rw [if_neg (by decide : ¬ (0 : Int32) < 0)]
    refine lv_istore_n (lv' := [(2, .int 0), (0, .ref t), (1, .int x), (3, .int (nI (c_len.getD i 0)))]) hx hb dJ1_indexOf_4cfef_14 rfl hl (by decide) rfl (fun ls hl => ?_)
    refine lv_iload_n hx hb dJ1_indexOf_4cfef_15 rfl (lv_at hl 3 rfl) ?_
    refine lv_aload_n hx hb dJ1_indexOf_4cfef_16 rfl (lv_at hl 1 rfl) ?_
    refine va_tlen hx hb hT h.2 (v := nI (c_len.getD i 0)) rfl dJ1_indexOf_4cfef_17 ?_
    refine r_min X hl.1 ww_2_212 ww_1_54 ww_1_4 ww_1_55 (Nat.le_of_ble_eq_true rfl) (Nat.le_of_ble_eq_true rfl) (Nat.le_of_ble_eq_true rfl) (Nat.le_of_ble_eq_true rfl) dJ1_indexOf_4cfef_18 ?_
    have es : ∀ z : Int32, (if z < z then z else z) = z := fun z => by split <;> rfl
    rw [es]
    refine lv_istore_n (lv' := [(3, .int (nI (c_len.getD i 0))), (2, .int 0), (0, .ref t), (1, .int x)]) hx hb dJ1_indexOf_4cfef_21 rfl hl (by decide) rfl (fun ls hl => ?_)
    refine lv_iload_n hx hb dJ1_indexOf_4cfef_22 rfl (lv_at hl 1 rfl) ?_
    refine lv_iload_n hx hb dJ1_indexOf_4cfef_23 rfl (lv_at hl 0 rfl) ?_
    refine lv_icmp_lt (tgt := 29) hx hb dJ1_indexOf_4cfef_24 (by decide) (fun hc2 => ?_) (fun hc2 => ?_)
    · refine lv_aload_n hx hb dJ1_indexOf_4cfef_29 rfl (lv_at hl 2 rfl) ?_
      refine lv_iload_n hx hb dJ1_indexOf_4cfef_30 rfl (lv_at hl 3 rfl) ?_
      refine lv_iload_n hx hb dJ1_indexOf_4cfef_31 rfl (lv_at hl 1 rfl) ?_
      refine lv_iload_n hx hb dJ1_indexOf_4cfef_32 rfl (lv_at hl 0 rfl) ?_
      refine k_i h (n_TT (rest := []) (As := [.ref t, .int x, .int 0, .int (nI (c_len.getD i 0))]) X h hT hl.1 (j_ic l G hG t i hi x Q _ (by rw [cx_in hi hin]; exact hw)) g1_ic rfl hJ_ic ⟨rfl, rfl⟩ ⟨Nat.le_of_ble_eq_true rfl, Nat.le_of_ble_eq_true rfl⟩ rfl (Nat.le_of_ble_eq_true rfl) dJ1_indexOf_4cfef_33 ⟨Nat.zero_le _, Nat.zero_le _⟩) (fun r μ' H locs hw2 h => ?_)
      exact r_iret X h hw2 dJ1_indexOf_4cfef_36
    · have c0 : c_len.getD i 0 = 0 := by
        refine Nat.eq_zero_of_not_pos fun hp => hc2 ?_
        exact nI_lt (a := 0) hp (by omega)
      have l0 : c_byt.getD i [] = [] := List.length_eq_zero_iff.mp (by omega)
      rw [l0] at hw
      refine lv_iconst (v := (-1 : Int32)) hx hb dJ1_indexOf_4cfef_27 (by decide) ?_
      exact r_iret X h hw dJ1_indexOf_4cfef_28
  · have hout : ¬ (0 ≤ x ∧ x ≤ 255) := fun q => by rw [hr, if_pos q] at hc; exact absurd hc (by decide)
    rw [cx_out hi hout] at hw
    refine lv_iconst (v := (-1 : Int32)) hx hb dJ1_indexOf_4cfef_7 (by decide) ?_
    exact r_iret X h hw dJ1_indexOf_4cfef_8
set_option maxRecDepth 100000 in
set_option maxHeartbeats 4000000 in
theorem j_la (l : Launch) (G : vG) (hG : gO G) (i : Nat) (hi : i < 10) (Q : Int32 → vM → Prop) (μ : vM) (hw : Q 1 μ) : mt l G yJ0_isLatin1_aae02 vJ_la { frames := 0, cells := 0, slots := 0, locals := 0 } [.ref (gS G i)] μ (qI G Q) := by
  refine met_of (cc := cJ0_isLatin1_aae02) (maxL := 1) (ret := (some .boolean)) RJ0 (by decide) rfl rfl hG (Nat.le_of_ble_eq_true rfl) ?_
  intro p e s m below meth c X h ls hl
  have hl : lv_has ls 1 [(0, .ref (gS G i))] := hl
  have hx := X.1
  have hb := X.2.1
  refine r_gets X h (r_cs X) ww_2_195 dJ0_isLatin1_aae02_0 ?_
  refine lv_if_eq (tgt := 17) hx hb dJ0_isLatin1_aae02_3 (by decide) (fun hc => absurd hc (by decide)) (fun _ => ?_)
  refine lv_aload_n hx hb dJ0_isLatin1_aae02_6 rfl (lv_at hl 0 rfl) ?_
  refine r_co X h hi ww_6_42 dJ0_isLatin1_aae02_7 ?_
  refine lv_if_ne (tgt := 17) hx hb dJ0_isLatin1_aae02_10 (by decide) (fun hc => absurd rfl hc) (fun _ => ?_)
  refine lv_iconst (v := (1 : Int32)) hx hb dJ0_isLatin1_aae02_13 (by decide) ?_
  refine lv_goto (tgt := 18) hx hb dJ0_isLatin1_aae02_14 (by decide) ?_
  exact r_zret X h (Or.inr rfl) hw dJ0_isLatin1_aae02_18
set_option maxRecDepth 100000 in
set_option maxHeartbeats 4000000 in
theorem j_co (l : Launch) (G : vG) (hG : gO G) (i : Nat) (hi : i < 10) (Q : Int32 → vM → Prop) (μ : vM) (hw : Q 0 μ) : mt l G yJ0_coder_7d493 vJ_co { frames := 0, cells := 0, slots := 0, locals := 0 } [.ref (gS G i)] μ (qI G Q) := by
  refine met_of (cc := cJ0_coder_7d493) (maxL := 1) (ret := (some .byte)) RJ0 (by decide) rfl rfl hG (Nat.le_of_ble_eq_true rfl) ?_
  intro p e s m below meth c X h ls hl
  have hl : lv_has ls 1 [(0, .ref (gS G i))] := hl
  have hx := X.1
  have hb := X.2.1
  refine r_gets X h (r_cs X) ww_2_195 dJ0_coder_7d493_0 ?_
  refine lv_if_eq (tgt := 13) hx hb dJ0_coder_7d493_3 (by decide) (fun hc => absurd hc (by decide)) (fun _ => ?_)
  refine lv_aload_n hx hb dJ0_coder_7d493_6 rfl (lv_at hl 0 rfl) ?_
  refine r_co X h hi ww_6_42 dJ0_coder_7d493_7 ?_
  refine lv_goto (tgt := 14) hx hb dJ0_coder_7d493_10 (by decide) ?_
  exact W.zret X.1 X.2.1 X.2.2.2.2.2.1 rfl (fun t ht _ => ⟨⟨0, μ, rfl, hw, by show va_P _ _ _ t.heap; rw [ht]; exact h.1⟩, h.2.F ht⟩) h.2.2.2 dJ0_coder_7d493_14 X.2.2.2.2.2.2.1
set_option maxRecDepth 100000 in
set_option maxHeartbeats 4000000 in
theorem j_le (l : Launch) (G : vG) (hG : gO G) (i : Nat) (hi : i < 10) (Q : Int32 → vM → Prop) (μ : vM) (hw : Q (nI (c_len.getD i 0)) μ) : mt l G yJ0_length_8abf5 vJ_le { frames := 1, cells := 0, slots := 0, locals := 20 } [.ref (gS G i)] μ (qI G Q) := by
  refine met_of (cc := cJ0_length_8abf5) (maxL := 1) (ret := (some .int)) RJ0 (by decide) rfl rfl hG (Nat.le_of_ble_eq_true rfl) ?_
  intro p e s m below meth c X h ls hl
  have hl : lv_has ls 1 [(0, .ref (gS G i))] := hl
  have hx := X.1
  have hb := X.2.1
  refine lv_aload_n hx hb dJ0_length_8abf5_0 rfl (lv_at hl 0 rfl) ?_
  refine r_va X h hi ww_6_43 dJ0_length_8abf5_1 (fun t hT => ?_)
  refine va_tlen hx hb hT h.2 (v := nI (c_len.getD i 0)) rfl dJ0_length_8abf5_4 ?_
  refine lv_aload_n hx hb dJ0_length_8abf5_5 rfl (lv_at hl 0 rfl) ?_
  refine k_i h (n_VS hi (rest := [.int (nI (c_len.getD i 0))]) (As := []) X h hl.1 (j_co l G hG i hi (fun r μ' => μ' = μ ∧ r = 0) μ ⟨rfl, rfl⟩) g0_co rfl hJ_co ⟨rfl, rfl⟩ ⟨Nat.le_of_ble_eq_true rfl, Nat.le_of_ble_eq_true rfl⟩ rfl (Nat.le_of_ble_eq_true rfl) dJ0_length_8abf5_6 ⟨Nat.zero_le _, Nat.zero_le _⟩) (fun r μ' H locs hw1 h => ?_)
  obtain ⟨em, rfl⟩ := hw1
  rw [em] at h
  refine lv_ishr hx hb dJ0_length_8abf5_9 ?_
  rw [z_sh i hi]
  exact r_iret X h hw dJ0_length_8abf5_10
set_option maxRecDepth 100000 in
set_option maxHeartbeats 4000000 in
theorem j_i2 (l : Launch) (G : vG) (hG : gO G) (i : Nat) (hi : i < 10) (x : Int32) (Q : Int32 → vM → Prop) (μ : vM) (hw : Q (ix_of (c_byt.getD i []) x 0) μ) : mt l G yJ0_indexOf_7cf53 vJ_i2 { frames := 2, cells := 0, slots := 0, locals := 60 } [.ref (gS G i), .int x, .int 0] μ (qI G Q) := by
  refine met_of (cc := cJ0_indexOf_7cf53) (maxL := 3) (ret := (some .int)) RJ0 (by decide) rfl rfl hG (Nat.le_of_ble_eq_true rfl) ?_
  intro p e s m below meth c X h ls hl
  have hl : lv_has ls 3 [(0, .ref (gS G i)), (1, .int x), (2, .int 0)] := hl
  have hx := X.1
  have hb := X.2.1
  refine lv_aload_n hx hb dJ0_indexOf_7cf53_0 rfl (lv_at hl 0 rfl) ?_
  refine k_i h (n_VS hi (rest := []) (As := []) X h hl.1 (j_la l G hG i hi (fun r μ' => μ' = μ ∧ r = 1) μ ⟨rfl, rfl⟩) g0_la rfl hJ_la ⟨rfl, rfl⟩ ⟨Nat.le_of_ble_eq_true rfl, Nat.le_of_ble_eq_true rfl⟩ rfl (Nat.le_of_ble_eq_true rfl) dJ0_indexOf_7cf53_1 ⟨Nat.zero_le _, Nat.zero_le _⟩) (fun r μ' H locs hw1 h => ?_)
  obtain ⟨em, rfl⟩ := hw1
  rw [em] at h
  refine lv_if_eq (tgt := 23) hx hb dJ0_indexOf_7cf53_4 (by decide) (fun hc => absurd hc (by decide)) (fun _ => ?_)
  refine lv_aload_n hx hb dJ0_indexOf_7cf53_7 rfl (lv_at hl 0 rfl) ?_
  refine r_va X h hi ww_6_43 dJ0_indexOf_7cf53_8 (fun t hT => ?_)
  refine lv_iload_n hx hb dJ0_indexOf_7cf53_11 rfl (lv_at hl 1 rfl) ?_
  refine lv_iload_n hx hb dJ0_indexOf_7cf53_12 rfl (lv_at hl 2 rfl) ?_
  refine lv_aload_n hx hb dJ0_indexOf_7cf53_13 rfl (lv_at hl 0 rfl) ?_
  refine k_i h (n_VS hi (rest := [.int 0, .int x, .ref t]) (As := []) X h hl.1 (j_le l G hG i hi (fun r μ'' => μ'' = μ ∧ r = nI (c_len.getD i 0)) μ ⟨rfl, rfl⟩) g0_le rfl hJ_le ⟨rfl, rfl⟩ ⟨Nat.le_of_ble_eq_true rfl, Nat.le_of_ble_eq_true rfl⟩ rfl (Nat.le_of_ble_eq_true rfl) dJ0_indexOf_7cf53_14 ⟨Nat.zero_le _, Nat.zero_le _⟩) (fun r μ'' H locs hw1 h => ?_)
  obtain ⟨em, rfl⟩ := hw1
  rw [em] at h
  refine k_i h (n_TT (rest := []) (As := [.ref t, .int x, .int 0, .int (nI (c_len.getD i 0))]) X h hT hl.1 (j_i1 l G hG t i hi x Q _ hw) g0_i1 rfl hJ_i1 ⟨rfl, rfl⟩ ⟨Nat.le_of_ble_eq_true rfl, Nat.le_of_ble_eq_true rfl⟩ rfl (Nat.le_of_ble_eq_true rfl) dJ0_indexOf_7cf53_17 ⟨Nat.zero_le _, Nat.zero_le _⟩) (fun r μ3 H locs hw2 h => ?_)
  refine lv_goto (tgt := 36) hx hb dJ0_indexOf_7cf53_20 (by decide) ?_
  exact r_iret X h hw2 dJ0_indexOf_7cf53_36
set_option maxRecDepth 100000 in
set_option maxHeartbeats 4000000 in
theorem j_i0 (l : Launch) (G : vG) (hG : gO G) (i : Nat) (hi : i < 10) (x : Int32) (Q : Int32 → vM → Prop) (μ : vM) (hw : Q (ix_of (c_byt.getD i []) x 0) μ) : mt l G yJ0_indexOf_0f7a4 vJ_i0 { frames := 3, cells := 0, slots := 0, locals := 90 } [.ref (gS G i), .int x] μ (qI G Q) := by
  refine met_of (cc := cJ0_indexOf_0f7a4) (maxL := 2) (ret := (some .int)) RJ0 (by decide) rfl rfl hG (Nat.le_of_ble_eq_true rfl) ?_
  intro p e s m below meth c X h ls hl
  have hl : lv_has ls 2 [(0, .ref (gS G i)), (1, .int x)] := hl
  have hx := X.1
  have hb := X.2.1
  refine lv_aload_n hx hb dJ0_indexOf_0f7a4_0 rfl (lv_at hl 0 rfl) ?_
  refine lv_iload_n hx hb dJ0_indexOf_0f7a4_1 rfl (lv_at hl 1 rfl) ?_
  refine lv_iconst (v := (0 : Int32)) hx hb dJ0_indexOf_0f7a4_2 (by decide) ?_
  refine k_i h (n_VS hi (rest := []) (As := [.int x, .int 0]) X h hl.1 (j_i2 l G hG i hi x Q μ hw) g0_i2 rfl hJ_i2 ⟨rfl, rfl⟩ ⟨Nat.le_of_ble_eq_true rfl, Nat.le_of_ble_eq_true rfl⟩ rfl (Nat.le_of_ble_eq_true rfl) dJ0_indexOf_0f7a4_3 ⟨Nat.zero_le _, Nat.zero_le _⟩) (fun r μ' H locs hw1 h => ?_)
  exact r_iret X h hw1 dJ0_indexOf_0f7a4_6
theorem r_ix {G : vG} {p : Program} {l : Launch} {e : Env} {R : Room} {s : State} {m : MethodId} {args : Array Value} {below : List Frame} {meth : Method} {c : Code} {H : Heap} {locs : List Loc} {cells slots : Nat} {Q : State → Prop} {cc : ByteArray} {nL : Nat} {ret : Option FieldType} {own : String} {pc : Nat} {ls : Array Slot} {rest : List Value} {μ : vM} (X : cx G p s m args meth c cc nL ret own) (h : bw G s μ H locs) (hsz : ls.size = nL) {sx x r : Int32} (hr : r = c_ix sx x) (hs : 0 ≤ sx ∧ sx < 10) {index : Nat} (hlink : Cond.methodLink own index ⟨"java/lang/String", "indexOf", "(I)I"⟩ ∈ lw_gd) (hdg : decode cc pc = .ok (.invokevirtual index, 3)) (hframes : 20 ≤ R.frames) (hlocals : 600 ≤ R.locals) (hW : (rest.map fun v => v.category).sum ≤ 8) (hc : cells ≤ R.cells) (hsl : slots ≤ R.slots)
    (kk : ∀ (H1 : Heap) (locs1 : List Loc), bw G s μ H1 locs1 → W p l e R s m args below meth c H1 locs1 cells slots Q (F0 m (pc + 3) ls (.int r :: rest))) : W p l e R s m args below meth c H locs cells slots Q (F0 m pc ls (.int x :: .ref (gS G sx.toNatClampNeg) :: rest)) := by
  have h1 := Int32.le_iff_toInt_le.mp hs.1
  have h2 := Int32.lt_iff_toInt_lt.mp hs.2
  rw [show (0 : Int32).toInt = 0 by decide] at h1
  rw [show (10 : Int32).toInt = 10 by decide] at h2
  have hi : sx.toNatClampNeg < 10 := by
    show sx.toInt.toNat < 10
    omega
  have g : GoodIn lw_gd (wsV own index "java/lang/String" yJ0_indexOf_0f7a4 vJ_i0) := gw_V hlink ww_2_184 ww_2_185 ww_1_11 ww_2_186
  refine k_i h (n_VS hi (rest := rest) (As := [.int x]) X h hsz (j_i0 l G X.2.2.2.2.2.2.2.2.1 _ hi x (fun r' μ' => μ' = μ ∧ r' = r) μ ⟨rfl, hr.symm⟩) g rfl hJ_i0 ⟨rfl, rfl⟩ ⟨by show 3 + 1 ≤ _; omega, by show 8 + (2 + 11) + 90 ≤ _; omega⟩ rfl hW hdg ⟨hc, hsl⟩) (fun r' μ' H locs hw1 h => ?_)
  obtain ⟨em, rfl⟩ := hw1
  rw [em] at h
  exact kk H locs h
