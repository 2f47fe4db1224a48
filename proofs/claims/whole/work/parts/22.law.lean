/-! THE LAW, case by case (written by wip/whole/gen/genlaw.py): with hypotheses 'sm' of what both do -/
def tCl : List vT := [.inr (6, [some (some 1), some (some 20), none, some (some 39), some (some 46), some (some 49), some (some 50), some (some 53), some (some 57), some (some 58), none, none]), .inr (5, [some (some 2), some (some 5), some (some 12), some (some 15), some (some 18), none, some (some 19), none, none]), .inr (3, [some (some 3), some (some 4)]), .inl 10, .inl 100, .inr (0, [none, none, some (some 6), some (some 7), some (some 8), some (some 9), some (some 10), some (some 11)]), .inl 8, .inl 8, .inl 8, .inl 8, .inl 8, .inl 4, .inr (1, [some none, none, some (some 13), some (some 14), none]), .inl 60, .inl 60, .inr (1, [some none, none, some (some 16), some (some 17), none]), .inl 60, .inl 60, .inl 60, .inl 24, .inr (5, [some (some 21), some (some 24), some (some 31), some (some 34), some (some 37), none, some (some 38), none, none]), .inr (3, [some (some 22), some (some 23)]), .inl 10, .inl 100, .inr (0, [none, none, some (some 25), some (some 26), some (some 27), some (some 28), some (some 29), some (some 30)]), .inl 8, .inl 8, .inl 8, .inl 8, .inl 8, .inl 4, .inr (1, [some none, none, some (some 32), some (some 33), none]), .inl 60, .inl 60, .inr (1, [some none, none, some (some 35), some (some 36), none]), .inl 60, .inl 60, .inl 60, .inl 24, .inr (0, [none, none, some (some 40), some (some 41), some (some 42), some (some 43), some (some 44), some (some 45)]), .inl 8, .inl 8, .inl 8, .inl 8, .inl 8, .inl 4, .inr (3, [some (some 47), some (some 48)]), .inl 10, .inl 100, .inl 8, .inr (2, [some (some 51), none, some (some 52), none, some none, none, none]), .inl 60, .inl 60, .inr (4, [some (some 54), some (some 55), some (some 56)]), .inl 4, .inl 4, .inl 96, .inl 7, .inl 30]
def tRl : List vT := [.inr (7, [some (some 1), some (some 2), some (some 3), none, some (some 4), some (some 5), some (some 6), some (some 7), some (some 8), none, some (some 9), some (some 10), some (some 11), some (some 12), none, none, none, none, none, some (some 13), some (some 14), none, none]), .inl 385, .inl 385, .inl 385, .inl 7, .inl 4, .inl 4, .inl 96, .inl 100, .inl 60, .inl 60, .inl 3, .inl 60, .inl 8, .inl 30]
def sm_opens (Rl : vM → vM → Prop) : Prop := ∀ (a0 : Int32) (a1 : Int32) (a2 : Int32) (μC μR : vM), Rl μC μR → wp_X6_opens a0 a1 a2 (fun r μ1 => wp_X7_opens a0 a1 a2 (fun r2 μ2 => r = r2 ∧ Rl μ1 μ2) μR) μC
def sm_field (Rl : vM → vM → Prop) : Prop := ∀ (a0 : Int32) (a1 : Int32) (μC μR : vM), Rl μC μR → wp_X6_field a0 a1 (fun r μ1 => wp_X7_field a0 a1 (fun r2 μ2 => r = r2 ∧ Rl μ1 μ2) μR) μC
def sm_far (Rl : vM → vM → Prop) : Prop := ∀ (a0 : Int32) (a1 : Int32) (μC μR : vM), Rl μC μR → wp_X6_far a0 a1 (fun r μ1 => wp_X7_far a0 a1 (fun r2 μ2 => r = r2 ∧ Rl μ1 μ2) μR) μC
def sm_bit (Rl : vM → vM → Prop) : Prop := ∀ (a0 : Int32) (a1 : Int32) (a2 : Int32) (μC μR : vM), Rl μC μR → wp_X6_bit a0 a1 a2 (fun r μ1 => wp_X7_bit a0 a1 a2 (fun r2 μ2 => r = r2 ∧ Rl μ1 μ2) μR) μC
def sm_bitIs (Rl : vM → vM → Prop) : Prop := ∀ (a0 : Int32) (a1 : Int32) (μC μR : vM), Rl μC μR → wp_X6_bitIs a0 a1 (fun r μ1 => wp_X7_bitIs a0 a1 (fun r2 μ2 => r = r2 ∧ Rl μ1 μ2) μR) μC
def sm_become (Rl : vM → vM → Prop) : Prop := ∀ (a0 : Int32) (a1 : Int32) (μC μR : vM), Rl μC μR → wp_X6_become a0 a1 (fun r μ1 => wp_X7_become a0 a1 (fun r2 μ2 => r = r2 ∧ Rl μ1 μ2) μR) μC
def sm_as (Rl : vM → vM → Prop) : Prop := ∀ (a0 : Int32) (a1 : Int32) (μC μR : vM), Rl μC μR → wp_X6_as a0 a1 (fun r μ1 => wp_X7_as a0 a1 (fun r2 μ2 => r = r2 ∧ Rl μ1 μ2) μR) μC
def sm_hears (Rl : vM → vM → Prop) : Prop := ∀ (a0 : Int32) (a1 : Int32) (μC μR : vM), Rl μC μR → wp_X6_hears a0 a1 (fun r μ1 => wp_X7_hears a0 a1 (fun r2 μ2 => r = r2 ∧ Rl μ1 μ2) μR) μC
def sm_lay (Rl : vM → vM → Prop) : Prop := ∀ (a0 : Int32) (a1 : Int32) (μC μR : vM), Rl μC μR → wp_X6_lay a0 a1 (fun r μ1 => wp_X7_lay a0 a1 (fun r2 μ2 => r = r2 ∧ Rl μ1 μ2) μR) μC
def sm_feed (Rl : vM → vM → Prop) : Prop := ∀ (a0 : Int64) (a1 : Int32) (μC μR : vM), Rl μC μR → wp_X6_feed a0 a1 (fun r μ1 => wp_X7_feed a0 a1 (fun r2 μ2 => r = r2 ∧ Rl μ1 μ2) μR) μC
def sm_text (Rl : vM → vM → Prop) : Prop := ∀ (a0 : Int32) (μC μR : vM), Rl μC μR → wp_X6_text a0 (fun r μ1 => wp_X7_text a0 (fun r2 μ2 => r = r2 ∧ Rl μ1 μ2) μR) μC
def sm_untell (Rl : vM → vM → Prop) : Prop := ∀ (a0 : Int32) (μC μR : vM), Rl μC μR → wp_X6_untell a0 (fun r μ1 => wp_X7_untell a0 (fun r2 μ2 => r = r2 ∧ Rl μ1 μ2) μR) μC
def sm_law (Rl : vM → vM → Prop) : Prop := ∀ (a0 : Int32) (a1 : Int32) (a2 : Int32) (a3 : Int32) (μC μR : vM), Rl μC μR → wp_X6_law a0 a1 a2 a3 (fun r μ1 => wp_X7_law a0 a1 a2 a3 (fun r2 μ2 => r = r2 ∧ Rl μ1 μ2) μR) μC
def sm_days (Rl : vM → vM → Prop) : Prop := ∀ (a0 : Int32) (μC μR : vM), Rl μC μR → wp_X6_days a0 (fun r μ1 => wp_X7_days a0 (fun r2 μ2 => r = r2 ∧ Rl μ1 μ2) μR) μC
def sm_loose (Rl : vM → vM → Prop) : Prop := ∀ (a0 : Int32) (μC μR : vM), Rl μC μR → wp_X6_loose a0 (fun r μ1 => wp_X7_loose a0 (fun r2 μ2 => r = r2 ∧ Rl μ1 μ2) μR) μC
def sm_day (Rl : vM → vM → Prop) : Prop := ∀ (a0 : Int32) (μC μR : vM), Rl μC μR → wp_X6_day a0 (fun r μ1 => wp_X7_day a0 (fun r2 μ2 => r = r2 ∧ Rl μ1 μ2) μR) μC
def sm_seed (Rl : vM → vM → Prop) : Prop := ∀ (a0 : Int32) (μC μR : vM), Rl μC μR → wp_X6_seed a0 (fun r μ1 => wp_X7_seed a0 (fun r2 μ2 => r = r2 ∧ Rl μ1 μ2) μR) μC
def sm_then (Rl : vM → vM → Prop) : Prop := ∀ (a0 : Int32) (a1 : Int32) (μC μR : vM), Rl μC μR → wp_X6_then a0 a1 (fun r μ1 => wp_X7_then a0 a1 (fun r2 μ2 => r = r2 ∧ Rl μ1 μ2) μR) μC
def sm_soonest (Rl : vM → vM → Prop) : Prop := ∀ (a0 : Int32) (μC μR : vM), Rl μC μR → wp_X6_soonest a0 (fun r μ1 => wp_X7_soonest a0 (fun r2 μ2 => r = r2 ∧ Rl μ1 μ2) μR) μC
def sm_gets (Rl : vM → vM → Prop) : Prop := ∀ (a0 : Int32) (a1 : Int32) (μC μR : vM), Rl μC μR → wp_X6_gets a0 a1 (fun r μ1 => wp_X7_gets a0 a1 (fun r2 μ2 => r = r2 ∧ Rl μ1 μ2) μR) μC
def sm_carry (Rl : vM → vM → Prop) : Prop := ∀ (a0 : Int32) (a1 : Int32) (a2 : Int32) (μC μR : vM), Rl μC μR → wp_X6_carry a0 a1 a2 (fun r μ1 => wp_X7_carry a0 a1 a2 (fun r2 μ2 => r = r2 ∧ Rl μ1 μ2) μR) μC
def sm_way (Rl : vM → vM → Prop) : Prop := ∀ (a0 : Int32) (a1 : Int32) (μC μR : vM), Rl μC μR → wp_X6_way a0 a1 (fun r μ1 => wp_X7_way a0 a1 (fun r2 μ2 => r = r2 ∧ Rl μ1 μ2) μR) μC
def sm_odds (Rl : vM → vM → Prop) : Prop := ∀ (a0 : Int32) (a1 : Int32) (μC μR : vM), Rl μC μR → wp_X6_odds a0 a1 (fun r μ1 => wp_X7_odds a0 a1 (fun r2 μ2 => r = r2 ∧ Rl μ1 μ2) μR) μC
def sm_whose (Rl : vM → vM → Prop) : Prop := ∀ (a0 : Int32) (a1 : Int32) (a2 : Int32) (μC μR : vM), Rl μC μR → wp_X6_whose a0 a1 a2 (fun r μ1 => wp_X7_whose a0 a1 a2 (fun r2 μ2 => r = r2 ∧ Rl μ1 μ2) μR) μC
def sm_voice (Rl : vM → vM → Prop) : Prop := ∀ (a0 : Int32) (a1 : Int32) (a2 : Int32) (μC μR : vM), Rl μC μR → wp_X6_voice a0 a1 a2 (fun r μ1 => wp_X7_voice a0 a1 a2 (fun r2 μ2 => r = r2 ∧ Rl μ1 μ2) μR) μC
def sm_body (Rl : vM → vM → Prop) : Prop := ∀ (a0 : Int32) (μC μR : vM), Rl μC μR → wp_X6_body a0 (fun r μ1 => wp_X7_body a0 (fun r2 μ2 => r = r2 ∧ Rl μ1 μ2) μR) μC
def sm_sheet (Rl : vM → vM → Prop) : Prop := ∀ (a0 : Int32) (a1 : Int32) (a2 : Int32) (μC μR : vM), Rl μC μR → wp_X6_sheet a0 a1 a2 (fun r μ1 => wp_X7_sheet a0 a1 a2 (fun r2 μ2 => r = r2 ∧ Rl μ1 μ2) μR) μC
def sm_put (Rl : vM → vM → Prop) : Prop := ∀ (a0 : Int32) (a1 : Int32) (a2 : Int32) (μC μR : vM), Rl μC μR → wp_X6_put a0 a1 a2 (fun r μ1 => wp_X7_put a0 a1 a2 (fun r2 μ2 => r = r2 ∧ Rl μ1 μ2) μR) μC
def sm_move (Rl : vM → vM → Prop) : Prop := ∀ (a0 : Int32) (a1 : Int32) (a2 : Int32) (a3 : Int32) (a4 : Int32) (μC μR : vM), Rl μC μR → wp_X6_move a0 a1 a2 a3 a4 (fun r μ1 => wp_X7_move a0 a1 a2 a3 a4 (fun r2 μ2 => r = r2 ∧ Rl μ1 μ2) μR) μC
def sm_lays (Rl : vM → vM → Prop) : Prop := ∀ (a0 : Int32) (μC μR : vM), Rl μC μR → wp_X6_lays a0 (fun r μ1 => wp_X7_lays a0 (fun r2 μ2 => r = r2 ∧ Rl μ1 μ2) μR) μC
def sm_judge (Rl : vM → vM → Prop) : Prop := ∀ (a0 : Int32) (μC μR : vM), Rl μC μR → wp_X6_judge a0 (fun r μ1 => wp_X7_judge a0 (fun r2 μ2 => r = r2 ∧ Rl μ1 μ2) μR) μC
def sm_image (Rl : vM → vM → Prop) : Prop := ∀  (μC μR : vM), Rl μC μR → wp_X6_image  (fun r μ1 => wp_X7_image  (fun r2 μ2 => r = r2 ∧ Rl μ1 μ2) μR) μC
def sm_restore (Rl : vM → vM → Prop) : Prop := ∀  (μC μR : vM), Rl μC μR → wp_X6_restore  (fun r μ1 => wp_X7_restore  (fun r2 μ2 => r = r2 ∧ Rl μ1 μ2) μR) μC
def sm_tell (Rl : vM → vM → Prop) : Prop := ∀ (a0 : Int32) (μC μR : vM), Rl μC μR → wp_X6_tell a0 (fun r μ1 => wp_X7_tell a0 (fun r2 μ2 => r = r2 ∧ Rl μ1 μ2) μR) μC
def sm_check (Rl : vM → vM → Prop) : Prop := ∀  (μC μR : vM), Rl μC μR → wp_X6_check  (fun r μ1 => wp_X7_check  (fun r2 μ2 => r = r2 ∧ Rl μ1 μ2) μR) μC
def sm_count (Rl : vM → vM → Prop) : Prop := ∀ (a0 : Int32) (μC μR : vM), Rl μC μR → wp_X6_count a0 (fun r μ1 => wp_X7_count a0 (fun r2 μ2 => r = r2 ∧ Rl μ1 μ2) μR) μC
def sm_told (Rl : vM → vM → Prop) : Prop := ∀ (a0 : Int32) (μC μR : vM), Rl μC μR → wp_X6_told a0 (fun r μ1 => wp_X7_told a0 (fun r2 μ2 => r = r2 ∧ Rl μ1 μ2) μR) μC
def sm (Rl : vM → vM → Prop) : Prop := sm_opens Rl ∧ sm_field Rl ∧ sm_far Rl ∧ sm_bit Rl ∧ sm_bitIs Rl ∧ sm_become Rl ∧ sm_as Rl ∧ sm_hears Rl ∧ sm_lay Rl ∧ sm_feed Rl ∧ sm_text Rl ∧ sm_untell Rl ∧ sm_law Rl ∧ sm_days Rl ∧ sm_loose Rl ∧ sm_day Rl ∧ sm_seed Rl ∧ sm_then Rl ∧ sm_soonest Rl ∧ sm_gets Rl ∧ sm_carry Rl ∧ sm_way Rl ∧ sm_odds Rl ∧ sm_whose Rl ∧ sm_voice Rl ∧ sm_body Rl ∧ sm_sheet Rl ∧ sm_put Rl ∧ sm_move Rl ∧ sm_lays Rl ∧ sm_judge Rl ∧ sm_image Rl ∧ sm_restore Rl ∧ sm_tell Rl ∧ sm_check Rl ∧ sm_count Rl ∧ sm_told Rl
def lb (GC GR : vG) (s : State) (μC μR : vM) (H : Heap) (locs : List Loc) : Prop := va_P (gD GC) vwCl (mw GC μC) H ∧ va_P (gD GR) vwCl (mw GR μR) H ∧ va_S (fun q : Nat => s.heap.size ≤ q) s.heap H locs
def lx (GC GR : vG) (p : Program) (s : State) (m : MethodId) (meth : Method) (c : Code) (b L : Nat) (xs : Nat → Int32) : Prop :=
  p.tables.exec = Jvm.exec ∧ c.code = cL_law ∧ c.maxLocals = 4 ∧ s.vm.findClass RL = some m.cls ∧ (∀ w ∈ lw_gd, w.before #[Value.ref b] s = true) ∧ meth.sig.returnType = ret ∧ meth.locks = false ∧ va_X b L xs s s.heap ∧ b < s.heap.size ∧ L ≤ 3072 ∧
  (va_K (gD GC) vwCl [(gc GC, .int)] s ∧ va_K (gD GR) vwCl [(gc GR, .int)] s ∧ gO GC ∧ gO GR ∧ gE GC s s.heap ∧ gE GR s s.heap ∧ isX6 GC ∧ isX7 GR) ∧
  (∀ q, gA GC q → s.heap.size ≤ q) ∧ (∀ q, gA GR q → s.heap.size ≤ q) ∧ (∀ j, j < gN GC → ¬ gA GR (ga GC j)) ∧ (∀ j, j < gN GR → ¬ gA GC (ga GR j))
theorem gE_warm2 {G : vG} {s U : State} (h : gE G s s.heap) (kq : ∀ a : Nat, a < s.heap.size → ¬ gA G a → U.heap[a]? = s.heap[a]?) (hW : s.WarmedH U.vm) : gE G U U.heap := by
  obtain ⟨⟨t1, a1, a2⟩, ⟨t2, b1, b2⟩, ⟨adV, d1⟩, e1, f1, g1, g2⟩ := h
  exact ⟨⟨t1, (a1.moved hW.alike).kept kq, (a2.moved hW.alike).kept kq⟩, ⟨t2, (b1.moved hW.alike).kept kq, (b2.moved hW.alike).kept kq⟩, ⟨adV, (d1.moved hW.alike).kept kq⟩, fun i q hq => vk_R.warm hW (e1 i q hq), (f1.moved hW.alike).kept kq, fun i q hq => va_Nw.warmF hW (g1 i q hq), fun i q hq => va_Nw.warmM hW (g2 i q hq)⟩
theorem mw_kept {G : vG} {μ : vM} {H H1 : Heap} (h : va_P (gD G) vwCl (mw G μ) H) (hq : ∀ j, j < gN G → H1[ga G j]? = H[ga G j]?) : va_P (gD G) vwCl (mw G μ) H1 := by
  refine h.kept ?_
  intro k q hk
  have hl : k < gN G := by
    have := (List.getElem?_eq_some_iff.mp hk).1
    simpa [mw] using this
  rw [mw_get hl] at hk
  cases hk
  exact hq k hl
theorem mw_lt {G : vG} {μ : vM} {H : Heap} (h : va_P (gD G) vwCl (mw G μ) H) {j : Nat} (hj : j < gN G) : ga G j < H.size := (h j _ (mw_get hj)).lt
theorem mw_obj {G : vG} {μ : vM} {j ci : Nat} {ks : List (Option (Option Nat))} (ho : gt G j = .inr (ci, ks) ∧ j < gN G) : (mw G μ)[j]? = some (ga G j, .inr (ci, mf G (μ j) 0 ks)) := by rw [mw_get ho.2, ho.1]; rfl
section LL
variable {GC GR : vG} {p : Program} {l : Launch} {e : Env} {s : State} {m : MethodId} {below : List Frame} {meth : Method} {c : Code} {b L : Nat} {xs : Nat → Int32} {ls : Array Slot} {rest : List Value} {μC μR : vM} {H : Heap} {locs : List Loc} {pc cells slots : Nat} {Q : State → Prop}
theorem l_ok (X : lx GC GR p s m meth c b L xs) : gO GC ∧ gO GR ∧ isX6 GC ∧ isX7 GR := ⟨X.2.2.2.2.2.2.2.2.2.2.1.2.2.1, X.2.2.2.2.2.2.2.2.2.2.1.2.2.2.1, X.2.2.2.2.2.2.2.2.2.2.1.2.2.2.2.2.2.1, X.2.2.2.2.2.2.2.2.2.2.1.2.2.2.2.2.2.2⟩
theorem l_sld (X : lx GC GR p s m meth c b L xs) (hS : va_S (fun q : Nat => s.heap.size ≤ q) s.heap H locs) {i : Int32} (hin : vp_in i L) (hdg : decode cL_law pc = .ok (.iaload, 1))
    (kk : W p l e room_1 s m #[Value.ref b] below meth c H locs cells slots Q (F0 m (pc + 1) ls (.int (xs i.toNatClampNeg) :: rest))) : W p l e room_1 s m #[Value.ref b] below meth c H locs cells slots Q (F0 m pc ls (.int i :: .ref b :: rest)) :=
  va_sld X.1 X.2.1 X.2.2.2.2.2.2.2.1 X.2.2.2.2.2.2.2.2.1 (Nat.not_le.mpr X.2.2.2.2.2.2.2.2.1) hS hin hdg kk
theorem l_slen (X : lx GC GR p s m meth c b L xs) (hS : va_S (fun q : Nat => s.heap.size ≤ q) s.heap H locs) (hdg : decode cL_law pc = .ok (.arraylength, 1))
    (kk : W p l e room_1 s m #[Value.ref b] below meth c H locs cells slots Q (F0 m (pc + 1) ls (.int (Int32.ofNat L) :: rest))) : W p l e room_1 s m #[Value.ref b] below meth c H locs cells slots Q (F0 m pc ls (.ref b :: rest)) :=
  va_slen X.1 X.2.1 X.2.2.2.2.2.2.2.1 X.2.2.2.2.2.2.2.2.1 (Nat.not_le.mpr X.2.2.2.2.2.2.2.2.1) hS hdg kk
theorem l_end (X : lx GC GR p s m meth c b L xs) (h : lb GC GR s μC μR H locs) : W p l e room_1 s m #[Value.ref b] below meth c H locs 600000 7302249 (lw_Z below #[Value.ref b] s) (F0 m 1383 ls []) := by
  refine va_forget h.2.2.2.2 ?_
  refine lv_iconst (v := 1) X.1 X.2.1 dL_law_1383 (by decide) ?_
  exact lw_ret X.1 X.2.1 X.2.2.2.2.2.1 X.2.2.2.2.2.2.1 dL_law_1384
theorem l_in (X : lx GC GR p s m meth c b L xs) {i : Nat} {x : Int32} (hi : i ≤ L + 6) (ex : x = nI i) (hc : ¬ (Int32.ofNat L - (6 : Int32)) < x) : vp_in x L ∧ vp_in (x + (1 : Int32)) L ∧ vp_in (x + (2 : Int32)) L ∧ vp_in (x + (3 : Int32)) L ∧ vp_in (x + (4 : Int32)) L ∧ vp_in (x + (5 : Int32)) L ∧ i + 6 ≤ L := by
  have hL : L ≤ 3072 := X.2.2.2.2.2.2.2.2.2.1
  have h1 : (Int32.ofNat L - (6 : Int32)).toInt = (L : Int) - 6 := by
    rw [Int32.toInt_sub, show (Int32.ofNat L).toInt = (L : Int) from nI_toInt (by omega), show (6 : Int32).toInt = 6 from by decide]
    exact Int.bmod_eq_of_le (by omega) (by omega)
  have h2 : i + 6 ≤ L := by
    rw [Int32.lt_iff_toInt_lt, h1, ex, nI_toInt (by omega)] at hc
    omega
  have key : ∀ k : Nat, k < 6 → vp_in (nI i + nI k) L := fun k hk => by
    rw [nI_add]; exact vp_in_nI (by omega) (by omega)
  subst ex
  have k0 := key 0 (by omega)
  rw [nI_0] at k0
  refine ⟨by simpa using k0, key 1 (by omega), key 2 (by omega), key 3 (by omega), key 4 (by omega), key 5 (by omega), h2⟩
theorem l_add6 (i : Nat) : nI i + (6 : Int32) = nI (i + 6) := nI_add i 6
theorem l_C (X : lx GC GR p s m meth c b L xs) (h : lb GC GR s μC μR H locs) (hsz : ls.size = 4) {y : MethodName} {ws ws' : List Cond} {rm : Room} {As : List Value} {Q0 : Int32 → vM → Prop} {bytes : ByteArray} {maxL : Nat} {rt : Option FieldType} {idx : Nat} {st0 : List Value}
    (hM : mt l GC y ws rm (.ref (ga GC 0) :: As) μC (qI GC Q0)) (hg : GoodIn lw_gd (wsV RL idx RX6 y ws)) (hw : ws = Cond.code y bytes maxL rt :: ws') (hd : y.cls = RX6 ∧ y.cls ≠ "java/lang/invoke/MethodHandle" ∧ y.cls ≠ "java/lang/invoke/VarHandle" ∧ (parseMethodDescriptor y.desc).map (fun d => d.parameters.length) = some As.length) (hrc : rm.cells = 0 ∧ rm.slots = 0) (hR : rm.frames + 1 ≤ room_1.frames ∧ 8 + (maxL + 11) + rm.locals ≤ room_1.locals)
    (hst : st0 = As.reverse ++ .ref (ga GC 0) :: rest) (hW : (rest.map fun v => v.category).sum ≤ 8) (hdg : decode cL_law pc = .ok (.invokevirtual idx, 3))
    (kk : ∀ (r : Int32) (μ1 : vM) (H1 : Heap) (locs1 : List Loc), Q0 r μ1 → lb GC GR s μ1 μR H1 locs1 → W p l e room_1 s m #[Value.ref b] below meth c H1 locs1 600000 7302249 Q (F0 m (pc + 3) ls (.int r :: rest))) : W p l e room_1 s m #[Value.ref b] below meth c H locs 600000 7302249 Q (F0 m pc ls st0) := by
  obtain ⟨hx, hb, hml, hown, hts, -, -, -, -, -, ⟨hKC, hKR, hOC, hOR, hEC, hER, hC, hR7⟩, hAC, hAR, hdC, hdR⟩ := X
  obtain ⟨hPC, hPR, hS⟩ := h
  have he := mw_obj (μ := μC) (X6_o hC)
  have run := va_runV (As := As) (rest := rest) (g := F0 m pc ls st0) (R := room_1) (cells := 600000) (slots := 7302249) (locs := locs) (l := l) (e := e) (below := below) (meth := meth) ⟨hx, hb, hml, hown, hts⟩ hM (cwV As.length hts hg hw hrc.1 hrc.2 hd hR) ⟨pr_blind, va_recv hKC hPC (ci := 6) rfl he, fun U hU hW9 => ⟨rfl, by show va_P (gD GC) vwCl (mw GC μC) U.heap; rw [hU]; exact hPC, va_K.moved hW9.alike hKC, gE_warm2 hEC (fun a ha _ => by rw [hU]; exact hS.2.1 a ha (Nat.not_le.mpr ha)) hW9⟩⟩ rfl rfl hsz hst (lv_room hW) hdg ⟨Nat.le_refl _, Nat.le_refl _⟩
  refine va_calli run hS (fun q _ hq => hAC q hq) hAC (fun r u t H1 locs1 ht _ hp hB _ hk hS1 => kk r u H1 locs1 hp ⟨by rw [← ht]; exact hB, ?_, hS1⟩)
  exact mw_kept hPR (fun j hj => hk _ (mw_lt hPR hj) (hdR j hj))
theorem l_R (X : lx GC GR p s m meth c b L xs) (h : lb GC GR s μC μR H locs) (hsz : ls.size = 4) {y : MethodName} {ws ws' : List Cond} {rm : Room} {As : List Value} {Q0 : Int32 → vM → Prop} {bytes : ByteArray} {maxL : Nat} {rt : Option FieldType} {idx : Nat} {st0 : List Value}
    (hM : mt l GR y ws rm (.ref (ga GR 0) :: As) μR (qI GR Q0)) (hg : GoodIn lw_gd (wsV RL idx RX7 y ws)) (hw : ws = Cond.code y bytes maxL rt :: ws') (hd : y.cls = RX7 ∧ y.cls ≠ "java/lang/invoke/MethodHandle" ∧ y.cls ≠ "java/lang/invoke/VarHandle" ∧ (parseMethodDescriptor y.desc).map (fun d => d.parameters.length) = some As.length) (hrc : rm.cells = 0 ∧ rm.slots = 0) (hR : rm.frames + 1 ≤ room_1.frames ∧ 8 + (maxL + 11) + rm.locals ≤ room_1.locals)
    (hst : st0 = As.reverse ++ .ref (ga GR 0) :: rest) (hW : (rest.map fun v => v.category).sum ≤ 8) (hdg : decode cL_law pc = .ok (.invokevirtual idx, 3))
    (kk : ∀ (r : Int32) (μ1 : vM) (H1 : Heap) (locs1 : List Loc), Q0 r μ1 → lb GC GR s μC μ1 H1 locs1 → W p l e room_1 s m #[Value.ref b] below meth c H1 locs1 600000 7302249 Q (F0 m (pc + 3) ls (.int r :: rest))) : W p l e room_1 s m #[Value.ref b] below meth c H locs 600000 7302249 Q (F0 m pc ls st0) := by
  obtain ⟨hx, hb, hml, hown, hts, -, -, -, -, -, ⟨hKC, hKR, hOC, hOR, hEC, hER, hC, hR7⟩, hAC, hAR, hdC, hdR⟩ := X
  obtain ⟨hPC, hPR, hS⟩ := h
  have he := mw_obj (μ := μR) (X7_o hR7)
  have run := va_runV (As := As) (rest := rest) (g := F0 m pc ls st0) (R := room_1) (cells := 600000) (slots := 7302249) (locs := locs) (l := l) (e := e) (below := below) (meth := meth) ⟨hx, hb, hml, hown, hts⟩ hM (cwV As.length hts hg hw hrc.1 hrc.2 hd hR) ⟨pr_blind, va_recv hKR hPR (ci := 7) rfl he, fun U hU hW9 => ⟨rfl, by show va_P (gD GR) vwCl (mw GR μR) U.heap; rw [hU]; exact hPR, va_K.moved hW9.alike hKR, gE_warm2 hER (fun a ha _ => by rw [hU]; exact hS.2.1 a ha (Nat.not_le.mpr ha)) hW9⟩⟩ rfl rfl hsz hst (lv_room hW) hdg ⟨Nat.le_refl _, Nat.le_refl _⟩
  refine va_calli run hS (fun q _ hq => hAR q hq) hAR (fun r u t H1 locs1 ht _ hp hB _ hk hS1 => kk r u H1 locs1 hp ⟨?_, by rw [← ht]; exact hB, hS1⟩)
  exact mw_kept hPC (fun j hj => hk _ (mw_lt hPC hj) (hdC j hj))
end LL

set_option maxRecDepth 100000 in
set_option maxHeartbeats 4000000 in
theorem lc_opens {Rl : vM → vM → Prop} {GC GR : vG} {p : Program} {l : Launch} {e : Env} {s : State} {m : MethodId} {below : List Frame} {meth : Method} {c : Code} {b L : Nat} {xs : Nat → Int32} {ls : Array Slot} {x : Int32} {μC μR : vM} {H : Heap} {locs : List Loc} (X : lx GC GR p s m meth c b L xs) (h : lb GC GR s μC μR H locs) (hl : lv_has ls 4 [(0, .ref b), (1, .ref (ga GC 0)), (2, .ref (ga GR 0)), (3, .int x)]) (hs : sm_opens Rl) (hr : Rl μC μR) (v1 : vp_in (x + (1 : Int32)) L) (v2 : vp_in (x + (2 : Int32)) L) (v3 : vp_in (x + (3 : Int32)) L) (v4 : vp_in (x + (4 : Int32)) L) (v5 : vp_in (x + (5 : Int32)) L) (kk : ∀ (μC μR : vM) (H : Heap) (locs : List Loc), Rl μC μR → lb GC GR s μC μR H locs → W p l e room_1 s m #[Value.ref b] below meth c H locs 600000 7302249 (lw_Z below #[Value.ref b] s) (F0 m 1377 ls [])) : W p l e room_1 s m #[Value.ref b] below meth c H locs 600000 7302249 (lw_Z below #[Value.ref b] s) (F0 m 196 ls []) := by
  have hx := X.1
  have hb := X.2.1
  obtain ⟨hOC, hOR, hC, hR⟩ := l_ok X
  have hw := hs (xs (x + (1 : Int32)).toNatClampNeg) (xs (x + (2 : Int32)).toNatClampNeg) (xs (x + (3 : Int32)).toNatClampNeg) μC μR hr
  refine lv_aload_n hx hb dL_law_196 rfl (lv_at hl 1 rfl) ?_
  refine lv_aload_n hx hb dL_law_197 rfl (lv_at hl 0 rfl) ?_
  refine lv_iload_n hx hb dL_law_198 rfl (lv_at hl 3 rfl) ?_
  refine lv_iconst (v := (1 : Int32)) hx hb dL_law_199 (by decide) ?_
  refine lv_iadd hx hb dL_law_200 ?_
  refine l_sld X h.2.2 v1 dL_law_201 ?_
  refine lv_aload_n hx hb dL_law_202 rfl (lv_at hl 0 rfl) ?_
  refine lv_iload_n hx hb dL_law_203 rfl (lv_at hl 3 rfl) ?_
  refine lv_iconst (v := (2 : Int32)) hx hb dL_law_204 (by decide) ?_
  refine lv_iadd hx hb dL_law_205 ?_
  refine l_sld X h.2.2 v2 dL_law_206 ?_
  refine lv_aload_n hx hb dL_law_207 rfl (lv_at hl 0 rfl) ?_
  refine lv_iload_n hx hb dL_law_208 rfl (lv_at hl 3 rfl) ?_
  refine lv_iconst (v := (3 : Int32)) hx hb dL_law_209 (by decide) ?_
  refine lv_iadd hx hb dL_law_210 ?_
  refine l_sld X h.2.2 v3 dL_law_211 ?_
  refine l_C (rest := []) (As := [.int (xs (x + (1 : Int32)).toNatClampNeg), .int (xs (x + (2 : Int32)).toNatClampNeg), .int (xs (x + (3 : Int32)).toNatClampNeg)]) X h hl.1 (c_X6_opens l GC hOC (xs (x + (1 : Int32)).toNatClampNeg) (xs (x + (2 : Int32)).toNatClampNeg) (xs (x + (3 : Int32)).toNatClampNeg) hC _ _ hw) gk_L_13 rfl hd_X6_opens ⟨rfl, rfl⟩ ⟨Nat.le_of_ble_eq_true rfl, Nat.le_of_ble_eq_true rfl⟩ rfl (Nat.le_of_ble_eq_true rfl) dL_law_212 (fun r μ1 H locs hw h => ?_)
  refine lv_aload_n hx hb dL_law_215 rfl (lv_at hl 2 rfl) ?_
  refine lv_aload_n hx hb dL_law_216 rfl (lv_at hl 0 rfl) ?_
  refine lv_iload_n hx hb dL_law_217 rfl (lv_at hl 3 rfl) ?_
  refine lv_iconst (v := (1 : Int32)) hx hb dL_law_218 (by decide) ?_
  refine lv_iadd hx hb dL_law_219 ?_
  refine l_sld X h.2.2 v1 dL_law_220 ?_
  refine lv_aload_n hx hb dL_law_221 rfl (lv_at hl 0 rfl) ?_
  refine lv_iload_n hx hb dL_law_222 rfl (lv_at hl 3 rfl) ?_
  refine lv_iconst (v := (2 : Int32)) hx hb dL_law_223 (by decide) ?_
  refine lv_iadd hx hb dL_law_224 ?_
  refine l_sld X h.2.2 v2 dL_law_225 ?_
  refine lv_aload_n hx hb dL_law_226 rfl (lv_at hl 0 rfl) ?_
  refine lv_iload_n hx hb dL_law_227 rfl (lv_at hl 3 rfl) ?_
  refine lv_iconst (v := (3 : Int32)) hx hb dL_law_228 (by decide) ?_
  refine lv_iadd hx hb dL_law_229 ?_
  refine l_sld X h.2.2 v3 dL_law_230 ?_
  refine l_R (rest := [.int (r)]) (As := [.int (xs (x + (1 : Int32)).toNatClampNeg), .int (xs (x + (2 : Int32)).toNatClampNeg), .int (xs (x + (3 : Int32)).toNatClampNeg)]) X h hl.1 (c_X7_opens l GR hOR (xs (x + (1 : Int32)).toNatClampNeg) (xs (x + (2 : Int32)).toNatClampNeg) (xs (x + (3 : Int32)).toNatClampNeg) hR _ _ hw) gk_L_17 rfl hd_X7_opens ⟨rfl, rfl⟩ ⟨Nat.le_of_ble_eq_true rfl, Nat.le_of_ble_eq_true rfl⟩ rfl (Nat.le_of_ble_eq_true rfl) dL_law_231 (fun r2 μ2 H locs hw h => ?_)
  refine lv_icmp_eq (tgt := 1377) hx hb dL_law_234 (by decide) (fun _ => ?_) (fun hc => absurd hw.1 hc)
  exact kk μ1 μ2 H locs hw.2 h
set_option maxRecDepth 100000 in
set_option maxHeartbeats 4000000 in
theorem lc_field {Rl : vM → vM → Prop} {GC GR : vG} {p : Program} {l : Launch} {e : Env} {s : State} {m : MethodId} {below : List Frame} {meth : Method} {c : Code} {b L : Nat} {xs : Nat → Int32} {ls : Array Slot} {x : Int32} {μC μR : vM} {H : Heap} {locs : List Loc} (X : lx GC GR p s m meth c b L xs) (h : lb GC GR s μC μR H locs) (hl : lv_has ls 4 [(0, .ref b), (1, .ref (ga GC 0)), (2, .ref (ga GR 0)), (3, .int x)]) (hs : sm_field Rl) (hr : Rl μC μR) (v1 : vp_in (x + (1 : Int32)) L) (v2 : vp_in (x + (2 : Int32)) L) (v3 : vp_in (x + (3 : Int32)) L) (v4 : vp_in (x + (4 : Int32)) L) (v5 : vp_in (x + (5 : Int32)) L) (kk : ∀ (μC μR : vM) (H : Heap) (locs : List Loc), Rl μC μR → lb GC GR s μC μR H locs → W p l e room_1 s m #[Value.ref b] below meth c H locs 600000 7302249 (lw_Z below #[Value.ref b] s) (F0 m 1377 ls [])) : W p l e room_1 s m #[Value.ref b] below meth c H locs 600000 7302249 (lw_Z below #[Value.ref b] s) (F0 m 239 ls []) := by
  have hx := X.1
  have hb := X.2.1
  obtain ⟨hOC, hOR, hC, hR⟩ := l_ok X
  have hw := hs (xs (x + (1 : Int32)).toNatClampNeg) (xs (x + (2 : Int32)).toNatClampNeg) μC μR hr
  refine lv_aload_n hx hb dL_law_239 rfl (lv_at hl 1 rfl) ?_
  refine lv_aload_n hx hb dL_law_240 rfl (lv_at hl 0 rfl) ?_
  refine lv_iload_n hx hb dL_law_241 rfl (lv_at hl 3 rfl) ?_
  refine lv_iconst (v := (1 : Int32)) hx hb dL_law_242 (by decide) ?_
  refine lv_iadd hx hb dL_law_243 ?_
  refine l_sld X h.2.2 v1 dL_law_244 ?_
  refine lv_aload_n hx hb dL_law_245 rfl (lv_at hl 0 rfl) ?_
  refine lv_iload_n hx hb dL_law_246 rfl (lv_at hl 3 rfl) ?_
  refine lv_iconst (v := (2 : Int32)) hx hb dL_law_247 (by decide) ?_
  refine lv_iadd hx hb dL_law_248 ?_
  refine l_sld X h.2.2 v2 dL_law_249 ?_
  refine l_C (rest := []) (As := [.int (xs (x + (1 : Int32)).toNatClampNeg), .int (xs (x + (2 : Int32)).toNatClampNeg)]) X h hl.1 (c_X6_field l GC hOC (xs (x + (1 : Int32)).toNatClampNeg) (xs (x + (2 : Int32)).toNatClampNeg) hC _ _ hw) gk_L_18 rfl hd_X6_field ⟨rfl, rfl⟩ ⟨Nat.le_of_ble_eq_true rfl, Nat.le_of_ble_eq_true rfl⟩ rfl (Nat.le_of_ble_eq_true rfl) dL_law_250 (fun r μ1 H locs hw h => ?_)
  refine lv_aload_n hx hb dL_law_253 rfl (lv_at hl 2 rfl) ?_
  refine lv_aload_n hx hb dL_law_254 rfl (lv_at hl 0 rfl) ?_
  refine lv_iload_n hx hb dL_law_255 rfl (lv_at hl 3 rfl) ?_
  refine lv_iconst (v := (1 : Int32)) hx hb dL_law_256 (by decide) ?_
  refine lv_iadd hx hb dL_law_257 ?_
  refine l_sld X h.2.2 v1 dL_law_258 ?_
  refine lv_aload_n hx hb dL_law_259 rfl (lv_at hl 0 rfl) ?_
  refine lv_iload_n hx hb dL_law_260 rfl (lv_at hl 3 rfl) ?_
  refine lv_iconst (v := (2 : Int32)) hx hb dL_law_261 (by decide) ?_
  refine lv_iadd hx hb dL_law_262 ?_
  refine l_sld X h.2.2 v2 dL_law_263 ?_
  refine l_R (rest := [.int (r)]) (As := [.int (xs (x + (1 : Int32)).toNatClampNeg), .int (xs (x + (2 : Int32)).toNatClampNeg)]) X h hl.1 (c_X7_field l GR hOR (xs (x + (1 : Int32)).toNatClampNeg) (xs (x + (2 : Int32)).toNatClampNeg) hR _ _ hw) gk_L_22 rfl hd_X7_field ⟨rfl, rfl⟩ ⟨Nat.le_of_ble_eq_true rfl, Nat.le_of_ble_eq_true rfl⟩ rfl (Nat.le_of_ble_eq_true rfl) dL_law_264 (fun r2 μ2 H locs hw h => ?_)
  refine lv_icmp_eq (tgt := 1377) hx hb dL_law_267 (by decide) (fun _ => ?_) (fun hc => absurd hw.1 hc)
  exact kk μ1 μ2 H locs hw.2 h
set_option maxRecDepth 100000 in
set_option maxHeartbeats 4000000 in
theorem lc_far {Rl : vM → vM → Prop} {GC GR : vG} {p : Program} {l : Launch} {e : Env} {s : State} {m : MethodId} {below : List Frame} {meth : Method} {c : Code} {b L : Nat} {xs : Nat → Int32} {ls : Array Slot} {x : Int32} {μC μR : vM} {H : Heap} {locs : List Loc} (X : lx GC GR p s m meth c b L xs) (h : lb GC GR s μC μR H locs) (hl : lv_has ls 4 [(0, .ref b), (1, .ref (ga GC 0)), (2, .ref (ga GR 0)), (3, .int x)]) (hs : sm_far Rl) (hr : Rl μC μR) (v1 : vp_in (x + (1 : Int32)) L) (v2 : vp_in (x + (2 : Int32)) L) (v3 : vp_in (x + (3 : Int32)) L) (v4 : vp_in (x + (4 : Int32)) L) (v5 : vp_in (x + (5 : Int32)) L) (kk : ∀ (μC μR : vM) (H : Heap) (locs : List Loc), Rl μC μR → lb GC GR s μC μR H locs → W p l e room_1 s m #[Value.ref b] below meth c H locs 600000 7302249 (lw_Z below #[Value.ref b] s) (F0 m 1377 ls [])) : W p l e room_1 s m #[Value.ref b] below meth c H locs 600000 7302249 (lw_Z below #[Value.ref b] s) (F0 m 272 ls []) := by
  have hx := X.1
  have hb := X.2.1
  obtain ⟨hOC, hOR, hC, hR⟩ := l_ok X
  have hw := hs (xs (x + (1 : Int32)).toNatClampNeg) (xs (x + (2 : Int32)).toNatClampNeg) μC μR hr
  refine lv_aload_n hx hb dL_law_272 rfl (lv_at hl 1 rfl) ?_
  refine lv_aload_n hx hb dL_law_273 rfl (lv_at hl 0 rfl) ?_
  refine lv_iload_n hx hb dL_law_274 rfl (lv_at hl 3 rfl) ?_
  refine lv_iconst (v := (1 : Int32)) hx hb dL_law_275 (by decide) ?_
  refine lv_iadd hx hb dL_law_276 ?_
  refine l_sld X h.2.2 v1 dL_law_277 ?_
  refine lv_aload_n hx hb dL_law_278 rfl (lv_at hl 0 rfl) ?_
  refine lv_iload_n hx hb dL_law_279 rfl (lv_at hl 3 rfl) ?_
  refine lv_iconst (v := (2 : Int32)) hx hb dL_law_280 (by decide) ?_
  refine lv_iadd hx hb dL_law_281 ?_
  refine l_sld X h.2.2 v2 dL_law_282 ?_
  refine l_C (rest := []) (As := [.int (xs (x + (1 : Int32)).toNatClampNeg), .int (xs (x + (2 : Int32)).toNatClampNeg)]) X h hl.1 (c_X6_far l GC hOC (xs (x + (1 : Int32)).toNatClampNeg) (xs (x + (2 : Int32)).toNatClampNeg) hC _ _ hw) gk_L_23 rfl hd_X6_far ⟨rfl, rfl⟩ ⟨Nat.le_of_ble_eq_true rfl, Nat.le_of_ble_eq_true rfl⟩ rfl (Nat.le_of_ble_eq_true rfl) dL_law_283 (fun r μ1 H locs hw h => ?_)
  refine lv_aload_n hx hb dL_law_286 rfl (lv_at hl 2 rfl) ?_
  refine lv_aload_n hx hb dL_law_287 rfl (lv_at hl 0 rfl) ?_
  refine lv_iload_n hx hb dL_law_288 rfl (lv_at hl 3 rfl) ?_
  refine lv_iconst (v := (1 : Int32)) hx hb dL_law_289 (by decide) ?_
  refine lv_iadd hx hb dL_law_290 ?_
  refine l_sld X h.2.2 v1 dL_law_291 ?_
  refine lv_aload_n hx hb dL_law_292 rfl (lv_at hl 0 rfl) ?_
  refine lv_iload_n hx hb dL_law_293 rfl (lv_at hl 3 rfl) ?_
  refine lv_iconst (v := (2 : Int32)) hx hb dL_law_294 (by decide) ?_
  refine lv_iadd hx hb dL_law_295 ?_
  refine l_sld X h.2.2 v2 dL_law_296 ?_
  refine l_R (rest := [.int (r)]) (As := [.int (xs (x + (1 : Int32)).toNatClampNeg), .int (xs (x + (2 : Int32)).toNatClampNeg)]) X h hl.1 (c_X7_far l GR hOR (xs (x + (1 : Int32)).toNatClampNeg) (xs (x + (2 : Int32)).toNatClampNeg) hR _ _ hw) gk_L_26 rfl hd_X7_far ⟨rfl, rfl⟩ ⟨Nat.le_of_ble_eq_true rfl, Nat.le_of_ble_eq_true rfl⟩ rfl (Nat.le_of_ble_eq_true rfl) dL_law_297 (fun r2 μ2 H locs hw h => ?_)
  refine lv_icmp_eq (tgt := 1377) hx hb dL_law_300 (by decide) (fun _ => ?_) (fun hc => absurd hw.1 hc)
  exact kk μ1 μ2 H locs hw.2 h
set_option maxRecDepth 100000 in
set_option maxHeartbeats 4000000 in
theorem lc_bit {Rl : vM → vM → Prop} {GC GR : vG} {p : Program} {l : Launch} {e : Env} {s : State} {m : MethodId} {below : List Frame} {meth : Method} {c : Code} {b L : Nat} {xs : Nat → Int32} {ls : Array Slot} {x : Int32} {μC μR : vM} {H : Heap} {locs : List Loc} (X : lx GC GR p s m meth c b L xs) (h : lb GC GR s μC μR H locs) (hl : lv_has ls 4 [(0, .ref b), (1, .ref (ga GC 0)), (2, .ref (ga GR 0)), (3, .int x)]) (hs : sm_bit Rl) (hr : Rl μC μR) (v1 : vp_in (x + (1 : Int32)) L) (v2 : vp_in (x + (2 : Int32)) L) (v3 : vp_in (x + (3 : Int32)) L) (v4 : vp_in (x + (4 : Int32)) L) (v5 : vp_in (x + (5 : Int32)) L) (kk : ∀ (μC μR : vM) (H : Heap) (locs : List Loc), Rl μC μR → lb GC GR s μC μR H locs → W p l e room_1 s m #[Value.ref b] below meth c H locs 600000 7302249 (lw_Z below #[Value.ref b] s) (F0 m 1377 ls [])) : W p l e room_1 s m #[Value.ref b] below meth c H locs 600000 7302249 (lw_Z below #[Value.ref b] s) (F0 m 305 ls []) := by
  have hx := X.1
  have hb := X.2.1
  obtain ⟨hOC, hOR, hC, hR⟩ := l_ok X
  have hw := hs (xs (x + (1 : Int32)).toNatClampNeg) (xs (x + (2 : Int32)).toNatClampNeg) (xs (x + (3 : Int32)).toNatClampNeg) μC μR hr
  refine lv_aload_n hx hb dL_law_305 rfl (lv_at hl 1 rfl) ?_
  refine lv_aload_n hx hb dL_law_306 rfl (lv_at hl 0 rfl) ?_
  refine lv_iload_n hx hb dL_law_307 rfl (lv_at hl 3 rfl) ?_
  refine lv_iconst (v := (1 : Int32)) hx hb dL_law_308 (by decide) ?_
  refine lv_iadd hx hb dL_law_309 ?_
  refine l_sld X h.2.2 v1 dL_law_310 ?_
  refine lv_aload_n hx hb dL_law_311 rfl (lv_at hl 0 rfl) ?_
  refine lv_iload_n hx hb dL_law_312 rfl (lv_at hl 3 rfl) ?_
  refine lv_iconst (v := (2 : Int32)) hx hb dL_law_313 (by decide) ?_
  refine lv_iadd hx hb dL_law_314 ?_
  refine l_sld X h.2.2 v2 dL_law_315 ?_
  refine lv_aload_n hx hb dL_law_316 rfl (lv_at hl 0 rfl) ?_
  refine lv_iload_n hx hb dL_law_317 rfl (lv_at hl 3 rfl) ?_
  refine lv_iconst (v := (3 : Int32)) hx hb dL_law_318 (by decide) ?_
  refine lv_iadd hx hb dL_law_319 ?_
  refine l_sld X h.2.2 v3 dL_law_320 ?_
  refine l_C (rest := []) (As := [.int (xs (x + (1 : Int32)).toNatClampNeg), .int (xs (x + (2 : Int32)).toNatClampNeg), .int (xs (x + (3 : Int32)).toNatClampNeg)]) X h hl.1 (c_X6_bit l GC hOC (xs (x + (1 : Int32)).toNatClampNeg) (xs (x + (2 : Int32)).toNatClampNeg) (xs (x + (3 : Int32)).toNatClampNeg) hC _ _ hw) gk_L_27 rfl hd_X6_bit ⟨rfl, rfl⟩ ⟨Nat.le_of_ble_eq_true rfl, Nat.le_of_ble_eq_true rfl⟩ rfl (Nat.le_of_ble_eq_true rfl) dL_law_321 (fun r μ1 H locs hw h => ?_)
  refine lv_aload_n hx hb dL_law_324 rfl (lv_at hl 2 rfl) ?_
  refine lv_aload_n hx hb dL_law_325 rfl (lv_at hl 0 rfl) ?_
  refine lv_iload_n hx hb dL_law_326 rfl (lv_at hl 3 rfl) ?_
  refine lv_iconst (v := (1 : Int32)) hx hb dL_law_327 (by decide) ?_
  refine lv_iadd hx hb dL_law_328 ?_
  refine l_sld X h.2.2 v1 dL_law_329 ?_
  refine lv_aload_n hx hb dL_law_330 rfl (lv_at hl 0 rfl) ?_
  refine lv_iload_n hx hb dL_law_331 rfl (lv_at hl 3 rfl) ?_
  refine lv_iconst (v := (2 : Int32)) hx hb dL_law_332 (by decide) ?_
  refine lv_iadd hx hb dL_law_333 ?_
  refine l_sld X h.2.2 v2 dL_law_334 ?_
  refine lv_aload_n hx hb dL_law_335 rfl (lv_at hl 0 rfl) ?_
  refine lv_iload_n hx hb dL_law_336 rfl (lv_at hl 3 rfl) ?_
  refine lv_iconst (v := (3 : Int32)) hx hb dL_law_337 (by decide) ?_
  refine lv_iadd hx hb dL_law_338 ?_
  refine l_sld X h.2.2 v3 dL_law_339 ?_
  refine l_R (rest := [.int (r)]) (As := [.int (xs (x + (1 : Int32)).toNatClampNeg), .int (xs (x + (2 : Int32)).toNatClampNeg), .int (xs (x + (3 : Int32)).toNatClampNeg)]) X h hl.1 (c_X7_bit l GR hOR (xs (x + (1 : Int32)).toNatClampNeg) (xs (x + (2 : Int32)).toNatClampNeg) (xs (x + (3 : Int32)).toNatClampNeg) hR _ _ hw) gk_L_30 rfl hd_X7_bit ⟨rfl, rfl⟩ ⟨Nat.le_of_ble_eq_true rfl, Nat.le_of_ble_eq_true rfl⟩ rfl (Nat.le_of_ble_eq_true rfl) dL_law_340 (fun r2 μ2 H locs hw h => ?_)
  refine lv_icmp_eq (tgt := 1377) hx hb dL_law_343 (by decide) (fun _ => ?_) (fun hc => absurd hw.1 hc)
  exact kk μ1 μ2 H locs hw.2 h
set_option maxRecDepth 100000 in
set_option maxHeartbeats 4000000 in
theorem lc_bitIs {Rl : vM → vM → Prop} {GC GR : vG} {p : Program} {l : Launch} {e : Env} {s : State} {m : MethodId} {below : List Frame} {meth : Method} {c : Code} {b L : Nat} {xs : Nat → Int32} {ls : Array Slot} {x : Int32} {μC μR : vM} {H : Heap} {locs : List Loc} (X : lx GC GR p s m meth c b L xs) (h : lb GC GR s μC μR H locs) (hl : lv_has ls 4 [(0, .ref b), (1, .ref (ga GC 0)), (2, .ref (ga GR 0)), (3, .int x)]) (hs : sm_bitIs Rl) (hr : Rl μC μR) (v1 : vp_in (x + (1 : Int32)) L) (v2 : vp_in (x + (2 : Int32)) L) (v3 : vp_in (x + (3 : Int32)) L) (v4 : vp_in (x + (4 : Int32)) L) (v5 : vp_in (x + (5 : Int32)) L) (kk : ∀ (μC μR : vM) (H : Heap) (locs : List Loc), Rl μC μR → lb GC GR s μC μR H locs → W p l e room_1 s m #[Value.ref b] below meth c H locs 600000 7302249 (lw_Z below #[Value.ref b] s) (F0 m 1377 ls [])) : W p l e room_1 s m #[Value.ref b] below meth c H locs 600000 7302249 (lw_Z below #[Value.ref b] s) (F0 m 348 ls []) := by
  have hx := X.1
  have hb := X.2.1
  obtain ⟨hOC, hOR, hC, hR⟩ := l_ok X
  have hw := hs (xs (x + (1 : Int32)).toNatClampNeg) (xs (x + (2 : Int32)).toNatClampNeg) μC μR hr
  refine lv_aload_n hx hb dL_law_348 rfl (lv_at hl 1 rfl) ?_
  refine lv_aload_n hx hb dL_law_349 rfl (lv_at hl 0 rfl) ?_
  refine lv_iload_n hx hb dL_law_350 rfl (lv_at hl 3 rfl) ?_
  refine lv_iconst (v := (1 : Int32)) hx hb dL_law_351 (by decide) ?_
  refine lv_iadd hx hb dL_law_352 ?_
  refine l_sld X h.2.2 v1 dL_law_353 ?_
  refine lv_aload_n hx hb dL_law_354 rfl (lv_at hl 0 rfl) ?_
  refine lv_iload_n hx hb dL_law_355 rfl (lv_at hl 3 rfl) ?_
  refine lv_iconst (v := (2 : Int32)) hx hb dL_law_356 (by decide) ?_
  refine lv_iadd hx hb dL_law_357 ?_
  refine l_sld X h.2.2 v2 dL_law_358 ?_
  refine l_C (rest := []) (As := [.int (xs (x + (1 : Int32)).toNatClampNeg), .int (xs (x + (2 : Int32)).toNatClampNeg)]) X h hl.1 (c_X6_bitIs l GC hOC (xs (x + (1 : Int32)).toNatClampNeg) (xs (x + (2 : Int32)).toNatClampNeg) hC _ _ hw) gk_L_31 rfl hd_X6_bitIs ⟨rfl, rfl⟩ ⟨Nat.le_of_ble_eq_true rfl, Nat.le_of_ble_eq_true rfl⟩ rfl (Nat.le_of_ble_eq_true rfl) dL_law_359 (fun r μ1 H locs hw h => ?_)
  refine lv_aload_n hx hb dL_law_362 rfl (lv_at hl 2 rfl) ?_
  refine lv_aload_n hx hb dL_law_363 rfl (lv_at hl 0 rfl) ?_
  refine lv_iload_n hx hb dL_law_364 rfl (lv_at hl 3 rfl) ?_
  refine lv_iconst (v := (1 : Int32)) hx hb dL_law_365 (by decide) ?_
  refine lv_iadd hx hb dL_law_366 ?_
  refine l_sld X h.2.2 v1 dL_law_367 ?_
  refine lv_aload_n hx hb dL_law_368 rfl (lv_at hl 0 rfl) ?_
  refine lv_iload_n hx hb dL_law_369 rfl (lv_at hl 3 rfl) ?_
  refine lv_iconst (v := (2 : Int32)) hx hb dL_law_370 (by decide) ?_
  refine lv_iadd hx hb dL_law_371 ?_
  refine l_sld X h.2.2 v2 dL_law_372 ?_
  refine l_R (rest := [.int (r)]) (As := [.int (xs (x + (1 : Int32)).toNatClampNeg), .int (xs (x + (2 : Int32)).toNatClampNeg)]) X h hl.1 (c_X7_bitIs l GR hOR (xs (x + (1 : Int32)).toNatClampNeg) (xs (x + (2 : Int32)).toNatClampNeg) hR _ _ hw) gk_L_34 rfl hd_X7_bitIs ⟨rfl, rfl⟩ ⟨Nat.le_of_ble_eq_true rfl, Nat.le_of_ble_eq_true rfl⟩ rfl (Nat.le_of_ble_eq_true rfl) dL_law_373 (fun r2 μ2 H locs hw h => ?_)
  refine lv_icmp_eq (tgt := 1377) hx hb dL_law_376 (by decide) (fun _ => ?_) (fun hc => absurd hw.1 hc)
  exact kk μ1 μ2 H locs hw.2 h
set_option maxRecDepth 100000 in
set_option maxHeartbeats 4000000 in
theorem lc_become {Rl : vM → vM → Prop} {GC GR : vG} {p : Program} {l : Launch} {e : Env} {s : State} {m : MethodId} {below : List Frame} {meth : Method} {c : Code} {b L : Nat} {xs : Nat → Int32} {ls : Array Slot} {x : Int32} {μC μR : vM} {H : Heap} {locs : List Loc} (X : lx GC GR p s m meth c b L xs) (h : lb GC GR s μC μR H locs) (hl : lv_has ls 4 [(0, .ref b), (1, .ref (ga GC 0)), (2, .ref (ga GR 0)), (3, .int x)]) (hs : sm_become Rl) (hr : Rl μC μR) (v1 : vp_in (x + (1 : Int32)) L) (v2 : vp_in (x + (2 : Int32)) L) (v3 : vp_in (x + (3 : Int32)) L) (v4 : vp_in (x + (4 : Int32)) L) (v5 : vp_in (x + (5 : Int32)) L) (kk : ∀ (μC μR : vM) (H : Heap) (locs : List Loc), Rl μC μR → lb GC GR s μC μR H locs → W p l e room_1 s m #[Value.ref b] below meth c H locs 600000 7302249 (lw_Z below #[Value.ref b] s) (F0 m 1377 ls [])) : W p l e room_1 s m #[Value.ref b] below meth c H locs 600000 7302249 (lw_Z below #[Value.ref b] s) (F0 m 381 ls []) := by
  have hx := X.1
  have hb := X.2.1
  obtain ⟨hOC, hOR, hC, hR⟩ := l_ok X
  have hw := hs (xs (x + (1 : Int32)).toNatClampNeg) (xs (x + (2 : Int32)).toNatClampNeg) μC μR hr
  refine lv_aload_n hx hb dL_law_381 rfl (lv_at hl 1 rfl) ?_
  refine lv_aload_n hx hb dL_law_382 rfl (lv_at hl 0 rfl) ?_
  refine lv_iload_n hx hb dL_law_383 rfl (lv_at hl 3 rfl) ?_
  refine lv_iconst (v := (1 : Int32)) hx hb dL_law_384 (by decide) ?_
  refine lv_iadd hx hb dL_law_385 ?_
  refine l_sld X h.2.2 v1 dL_law_386 ?_
  refine lv_aload_n hx hb dL_law_387 rfl (lv_at hl 0 rfl) ?_
  refine lv_iload_n hx hb dL_law_388 rfl (lv_at hl 3 rfl) ?_
  refine lv_iconst (v := (2 : Int32)) hx hb dL_law_389 (by decide) ?_
  refine lv_iadd hx hb dL_law_390 ?_
  refine l_sld X h.2.2 v2 dL_law_391 ?_
  refine l_C (rest := []) (As := [.int (xs (x + (1 : Int32)).toNatClampNeg), .int (xs (x + (2 : Int32)).toNatClampNeg)]) X h hl.1 (c_X6_become l GC hOC (xs (x + (1 : Int32)).toNatClampNeg) (xs (x + (2 : Int32)).toNatClampNeg) hC _ _ hw) gk_L_35 rfl hd_X6_become ⟨rfl, rfl⟩ ⟨Nat.le_of_ble_eq_true rfl, Nat.le_of_ble_eq_true rfl⟩ rfl (Nat.le_of_ble_eq_true rfl) dL_law_392 (fun r μ1 H locs hw h => ?_)
  refine lv_aload_n hx hb dL_law_395 rfl (lv_at hl 2 rfl) ?_
  refine lv_aload_n hx hb dL_law_396 rfl (lv_at hl 0 rfl) ?_
  refine lv_iload_n hx hb dL_law_397 rfl (lv_at hl 3 rfl) ?_
  refine lv_iconst (v := (1 : Int32)) hx hb dL_law_398 (by decide) ?_
  refine lv_iadd hx hb dL_law_399 ?_
  refine l_sld X h.2.2 v1 dL_law_400 ?_
  refine lv_aload_n hx hb dL_law_401 rfl (lv_at hl 0 rfl) ?_
  refine lv_iload_n hx hb dL_law_402 rfl (lv_at hl 3 rfl) ?_
  refine lv_iconst (v := (2 : Int32)) hx hb dL_law_403 (by decide) ?_
  refine lv_iadd hx hb dL_law_404 ?_
  refine l_sld X h.2.2 v2 dL_law_405 ?_
  refine l_R (rest := [.int (r)]) (As := [.int (xs (x + (1 : Int32)).toNatClampNeg), .int (xs (x + (2 : Int32)).toNatClampNeg)]) X h hl.1 (c_X7_become l GR hOR (xs (x + (1 : Int32)).toNatClampNeg) (xs (x + (2 : Int32)).toNatClampNeg) hR _ _ hw) gk_L_38 rfl hd_X7_become ⟨rfl, rfl⟩ ⟨Nat.le_of_ble_eq_true rfl, Nat.le_of_ble_eq_true rfl⟩ rfl (Nat.le_of_ble_eq_true rfl) dL_law_406 (fun r2 μ2 H locs hw h => ?_)
  refine lv_icmp_eq (tgt := 1377) hx hb dL_law_409 (by decide) (fun _ => ?_) (fun hc => absurd hw.1 hc)
  exact kk μ1 μ2 H locs hw.2 h
set_option maxRecDepth 100000 in
set_option maxHeartbeats 4000000 in
theorem lc_as {Rl : vM → vM → Prop} {GC GR : vG} {p : Program} {l : Launch} {e : Env} {s : State} {m : MethodId} {below : List Frame} {meth : Method} {c : Code} {b L : Nat} {xs : Nat → Int32} {ls : Array Slot} {x : Int32} {μC μR : vM} {H : Heap} {locs : List Loc} (X : lx GC GR p s m meth c b L xs) (h : lb GC GR s μC μR H locs) (hl : lv_has ls 4 [(0, .ref b), (1, .ref (ga GC 0)), (2, .ref (ga GR 0)), (3, .int x)]) (hs : sm_as Rl) (hr : Rl μC μR) (v1 : vp_in (x + (1 : Int32)) L) (v2 : vp_in (x + (2 : Int32)) L) (v3 : vp_in (x + (3 : Int32)) L) (v4 : vp_in (x + (4 : Int32)) L) (v5 : vp_in (x + (5 : Int32)) L) (kk : ∀ (μC μR : vM) (H : Heap) (locs : List Loc), Rl μC μR → lb GC GR s μC μR H locs → W p l e room_1 s m #[Value.ref b] below meth c H locs 600000 7302249 (lw_Z below #[Value.ref b] s) (F0 m 1377 ls [])) : W p l e room_1 s m #[Value.ref b] below meth c H locs 600000 7302249 (lw_Z below #[Value.ref b] s) (F0 m 414 ls []) := by
  have hx := X.1
  have hb := X.2.1
  obtain ⟨hOC, hOR, hC, hR⟩ := l_ok X
  have hw := hs (xs (x + (1 : Int32)).toNatClampNeg) (xs (x + (2 : Int32)).toNatClampNeg) μC μR hr
  refine lv_aload_n hx hb dL_law_414 rfl (lv_at hl 1 rfl) ?_
  refine lv_aload_n hx hb dL_law_415 rfl (lv_at hl 0 rfl) ?_
  refine lv_iload_n hx hb dL_law_416 rfl (lv_at hl 3 rfl) ?_
  refine lv_iconst (v := (1 : Int32)) hx hb dL_law_417 (by decide) ?_
  refine lv_iadd hx hb dL_law_418 ?_
  refine l_sld X h.2.2 v1 dL_law_419 ?_
  refine lv_aload_n hx hb dL_law_420 rfl (lv_at hl 0 rfl) ?_
  refine lv_iload_n hx hb dL_law_421 rfl (lv_at hl 3 rfl) ?_
  refine lv_iconst (v := (2 : Int32)) hx hb dL_law_422 (by decide) ?_
  refine lv_iadd hx hb dL_law_423 ?_
  refine l_sld X h.2.2 v2 dL_law_424 ?_
  refine l_C (rest := []) (As := [.int (xs (x + (1 : Int32)).toNatClampNeg), .int (xs (x + (2 : Int32)).toNatClampNeg)]) X h hl.1 (c_X6_as l GC hOC (xs (x + (1 : Int32)).toNatClampNeg) (xs (x + (2 : Int32)).toNatClampNeg) hC _ _ hw) gk_L_39 rfl hd_X6_as ⟨rfl, rfl⟩ ⟨Nat.le_of_ble_eq_true rfl, Nat.le_of_ble_eq_true rfl⟩ rfl (Nat.le_of_ble_eq_true rfl) dL_law_425 (fun r μ1 H locs hw h => ?_)
  refine lv_aload_n hx hb dL_law_428 rfl (lv_at hl 2 rfl) ?_
  refine lv_aload_n hx hb dL_law_429 rfl (lv_at hl 0 rfl) ?_
  refine lv_iload_n hx hb dL_law_430 rfl (lv_at hl 3 rfl) ?_
  refine lv_iconst (v := (1 : Int32)) hx hb dL_law_431 (by decide) ?_
  refine lv_iadd hx hb dL_law_432 ?_
  refine l_sld X h.2.2 v1 dL_law_433 ?_
  refine lv_aload_n hx hb dL_law_434 rfl (lv_at hl 0 rfl) ?_
  refine lv_iload_n hx hb dL_law_435 rfl (lv_at hl 3 rfl) ?_
  refine lv_iconst (v := (2 : Int32)) hx hb dL_law_436 (by decide) ?_
  refine lv_iadd hx hb dL_law_437 ?_
  refine l_sld X h.2.2 v2 dL_law_438 ?_
  refine l_R (rest := [.int (r)]) (As := [.int (xs (x + (1 : Int32)).toNatClampNeg), .int (xs (x + (2 : Int32)).toNatClampNeg)]) X h hl.1 (c_X7_as l GR hOR (xs (x + (1 : Int32)).toNatClampNeg) (xs (x + (2 : Int32)).toNatClampNeg) hR _ _ hw) gk_L_42 rfl hd_X7_as ⟨rfl, rfl⟩ ⟨Nat.le_of_ble_eq_true rfl, Nat.le_of_ble_eq_true rfl⟩ rfl (Nat.le_of_ble_eq_true rfl) dL_law_439 (fun r2 μ2 H locs hw h => ?_)
  refine lv_icmp_eq (tgt := 1377) hx hb dL_law_442 (by decide) (fun _ => ?_) (fun hc => absurd hw.1 hc)
  exact kk μ1 μ2 H locs hw.2 h
set_option maxRecDepth 100000 in
set_option maxHeartbeats 4000000 in
theorem lc_hears {Rl : vM → vM → Prop} {GC GR : vG} {p : Program} {l : Launch} {e : Env} {s : State} {m : MethodId} {below : List Frame} {meth : Method} {c : Code} {b L : Nat} {xs : Nat → Int32} {ls : Array Slot} {x : Int32} {μC μR : vM} {H : Heap} {locs : List Loc} (X : lx GC GR p s m meth c b L xs) (h : lb GC GR s μC μR H locs) (hl : lv_has ls 4 [(0, .ref b), (1, .ref (ga GC 0)), (2, .ref (ga GR 0)), (3, .int x)]) (hs : sm_hears Rl) (hr : Rl μC μR) (v1 : vp_in (x + (1 : Int32)) L) (v2 : vp_in (x + (2 : Int32)) L) (v3 : vp_in (x + (3 : Int32)) L) (v4 : vp_in (x + (4 : Int32)) L) (v5 : vp_in (x + (5 : Int32)) L) (kk : ∀ (μC μR : vM) (H : Heap) (locs : List Loc), Rl μC μR → lb GC GR s μC μR H locs → W p l e room_1 s m #[Value.ref b] below meth c H locs 600000 7302249 (lw_Z below #[Value.ref b] s) (F0 m 1377 ls [])) : W p l e room_1 s m #[Value.ref b] below meth c H locs 600000 7302249 (lw_Z below #[Value.ref b] s) (F0 m 447 ls []) := by
  have hx := X.1
  have hb := X.2.1
  obtain ⟨hOC, hOR, hC, hR⟩ := l_ok X
  have hw := hs (xs (x + (1 : Int32)).toNatClampNeg) (xs (x + (2 : Int32)).toNatClampNeg) μC μR hr
  refine lv_aload_n hx hb dL_law_447 rfl (lv_at hl 1 rfl) ?_
  refine lv_aload_n hx hb dL_law_448 rfl (lv_at hl 0 rfl) ?_
  refine lv_iload_n hx hb dL_law_449 rfl (lv_at hl 3 rfl) ?_
  refine lv_iconst (v := (1 : Int32)) hx hb dL_law_450 (by decide) ?_
  refine lv_iadd hx hb dL_law_451 ?_
  refine l_sld X h.2.2 v1 dL_law_452 ?_
  refine lv_aload_n hx hb dL_law_453 rfl (lv_at hl 0 rfl) ?_
  refine lv_iload_n hx hb dL_law_454 rfl (lv_at hl 3 rfl) ?_
  refine lv_iconst (v := (2 : Int32)) hx hb dL_law_455 (by decide) ?_
  refine lv_iadd hx hb dL_law_456 ?_
  refine l_sld X h.2.2 v2 dL_law_457 ?_
  refine l_C (rest := []) (As := [.int (xs (x + (1 : Int32)).toNatClampNeg), .int (xs (x + (2 : Int32)).toNatClampNeg)]) X h hl.1 (c_X6_hears l GC hOC (xs (x + (1 : Int32)).toNatClampNeg) (xs (x + (2 : Int32)).toNatClampNeg) hC _ _ hw) gk_L_43 rfl hd_X6_hears ⟨rfl, rfl⟩ ⟨Nat.le_of_ble_eq_true rfl, Nat.le_of_ble_eq_true rfl⟩ rfl (Nat.le_of_ble_eq_true rfl) dL_law_458 (fun r μ1 H locs hw h => ?_)
  refine lv_aload_n hx hb dL_law_461 rfl (lv_at hl 2 rfl) ?_
  refine lv_aload_n hx hb dL_law_462 rfl (lv_at hl 0 rfl) ?_
  refine lv_iload_n hx hb dL_law_463 rfl (lv_at hl 3 rfl) ?_
  refine lv_iconst (v := (1 : Int32)) hx hb dL_law_464 (by decide) ?_
  refine lv_iadd hx hb dL_law_465 ?_
  refine l_sld X h.2.2 v1 dL_law_466 ?_
  refine lv_aload_n hx hb dL_law_467 rfl (lv_at hl 0 rfl) ?_
  refine lv_iload_n hx hb dL_law_468 rfl (lv_at hl 3 rfl) ?_
  refine lv_iconst (v := (2 : Int32)) hx hb dL_law_469 (by decide) ?_
  refine lv_iadd hx hb dL_law_470 ?_
  refine l_sld X h.2.2 v2 dL_law_471 ?_
  refine l_R (rest := [.int (r)]) (As := [.int (xs (x + (1 : Int32)).toNatClampNeg), .int (xs (x + (2 : Int32)).toNatClampNeg)]) X h hl.1 (c_X7_hears l GR hOR (xs (x + (1 : Int32)).toNatClampNeg) (xs (x + (2 : Int32)).toNatClampNeg) hR _ _ hw) gk_L_46 rfl hd_X7_hears ⟨rfl, rfl⟩ ⟨Nat.le_of_ble_eq_true rfl, Nat.le_of_ble_eq_true rfl⟩ rfl (Nat.le_of_ble_eq_true rfl) dL_law_472 (fun r2 μ2 H locs hw h => ?_)
  refine lv_icmp_eq (tgt := 1377) hx hb dL_law_475 (by decide) (fun _ => ?_) (fun hc => absurd hw.1 hc)
  exact kk μ1 μ2 H locs hw.2 h
set_option maxRecDepth 100000 in
set_option maxHeartbeats 4000000 in
theorem lc_lay {Rl : vM → vM → Prop} {GC GR : vG} {p : Program} {l : Launch} {e : Env} {s : State} {m : MethodId} {below : List Frame} {meth : Method} {c : Code} {b L : Nat} {xs : Nat → Int32} {ls : Array Slot} {x : Int32} {μC μR : vM} {H : Heap} {locs : List Loc} (X : lx GC GR p s m meth c b L xs) (h : lb GC GR s μC μR H locs) (hl : lv_has ls 4 [(0, .ref b), (1, .ref (ga GC 0)), (2, .ref (ga GR 0)), (3, .int x)]) (hs : sm_lay Rl) (hr : Rl μC μR) (v1 : vp_in (x + (1 : Int32)) L) (v2 : vp_in (x + (2 : Int32)) L) (v3 : vp_in (x + (3 : Int32)) L) (v4 : vp_in (x + (4 : Int32)) L) (v5 : vp_in (x + (5 : Int32)) L) (kk : ∀ (μC μR : vM) (H : Heap) (locs : List Loc), Rl μC μR → lb GC GR s μC μR H locs → W p l e room_1 s m #[Value.ref b] below meth c H locs 600000 7302249 (lw_Z below #[Value.ref b] s) (F0 m 1377 ls [])) : W p l e room_1 s m #[Value.ref b] below meth c H locs 600000 7302249 (lw_Z below #[Value.ref b] s) (F0 m 480 ls []) := by
  have hx := X.1
  have hb := X.2.1
  obtain ⟨hOC, hOR, hC, hR⟩ := l_ok X
  have hw := hs (xs (x + (1 : Int32)).toNatClampNeg) (xs (x + (2 : Int32)).toNatClampNeg) μC μR hr
  refine lv_aload_n hx hb dL_law_480 rfl (lv_at hl 1 rfl) ?_
  refine lv_aload_n hx hb dL_law_481 rfl (lv_at hl 0 rfl) ?_
  refine lv_iload_n hx hb dL_law_482 rfl (lv_at hl 3 rfl) ?_
  refine lv_iconst (v := (1 : Int32)) hx hb dL_law_483 (by decide) ?_
  refine lv_iadd hx hb dL_law_484 ?_
  refine l_sld X h.2.2 v1 dL_law_485 ?_
  refine lv_aload_n hx hb dL_law_486 rfl (lv_at hl 0 rfl) ?_
  refine lv_iload_n hx hb dL_law_487 rfl (lv_at hl 3 rfl) ?_
  refine lv_iconst (v := (2 : Int32)) hx hb dL_law_488 (by decide) ?_
  refine lv_iadd hx hb dL_law_489 ?_
  refine l_sld X h.2.2 v2 dL_law_490 ?_
  refine l_C (rest := []) (As := [.int (xs (x + (1 : Int32)).toNatClampNeg), .int (xs (x + (2 : Int32)).toNatClampNeg)]) X h hl.1 (c_X6_lay l GC hOC (xs (x + (1 : Int32)).toNatClampNeg) (xs (x + (2 : Int32)).toNatClampNeg) hC _ _ hw) gk_L_47 rfl hd_X6_lay ⟨rfl, rfl⟩ ⟨Nat.le_of_ble_eq_true rfl, Nat.le_of_ble_eq_true rfl⟩ rfl (Nat.le_of_ble_eq_true rfl) dL_law_491 (fun r μ1 H locs hw h => ?_)
  refine lv_aload_n hx hb dL_law_494 rfl (lv_at hl 2 rfl) ?_
  refine lv_aload_n hx hb dL_law_495 rfl (lv_at hl 0 rfl) ?_
  refine lv_iload_n hx hb dL_law_496 rfl (lv_at hl 3 rfl) ?_
  refine lv_iconst (v := (1 : Int32)) hx hb dL_law_497 (by decide) ?_
  refine lv_iadd hx hb dL_law_498 ?_
  refine l_sld X h.2.2 v1 dL_law_499 ?_
  refine lv_aload_n hx hb dL_law_500 rfl (lv_at hl 0 rfl) ?_
  refine lv_iload_n hx hb dL_law_501 rfl (lv_at hl 3 rfl) ?_
  refine lv_iconst (v := (2 : Int32)) hx hb dL_law_502 (by decide) ?_
  refine lv_iadd hx hb dL_law_503 ?_
  refine l_sld X h.2.2 v2 dL_law_504 ?_
  refine l_R (rest := [.int (r)]) (As := [.int (xs (x + (1 : Int32)).toNatClampNeg), .int (xs (x + (2 : Int32)).toNatClampNeg)]) X h hl.1 (c_X7_lay l GR hOR (xs (x + (1 : Int32)).toNatClampNeg) (xs (x + (2 : Int32)).toNatClampNeg) hR _ _ hw) gk_L_50 rfl hd_X7_lay ⟨rfl, rfl⟩ ⟨Nat.le_of_ble_eq_true rfl, Nat.le_of_ble_eq_true rfl⟩ rfl (Nat.le_of_ble_eq_true rfl) dL_law_505 (fun r2 μ2 H locs hw h => ?_)
  refine lv_icmp_eq (tgt := 1377) hx hb dL_law_508 (by decide) (fun _ => ?_) (fun hc => absurd hw.1 hc)
  exact kk μ1 μ2 H locs hw.2 h
set_option maxRecDepth 100000 in
set_option maxHeartbeats 4000000 in
theorem lc_feed {Rl : vM → vM → Prop} {GC GR : vG} {p : Program} {l : Launch} {e : Env} {s : State} {m : MethodId} {below : List Frame} {meth : Method} {c : Code} {b L : Nat} {xs : Nat → Int32} {ls : Array Slot} {x : Int32} {μC μR : vM} {H : Heap} {locs : List Loc} (X : lx GC GR p s m meth c b L xs) (h : lb GC GR s μC μR H locs) (hl : lv_has ls 4 [(0, .ref b), (1, .ref (ga GC 0)), (2, .ref (ga GR 0)), (3, .int x)]) (hs : sm_feed Rl) (hr : Rl μC μR) (v1 : vp_in (x + (1 : Int32)) L) (v2 : vp_in (x + (2 : Int32)) L) (v3 : vp_in (x + (3 : Int32)) L) (v4 : vp_in (x + (4 : Int32)) L) (v5 : vp_in (x + (5 : Int32)) L) (kk : ∀ (μC μR : vM) (H : Heap) (locs : List Loc), Rl μC μR → lb GC GR s μC μR H locs → W p l e room_1 s m #[Value.ref b] below meth c H locs 600000 7302249 (lw_Z below #[Value.ref b] s) (F0 m 1377 ls [])) : W p l e room_1 s m #[Value.ref b] below meth c H locs 600000 7302249 (lw_Z below #[Value.ref b] s) (F0 m 513 ls []) := by
  have hx := X.1
  have hb := X.2.1
  obtain ⟨hOC, hOR, hC, hR⟩ := l_ok X
  have hw := hs (((xs (x + (1 : Int32)).toNatClampNeg).toInt64 <<< ((32 : Int32).toInt64 &&& 63)) ||| ((xs (x + (2 : Int32)).toNatClampNeg).toInt64 &&& (4294967295 : Int64))) (xs (x + (3 : Int32)).toNatClampNeg) μC μR hr
  refine lv_aload_n hx hb dL_law_513 rfl (lv_at hl 1 rfl) ?_
  refine lv_aload_n hx hb dL_law_514 rfl (lv_at hl 0 rfl) ?_
  refine lv_iload_n hx hb dL_law_515 rfl (lv_at hl 3 rfl) ?_
  refine lv_iconst (v := (1 : Int32)) hx hb dL_law_516 (by decide) ?_
  refine lv_iadd hx hb dL_law_517 ?_
  refine l_sld X h.2.2 v1 dL_law_518 ?_
  refine lv_i2l hx hb dL_law_519 rfl ?_
  refine lv_bipush (v := (32 : Int32)) hx hb dL_law_520 (by decide) ?_
  refine lv_lshl hx hb dL_law_522 rfl ?_
  refine lv_aload_n hx hb dL_law_523 rfl (lv_at hl 0 rfl) ?_
  refine lv_iload_n hx hb dL_law_524 rfl (lv_at hl 3 rfl) ?_
  refine lv_iconst (v := (2 : Int32)) hx hb dL_law_525 (by decide) ?_
  refine lv_iadd hx hb dL_law_526 ?_
  refine l_sld X h.2.2 v2 dL_law_527 ?_
  refine lv_i2l hx hb dL_law_528 rfl ?_
  refine lv_ldc2 (v := 4294967295) hx hb X.2.2.2.1 (X.2.2.2.2.1 _ ww_6_41) dL_law_529 ?_
  refine lv_land hx hb dL_law_532 ?_
  refine lv_lor hx hb dL_law_533 ?_
  refine lv_aload_n hx hb dL_law_534 rfl (lv_at hl 0 rfl) ?_
  refine lv_iload_n hx hb dL_law_535 rfl (lv_at hl 3 rfl) ?_
  refine lv_iconst (v := (3 : Int32)) hx hb dL_law_536 (by decide) ?_
  refine lv_iadd hx hb dL_law_537 ?_
  refine l_sld X h.2.2 v3 dL_law_538 ?_
  refine l_C (rest := []) (As := [.long ((((xs (x + (1 : Int32)).toNatClampNeg).toInt64 <<< ((32 : Int32).toInt64 &&& 63)) ||| ((xs (x + (2 : Int32)).toNatClampNeg).toInt64 &&& (4294967295 : Int64)))), .int (xs (x + (3 : Int32)).toNatClampNeg)]) X h hl.1 (c_X6_feed l GC hOC ((((xs (x + (1 : Int32)).toNatClampNeg).toInt64 <<< ((32 : Int32).toInt64 &&& 63)) ||| ((xs (x + (2 : Int32)).toNatClampNeg).toInt64 &&& (4294967295 : Int64)))) (xs (x + (3 : Int32)).toNatClampNeg) hC _ _ hw) gk_L_53 rfl hd_X6_feed ⟨rfl, rfl⟩ ⟨Nat.le_of_ble_eq_true rfl, Nat.le_of_ble_eq_true rfl⟩ rfl (Nat.le_of_ble_eq_true rfl) dL_law_539 (fun r μ1 H locs hw h => ?_)
  refine lv_aload_n hx hb dL_law_542 rfl (lv_at hl 2 rfl) ?_
  refine lv_aload_n hx hb dL_law_543 rfl (lv_at hl 0 rfl) ?_
  refine lv_iload_n hx hb dL_law_544 rfl (lv_at hl 3 rfl) ?_
  refine lv_iconst (v := (1 : Int32)) hx hb dL_law_545 (by decide) ?_
  refine lv_iadd hx hb dL_law_546 ?_
  refine l_sld X h.2.2 v1 dL_law_547 ?_
  refine lv_i2l hx hb dL_law_548 rfl ?_
  refine lv_bipush (v := (32 : Int32)) hx hb dL_law_549 (by decide) ?_
  refine lv_lshl hx hb dL_law_551 rfl ?_
  refine lv_aload_n hx hb dL_law_552 rfl (lv_at hl 0 rfl) ?_
  refine lv_iload_n hx hb dL_law_553 rfl (lv_at hl 3 rfl) ?_
  refine lv_iconst (v := (2 : Int32)) hx hb dL_law_554 (by decide) ?_
  refine lv_iadd hx hb dL_law_555 ?_
  refine l_sld X h.2.2 v2 dL_law_556 ?_
  refine lv_i2l hx hb dL_law_557 rfl ?_
  refine lv_ldc2 (v := 4294967295) hx hb X.2.2.2.1 (X.2.2.2.2.1 _ ww_6_41) dL_law_558 ?_
  refine lv_land hx hb dL_law_561 ?_
  refine lv_lor hx hb dL_law_562 ?_
  refine lv_aload_n hx hb dL_law_563 rfl (lv_at hl 0 rfl) ?_
  refine lv_iload_n hx hb dL_law_564 rfl (lv_at hl 3 rfl) ?_
  refine lv_iconst (v := (3 : Int32)) hx hb dL_law_565 (by decide) ?_
  refine lv_iadd hx hb dL_law_566 ?_
  refine l_sld X h.2.2 v3 dL_law_567 ?_
  refine l_R (rest := [.int (r)]) (As := [.long ((((xs (x + (1 : Int32)).toNatClampNeg).toInt64 <<< ((32 : Int32).toInt64 &&& 63)) ||| ((xs (x + (2 : Int32)).toNatClampNeg).toInt64 &&& (4294967295 : Int64)))), .int (xs (x + (3 : Int32)).toNatClampNeg)]) X h hl.1 (c_X7_feed l GR hOR ((((xs (x + (1 : Int32)).toNatClampNeg).toInt64 <<< ((32 : Int32).toInt64 &&& 63)) ||| ((xs (x + (2 : Int32)).toNatClampNeg).toInt64 &&& (4294967295 : Int64)))) (xs (x + (3 : Int32)).toNatClampNeg) hR _ _ hw) gk_L_57 rfl hd_X7_feed ⟨rfl, rfl⟩ ⟨Nat.le_of_ble_eq_true rfl, Nat.le_of_ble_eq_true rfl⟩ rfl (Nat.le_of_ble_eq_true rfl) dL_law_568 (fun r2 μ2 H locs hw h => ?_)
  refine lv_icmp_eq (tgt := 1377) hx hb dL_law_571 (by decide) (fun _ => ?_) (fun hc => absurd hw.1 hc)
  exact kk μ1 μ2 H locs hw.2 h
set_option maxRecDepth 100000 in
set_option maxHeartbeats 4000000 in
theorem lc_text {Rl : vM → vM → Prop} {GC GR : vG} {p : Program} {l : Launch} {e : Env} {s : State} {m : MethodId} {below : List Frame} {meth : Method} {c : Code} {b L : Nat} {xs : Nat → Int32} {ls : Array Slot} {x : Int32} {μC μR : vM} {H : Heap} {locs : List Loc} (X : lx GC GR p s m meth c b L xs) (h : lb GC GR s μC μR H locs) (hl : lv_has ls 4 [(0, .ref b), (1, .ref (ga GC 0)), (2, .ref (ga GR 0)), (3, .int x)]) (hs : sm_text Rl) (hr : Rl μC μR) (v1 : vp_in (x + (1 : Int32)) L) (v2 : vp_in (x + (2 : Int32)) L) (v3 : vp_in (x + (3 : Int32)) L) (v4 : vp_in (x + (4 : Int32)) L) (v5 : vp_in (x + (5 : Int32)) L) (kk : ∀ (μC μR : vM) (H : Heap) (locs : List Loc), Rl μC μR → lb GC GR s μC μR H locs → W p l e room_1 s m #[Value.ref b] below meth c H locs 600000 7302249 (lw_Z below #[Value.ref b] s) (F0 m 1377 ls [])) : W p l e room_1 s m #[Value.ref b] below meth c H locs 600000 7302249 (lw_Z below #[Value.ref b] s) (F0 m 576 ls []) := by
  have hx := X.1
  have hb := X.2.1
  obtain ⟨hOC, hOR, hC, hR⟩ := l_ok X
  have hw := hs (xs (x + (1 : Int32)).toNatClampNeg) μC μR hr
  refine lv_aload_n hx hb dL_law_576 rfl (lv_at hl 1 rfl) ?_
  refine lv_aload_n hx hb dL_law_577 rfl (lv_at hl 0 rfl) ?_
  refine lv_iload_n hx hb dL_law_578 rfl (lv_at hl 3 rfl) ?_
  refine lv_iconst (v := (1 : Int32)) hx hb dL_law_579 (by decide) ?_
  refine lv_iadd hx hb dL_law_580 ?_
  refine l_sld X h.2.2 v1 dL_law_581 ?_
  refine l_C (rest := []) (As := [.int (xs (x + (1 : Int32)).toNatClampNeg)]) X h hl.1 (c_X6_text l GC hOC (xs (x + (1 : Int32)).toNatClampNeg) hC _ _ hw) gk_L_58 rfl hd_X6_text ⟨rfl, rfl⟩ ⟨Nat.le_of_ble_eq_true rfl, Nat.le_of_ble_eq_true rfl⟩ rfl (Nat.le_of_ble_eq_true rfl) dL_law_582 (fun r μ1 H locs hw h => ?_)
  refine lv_aload_n hx hb dL_law_585 rfl (lv_at hl 2 rfl) ?_
  refine lv_aload_n hx hb dL_law_586 rfl (lv_at hl 0 rfl) ?_
  refine lv_iload_n hx hb dL_law_587 rfl (lv_at hl 3 rfl) ?_
  refine lv_iconst (v := (1 : Int32)) hx hb dL_law_588 (by decide) ?_
  refine lv_iadd hx hb dL_law_589 ?_
  refine l_sld X h.2.2 v1 dL_law_590 ?_
  refine l_R (rest := [.int (r)]) (As := [.int (xs (x + (1 : Int32)).toNatClampNeg)]) X h hl.1 (c_X7_text l GR hOR (xs (x + (1 : Int32)).toNatClampNeg) hR _ _ hw) gk_L_62 rfl hd_X7_text ⟨rfl, rfl⟩ ⟨Nat.le_of_ble_eq_true rfl, Nat.le_of_ble_eq_true rfl⟩ rfl (Nat.le_of_ble_eq_true rfl) dL_law_591 (fun r2 μ2 H locs hw h => ?_)
  refine lv_icmp_eq (tgt := 1377) hx hb dL_law_594 (by decide) (fun _ => ?_) (fun hc => absurd hw.1 hc)
  exact kk μ1 μ2 H locs hw.2 h
set_option maxRecDepth 100000 in
set_option maxHeartbeats 4000000 in
theorem lc_untell {Rl : vM → vM → Prop} {GC GR : vG} {p : Program} {l : Launch} {e : Env} {s : State} {m : MethodId} {below : List Frame} {meth : Method} {c : Code} {b L : Nat} {xs : Nat → Int32} {ls : Array Slot} {x : Int32} {μC μR : vM} {H : Heap} {locs : List Loc} (X : lx GC GR p s m meth c b L xs) (h : lb GC GR s μC μR H locs) (hl : lv_has ls 4 [(0, .ref b), (1, .ref (ga GC 0)), (2, .ref (ga GR 0)), (3, .int x)]) (hs : sm_untell Rl) (hr : Rl μC μR) (v1 : vp_in (x + (1 : Int32)) L) (v2 : vp_in (x + (2 : Int32)) L) (v3 : vp_in (x + (3 : Int32)) L) (v4 : vp_in (x + (4 : Int32)) L) (v5 : vp_in (x + (5 : Int32)) L) (kk : ∀ (μC μR : vM) (H : Heap) (locs : List Loc), Rl μC μR → lb GC GR s μC μR H locs → W p l e room_1 s m #[Value.ref b] below meth c H locs 600000 7302249 (lw_Z below #[Value.ref b] s) (F0 m 1377 ls [])) : W p l e room_1 s m #[Value.ref b] below meth c H locs 600000 7302249 (lw_Z below #[Value.ref b] s) (F0 m 599 ls []) := by
  have hx := X.1
  have hb := X.2.1
  obtain ⟨hOC, hOR, hC, hR⟩ := l_ok X
  have hw := hs (xs (x + (1 : Int32)).toNatClampNeg) μC μR hr
  refine lv_aload_n hx hb dL_law_599 rfl (lv_at hl 1 rfl) ?_
  refine lv_aload_n hx hb dL_law_600 rfl (lv_at hl 0 rfl) ?_
  refine lv_iload_n hx hb dL_law_601 rfl (lv_at hl 3 rfl) ?_
  refine lv_iconst (v := (1 : Int32)) hx hb dL_law_602 (by decide) ?_
  refine lv_iadd hx hb dL_law_603 ?_
  refine l_sld X h.2.2 v1 dL_law_604 ?_
  refine l_C (rest := []) (As := [.int (xs (x + (1 : Int32)).toNatClampNeg)]) X h hl.1 (c_X6_untell l GC hOC (xs (x + (1 : Int32)).toNatClampNeg) hC _ _ hw) gk_L_63 rfl hd_X6_untell ⟨rfl, rfl⟩ ⟨Nat.le_of_ble_eq_true rfl, Nat.le_of_ble_eq_true rfl⟩ rfl (Nat.le_of_ble_eq_true rfl) dL_law_605 (fun r μ1 H locs hw h => ?_)
  refine lv_aload_n hx hb dL_law_608 rfl (lv_at hl 2 rfl) ?_
  refine lv_aload_n hx hb dL_law_609 rfl (lv_at hl 0 rfl) ?_
  refine lv_iload_n hx hb dL_law_610 rfl (lv_at hl 3 rfl) ?_
  refine lv_iconst (v := (1 : Int32)) hx hb dL_law_611 (by decide) ?_
  refine lv_iadd hx hb dL_law_612 ?_
  refine l_sld X h.2.2 v1 dL_law_613 ?_
  refine l_R (rest := [.int (r)]) (As := [.int (xs (x + (1 : Int32)).toNatClampNeg)]) X h hl.1 (c_X7_untell l GR hOR (xs (x + (1 : Int32)).toNatClampNeg) hR _ _ hw) gk_L_66 rfl hd_X7_untell ⟨rfl, rfl⟩ ⟨Nat.le_of_ble_eq_true rfl, Nat.le_of_ble_eq_true rfl⟩ rfl (Nat.le_of_ble_eq_true rfl) dL_law_614 (fun r2 μ2 H locs hw h => ?_)
  refine lv_icmp_eq (tgt := 1377) hx hb dL_law_617 (by decide) (fun _ => ?_) (fun hc => absurd hw.1 hc)
  exact kk μ1 μ2 H locs hw.2 h
set_option maxRecDepth 100000 in
set_option maxHeartbeats 4000000 in
theorem lc_law {Rl : vM → vM → Prop} {GC GR : vG} {p : Program} {l : Launch} {e : Env} {s : State} {m : MethodId} {below : List Frame} {meth : Method} {c : Code} {b L : Nat} {xs : Nat → Int32} {ls : Array Slot} {x : Int32} {μC μR : vM} {H : Heap} {locs : List Loc} (X : lx GC GR p s m meth c b L xs) (h : lb GC GR s μC μR H locs) (hl : lv_has ls 4 [(0, .ref b), (1, .ref (ga GC 0)), (2, .ref (ga GR 0)), (3, .int x)]) (hs : sm_law Rl) (hr : Rl μC μR) (v1 : vp_in (x + (1 : Int32)) L) (v2 : vp_in (x + (2 : Int32)) L) (v3 : vp_in (x + (3 : Int32)) L) (v4 : vp_in (x + (4 : Int32)) L) (v5 : vp_in (x + (5 : Int32)) L) (kk : ∀ (μC μR : vM) (H : Heap) (locs : List Loc), Rl μC μR → lb GC GR s μC μR H locs → W p l e room_1 s m #[Value.ref b] below meth c H locs 600000 7302249 (lw_Z below #[Value.ref b] s) (F0 m 1377 ls [])) : W p l e room_1 s m #[Value.ref b] below meth c H locs 600000 7302249 (lw_Z below #[Value.ref b] s) (F0 m 622 ls []) := by
  have hx := X.1
  have hb := X.2.1
  obtain ⟨hOC, hOR, hC, hR⟩ := l_ok X
  have hw := hs (xs (x + (1 : Int32)).toNatClampNeg) (xs (x + (2 : Int32)).toNatClampNeg) (xs (x + (3 : Int32)).toNatClampNeg) (xs (x + (4 : Int32)).toNatClampNeg) μC μR hr
  refine lv_aload_n hx hb dL_law_622 rfl (lv_at hl 1 rfl) ?_
  refine lv_aload_n hx hb dL_law_623 rfl (lv_at hl 0 rfl) ?_
  refine lv_iload_n hx hb dL_law_624 rfl (lv_at hl 3 rfl) ?_
  refine lv_iconst (v := (1 : Int32)) hx hb dL_law_625 (by decide) ?_
  refine lv_iadd hx hb dL_law_626 ?_
  refine l_sld X h.2.2 v1 dL_law_627 ?_
  refine lv_aload_n hx hb dL_law_628 rfl (lv_at hl 0 rfl) ?_
  refine lv_iload_n hx hb dL_law_629 rfl (lv_at hl 3 rfl) ?_
  refine lv_iconst (v := (2 : Int32)) hx hb dL_law_630 (by decide) ?_
  refine lv_iadd hx hb dL_law_631 ?_
  refine l_sld X h.2.2 v2 dL_law_632 ?_
  refine lv_aload_n hx hb dL_law_633 rfl (lv_at hl 0 rfl) ?_
  refine lv_iload_n hx hb dL_law_634 rfl (lv_at hl 3 rfl) ?_
  refine lv_iconst (v := (3 : Int32)) hx hb dL_law_635 (by decide) ?_
  refine lv_iadd hx hb dL_law_636 ?_
  refine l_sld X h.2.2 v3 dL_law_637 ?_
  refine lv_aload_n hx hb dL_law_638 rfl (lv_at hl 0 rfl) ?_
  refine lv_iload_n hx hb dL_law_639 rfl (lv_at hl 3 rfl) ?_
  refine lv_iconst (v := (4 : Int32)) hx hb dL_law_640 (by decide) ?_
  refine lv_iadd hx hb dL_law_641 ?_
  refine l_sld X h.2.2 v4 dL_law_642 ?_
  refine l_C (rest := []) (As := [.int (xs (x + (1 : Int32)).toNatClampNeg), .int (xs (x + (2 : Int32)).toNatClampNeg), .int (xs (x + (3 : Int32)).toNatClampNeg), .int (xs (x + (4 : Int32)).toNatClampNeg)]) X h hl.1 (c_X6_law l GC hOC (xs (x + (1 : Int32)).toNatClampNeg) (xs (x + (2 : Int32)).toNatClampNeg) (xs (x + (3 : Int32)).toNatClampNeg) (xs (x + (4 : Int32)).toNatClampNeg) hC _ _ hw) gk_L_67 rfl hd_X6_law ⟨rfl, rfl⟩ ⟨Nat.le_of_ble_eq_true rfl, Nat.le_of_ble_eq_true rfl⟩ rfl (Nat.le_of_ble_eq_true rfl) dL_law_643 (fun r μ1 H locs hw h => ?_)
  refine lv_aload_n hx hb dL_law_646 rfl (lv_at hl 2 rfl) ?_
  refine lv_aload_n hx hb dL_law_647 rfl (lv_at hl 0 rfl) ?_
  refine lv_iload_n hx hb dL_law_648 rfl (lv_at hl 3 rfl) ?_
  refine lv_iconst (v := (1 : Int32)) hx hb dL_law_649 (by decide) ?_
  refine lv_iadd hx hb dL_law_650 ?_
  refine l_sld X h.2.2 v1 dL_law_651 ?_
  refine lv_aload_n hx hb dL_law_652 rfl (lv_at hl 0 rfl) ?_
  refine lv_iload_n hx hb dL_law_653 rfl (lv_at hl 3 rfl) ?_
  refine lv_iconst (v := (2 : Int32)) hx hb dL_law_654 (by decide) ?_
  refine lv_iadd hx hb dL_law_655 ?_
  refine l_sld X h.2.2 v2 dL_law_656 ?_
  refine lv_aload_n hx hb dL_law_657 rfl (lv_at hl 0 rfl) ?_
  refine lv_iload_n hx hb dL_law_658 rfl (lv_at hl 3 rfl) ?_
  refine lv_iconst (v := (3 : Int32)) hx hb dL_law_659 (by decide) ?_
  refine lv_iadd hx hb dL_law_660 ?_
  refine l_sld X h.2.2 v3 dL_law_661 ?_
  refine lv_aload_n hx hb dL_law_662 rfl (lv_at hl 0 rfl) ?_
  refine lv_iload_n hx hb dL_law_663 rfl (lv_at hl 3 rfl) ?_
  refine lv_iconst (v := (4 : Int32)) hx hb dL_law_664 (by decide) ?_
  refine lv_iadd hx hb dL_law_665 ?_
  refine l_sld X h.2.2 v4 dL_law_666 ?_
  refine l_R (rest := [.int (r)]) (As := [.int (xs (x + (1 : Int32)).toNatClampNeg), .int (xs (x + (2 : Int32)).toNatClampNeg), .int (xs (x + (3 : Int32)).toNatClampNeg), .int (xs (x + (4 : Int32)).toNatClampNeg)]) X h hl.1 (c_X7_law l GR hOR (xs (x + (1 : Int32)).toNatClampNeg) (xs (x + (2 : Int32)).toNatClampNeg) (xs (x + (3 : Int32)).toNatClampNeg) (xs (x + (4 : Int32)).toNatClampNeg) hR _ _ hw) gk_L_71 rfl hd_X7_law ⟨rfl, rfl⟩ ⟨Nat.le_of_ble_eq_true rfl, Nat.le_of_ble_eq_true rfl⟩ rfl (Nat.le_of_ble_eq_true rfl) dL_law_667 (fun r2 μ2 H locs hw h => ?_)
  refine lv_icmp_eq (tgt := 1377) hx hb dL_law_670 (by decide) (fun _ => ?_) (fun hc => absurd hw.1 hc)
  exact kk μ1 μ2 H locs hw.2 h
set_option maxRecDepth 100000 in
set_option maxHeartbeats 4000000 in
theorem lc_days {Rl : vM → vM → Prop} {GC GR : vG} {p : Program} {l : Launch} {e : Env} {s : State} {m : MethodId} {below : List Frame} {meth : Method} {c : Code} {b L : Nat} {xs : Nat → Int32} {ls : Array Slot} {x : Int32} {μC μR : vM} {H : Heap} {locs : List Loc} (X : lx GC GR p s m meth c b L xs) (h : lb GC GR s μC μR H locs) (hl : lv_has ls 4 [(0, .ref b), (1, .ref (ga GC 0)), (2, .ref (ga GR 0)), (3, .int x)]) (hs : sm_days Rl) (hr : Rl μC μR) (v1 : vp_in (x + (1 : Int32)) L) (v2 : vp_in (x + (2 : Int32)) L) (v3 : vp_in (x + (3 : Int32)) L) (v4 : vp_in (x + (4 : Int32)) L) (v5 : vp_in (x + (5 : Int32)) L) (kk : ∀ (μC μR : vM) (H : Heap) (locs : List Loc), Rl μC μR → lb GC GR s μC μR H locs → W p l e room_1 s m #[Value.ref b] below meth c H locs 600000 7302249 (lw_Z below #[Value.ref b] s) (F0 m 1377 ls [])) : W p l e room_1 s m #[Value.ref b] below meth c H locs 600000 7302249 (lw_Z below #[Value.ref b] s) (F0 m 675 ls []) := by
  have hx := X.1
  have hb := X.2.1
  obtain ⟨hOC, hOR, hC, hR⟩ := l_ok X
  have hw := hs (xs (x + (1 : Int32)).toNatClampNeg) μC μR hr
  refine lv_aload_n hx hb dL_law_675 rfl (lv_at hl 1 rfl) ?_
  refine lv_aload_n hx hb dL_law_676 rfl (lv_at hl 0 rfl) ?_
  refine lv_iload_n hx hb dL_law_677 rfl (lv_at hl 3 rfl) ?_
  refine lv_iconst (v := (1 : Int32)) hx hb dL_law_678 (by decide) ?_
  refine lv_iadd hx hb dL_law_679 ?_
  refine l_sld X h.2.2 v1 dL_law_680 ?_
  refine l_C (rest := []) (As := [.int (xs (x + (1 : Int32)).toNatClampNeg)]) X h hl.1 (c_X6_days l GC hOC (xs (x + (1 : Int32)).toNatClampNeg) hC _ _ hw) gk_L_72 rfl hd_X6_days ⟨rfl, rfl⟩ ⟨Nat.le_of_ble_eq_true rfl, Nat.le_of_ble_eq_true rfl⟩ rfl (Nat.le_of_ble_eq_true rfl) dL_law_681 (fun r μ1 H locs hw h => ?_)
  refine lv_aload_n hx hb dL_law_684 rfl (lv_at hl 2 rfl) ?_
  refine lv_aload_n hx hb dL_law_685 rfl (lv_at hl 0 rfl) ?_
  refine lv_iload_n hx hb dL_law_686 rfl (lv_at hl 3 rfl) ?_
  refine lv_iconst (v := (1 : Int32)) hx hb dL_law_687 (by decide) ?_
  refine lv_iadd hx hb dL_law_688 ?_
  refine l_sld X h.2.2 v1 dL_law_689 ?_
  refine l_R (rest := [.int (r)]) (As := [.int (xs (x + (1 : Int32)).toNatClampNeg)]) X h hl.1 (c_X7_days l GR hOR (xs (x + (1 : Int32)).toNatClampNeg) hR _ _ hw) gk_L_75 rfl hd_X7_days ⟨rfl, rfl⟩ ⟨Nat.le_of_ble_eq_true rfl, Nat.le_of_ble_eq_true rfl⟩ rfl (Nat.le_of_ble_eq_true rfl) dL_law_690 (fun r2 μ2 H locs hw h => ?_)
  refine lv_icmp_eq (tgt := 1377) hx hb dL_law_693 (by decide) (fun _ => ?_) (fun hc => absurd hw.1 hc)
  exact kk μ1 μ2 H locs hw.2 h
set_option maxRecDepth 100000 in
set_option maxHeartbeats 4000000 in
theorem lc_loose {Rl : vM → vM → Prop} {GC GR : vG} {p : Program} {l : Launch} {e : Env} {s : State} {m : MethodId} {below : List Frame} {meth : Method} {c : Code} {b L : Nat} {xs : Nat → Int32} {ls : Array Slot} {x : Int32} {μC μR : vM} {H : Heap} {locs : List Loc} (X : lx GC GR p s m meth c b L xs) (h : lb GC GR s μC μR H locs) (hl : lv_has ls 4 [(0, .ref b), (1, .ref (ga GC 0)), (2, .ref (ga GR 0)), (3, .int x)]) (hs : sm_loose Rl) (hr : Rl μC μR) (v1 : vp_in (x + (1 : Int32)) L) (v2 : vp_in (x + (2 : Int32)) L) (v3 : vp_in (x + (3 : Int32)) L) (v4 : vp_in (x + (4 : Int32)) L) (v5 : vp_in (x + (5 : Int32)) L) (kk : ∀ (μC μR : vM) (H : Heap) (locs : List Loc), Rl μC μR → lb GC GR s μC μR H locs → W p l e room_1 s m #[Value.ref b] below meth c H locs 600000 7302249 (lw_Z below #[Value.ref b] s) (F0 m 1377 ls [])) : W p l e room_1 s m #[Value.ref b] below meth c H locs 600000 7302249 (lw_Z below #[Value.ref b] s) (F0 m 698 ls []) := by
  have hx := X.1
  have hb := X.2.1
  obtain ⟨hOC, hOR, hC, hR⟩ := l_ok X
  have hw := hs (xs (x + (1 : Int32)).toNatClampNeg) μC μR hr
  refine lv_aload_n hx hb dL_law_698 rfl (lv_at hl 1 rfl) ?_
  refine lv_aload_n hx hb dL_law_699 rfl (lv_at hl 0 rfl) ?_
  refine lv_iload_n hx hb dL_law_700 rfl (lv_at hl 3 rfl) ?_
  refine lv_iconst (v := (1 : Int32)) hx hb dL_law_701 (by decide) ?_
  refine lv_iadd hx hb dL_law_702 ?_
  refine l_sld X h.2.2 v1 dL_law_703 ?_
  refine l_C (rest := []) (As := [.int (xs (x + (1 : Int32)).toNatClampNeg)]) X h hl.1 (c_X6_loose l GC hOC (xs (x + (1 : Int32)).toNatClampNeg) hC _ _ hw) gk_L_76 rfl hd_X6_loose ⟨rfl, rfl⟩ ⟨Nat.le_of_ble_eq_true rfl, Nat.le_of_ble_eq_true rfl⟩ rfl (Nat.le_of_ble_eq_true rfl) dL_law_704 (fun r μ1 H locs hw h => ?_)
  refine lv_aload_n hx hb dL_law_707 rfl (lv_at hl 2 rfl) ?_
  refine lv_aload_n hx hb dL_law_708 rfl (lv_at hl 0 rfl) ?_
  refine lv_iload_n hx hb dL_law_709 rfl (lv_at hl 3 rfl) ?_
  refine lv_iconst (v := (1 : Int32)) hx hb dL_law_710 (by decide) ?_
  refine lv_iadd hx hb dL_law_711 ?_
  refine l_sld X h.2.2 v1 dL_law_712 ?_
  refine l_R (rest := [.int (r)]) (As := [.int (xs (x + (1 : Int32)).toNatClampNeg)]) X h hl.1 (c_X7_loose l GR hOR (xs (x + (1 : Int32)).toNatClampNeg) hR _ _ hw) gk_L_79 rfl hd_X7_loose ⟨rfl, rfl⟩ ⟨Nat.le_of_ble_eq_true rfl, Nat.le_of_ble_eq_true rfl⟩ rfl (Nat.le_of_ble_eq_true rfl) dL_law_713 (fun r2 μ2 H locs hw h => ?_)
  refine lv_icmp_eq (tgt := 1377) hx hb dL_law_716 (by decide) (fun _ => ?_) (fun hc => absurd hw.1 hc)
  exact kk μ1 μ2 H locs hw.2 h
set_option maxRecDepth 100000 in
set_option maxHeartbeats 4000000 in
theorem lc_day {Rl : vM → vM → Prop} {GC GR : vG} {p : Program} {l : Launch} {e : Env} {s : State} {m : MethodId} {below : List Frame} {meth : Method} {c : Code} {b L : Nat} {xs : Nat → Int32} {ls : Array Slot} {x : Int32} {μC μR : vM} {H : Heap} {locs : List Loc} (X : lx GC GR p s m meth c b L xs) (h : lb GC GR s μC μR H locs) (hl : lv_has ls 4 [(0, .ref b), (1, .ref (ga GC 0)), (2, .ref (ga GR 0)), (3, .int x)]) (hs : sm_day Rl) (hr : Rl μC μR) (v1 : vp_in (x + (1 : Int32)) L) (v2 : vp_in (x + (2 : Int32)) L) (v3 : vp_in (x + (3 : Int32)) L) (v4 : vp_in (x + (4 : Int32)) L) (v5 : vp_in (x + (5 : Int32)) L) (kk : ∀ (μC μR : vM) (H : Heap) (locs : List Loc), Rl μC μR → lb GC GR s μC μR H locs → W p l e room_1 s m #[Value.ref b] below meth c H locs 600000 7302249 (lw_Z below #[Value.ref b] s) (F0 m 1377 ls [])) : W p l e room_1 s m #[Value.ref b] below meth c H locs 600000 7302249 (lw_Z below #[Value.ref b] s) (F0 m 721 ls []) := by
  have hx := X.1
  have hb := X.2.1
  obtain ⟨hOC, hOR, hC, hR⟩ := l_ok X
  have hw := hs (xs (x + (1 : Int32)).toNatClampNeg) μC μR hr
  refine lv_aload_n hx hb dL_law_721 rfl (lv_at hl 1 rfl) ?_
  refine lv_aload_n hx hb dL_law_722 rfl (lv_at hl 0 rfl) ?_
  refine lv_iload_n hx hb dL_law_723 rfl (lv_at hl 3 rfl) ?_
  refine lv_iconst (v := (1 : Int32)) hx hb dL_law_724 (by decide) ?_
  refine lv_iadd hx hb dL_law_725 ?_
  refine l_sld X h.2.2 v1 dL_law_726 ?_
  refine l_C (rest := []) (As := [.int (xs (x + (1 : Int32)).toNatClampNeg)]) X h hl.1 (c_X6_day l GC hOC (xs (x + (1 : Int32)).toNatClampNeg) hC _ _ hw) gk_L_80 rfl hd_X6_day ⟨rfl, rfl⟩ ⟨Nat.le_of_ble_eq_true rfl, Nat.le_of_ble_eq_true rfl⟩ rfl (Nat.le_of_ble_eq_true rfl) dL_law_727 (fun r μ1 H locs hw h => ?_)
  refine lv_aload_n hx hb dL_law_730 rfl (lv_at hl 2 rfl) ?_
  refine lv_aload_n hx hb dL_law_731 rfl (lv_at hl 0 rfl) ?_
  refine lv_iload_n hx hb dL_law_732 rfl (lv_at hl 3 rfl) ?_
  refine lv_iconst (v := (1 : Int32)) hx hb dL_law_733 (by decide) ?_
  refine lv_iadd hx hb dL_law_734 ?_
  refine l_sld X h.2.2 v1 dL_law_735 ?_
  refine l_R (rest := [.int (r)]) (As := [.int (xs (x + (1 : Int32)).toNatClampNeg)]) X h hl.1 (c_X7_day l GR hOR (xs (x + (1 : Int32)).toNatClampNeg) hR _ _ hw) gk_L_83 rfl hd_X7_day ⟨rfl, rfl⟩ ⟨Nat.le_of_ble_eq_true rfl, Nat.le_of_ble_eq_true rfl⟩ rfl (Nat.le_of_ble_eq_true rfl) dL_law_736 (fun r2 μ2 H locs hw h => ?_)
  refine lv_icmp_eq (tgt := 1377) hx hb dL_law_739 (by decide) (fun _ => ?_) (fun hc => absurd hw.1 hc)
  exact kk μ1 μ2 H locs hw.2 h
set_option maxRecDepth 100000 in
set_option maxHeartbeats 4000000 in
theorem lc_seed {Rl : vM → vM → Prop} {GC GR : vG} {p : Program} {l : Launch} {e : Env} {s : State} {m : MethodId} {below : List Frame} {meth : Method} {c : Code} {b L : Nat} {xs : Nat → Int32} {ls : Array Slot} {x : Int32} {μC μR : vM} {H : Heap} {locs : List Loc} (X : lx GC GR p s m meth c b L xs) (h : lb GC GR s μC μR H locs) (hl : lv_has ls 4 [(0, .ref b), (1, .ref (ga GC 0)), (2, .ref (ga GR 0)), (3, .int x)]) (hs : sm_seed Rl) (hr : Rl μC μR) (v1 : vp_in (x + (1 : Int32)) L) (v2 : vp_in (x + (2 : Int32)) L) (v3 : vp_in (x + (3 : Int32)) L) (v4 : vp_in (x + (4 : Int32)) L) (v5 : vp_in (x + (5 : Int32)) L) (kk : ∀ (μC μR : vM) (H : Heap) (locs : List Loc), Rl μC μR → lb GC GR s μC μR H locs → W p l e room_1 s m #[Value.ref b] below meth c H locs 600000 7302249 (lw_Z below #[Value.ref b] s) (F0 m 1377 ls [])) : W p l e room_1 s m #[Value.ref b] below meth c H locs 600000 7302249 (lw_Z below #[Value.ref b] s) (F0 m 744 ls []) := by
  have hx := X.1
  have hb := X.2.1
  obtain ⟨hOC, hOR, hC, hR⟩ := l_ok X
  have hw := hs (xs (x + (1 : Int32)).toNatClampNeg) μC μR hr
  refine lv_aload_n hx hb dL_law_744 rfl (lv_at hl 1 rfl) ?_
  refine lv_aload_n hx hb dL_law_745 rfl (lv_at hl 0 rfl) ?_
  refine lv_iload_n hx hb dL_law_746 rfl (lv_at hl 3 rfl) ?_
  refine lv_iconst (v := (1 : Int32)) hx hb dL_law_747 (by decide) ?_
  refine lv_iadd hx hb dL_law_748 ?_
  refine l_sld X h.2.2 v1 dL_law_749 ?_
  refine l_C (rest := []) (As := [.int (xs (x + (1 : Int32)).toNatClampNeg)]) X h hl.1 (c_X6_seed l GC hOC (xs (x + (1 : Int32)).toNatClampNeg) hC _ _ hw) gk_L_84 rfl hd_X6_seed ⟨rfl, rfl⟩ ⟨Nat.le_of_ble_eq_true rfl, Nat.le_of_ble_eq_true rfl⟩ rfl (Nat.le_of_ble_eq_true rfl) dL_law_750 (fun r μ1 H locs hw h => ?_)
  refine lv_aload_n hx hb dL_law_753 rfl (lv_at hl 2 rfl) ?_
  refine lv_aload_n hx hb dL_law_754 rfl (lv_at hl 0 rfl) ?_
  refine lv_iload_n hx hb dL_law_755 rfl (lv_at hl 3 rfl) ?_
  refine lv_iconst (v := (1 : Int32)) hx hb dL_law_756 (by decide) ?_
  refine lv_iadd hx hb dL_law_757 ?_
  refine l_sld X h.2.2 v1 dL_law_758 ?_
  refine l_R (rest := [.int (r)]) (As := [.int (xs (x + (1 : Int32)).toNatClampNeg)]) X h hl.1 (c_X7_seed l GR hOR (xs (x + (1 : Int32)).toNatClampNeg) hR _ _ hw) gk_L_87 rfl hd_X7_seed ⟨rfl, rfl⟩ ⟨Nat.le_of_ble_eq_true rfl, Nat.le_of_ble_eq_true rfl⟩ rfl (Nat.le_of_ble_eq_true rfl) dL_law_759 (fun r2 μ2 H locs hw h => ?_)
  refine lv_icmp_eq (tgt := 1377) hx hb dL_law_762 (by decide) (fun _ => ?_) (fun hc => absurd hw.1 hc)
  exact kk μ1 μ2 H locs hw.2 h
set_option maxRecDepth 100000 in
set_option maxHeartbeats 4000000 in
theorem lc_then {Rl : vM → vM → Prop} {GC GR : vG} {p : Program} {l : Launch} {e : Env} {s : State} {m : MethodId} {below : List Frame} {meth : Method} {c : Code} {b L : Nat} {xs : Nat → Int32} {ls : Array Slot} {x : Int32} {μC μR : vM} {H : Heap} {locs : List Loc} (X : lx GC GR p s m meth c b L xs) (h : lb GC GR s μC μR H locs) (hl : lv_has ls 4 [(0, .ref b), (1, .ref (ga GC 0)), (2, .ref (ga GR 0)), (3, .int x)]) (hs : sm_then Rl) (hr : Rl μC μR) (v1 : vp_in (x + (1 : Int32)) L) (v2 : vp_in (x + (2 : Int32)) L) (v3 : vp_in (x + (3 : Int32)) L) (v4 : vp_in (x + (4 : Int32)) L) (v5 : vp_in (x + (5 : Int32)) L) (kk : ∀ (μC μR : vM) (H : Heap) (locs : List Loc), Rl μC μR → lb GC GR s μC μR H locs → W p l e room_1 s m #[Value.ref b] below meth c H locs 600000 7302249 (lw_Z below #[Value.ref b] s) (F0 m 1377 ls [])) : W p l e room_1 s m #[Value.ref b] below meth c H locs 600000 7302249 (lw_Z below #[Value.ref b] s) (F0 m 767 ls []) := by
  have hx := X.1
  have hb := X.2.1
  obtain ⟨hOC, hOR, hC, hR⟩ := l_ok X
  have hw := hs (xs (x + (1 : Int32)).toNatClampNeg) (xs (x + (2 : Int32)).toNatClampNeg) μC μR hr
  refine lv_aload_n hx hb dL_law_767 rfl (lv_at hl 1 rfl) ?_
  refine lv_aload_n hx hb dL_law_768 rfl (lv_at hl 0 rfl) ?_
  refine lv_iload_n hx hb dL_law_769 rfl (lv_at hl 3 rfl) ?_
  refine lv_iconst (v := (1 : Int32)) hx hb dL_law_770 (by decide) ?_
  refine lv_iadd hx hb dL_law_771 ?_
  refine l_sld X h.2.2 v1 dL_law_772 ?_
  refine lv_aload_n hx hb dL_law_773 rfl (lv_at hl 0 rfl) ?_
  refine lv_iload_n hx hb dL_law_774 rfl (lv_at hl 3 rfl) ?_
  refine lv_iconst (v := (2 : Int32)) hx hb dL_law_775 (by decide) ?_
  refine lv_iadd hx hb dL_law_776 ?_
  refine l_sld X h.2.2 v2 dL_law_777 ?_
  refine l_C (rest := []) (As := [.int (xs (x + (1 : Int32)).toNatClampNeg), .int (xs (x + (2 : Int32)).toNatClampNeg)]) X h hl.1 (c_X6_then l GC hOC (xs (x + (1 : Int32)).toNatClampNeg) (xs (x + (2 : Int32)).toNatClampNeg) hC _ _ hw) gk_L_88 rfl hd_X6_then ⟨rfl, rfl⟩ ⟨Nat.le_of_ble_eq_true rfl, Nat.le_of_ble_eq_true rfl⟩ rfl (Nat.le_of_ble_eq_true rfl) dL_law_778 (fun r μ1 H locs hw h => ?_)
  refine lv_aload_n hx hb dL_law_781 rfl (lv_at hl 2 rfl) ?_
  refine lv_aload_n hx hb dL_law_782 rfl (lv_at hl 0 rfl) ?_
  refine lv_iload_n hx hb dL_law_783 rfl (lv_at hl 3 rfl) ?_
  refine lv_iconst (v := (1 : Int32)) hx hb dL_law_784 (by decide) ?_
  refine lv_iadd hx hb dL_law_785 ?_
  refine l_sld X h.2.2 v1 dL_law_786 ?_
  refine lv_aload_n hx hb dL_law_787 rfl (lv_at hl 0 rfl) ?_
  refine lv_iload_n hx hb dL_law_788 rfl (lv_at hl 3 rfl) ?_
  refine lv_iconst (v := (2 : Int32)) hx hb dL_law_789 (by decide) ?_
  refine lv_iadd hx hb dL_law_790 ?_
  refine l_sld X h.2.2 v2 dL_law_791 ?_
  refine l_R (rest := [.int (r)]) (As := [.int (xs (x + (1 : Int32)).toNatClampNeg), .int (xs (x + (2 : Int32)).toNatClampNeg)]) X h hl.1 (c_X7_then l GR hOR (xs (x + (1 : Int32)).toNatClampNeg) (xs (x + (2 : Int32)).toNatClampNeg) hR _ _ hw) gk_L_91 rfl hd_X7_then ⟨rfl, rfl⟩ ⟨Nat.le_of_ble_eq_true rfl, Nat.le_of_ble_eq_true rfl⟩ rfl (Nat.le_of_ble_eq_true rfl) dL_law_792 (fun r2 μ2 H locs hw h => ?_)
  refine lv_icmp_eq (tgt := 1377) hx hb dL_law_795 (by decide) (fun _ => ?_) (fun hc => absurd hw.1 hc)
  exact kk μ1 μ2 H locs hw.2 h
set_option maxRecDepth 100000 in
set_option maxHeartbeats 4000000 in
theorem lc_soonest {Rl : vM → vM → Prop} {GC GR : vG} {p : Program} {l : Launch} {e : Env} {s : State} {m : MethodId} {below : List Frame} {meth : Method} {c : Code} {b L : Nat} {xs : Nat → Int32} {ls : Array Slot} {x : Int32} {μC μR : vM} {H : Heap} {locs : List Loc} (X : lx GC GR p s m meth c b L xs) (h : lb GC GR s μC μR H locs) (hl : lv_has ls 4 [(0, .ref b), (1, .ref (ga GC 0)), (2, .ref (ga GR 0)), (3, .int x)]) (hs : sm_soonest Rl) (hr : Rl μC μR) (v1 : vp_in (x + (1 : Int32)) L) (v2 : vp_in (x + (2 : Int32)) L) (v3 : vp_in (x + (3 : Int32)) L) (v4 : vp_in (x + (4 : Int32)) L) (v5 : vp_in (x + (5 : Int32)) L) (kk : ∀ (μC μR : vM) (H : Heap) (locs : List Loc), Rl μC μR → lb GC GR s μC μR H locs → W p l e room_1 s m #[Value.ref b] below meth c H locs 600000 7302249 (lw_Z below #[Value.ref b] s) (F0 m 1377 ls [])) : W p l e room_1 s m #[Value.ref b] below meth c H locs 600000 7302249 (lw_Z below #[Value.ref b] s) (F0 m 800 ls []) := by
  have hx := X.1
  have hb := X.2.1
  obtain ⟨hOC, hOR, hC, hR⟩ := l_ok X
  have hw := hs (xs (x + (1 : Int32)).toNatClampNeg) μC μR hr
  refine lv_aload_n hx hb dL_law_800 rfl (lv_at hl 1 rfl) ?_
  refine lv_aload_n hx hb dL_law_801 rfl (lv_at hl 0 rfl) ?_
  refine lv_iload_n hx hb dL_law_802 rfl (lv_at hl 3 rfl) ?_
  refine lv_iconst (v := (1 : Int32)) hx hb dL_law_803 (by decide) ?_
  refine lv_iadd hx hb dL_law_804 ?_
  refine l_sld X h.2.2 v1 dL_law_805 ?_
  refine l_C (rest := []) (As := [.int (xs (x + (1 : Int32)).toNatClampNeg)]) X h hl.1 (c_X6_soonest l GC hOC (xs (x + (1 : Int32)).toNatClampNeg) hC _ _ hw) gk_L_92 rfl hd_X6_soonest ⟨rfl, rfl⟩ ⟨Nat.le_of_ble_eq_true rfl, Nat.le_of_ble_eq_true rfl⟩ rfl (Nat.le_of_ble_eq_true rfl) dL_law_806 (fun r μ1 H locs hw h => ?_)
  refine lv_aload_n hx hb dL_law_809 rfl (lv_at hl 2 rfl) ?_
  refine lv_aload_n hx hb dL_law_810 rfl (lv_at hl 0 rfl) ?_
  refine lv_iload_n hx hb dL_law_811 rfl (lv_at hl 3 rfl) ?_
  refine lv_iconst (v := (1 : Int32)) hx hb dL_law_812 (by decide) ?_
  refine lv_iadd hx hb dL_law_813 ?_
  refine l_sld X h.2.2 v1 dL_law_814 ?_
  refine l_R (rest := [.int (r)]) (As := [.int (xs (x + (1 : Int32)).toNatClampNeg)]) X h hl.1 (c_X7_soonest l GR hOR (xs (x + (1 : Int32)).toNatClampNeg) hR _ _ hw) gk_L_95 rfl hd_X7_soonest ⟨rfl, rfl⟩ ⟨Nat.le_of_ble_eq_true rfl, Nat.le_of_ble_eq_true rfl⟩ rfl (Nat.le_of_ble_eq_true rfl) dL_law_815 (fun r2 μ2 H locs hw h => ?_)
  refine lv_icmp_eq (tgt := 1377) hx hb dL_law_818 (by decide) (fun _ => ?_) (fun hc => absurd hw.1 hc)
  exact kk μ1 μ2 H locs hw.2 h
set_option maxRecDepth 100000 in
set_option maxHeartbeats 4000000 in
theorem lc_gets {Rl : vM → vM → Prop} {GC GR : vG} {p : Program} {l : Launch} {e : Env} {s : State} {m : MethodId} {below : List Frame} {meth : Method} {c : Code} {b L : Nat} {xs : Nat → Int32} {ls : Array Slot} {x : Int32} {μC μR : vM} {H : Heap} {locs : List Loc} (X : lx GC GR p s m meth c b L xs) (h : lb GC GR s μC μR H locs) (hl : lv_has ls 4 [(0, .ref b), (1, .ref (ga GC 0)), (2, .ref (ga GR 0)), (3, .int x)]) (hs : sm_gets Rl) (hr : Rl μC μR) (v1 : vp_in (x + (1 : Int32)) L) (v2 : vp_in (x + (2 : Int32)) L) (v3 : vp_in (x + (3 : Int32)) L) (v4 : vp_in (x + (4 : Int32)) L) (v5 : vp_in (x + (5 : Int32)) L) (kk : ∀ (μC μR : vM) (H : Heap) (locs : List Loc), Rl μC μR → lb GC GR s μC μR H locs → W p l e room_1 s m #[Value.ref b] below meth c H locs 600000 7302249 (lw_Z below #[Value.ref b] s) (F0 m 1377 ls [])) : W p l e room_1 s m #[Value.ref b] below meth c H locs 600000 7302249 (lw_Z below #[Value.ref b] s) (F0 m 823 ls []) := by
  have hx := X.1
  have hb := X.2.1
  obtain ⟨hOC, hOR, hC, hR⟩ := l_ok X
  have hw := hs (xs (x + (1 : Int32)).toNatClampNeg) (xs (x + (2 : Int32)).toNatClampNeg) μC μR hr
  refine lv_aload_n hx hb dL_law_823 rfl (lv_at hl 1 rfl) ?_
  refine lv_aload_n hx hb dL_law_824 rfl (lv_at hl 0 rfl) ?_
  refine lv_iload_n hx hb dL_law_825 rfl (lv_at hl 3 rfl) ?_
  refine lv_iconst (v := (1 : Int32)) hx hb dL_law_826 (by decide) ?_
  refine lv_iadd hx hb dL_law_827 ?_
  refine l_sld X h.2.2 v1 dL_law_828 ?_
  refine lv_aload_n hx hb dL_law_829 rfl (lv_at hl 0 rfl) ?_
  refine lv_iload_n hx hb dL_law_830 rfl (lv_at hl 3 rfl) ?_
  refine lv_iconst (v := (2 : Int32)) hx hb dL_law_831 (by decide) ?_
  refine lv_iadd hx hb dL_law_832 ?_
  refine l_sld X h.2.2 v2 dL_law_833 ?_
  refine l_C (rest := []) (As := [.int (xs (x + (1 : Int32)).toNatClampNeg), .int (xs (x + (2 : Int32)).toNatClampNeg)]) X h hl.1 (c_X6_gets l GC hOC (xs (x + (1 : Int32)).toNatClampNeg) (xs (x + (2 : Int32)).toNatClampNeg) hC _ _ hw) gk_L_96 rfl hd_X6_gets ⟨rfl, rfl⟩ ⟨Nat.le_of_ble_eq_true rfl, Nat.le_of_ble_eq_true rfl⟩ rfl (Nat.le_of_ble_eq_true rfl) dL_law_834 (fun r μ1 H locs hw h => ?_)
  refine lv_aload_n hx hb dL_law_837 rfl (lv_at hl 2 rfl) ?_
  refine lv_aload_n hx hb dL_law_838 rfl (lv_at hl 0 rfl) ?_
  refine lv_iload_n hx hb dL_law_839 rfl (lv_at hl 3 rfl) ?_
  refine lv_iconst (v := (1 : Int32)) hx hb dL_law_840 (by decide) ?_
  refine lv_iadd hx hb dL_law_841 ?_
  refine l_sld X h.2.2 v1 dL_law_842 ?_
  refine lv_aload_n hx hb dL_law_843 rfl (lv_at hl 0 rfl) ?_
  refine lv_iload_n hx hb dL_law_844 rfl (lv_at hl 3 rfl) ?_
  refine lv_iconst (v := (2 : Int32)) hx hb dL_law_845 (by decide) ?_
  refine lv_iadd hx hb dL_law_846 ?_
  refine l_sld X h.2.2 v2 dL_law_847 ?_
  refine l_R (rest := [.int (r)]) (As := [.int (xs (x + (1 : Int32)).toNatClampNeg), .int (xs (x + (2 : Int32)).toNatClampNeg)]) X h hl.1 (c_X7_gets l GR hOR (xs (x + (1 : Int32)).toNatClampNeg) (xs (x + (2 : Int32)).toNatClampNeg) hR _ _ hw) gk_L_99 rfl hd_X7_gets ⟨rfl, rfl⟩ ⟨Nat.le_of_ble_eq_true rfl, Nat.le_of_ble_eq_true rfl⟩ rfl (Nat.le_of_ble_eq_true rfl) dL_law_848 (fun r2 μ2 H locs hw h => ?_)
  refine lv_icmp_eq (tgt := 1377) hx hb dL_law_851 (by decide) (fun _ => ?_) (fun hc => absurd hw.1 hc)
  exact kk μ1 μ2 H locs hw.2 h
set_option maxRecDepth 100000 in
set_option maxHeartbeats 4000000 in
theorem lc_carry {Rl : vM → vM → Prop} {GC GR : vG} {p : Program} {l : Launch} {e : Env} {s : State} {m : MethodId} {below : List Frame} {meth : Method} {c : Code} {b L : Nat} {xs : Nat → Int32} {ls : Array Slot} {x : Int32} {μC μR : vM} {H : Heap} {locs : List Loc} (X : lx GC GR p s m meth c b L xs) (h : lb GC GR s μC μR H locs) (hl : lv_has ls 4 [(0, .ref b), (1, .ref (ga GC 0)), (2, .ref (ga GR 0)), (3, .int x)]) (hs : sm_carry Rl) (hr : Rl μC μR) (v1 : vp_in (x + (1 : Int32)) L) (v2 : vp_in (x + (2 : Int32)) L) (v3 : vp_in (x + (3 : Int32)) L) (v4 : vp_in (x + (4 : Int32)) L) (v5 : vp_in (x + (5 : Int32)) L) (kk : ∀ (μC μR : vM) (H : Heap) (locs : List Loc), Rl μC μR → lb GC GR s μC μR H locs → W p l e room_1 s m #[Value.ref b] below meth c H locs 600000 7302249 (lw_Z below #[Value.ref b] s) (F0 m 1377 ls [])) : W p l e room_1 s m #[Value.ref b] below meth c H locs 600000 7302249 (lw_Z below #[Value.ref b] s) (F0 m 856 ls []) := by
  have hx := X.1
  have hb := X.2.1
  obtain ⟨hOC, hOR, hC, hR⟩ := l_ok X
  have hw := hs (xs (x + (1 : Int32)).toNatClampNeg) (xs (x + (2 : Int32)).toNatClampNeg) (xs (x + (3 : Int32)).toNatClampNeg) μC μR hr
  refine lv_aload_n hx hb dL_law_856 rfl (lv_at hl 1 rfl) ?_
  refine lv_aload_n hx hb dL_law_857 rfl (lv_at hl 0 rfl) ?_
  refine lv_iload_n hx hb dL_law_858 rfl (lv_at hl 3 rfl) ?_
  refine lv_iconst (v := (1 : Int32)) hx hb dL_law_859 (by decide) ?_
  refine lv_iadd hx hb dL_law_860 ?_
  refine l_sld X h.2.2 v1 dL_law_861 ?_
  refine lv_aload_n hx hb dL_law_862 rfl (lv_at hl 0 rfl) ?_
  refine lv_iload_n hx hb dL_law_863 rfl (lv_at hl 3 rfl) ?_
  refine lv_iconst (v := (2 : Int32)) hx hb dL_law_864 (by decide) ?_
  refine lv_iadd hx hb dL_law_865 ?_
  refine l_sld X h.2.2 v2 dL_law_866 ?_
  refine lv_aload_n hx hb dL_law_867 rfl (lv_at hl 0 rfl) ?_
  refine lv_iload_n hx hb dL_law_868 rfl (lv_at hl 3 rfl) ?_
  refine lv_iconst (v := (3 : Int32)) hx hb dL_law_869 (by decide) ?_
  refine lv_iadd hx hb dL_law_870 ?_
  refine l_sld X h.2.2 v3 dL_law_871 ?_
  refine l_C (rest := []) (As := [.int (xs (x + (1 : Int32)).toNatClampNeg), .int (xs (x + (2 : Int32)).toNatClampNeg), .int (xs (x + (3 : Int32)).toNatClampNeg)]) X h hl.1 (c_X6_carry l GC hOC (xs (x + (1 : Int32)).toNatClampNeg) (xs (x + (2 : Int32)).toNatClampNeg) (xs (x + (3 : Int32)).toNatClampNeg) hC _ _ hw) gk_L_100 rfl hd_X6_carry ⟨rfl, rfl⟩ ⟨Nat.le_of_ble_eq_true rfl, Nat.le_of_ble_eq_true rfl⟩ rfl (Nat.le_of_ble_eq_true rfl) dL_law_872 (fun r μ1 H locs hw h => ?_)
  refine lv_aload_n hx hb dL_law_875 rfl (lv_at hl 2 rfl) ?_
  refine lv_aload_n hx hb dL_law_876 rfl (lv_at hl 0 rfl) ?_
  refine lv_iload_n hx hb dL_law_877 rfl (lv_at hl 3 rfl) ?_
  refine lv_iconst (v := (1 : Int32)) hx hb dL_law_878 (by decide) ?_
  refine lv_iadd hx hb dL_law_879 ?_
  refine l_sld X h.2.2 v1 dL_law_880 ?_
  refine lv_aload_n hx hb dL_law_881 rfl (lv_at hl 0 rfl) ?_
  refine lv_iload_n hx hb dL_law_882 rfl (lv_at hl 3 rfl) ?_
  refine lv_iconst (v := (2 : Int32)) hx hb dL_law_883 (by decide) ?_
  refine lv_iadd hx hb dL_law_884 ?_
  refine l_sld X h.2.2 v2 dL_law_885 ?_
  refine lv_aload_n hx hb dL_law_886 rfl (lv_at hl 0 rfl) ?_
  refine lv_iload_n hx hb dL_law_887 rfl (lv_at hl 3 rfl) ?_
  refine lv_iconst (v := (3 : Int32)) hx hb dL_law_888 (by decide) ?_
  refine lv_iadd hx hb dL_law_889 ?_
  refine l_sld X h.2.2 v3 dL_law_890 ?_
  refine l_R (rest := [.int (r)]) (As := [.int (xs (x + (1 : Int32)).toNatClampNeg), .int (xs (x + (2 : Int32)).toNatClampNeg), .int (xs (x + (3 : Int32)).toNatClampNeg)]) X h hl.1 (c_X7_carry l GR hOR (xs (x + (1 : Int32)).toNatClampNeg) (xs (x + (2 : Int32)).toNatClampNeg) (xs (x + (3 : Int32)).toNatClampNeg) hR _ _ hw) gk_L_103 rfl hd_X7_carry ⟨rfl, rfl⟩ ⟨Nat.le_of_ble_eq_true rfl, Nat.le_of_ble_eq_true rfl⟩ rfl (Nat.le_of_ble_eq_true rfl) dL_law_891 (fun r2 μ2 H locs hw h => ?_)
  refine lv_icmp_eq (tgt := 1377) hx hb dL_law_894 (by decide) (fun _ => ?_) (fun hc => absurd hw.1 hc)
  exact kk μ1 μ2 H locs hw.2 h
set_option maxRecDepth 100000 in
set_option maxHeartbeats 4000000 in
theorem lc_way {Rl : vM → vM → Prop} {GC GR : vG} {p : Program} {l : Launch} {e : Env} {s : State} {m : MethodId} {below : List Frame} {meth : Method} {c : Code} {b L : Nat} {xs : Nat → Int32} {ls : Array Slot} {x : Int32} {μC μR : vM} {H : Heap} {locs : List Loc} (X : lx GC GR p s m meth c b L xs) (h : lb GC GR s μC μR H locs) (hl : lv_has ls 4 [(0, .ref b), (1, .ref (ga GC 0)), (2, .ref (ga GR 0)), (3, .int x)]) (hs : sm_way Rl) (hr : Rl μC μR) (v1 : vp_in (x + (1 : Int32)) L) (v2 : vp_in (x + (2 : Int32)) L) (v3 : vp_in (x + (3 : Int32)) L) (v4 : vp_in (x + (4 : Int32)) L) (v5 : vp_in (x + (5 : Int32)) L) (kk : ∀ (μC μR : vM) (H : Heap) (locs : List Loc), Rl μC μR → lb GC GR s μC μR H locs → W p l e room_1 s m #[Value.ref b] below meth c H locs 600000 7302249 (lw_Z below #[Value.ref b] s) (F0 m 1377 ls [])) : W p l e room_1 s m #[Value.ref b] below meth c H locs 600000 7302249 (lw_Z below #[Value.ref b] s) (F0 m 899 ls []) := by
  have hx := X.1
  have hb := X.2.1
  obtain ⟨hOC, hOR, hC, hR⟩ := l_ok X
  have hw := hs (xs (x + (1 : Int32)).toNatClampNeg) (xs (x + (2 : Int32)).toNatClampNeg) μC μR hr
  refine lv_aload_n hx hb dL_law_899 rfl (lv_at hl 1 rfl) ?_
  refine lv_aload_n hx hb dL_law_900 rfl (lv_at hl 0 rfl) ?_
  refine lv_iload_n hx hb dL_law_901 rfl (lv_at hl 3 rfl) ?_
  refine lv_iconst (v := (1 : Int32)) hx hb dL_law_902 (by decide) ?_
  refine lv_iadd hx hb dL_law_903 ?_
  refine l_sld X h.2.2 v1 dL_law_904 ?_
  refine lv_aload_n hx hb dL_law_905 rfl (lv_at hl 0 rfl) ?_
  refine lv_iload_n hx hb dL_law_906 rfl (lv_at hl 3 rfl) ?_
  refine lv_iconst (v := (2 : Int32)) hx hb dL_law_907 (by decide) ?_
  refine lv_iadd hx hb dL_law_908 ?_
  refine l_sld X h.2.2 v2 dL_law_909 ?_
  refine l_C (rest := []) (As := [.int (xs (x + (1 : Int32)).toNatClampNeg), .int (xs (x + (2 : Int32)).toNatClampNeg)]) X h hl.1 (c_X6_way l GC hOC (xs (x + (1 : Int32)).toNatClampNeg) (xs (x + (2 : Int32)).toNatClampNeg) hC _ _ hw) gk_L_104 rfl hd_X6_way ⟨rfl, rfl⟩ ⟨Nat.le_of_ble_eq_true rfl, Nat.le_of_ble_eq_true rfl⟩ rfl (Nat.le_of_ble_eq_true rfl) dL_law_910 (fun r μ1 H locs hw h => ?_)
  refine lv_aload_n hx hb dL_law_913 rfl (lv_at hl 2 rfl) ?_
  refine lv_aload_n hx hb dL_law_914 rfl (lv_at hl 0 rfl) ?_
  refine lv_iload_n hx hb dL_law_915 rfl (lv_at hl 3 rfl) ?_
  refine lv_iconst (v := (1 : Int32)) hx hb dL_law_916 (by decide) ?_
  refine lv_iadd hx hb dL_law_917 ?_
  refine l_sld X h.2.2 v1 dL_law_918 ?_
  refine lv_aload_n hx hb dL_law_919 rfl (lv_at hl 0 rfl) ?_
  refine lv_iload_n hx hb dL_law_920 rfl (lv_at hl 3 rfl) ?_
  refine lv_iconst (v := (2 : Int32)) hx hb dL_law_921 (by decide) ?_
  refine lv_iadd hx hb dL_law_922 ?_
  refine l_sld X h.2.2 v2 dL_law_923 ?_
  refine l_R (rest := [.int (r)]) (As := [.int (xs (x + (1 : Int32)).toNatClampNeg), .int (xs (x + (2 : Int32)).toNatClampNeg)]) X h hl.1 (c_X7_way l GR hOR (xs (x + (1 : Int32)).toNatClampNeg) (xs (x + (2 : Int32)).toNatClampNeg) hR _ _ hw) gk_L_107 rfl hd_X7_way ⟨rfl, rfl⟩ ⟨Nat.le_of_ble_eq_true rfl, Nat.le_of_ble_eq_true rfl⟩ rfl (Nat.le_of_ble_eq_true rfl) dL_law_924 (fun r2 μ2 H locs hw h => ?_)
  refine lv_icmp_eq (tgt := 1377) hx hb dL_law_927 (by decide) (fun _ => ?_) (fun hc => absurd hw.1 hc)
  exact kk μ1 μ2 H locs hw.2 h
set_option maxRecDepth 100000 in
set_option maxHeartbeats 4000000 in
theorem lc_odds {Rl : vM → vM → Prop} {GC GR : vG} {p : Program} {l : Launch} {e : Env} {s : State} {m : MethodId} {below : List Frame} {meth : Method} {c : Code} {b L : Nat} {xs : Nat → Int32} {ls : Array Slot} {x : Int32} {μC μR : vM} {H : Heap} {locs : List Loc} (X : lx GC GR p s m meth c b L xs) (h : lb GC GR s μC μR H locs) (hl : lv_has ls 4 [(0, .ref b), (1, .ref (ga GC 0)), (2, .ref (ga GR 0)), (3, .int x)]) (hs : sm_odds Rl) (hr : Rl μC μR) (v1 : vp_in (x + (1 : Int32)) L) (v2 : vp_in (x + (2 : Int32)) L) (v3 : vp_in (x + (3 : Int32)) L) (v4 : vp_in (x + (4 : Int32)) L) (v5 : vp_in (x + (5 : Int32)) L) (kk : ∀ (μC μR : vM) (H : Heap) (locs : List Loc), Rl μC μR → lb GC GR s μC μR H locs → W p l e room_1 s m #[Value.ref b] below meth c H locs 600000 7302249 (lw_Z below #[Value.ref b] s) (F0 m 1377 ls [])) : W p l e room_1 s m #[Value.ref b] below meth c H locs 600000 7302249 (lw_Z below #[Value.ref b] s) (F0 m 932 ls []) := by
  have hx := X.1
  have hb := X.2.1
  obtain ⟨hOC, hOR, hC, hR⟩ := l_ok X
  have hw := hs (xs (x + (1 : Int32)).toNatClampNeg) (xs (x + (2 : Int32)).toNatClampNeg) μC μR hr
  refine lv_aload_n hx hb dL_law_932 rfl (lv_at hl 1 rfl) ?_
  refine lv_aload_n hx hb dL_law_933 rfl (lv_at hl 0 rfl) ?_
  refine lv_iload_n hx hb dL_law_934 rfl (lv_at hl 3 rfl) ?_
  refine lv_iconst (v := (1 : Int32)) hx hb dL_law_935 (by decide) ?_
  refine lv_iadd hx hb dL_law_936 ?_
  refine l_sld X h.2.2 v1 dL_law_937 ?_
  refine lv_aload_n hx hb dL_law_938 rfl (lv_at hl 0 rfl) ?_
  refine lv_iload_n hx hb dL_law_939 rfl (lv_at hl 3 rfl) ?_
  refine lv_iconst (v := (2 : Int32)) hx hb dL_law_940 (by decide) ?_
  refine lv_iadd hx hb dL_law_941 ?_
  refine l_sld X h.2.2 v2 dL_law_942 ?_
  refine l_C (rest := []) (As := [.int (xs (x + (1 : Int32)).toNatClampNeg), .int (xs (x + (2 : Int32)).toNatClampNeg)]) X h hl.1 (c_X6_odds l GC hOC (xs (x + (1 : Int32)).toNatClampNeg) (xs (x + (2 : Int32)).toNatClampNeg) hC _ _ hw) gk_L_108 rfl hd_X6_odds ⟨rfl, rfl⟩ ⟨Nat.le_of_ble_eq_true rfl, Nat.le_of_ble_eq_true rfl⟩ rfl (Nat.le_of_ble_eq_true rfl) dL_law_943 (fun r μ1 H locs hw h => ?_)
  refine lv_aload_n hx hb dL_law_946 rfl (lv_at hl 2 rfl) ?_
  refine lv_aload_n hx hb dL_law_947 rfl (lv_at hl 0 rfl) ?_
  refine lv_iload_n hx hb dL_law_948 rfl (lv_at hl 3 rfl) ?_
  refine lv_iconst (v := (1 : Int32)) hx hb dL_law_949 (by decide) ?_
  refine lv_iadd hx hb dL_law_950 ?_
  refine l_sld X h.2.2 v1 dL_law_951 ?_
  refine lv_aload_n hx hb dL_law_952 rfl (lv_at hl 0 rfl) ?_
  refine lv_iload_n hx hb dL_law_953 rfl (lv_at hl 3 rfl) ?_
  refine lv_iconst (v := (2 : Int32)) hx hb dL_law_954 (by decide) ?_
  refine lv_iadd hx hb dL_law_955 ?_
  refine l_sld X h.2.2 v2 dL_law_956 ?_
  refine l_R (rest := [.int (r)]) (As := [.int (xs (x + (1 : Int32)).toNatClampNeg), .int (xs (x + (2 : Int32)).toNatClampNeg)]) X h hl.1 (c_X7_odds l GR hOR (xs (x + (1 : Int32)).toNatClampNeg) (xs (x + (2 : Int32)).toNatClampNeg) hR _ _ hw) gk_L_111 rfl hd_X7_odds ⟨rfl, rfl⟩ ⟨Nat.le_of_ble_eq_true rfl, Nat.le_of_ble_eq_true rfl⟩ rfl (Nat.le_of_ble_eq_true rfl) dL_law_957 (fun r2 μ2 H locs hw h => ?_)
  refine lv_icmp_eq (tgt := 1377) hx hb dL_law_960 (by decide) (fun _ => ?_) (fun hc => absurd hw.1 hc)
  exact kk μ1 μ2 H locs hw.2 h
set_option maxRecDepth 100000 in
set_option maxHeartbeats 4000000 in
theorem lc_whose {Rl : vM → vM → Prop} {GC GR : vG} {p : Program} {l : Launch} {e : Env} {s : State} {m : MethodId} {below : List Frame} {meth : Method} {c : Code} {b L : Nat} {xs : Nat → Int32} {ls : Array Slot} {x : Int32} {μC μR : vM} {H : Heap} {locs : List Loc} (X : lx GC GR p s m meth c b L xs) (h : lb GC GR s μC μR H locs) (hl : lv_has ls 4 [(0, .ref b), (1, .ref (ga GC 0)), (2, .ref (ga GR 0)), (3, .int x)]) (hs : sm_whose Rl) (hr : Rl μC μR) (v1 : vp_in (x + (1 : Int32)) L) (v2 : vp_in (x + (2 : Int32)) L) (v3 : vp_in (x + (3 : Int32)) L) (v4 : vp_in (x + (4 : Int32)) L) (v5 : vp_in (x + (5 : Int32)) L) (kk : ∀ (μC μR : vM) (H : Heap) (locs : List Loc), Rl μC μR → lb GC GR s μC μR H locs → W p l e room_1 s m #[Value.ref b] below meth c H locs 600000 7302249 (lw_Z below #[Value.ref b] s) (F0 m 1377 ls [])) : W p l e room_1 s m #[Value.ref b] below meth c H locs 600000 7302249 (lw_Z below #[Value.ref b] s) (F0 m 965 ls []) := by
  have hx := X.1
  have hb := X.2.1
  obtain ⟨hOC, hOR, hC, hR⟩ := l_ok X
  have hw := hs (xs (x + (1 : Int32)).toNatClampNeg) (xs (x + (2 : Int32)).toNatClampNeg) (xs (x + (3 : Int32)).toNatClampNeg) μC μR hr
  refine lv_aload_n hx hb dL_law_965 rfl (lv_at hl 1 rfl) ?_
  refine lv_aload_n hx hb dL_law_966 rfl (lv_at hl 0 rfl) ?_
  refine lv_iload_n hx hb dL_law_967 rfl (lv_at hl 3 rfl) ?_
  refine lv_iconst (v := (1 : Int32)) hx hb dL_law_968 (by decide) ?_
  refine lv_iadd hx hb dL_law_969 ?_
  refine l_sld X h.2.2 v1 dL_law_970 ?_
  refine lv_aload_n hx hb dL_law_971 rfl (lv_at hl 0 rfl) ?_
  refine lv_iload_n hx hb dL_law_972 rfl (lv_at hl 3 rfl) ?_
  refine lv_iconst (v := (2 : Int32)) hx hb dL_law_973 (by decide) ?_
  refine lv_iadd hx hb dL_law_974 ?_
  refine l_sld X h.2.2 v2 dL_law_975 ?_
  refine lv_aload_n hx hb dL_law_976 rfl (lv_at hl 0 rfl) ?_
  refine lv_iload_n hx hb dL_law_977 rfl (lv_at hl 3 rfl) ?_
  refine lv_iconst (v := (3 : Int32)) hx hb dL_law_978 (by decide) ?_
  refine lv_iadd hx hb dL_law_979 ?_
  refine l_sld X h.2.2 v3 dL_law_980 ?_
  refine l_C (rest := []) (As := [.int (xs (x + (1 : Int32)).toNatClampNeg), .int (xs (x + (2 : Int32)).toNatClampNeg), .int (xs (x + (3 : Int32)).toNatClampNeg)]) X h hl.1 (c_X6_whose l GC hOC (xs (x + (1 : Int32)).toNatClampNeg) (xs (x + (2 : Int32)).toNatClampNeg) (xs (x + (3 : Int32)).toNatClampNeg) hC _ _ hw) gk_L_112 rfl hd_X6_whose ⟨rfl, rfl⟩ ⟨Nat.le_of_ble_eq_true rfl, Nat.le_of_ble_eq_true rfl⟩ rfl (Nat.le_of_ble_eq_true rfl) dL_law_981 (fun r μ1 H locs hw h => ?_)
  refine lv_aload_n hx hb dL_law_984 rfl (lv_at hl 2 rfl) ?_
  refine lv_aload_n hx hb dL_law_985 rfl (lv_at hl 0 rfl) ?_
  refine lv_iload_n hx hb dL_law_986 rfl (lv_at hl 3 rfl) ?_
  refine lv_iconst (v := (1 : Int32)) hx hb dL_law_987 (by decide) ?_
  refine lv_iadd hx hb dL_law_988 ?_
  refine l_sld X h.2.2 v1 dL_law_989 ?_
  refine lv_aload_n hx hb dL_law_990 rfl (lv_at hl 0 rfl) ?_
  refine lv_iload_n hx hb dL_law_991 rfl (lv_at hl 3 rfl) ?_
  refine lv_iconst (v := (2 : Int32)) hx hb dL_law_992 (by decide) ?_
  refine lv_iadd hx hb dL_law_993 ?_
  refine l_sld X h.2.2 v2 dL_law_994 ?_
  refine lv_aload_n hx hb dL_law_995 rfl (lv_at hl 0 rfl) ?_
  refine lv_iload_n hx hb dL_law_996 rfl (lv_at hl 3 rfl) ?_
  refine lv_iconst (v := (3 : Int32)) hx hb dL_law_997 (by decide) ?_
  refine lv_iadd hx hb dL_law_998 ?_
  refine l_sld X h.2.2 v3 dL_law_999 ?_
  refine l_R (rest := [.int (r)]) (As := [.int (xs (x + (1 : Int32)).toNatClampNeg), .int (xs (x + (2 : Int32)).toNatClampNeg), .int (xs (x + (3 : Int32)).toNatClampNeg)]) X h hl.1 (c_X7_whose l GR hOR (xs (x + (1 : Int32)).toNatClampNeg) (xs (x + (2 : Int32)).toNatClampNeg) (xs (x + (3 : Int32)).toNatClampNeg) hR _ _ hw) gk_L_115 rfl hd_X7_whose ⟨rfl, rfl⟩ ⟨Nat.le_of_ble_eq_true rfl, Nat.le_of_ble_eq_true rfl⟩ rfl (Nat.le_of_ble_eq_true rfl) dL_law_1000 (fun r2 μ2 H locs hw h => ?_)
  refine lv_icmp_eq (tgt := 1377) hx hb dL_law_1003 (by decide) (fun _ => ?_) (fun hc => absurd hw.1 hc)
  exact kk μ1 μ2 H locs hw.2 h
set_option maxRecDepth 100000 in
set_option maxHeartbeats 4000000 in
theorem lc_voice {Rl : vM → vM → Prop} {GC GR : vG} {p : Program} {l : Launch} {e : Env} {s : State} {m : MethodId} {below : List Frame} {meth : Method} {c : Code} {b L : Nat} {xs : Nat → Int32} {ls : Array Slot} {x : Int32} {μC μR : vM} {H : Heap} {locs : List Loc} (X : lx GC GR p s m meth c b L xs) (h : lb GC GR s μC μR H locs) (hl : lv_has ls 4 [(0, .ref b), (1, .ref (ga GC 0)), (2, .ref (ga GR 0)), (3, .int x)]) (hs : sm_voice Rl) (hr : Rl μC μR) (v1 : vp_in (x + (1 : Int32)) L) (v2 : vp_in (x + (2 : Int32)) L) (v3 : vp_in (x + (3 : Int32)) L) (v4 : vp_in (x + (4 : Int32)) L) (v5 : vp_in (x + (5 : Int32)) L) (kk : ∀ (μC μR : vM) (H : Heap) (locs : List Loc), Rl μC μR → lb GC GR s μC μR H locs → W p l e room_1 s m #[Value.ref b] below meth c H locs 600000 7302249 (lw_Z below #[Value.ref b] s) (F0 m 1377 ls [])) : W p l e room_1 s m #[Value.ref b] below meth c H locs 600000 7302249 (lw_Z below #[Value.ref b] s) (F0 m 1008 ls []) := by
  have hx := X.1
  have hb := X.2.1
  obtain ⟨hOC, hOR, hC, hR⟩ := l_ok X
  have hw := hs (xs (x + (1 : Int32)).toNatClampNeg) (xs (x + (2 : Int32)).toNatClampNeg) (xs (x + (3 : Int32)).toNatClampNeg) μC μR hr
  refine lv_aload_n hx hb dL_law_1008 rfl (lv_at hl 1 rfl) ?_
  refine lv_aload_n hx hb dL_law_1009 rfl (lv_at hl 0 rfl) ?_
  refine lv_iload_n hx hb dL_law_1010 rfl (lv_at hl 3 rfl) ?_
  refine lv_iconst (v := (1 : Int32)) hx hb dL_law_1011 (by decide) ?_
  refine lv_iadd hx hb dL_law_1012 ?_
  refine l_sld X h.2.2 v1 dL_law_1013 ?_
  refine lv_aload_n hx hb dL_law_1014 rfl (lv_at hl 0 rfl) ?_
  refine lv_iload_n hx hb dL_law_1015 rfl (lv_at hl 3 rfl) ?_
  refine lv_iconst (v := (2 : Int32)) hx hb dL_law_1016 (by decide) ?_
  refine lv_iadd hx hb dL_law_1017 ?_
  refine l_sld X h.2.2 v2 dL_law_1018 ?_
  refine lv_aload_n hx hb dL_law_1019 rfl (lv_at hl 0 rfl) ?_
  refine lv_iload_n hx hb dL_law_1020 rfl (lv_at hl 3 rfl) ?_
  refine lv_iconst (v := (3 : Int32)) hx hb dL_law_1021 (by decide) ?_
  refine lv_iadd hx hb dL_law_1022 ?_
  refine l_sld X h.2.2 v3 dL_law_1023 ?_
  refine l_C (rest := []) (As := [.int (xs (x + (1 : Int32)).toNatClampNeg), .int (xs (x + (2 : Int32)).toNatClampNeg), .int (xs (x + (3 : Int32)).toNatClampNeg)]) X h hl.1 (c_X6_voice l GC hOC (xs (x + (1 : Int32)).toNatClampNeg) (xs (x + (2 : Int32)).toNatClampNeg) (xs (x + (3 : Int32)).toNatClampNeg) hC _ _ hw) gk_L_116 rfl hd_X6_voice ⟨rfl, rfl⟩ ⟨Nat.le_of_ble_eq_true rfl, Nat.le_of_ble_eq_true rfl⟩ rfl (Nat.le_of_ble_eq_true rfl) dL_law_1024 (fun r μ1 H locs hw h => ?_)
  refine lv_aload_n hx hb dL_law_1027 rfl (lv_at hl 2 rfl) ?_
  refine lv_aload_n hx hb dL_law_1028 rfl (lv_at hl 0 rfl) ?_
  refine lv_iload_n hx hb dL_law_1029 rfl (lv_at hl 3 rfl) ?_
  refine lv_iconst (v := (1 : Int32)) hx hb dL_law_1030 (by decide) ?_
  refine lv_iadd hx hb dL_law_1031 ?_
  refine l_sld X h.2.2 v1 dL_law_1032 ?_
  refine lv_aload_n hx hb dL_law_1033 rfl (lv_at hl 0 rfl) ?_
  refine lv_iload_n hx hb dL_law_1034 rfl (lv_at hl 3 rfl) ?_
  refine lv_iconst (v := (2 : Int32)) hx hb dL_law_1035 (by decide) ?_
  refine lv_iadd hx hb dL_law_1036 ?_
  refine l_sld X h.2.2 v2 dL_law_1037 ?_
  refine lv_aload_n hx hb dL_law_1038 rfl (lv_at hl 0 rfl) ?_
  refine lv_iload_n hx hb dL_law_1039 rfl (lv_at hl 3 rfl) ?_
  refine lv_iconst (v := (3 : Int32)) hx hb dL_law_1040 (by decide) ?_
  refine lv_iadd hx hb dL_law_1041 ?_
  refine l_sld X h.2.2 v3 dL_law_1042 ?_
  refine l_R (rest := [.int (r)]) (As := [.int (xs (x + (1 : Int32)).toNatClampNeg), .int (xs (x + (2 : Int32)).toNatClampNeg), .int (xs (x + (3 : Int32)).toNatClampNeg)]) X h hl.1 (c_X7_voice l GR hOR (xs (x + (1 : Int32)).toNatClampNeg) (xs (x + (2 : Int32)).toNatClampNeg) (xs (x + (3 : Int32)).toNatClampNeg) hR _ _ hw) gk_L_119 rfl hd_X7_voice ⟨rfl, rfl⟩ ⟨Nat.le_of_ble_eq_true rfl, Nat.le_of_ble_eq_true rfl⟩ rfl (Nat.le_of_ble_eq_true rfl) dL_law_1043 (fun r2 μ2 H locs hw h => ?_)
  refine lv_icmp_eq (tgt := 1377) hx hb dL_law_1046 (by decide) (fun _ => ?_) (fun hc => absurd hw.1 hc)
  exact kk μ1 μ2 H locs hw.2 h
set_option maxRecDepth 100000 in
set_option maxHeartbeats 4000000 in
theorem lc_body {Rl : vM → vM → Prop} {GC GR : vG} {p : Program} {l : Launch} {e : Env} {s : State} {m : MethodId} {below : List Frame} {meth : Method} {c : Code} {b L : Nat} {xs : Nat → Int32} {ls : Array Slot} {x : Int32} {μC μR : vM} {H : Heap} {locs : List Loc} (X : lx GC GR p s m meth c b L xs) (h : lb GC GR s μC μR H locs) (hl : lv_has ls 4 [(0, .ref b), (1, .ref (ga GC 0)), (2, .ref (ga GR 0)), (3, .int x)]) (hs : sm_body Rl) (hr : Rl μC μR) (v1 : vp_in (x + (1 : Int32)) L) (v2 : vp_in (x + (2 : Int32)) L) (v3 : vp_in (x + (3 : Int32)) L) (v4 : vp_in (x + (4 : Int32)) L) (v5 : vp_in (x + (5 : Int32)) L) (kk : ∀ (μC μR : vM) (H : Heap) (locs : List Loc), Rl μC μR → lb GC GR s μC μR H locs → W p l e room_1 s m #[Value.ref b] below meth c H locs 600000 7302249 (lw_Z below #[Value.ref b] s) (F0 m 1377 ls [])) : W p l e room_1 s m #[Value.ref b] below meth c H locs 600000 7302249 (lw_Z below #[Value.ref b] s) (F0 m 1051 ls []) := by
  have hx := X.1
  have hb := X.2.1
  obtain ⟨hOC, hOR, hC, hR⟩ := l_ok X
  have hw := hs (xs (x + (1 : Int32)).toNatClampNeg) μC μR hr
  refine lv_aload_n hx hb dL_law_1051 rfl (lv_at hl 1 rfl) ?_
  refine lv_aload_n hx hb dL_law_1052 rfl (lv_at hl 0 rfl) ?_
  refine lv_iload_n hx hb dL_law_1053 rfl (lv_at hl 3 rfl) ?_
  refine lv_iconst (v := (1 : Int32)) hx hb dL_law_1054 (by decide) ?_
  refine lv_iadd hx hb dL_law_1055 ?_
  refine l_sld X h.2.2 v1 dL_law_1056 ?_
  refine l_C (rest := []) (As := [.int (xs (x + (1 : Int32)).toNatClampNeg)]) X h hl.1 (c_X6_body l GC hOC (xs (x + (1 : Int32)).toNatClampNeg) hC _ _ hw) gk_L_120 rfl hd_X6_body ⟨rfl, rfl⟩ ⟨Nat.le_of_ble_eq_true rfl, Nat.le_of_ble_eq_true rfl⟩ rfl (Nat.le_of_ble_eq_true rfl) dL_law_1057 (fun r μ1 H locs hw h => ?_)
  refine lv_aload_n hx hb dL_law_1060 rfl (lv_at hl 2 rfl) ?_
  refine lv_aload_n hx hb dL_law_1061 rfl (lv_at hl 0 rfl) ?_
  refine lv_iload_n hx hb dL_law_1062 rfl (lv_at hl 3 rfl) ?_
  refine lv_iconst (v := (1 : Int32)) hx hb dL_law_1063 (by decide) ?_
  refine lv_iadd hx hb dL_law_1064 ?_
  refine l_sld X h.2.2 v1 dL_law_1065 ?_
  refine l_R (rest := [.int (r)]) (As := [.int (xs (x + (1 : Int32)).toNatClampNeg)]) X h hl.1 (c_X7_body l GR hOR (xs (x + (1 : Int32)).toNatClampNeg) hR _ _ hw) gk_L_123 rfl hd_X7_body ⟨rfl, rfl⟩ ⟨Nat.le_of_ble_eq_true rfl, Nat.le_of_ble_eq_true rfl⟩ rfl (Nat.le_of_ble_eq_true rfl) dL_law_1066 (fun r2 μ2 H locs hw h => ?_)
  refine lv_icmp_eq (tgt := 1377) hx hb dL_law_1069 (by decide) (fun _ => ?_) (fun hc => absurd hw.1 hc)
  exact kk μ1 μ2 H locs hw.2 h
set_option maxRecDepth 100000 in
set_option maxHeartbeats 4000000 in
theorem lc_sheet {Rl : vM → vM → Prop} {GC GR : vG} {p : Program} {l : Launch} {e : Env} {s : State} {m : MethodId} {below : List Frame} {meth : Method} {c : Code} {b L : Nat} {xs : Nat → Int32} {ls : Array Slot} {x : Int32} {μC μR : vM} {H : Heap} {locs : List Loc} (X : lx GC GR p s m meth c b L xs) (h : lb GC GR s μC μR H locs) (hl : lv_has ls 4 [(0, .ref b), (1, .ref (ga GC 0)), (2, .ref (ga GR 0)), (3, .int x)]) (hs : sm_sheet Rl) (hr : Rl μC μR) (v1 : vp_in (x + (1 : Int32)) L) (v2 : vp_in (x + (2 : Int32)) L) (v3 : vp_in (x + (3 : Int32)) L) (v4 : vp_in (x + (4 : Int32)) L) (v5 : vp_in (x + (5 : Int32)) L) (kk : ∀ (μC μR : vM) (H : Heap) (locs : List Loc), Rl μC μR → lb GC GR s μC μR H locs → W p l e room_1 s m #[Value.ref b] below meth c H locs 600000 7302249 (lw_Z below #[Value.ref b] s) (F0 m 1377 ls [])) : W p l e room_1 s m #[Value.ref b] below meth c H locs 600000 7302249 (lw_Z below #[Value.ref b] s) (F0 m 1074 ls []) := by
  have hx := X.1
  have hb := X.2.1
  obtain ⟨hOC, hOR, hC, hR⟩ := l_ok X
  have hw := hs (xs (x + (1 : Int32)).toNatClampNeg) (xs (x + (2 : Int32)).toNatClampNeg) (xs (x + (3 : Int32)).toNatClampNeg) μC μR hr
  refine lv_aload_n hx hb dL_law_1074 rfl (lv_at hl 1 rfl) ?_
  refine lv_aload_n hx hb dL_law_1075 rfl (lv_at hl 0 rfl) ?_
  refine lv_iload_n hx hb dL_law_1076 rfl (lv_at hl 3 rfl) ?_
  refine lv_iconst (v := (1 : Int32)) hx hb dL_law_1077 (by decide) ?_
  refine lv_iadd hx hb dL_law_1078 ?_
  refine l_sld X h.2.2 v1 dL_law_1079 ?_
  refine lv_aload_n hx hb dL_law_1080 rfl (lv_at hl 0 rfl) ?_
  refine lv_iload_n hx hb dL_law_1081 rfl (lv_at hl 3 rfl) ?_
  refine lv_iconst (v := (2 : Int32)) hx hb dL_law_1082 (by decide) ?_
  refine lv_iadd hx hb dL_law_1083 ?_
  refine l_sld X h.2.2 v2 dL_law_1084 ?_
  refine lv_aload_n hx hb dL_law_1085 rfl (lv_at hl 0 rfl) ?_
  refine lv_iload_n hx hb dL_law_1086 rfl (lv_at hl 3 rfl) ?_
  refine lv_iconst (v := (3 : Int32)) hx hb dL_law_1087 (by decide) ?_
  refine lv_iadd hx hb dL_law_1088 ?_
  refine l_sld X h.2.2 v3 dL_law_1089 ?_
  refine l_C (rest := []) (As := [.int (xs (x + (1 : Int32)).toNatClampNeg), .int (xs (x + (2 : Int32)).toNatClampNeg), .int (xs (x + (3 : Int32)).toNatClampNeg)]) X h hl.1 (c_X6_sheet l GC hOC (xs (x + (1 : Int32)).toNatClampNeg) (xs (x + (2 : Int32)).toNatClampNeg) (xs (x + (3 : Int32)).toNatClampNeg) hC _ _ hw) gk_L_124 rfl hd_X6_sheet ⟨rfl, rfl⟩ ⟨Nat.le_of_ble_eq_true rfl, Nat.le_of_ble_eq_true rfl⟩ rfl (Nat.le_of_ble_eq_true rfl) dL_law_1090 (fun r μ1 H locs hw h => ?_)
  refine lv_aload_n hx hb dL_law_1093 rfl (lv_at hl 2 rfl) ?_
  refine lv_aload_n hx hb dL_law_1094 rfl (lv_at hl 0 rfl) ?_
  refine lv_iload_n hx hb dL_law_1095 rfl (lv_at hl 3 rfl) ?_
  refine lv_iconst (v := (1 : Int32)) hx hb dL_law_1096 (by decide) ?_
  refine lv_iadd hx hb dL_law_1097 ?_
  refine l_sld X h.2.2 v1 dL_law_1098 ?_
  refine lv_aload_n hx hb dL_law_1099 rfl (lv_at hl 0 rfl) ?_
  refine lv_iload_n hx hb dL_law_1100 rfl (lv_at hl 3 rfl) ?_
  refine lv_iconst (v := (2 : Int32)) hx hb dL_law_1101 (by decide) ?_
  refine lv_iadd hx hb dL_law_1102 ?_
  refine l_sld X h.2.2 v2 dL_law_1103 ?_
  refine lv_aload_n hx hb dL_law_1104 rfl (lv_at hl 0 rfl) ?_
  refine lv_iload_n hx hb dL_law_1105 rfl (lv_at hl 3 rfl) ?_
  refine lv_iconst (v := (3 : Int32)) hx hb dL_law_1106 (by decide) ?_
  refine lv_iadd hx hb dL_law_1107 ?_
  refine l_sld X h.2.2 v3 dL_law_1108 ?_
  refine l_R (rest := [.int (r)]) (As := [.int (xs (x + (1 : Int32)).toNatClampNeg), .int (xs (x + (2 : Int32)).toNatClampNeg), .int (xs (x + (3 : Int32)).toNatClampNeg)]) X h hl.1 (c_X7_sheet l GR hOR (xs (x + (1 : Int32)).toNatClampNeg) (xs (x + (2 : Int32)).toNatClampNeg) (xs (x + (3 : Int32)).toNatClampNeg) hR _ _ hw) gk_L_127 rfl hd_X7_sheet ⟨rfl, rfl⟩ ⟨Nat.le_of_ble_eq_true rfl, Nat.le_of_ble_eq_true rfl⟩ rfl (Nat.le_of_ble_eq_true rfl) dL_law_1109 (fun r2 μ2 H locs hw h => ?_)
  refine lv_icmp_eq (tgt := 1377) hx hb dL_law_1112 (by decide) (fun _ => ?_) (fun hc => absurd hw.1 hc)
  exact kk μ1 μ2 H locs hw.2 h
set_option maxRecDepth 100000 in
set_option maxHeartbeats 4000000 in
theorem lc_put {Rl : vM → vM → Prop} {GC GR : vG} {p : Program} {l : Launch} {e : Env} {s : State} {m : MethodId} {below : List Frame} {meth : Method} {c : Code} {b L : Nat} {xs : Nat → Int32} {ls : Array Slot} {x : Int32} {μC μR : vM} {H : Heap} {locs : List Loc} (X : lx GC GR p s m meth c b L xs) (h : lb GC GR s μC μR H locs) (hl : lv_has ls 4 [(0, .ref b), (1, .ref (ga GC 0)), (2, .ref (ga GR 0)), (3, .int x)]) (hs : sm_put Rl) (hr : Rl μC μR) (v1 : vp_in (x + (1 : Int32)) L) (v2 : vp_in (x + (2 : Int32)) L) (v3 : vp_in (x + (3 : Int32)) L) (v4 : vp_in (x + (4 : Int32)) L) (v5 : vp_in (x + (5 : Int32)) L) (kk : ∀ (μC μR : vM) (H : Heap) (locs : List Loc), Rl μC μR → lb GC GR s μC μR H locs → W p l e room_1 s m #[Value.ref b] below meth c H locs 600000 7302249 (lw_Z below #[Value.ref b] s) (F0 m 1377 ls [])) : W p l e room_1 s m #[Value.ref b] below meth c H locs 600000 7302249 (lw_Z below #[Value.ref b] s) (F0 m 1117 ls []) := by
  have hx := X.1
  have hb := X.2.1
  obtain ⟨hOC, hOR, hC, hR⟩ := l_ok X
  have hw := hs (xs (x + (1 : Int32)).toNatClampNeg) (xs (x + (2 : Int32)).toNatClampNeg) (xs (x + (3 : Int32)).toNatClampNeg) μC μR hr
  refine lv_aload_n hx hb dL_law_1117 rfl (lv_at hl 1 rfl) ?_
  refine lv_aload_n hx hb dL_law_1118 rfl (lv_at hl 0 rfl) ?_
  refine lv_iload_n hx hb dL_law_1119 rfl (lv_at hl 3 rfl) ?_
  refine lv_iconst (v := (1 : Int32)) hx hb dL_law_1120 (by decide) ?_
  refine lv_iadd hx hb dL_law_1121 ?_
  refine l_sld X h.2.2 v1 dL_law_1122 ?_
  refine lv_aload_n hx hb dL_law_1123 rfl (lv_at hl 0 rfl) ?_
  refine lv_iload_n hx hb dL_law_1124 rfl (lv_at hl 3 rfl) ?_
  refine lv_iconst (v := (2 : Int32)) hx hb dL_law_1125 (by decide) ?_
  refine lv_iadd hx hb dL_law_1126 ?_
  refine l_sld X h.2.2 v2 dL_law_1127 ?_
  refine lv_aload_n hx hb dL_law_1128 rfl (lv_at hl 0 rfl) ?_
  refine lv_iload_n hx hb dL_law_1129 rfl (lv_at hl 3 rfl) ?_
  refine lv_iconst (v := (3 : Int32)) hx hb dL_law_1130 (by decide) ?_
  refine lv_iadd hx hb dL_law_1131 ?_
  refine l_sld X h.2.2 v3 dL_law_1132 ?_
  refine l_C (rest := []) (As := [.int (xs (x + (1 : Int32)).toNatClampNeg), .int (xs (x + (2 : Int32)).toNatClampNeg), .int (xs (x + (3 : Int32)).toNatClampNeg)]) X h hl.1 (c_X6_put l GC hOC (xs (x + (1 : Int32)).toNatClampNeg) (xs (x + (2 : Int32)).toNatClampNeg) (xs (x + (3 : Int32)).toNatClampNeg) hC _ _ hw) gk_L_128 rfl hd_X6_put ⟨rfl, rfl⟩ ⟨Nat.le_of_ble_eq_true rfl, Nat.le_of_ble_eq_true rfl⟩ rfl (Nat.le_of_ble_eq_true rfl) dL_law_1133 (fun r μ1 H locs hw h => ?_)
  refine lv_aload_n hx hb dL_law_1136 rfl (lv_at hl 2 rfl) ?_
  refine lv_aload_n hx hb dL_law_1137 rfl (lv_at hl 0 rfl) ?_
  refine lv_iload_n hx hb dL_law_1138 rfl (lv_at hl 3 rfl) ?_
  refine lv_iconst (v := (1 : Int32)) hx hb dL_law_1139 (by decide) ?_
  refine lv_iadd hx hb dL_law_1140 ?_
  refine l_sld X h.2.2 v1 dL_law_1141 ?_
  refine lv_aload_n hx hb dL_law_1142 rfl (lv_at hl 0 rfl) ?_
  refine lv_iload_n hx hb dL_law_1143 rfl (lv_at hl 3 rfl) ?_
  refine lv_iconst (v := (2 : Int32)) hx hb dL_law_1144 (by decide) ?_
  refine lv_iadd hx hb dL_law_1145 ?_
  refine l_sld X h.2.2 v2 dL_law_1146 ?_
  refine lv_aload_n hx hb dL_law_1147 rfl (lv_at hl 0 rfl) ?_
  refine lv_iload_n hx hb dL_law_1148 rfl (lv_at hl 3 rfl) ?_
  refine lv_iconst (v := (3 : Int32)) hx hb dL_law_1149 (by decide) ?_
  refine lv_iadd hx hb dL_law_1150 ?_
  refine l_sld X h.2.2 v3 dL_law_1151 ?_
  refine l_R (rest := [.int (r)]) (As := [.int (xs (x + (1 : Int32)).toNatClampNeg), .int (xs (x + (2 : Int32)).toNatClampNeg), .int (xs (x + (3 : Int32)).toNatClampNeg)]) X h hl.1 (c_X7_put l GR hOR (xs (x + (1 : Int32)).toNatClampNeg) (xs (x + (2 : Int32)).toNatClampNeg) (xs (x + (3 : Int32)).toNatClampNeg) hR _ _ hw) gk_L_131 rfl hd_X7_put ⟨rfl, rfl⟩ ⟨Nat.le_of_ble_eq_true rfl, Nat.le_of_ble_eq_true rfl⟩ rfl (Nat.le_of_ble_eq_true rfl) dL_law_1152 (fun r2 μ2 H locs hw h => ?_)
  refine lv_icmp_eq (tgt := 1377) hx hb dL_law_1155 (by decide) (fun _ => ?_) (fun hc => absurd hw.1 hc)
  exact kk μ1 μ2 H locs hw.2 h
set_option maxRecDepth 100000 in
set_option maxHeartbeats 4000000 in
theorem lc_move {Rl : vM → vM → Prop} {GC GR : vG} {p : Program} {l : Launch} {e : Env} {s : State} {m : MethodId} {below : List Frame} {meth : Method} {c : Code} {b L : Nat} {xs : Nat → Int32} {ls : Array Slot} {x : Int32} {μC μR : vM} {H : Heap} {locs : List Loc} (X : lx GC GR p s m meth c b L xs) (h : lb GC GR s μC μR H locs) (hl : lv_has ls 4 [(0, .ref b), (1, .ref (ga GC 0)), (2, .ref (ga GR 0)), (3, .int x)]) (hs : sm_move Rl) (hr : Rl μC μR) (v1 : vp_in (x + (1 : Int32)) L) (v2 : vp_in (x + (2 : Int32)) L) (v3 : vp_in (x + (3 : Int32)) L) (v4 : vp_in (x + (4 : Int32)) L) (v5 : vp_in (x + (5 : Int32)) L) (kk : ∀ (μC μR : vM) (H : Heap) (locs : List Loc), Rl μC μR → lb GC GR s μC μR H locs → W p l e room_1 s m #[Value.ref b] below meth c H locs 600000 7302249 (lw_Z below #[Value.ref b] s) (F0 m 1377 ls [])) : W p l e room_1 s m #[Value.ref b] below meth c H locs 600000 7302249 (lw_Z below #[Value.ref b] s) (F0 m 1160 ls []) := by
  have hx := X.1
  have hb := X.2.1
  obtain ⟨hOC, hOR, hC, hR⟩ := l_ok X
  have hw := hs (xs (x + (1 : Int32)).toNatClampNeg) (xs (x + (2 : Int32)).toNatClampNeg) (xs (x + (3 : Int32)).toNatClampNeg) (xs (x + (4 : Int32)).toNatClampNeg) (xs (x + (5 : Int32)).toNatClampNeg) μC μR hr
  refine lv_aload_n hx hb dL_law_1160 rfl (lv_at hl 1 rfl) ?_
  refine lv_aload_n hx hb dL_law_1161 rfl (lv_at hl 0 rfl) ?_
  refine lv_iload_n hx hb dL_law_1162 rfl (lv_at hl 3 rfl) ?_
  refine lv_iconst (v := (1 : Int32)) hx hb dL_law_1163 (by decide) ?_
  refine lv_iadd hx hb dL_law_1164 ?_
  refine l_sld X h.2.2 v1 dL_law_1165 ?_
  refine lv_aload_n hx hb dL_law_1166 rfl (lv_at hl 0 rfl) ?_
  refine lv_iload_n hx hb dL_law_1167 rfl (lv_at hl 3 rfl) ?_
  refine lv_iconst (v := (2 : Int32)) hx hb dL_law_1168 (by decide) ?_
  refine lv_iadd hx hb dL_law_1169 ?_
  refine l_sld X h.2.2 v2 dL_law_1170 ?_
  refine lv_aload_n hx hb dL_law_1171 rfl (lv_at hl 0 rfl) ?_
  refine lv_iload_n hx hb dL_law_1172 rfl (lv_at hl 3 rfl) ?_
  refine lv_iconst (v := (3 : Int32)) hx hb dL_law_1173 (by decide) ?_
  refine lv_iadd hx hb dL_law_1174 ?_
  refine l_sld X h.2.2 v3 dL_law_1175 ?_
  refine lv_aload_n hx hb dL_law_1176 rfl (lv_at hl 0 rfl) ?_
  refine lv_iload_n hx hb dL_law_1177 rfl (lv_at hl 3 rfl) ?_
  refine lv_iconst (v := (4 : Int32)) hx hb dL_law_1178 (by decide) ?_
  refine lv_iadd hx hb dL_law_1179 ?_
  refine l_sld X h.2.2 v4 dL_law_1180 ?_
  refine lv_aload_n hx hb dL_law_1181 rfl (lv_at hl 0 rfl) ?_
  refine lv_iload_n hx hb dL_law_1182 rfl (lv_at hl 3 rfl) ?_
  refine lv_iconst (v := (5 : Int32)) hx hb dL_law_1183 (by decide) ?_
  refine lv_iadd hx hb dL_law_1184 ?_
  refine l_sld X h.2.2 v5 dL_law_1185 ?_
  refine l_C (rest := []) (As := [.int (xs (x + (1 : Int32)).toNatClampNeg), .int (xs (x + (2 : Int32)).toNatClampNeg), .int (xs (x + (3 : Int32)).toNatClampNeg), .int (xs (x + (4 : Int32)).toNatClampNeg), .int (xs (x + (5 : Int32)).toNatClampNeg)]) X h hl.1 (c_X6_move l GC hOC (xs (x + (1 : Int32)).toNatClampNeg) (xs (x + (2 : Int32)).toNatClampNeg) (xs (x + (3 : Int32)).toNatClampNeg) (xs (x + (4 : Int32)).toNatClampNeg) (xs (x + (5 : Int32)).toNatClampNeg) hC _ _ hw) gk_L_132 rfl hd_X6_move ⟨rfl, rfl⟩ ⟨Nat.le_of_ble_eq_true rfl, Nat.le_of_ble_eq_true rfl⟩ rfl (Nat.le_of_ble_eq_true rfl) dL_law_1186 (fun r μ1 H locs hw h => ?_)
  refine lv_aload_n hx hb dL_law_1189 rfl (lv_at hl 2 rfl) ?_
  refine lv_aload_n hx hb dL_law_1190 rfl (lv_at hl 0 rfl) ?_
  refine lv_iload_n hx hb dL_law_1191 rfl (lv_at hl 3 rfl) ?_
  refine lv_iconst (v := (1 : Int32)) hx hb dL_law_1192 (by decide) ?_
  refine lv_iadd hx hb dL_law_1193 ?_
  refine l_sld X h.2.2 v1 dL_law_1194 ?_
  refine lv_aload_n hx hb dL_law_1195 rfl (lv_at hl 0 rfl) ?_
  refine lv_iload_n hx hb dL_law_1196 rfl (lv_at hl 3 rfl) ?_
  refine lv_iconst (v := (2 : Int32)) hx hb dL_law_1197 (by decide) ?_
  refine lv_iadd hx hb dL_law_1198 ?_
  refine l_sld X h.2.2 v2 dL_law_1199 ?_
  refine lv_aload_n hx hb dL_law_1200 rfl (lv_at hl 0 rfl) ?_
  refine lv_iload_n hx hb dL_law_1201 rfl (lv_at hl 3 rfl) ?_
  refine lv_iconst (v := (3 : Int32)) hx hb dL_law_1202 (by decide) ?_
  refine lv_iadd hx hb dL_law_1203 ?_
  refine l_sld X h.2.2 v3 dL_law_1204 ?_
  refine lv_aload_n hx hb dL_law_1205 rfl (lv_at hl 0 rfl) ?_
  refine lv_iload_n hx hb dL_law_1206 rfl (lv_at hl 3 rfl) ?_
  refine lv_iconst (v := (4 : Int32)) hx hb dL_law_1207 (by decide) ?_
  refine lv_iadd hx hb dL_law_1208 ?_
  refine l_sld X h.2.2 v4 dL_law_1209 ?_
  refine lv_aload_n hx hb dL_law_1210 rfl (lv_at hl 0 rfl) ?_
  refine lv_iload_n hx hb dL_law_1211 rfl (lv_at hl 3 rfl) ?_
  refine lv_iconst (v := (5 : Int32)) hx hb dL_law_1212 (by decide) ?_
  refine lv_iadd hx hb dL_law_1213 ?_
  refine l_sld X h.2.2 v5 dL_law_1214 ?_
  refine l_R (rest := [.int (r)]) (As := [.int (xs (x + (1 : Int32)).toNatClampNeg), .int (xs (x + (2 : Int32)).toNatClampNeg), .int (xs (x + (3 : Int32)).toNatClampNeg), .int (xs (x + (4 : Int32)).toNatClampNeg), .int (xs (x + (5 : Int32)).toNatClampNeg)]) X h hl.1 (c_X7_move l GR hOR (xs (x + (1 : Int32)).toNatClampNeg) (xs (x + (2 : Int32)).toNatClampNeg) (xs (x + (3 : Int32)).toNatClampNeg) (xs (x + (4 : Int32)).toNatClampNeg) (xs (x + (5 : Int32)).toNatClampNeg) hR _ _ hw) gk_L_136 rfl hd_X7_move ⟨rfl, rfl⟩ ⟨Nat.le_of_ble_eq_true rfl, Nat.le_of_ble_eq_true rfl⟩ rfl (Nat.le_of_ble_eq_true rfl) dL_law_1215 (fun r2 μ2 H locs hw h => ?_)
  refine lv_icmp_eq (tgt := 1377) hx hb dL_law_1218 (by decide) (fun _ => ?_) (fun hc => absurd hw.1 hc)
  exact kk μ1 μ2 H locs hw.2 h
set_option maxRecDepth 100000 in
set_option maxHeartbeats 4000000 in
theorem lc_lays {Rl : vM → vM → Prop} {GC GR : vG} {p : Program} {l : Launch} {e : Env} {s : State} {m : MethodId} {below : List Frame} {meth : Method} {c : Code} {b L : Nat} {xs : Nat → Int32} {ls : Array Slot} {x : Int32} {μC μR : vM} {H : Heap} {locs : List Loc} (X : lx GC GR p s m meth c b L xs) (h : lb GC GR s μC μR H locs) (hl : lv_has ls 4 [(0, .ref b), (1, .ref (ga GC 0)), (2, .ref (ga GR 0)), (3, .int x)]) (hs : sm_lays Rl) (hr : Rl μC μR) (v1 : vp_in (x + (1 : Int32)) L) (v2 : vp_in (x + (2 : Int32)) L) (v3 : vp_in (x + (3 : Int32)) L) (v4 : vp_in (x + (4 : Int32)) L) (v5 : vp_in (x + (5 : Int32)) L) (kk : ∀ (μC μR : vM) (H : Heap) (locs : List Loc), Rl μC μR → lb GC GR s μC μR H locs → W p l e room_1 s m #[Value.ref b] below meth c H locs 600000 7302249 (lw_Z below #[Value.ref b] s) (F0 m 1377 ls [])) : W p l e room_1 s m #[Value.ref b] below meth c H locs 600000 7302249 (lw_Z below #[Value.ref b] s) (F0 m 1223 ls []) := by
  have hx := X.1
  have hb := X.2.1
  obtain ⟨hOC, hOR, hC, hR⟩ := l_ok X
  have hw := hs (xs (x + (1 : Int32)).toNatClampNeg) μC μR hr
  refine lv_aload_n hx hb dL_law_1223 rfl (lv_at hl 1 rfl) ?_
  refine lv_aload_n hx hb dL_law_1224 rfl (lv_at hl 0 rfl) ?_
  refine lv_iload_n hx hb dL_law_1225 rfl (lv_at hl 3 rfl) ?_
  refine lv_iconst (v := (1 : Int32)) hx hb dL_law_1226 (by decide) ?_
  refine lv_iadd hx hb dL_law_1227 ?_
  refine l_sld X h.2.2 v1 dL_law_1228 ?_
  refine l_C (rest := []) (As := [.int (xs (x + (1 : Int32)).toNatClampNeg)]) X h hl.1 (c_X6_lays l GC hOC (xs (x + (1 : Int32)).toNatClampNeg) hC _ _ hw) gk_L_137 rfl hd_X6_lays ⟨rfl, rfl⟩ ⟨Nat.le_of_ble_eq_true rfl, Nat.le_of_ble_eq_true rfl⟩ rfl (Nat.le_of_ble_eq_true rfl) dL_law_1229 (fun r μ1 H locs hw h => ?_)
  refine lv_aload_n hx hb dL_law_1232 rfl (lv_at hl 2 rfl) ?_
  refine lv_aload_n hx hb dL_law_1233 rfl (lv_at hl 0 rfl) ?_
  refine lv_iload_n hx hb dL_law_1234 rfl (lv_at hl 3 rfl) ?_
  refine lv_iconst (v := (1 : Int32)) hx hb dL_law_1235 (by decide) ?_
  refine lv_iadd hx hb dL_law_1236 ?_
  refine l_sld X h.2.2 v1 dL_law_1237 ?_
  refine l_R (rest := [.int (r)]) (As := [.int (xs (x + (1 : Int32)).toNatClampNeg)]) X h hl.1 (c_X7_lays l GR hOR (xs (x + (1 : Int32)).toNatClampNeg) hR _ _ hw) gk_L_140 rfl hd_X7_lays ⟨rfl, rfl⟩ ⟨Nat.le_of_ble_eq_true rfl, Nat.le_of_ble_eq_true rfl⟩ rfl (Nat.le_of_ble_eq_true rfl) dL_law_1238 (fun r2 μ2 H locs hw h => ?_)
  refine lv_icmp_eq (tgt := 1377) hx hb dL_law_1241 (by decide) (fun _ => ?_) (fun hc => absurd hw.1 hc)
  exact kk μ1 μ2 H locs hw.2 h
set_option maxRecDepth 100000 in
set_option maxHeartbeats 4000000 in
theorem lc_judge {Rl : vM → vM → Prop} {GC GR : vG} {p : Program} {l : Launch} {e : Env} {s : State} {m : MethodId} {below : List Frame} {meth : Method} {c : Code} {b L : Nat} {xs : Nat → Int32} {ls : Array Slot} {x : Int32} {μC μR : vM} {H : Heap} {locs : List Loc} (X : lx GC GR p s m meth c b L xs) (h : lb GC GR s μC μR H locs) (hl : lv_has ls 4 [(0, .ref b), (1, .ref (ga GC 0)), (2, .ref (ga GR 0)), (3, .int x)]) (hs : sm_judge Rl) (hr : Rl μC μR) (v1 : vp_in (x + (1 : Int32)) L) (v2 : vp_in (x + (2 : Int32)) L) (v3 : vp_in (x + (3 : Int32)) L) (v4 : vp_in (x + (4 : Int32)) L) (v5 : vp_in (x + (5 : Int32)) L) (kk : ∀ (μC μR : vM) (H : Heap) (locs : List Loc), Rl μC μR → lb GC GR s μC μR H locs → W p l e room_1 s m #[Value.ref b] below meth c H locs 600000 7302249 (lw_Z below #[Value.ref b] s) (F0 m 1377 ls [])) : W p l e room_1 s m #[Value.ref b] below meth c H locs 600000 7302249 (lw_Z below #[Value.ref b] s) (F0 m 1246 ls []) := by
  have hx := X.1
  have hb := X.2.1
  obtain ⟨hOC, hOR, hC, hR⟩ := l_ok X
  have hw := hs (xs (x + (1 : Int32)).toNatClampNeg) μC μR hr
  refine lv_aload_n hx hb dL_law_1246 rfl (lv_at hl 1 rfl) ?_
  refine lv_aload_n hx hb dL_law_1247 rfl (lv_at hl 0 rfl) ?_
  refine lv_iload_n hx hb dL_law_1248 rfl (lv_at hl 3 rfl) ?_
  refine lv_iconst (v := (1 : Int32)) hx hb dL_law_1249 (by decide) ?_
  refine lv_iadd hx hb dL_law_1250 ?_
  refine l_sld X h.2.2 v1 dL_law_1251 ?_
  refine l_C (rest := []) (As := [.int (xs (x + (1 : Int32)).toNatClampNeg)]) X h hl.1 (c_X6_judge l GC hOC (xs (x + (1 : Int32)).toNatClampNeg) hC _ _ hw) gk_L_141 rfl hd_X6_judge ⟨rfl, rfl⟩ ⟨Nat.le_of_ble_eq_true rfl, Nat.le_of_ble_eq_true rfl⟩ rfl (Nat.le_of_ble_eq_true rfl) dL_law_1252 (fun r μ1 H locs hw h => ?_)
  refine lv_aload_n hx hb dL_law_1255 rfl (lv_at hl 2 rfl) ?_
  refine lv_aload_n hx hb dL_law_1256 rfl (lv_at hl 0 rfl) ?_
  refine lv_iload_n hx hb dL_law_1257 rfl (lv_at hl 3 rfl) ?_
  refine lv_iconst (v := (1 : Int32)) hx hb dL_law_1258 (by decide) ?_
  refine lv_iadd hx hb dL_law_1259 ?_
  refine l_sld X h.2.2 v1 dL_law_1260 ?_
  refine l_R (rest := [.int (r)]) (As := [.int (xs (x + (1 : Int32)).toNatClampNeg)]) X h hl.1 (c_X7_judge l GR hOR (xs (x + (1 : Int32)).toNatClampNeg) hR _ _ hw) gk_L_144 rfl hd_X7_judge ⟨rfl, rfl⟩ ⟨Nat.le_of_ble_eq_true rfl, Nat.le_of_ble_eq_true rfl⟩ rfl (Nat.le_of_ble_eq_true rfl) dL_law_1261 (fun r2 μ2 H locs hw h => ?_)
  refine lv_icmp_eq (tgt := 1377) hx hb dL_law_1264 (by decide) (fun _ => ?_) (fun hc => absurd hw.1 hc)
  exact kk μ1 μ2 H locs hw.2 h
set_option maxRecDepth 100000 in
set_option maxHeartbeats 4000000 in
theorem lc_image {Rl : vM → vM → Prop} {GC GR : vG} {p : Program} {l : Launch} {e : Env} {s : State} {m : MethodId} {below : List Frame} {meth : Method} {c : Code} {b L : Nat} {xs : Nat → Int32} {ls : Array Slot} {x : Int32} {μC μR : vM} {H : Heap} {locs : List Loc} (X : lx GC GR p s m meth c b L xs) (h : lb GC GR s μC μR H locs) (hl : lv_has ls 4 [(0, .ref b), (1, .ref (ga GC 0)), (2, .ref (ga GR 0)), (3, .int x)]) (hs : sm_image Rl) (hr : Rl μC μR) (v1 : vp_in (x + (1 : Int32)) L) (v2 : vp_in (x + (2 : Int32)) L) (v3 : vp_in (x + (3 : Int32)) L) (v4 : vp_in (x + (4 : Int32)) L) (v5 : vp_in (x + (5 : Int32)) L) (kk : ∀ (μC μR : vM) (H : Heap) (locs : List Loc), Rl μC μR → lb GC GR s μC μR H locs → W p l e room_1 s m #[Value.ref b] below meth c H locs 600000 7302249 (lw_Z below #[Value.ref b] s) (F0 m 1377 ls [])) : W p l e room_1 s m #[Value.ref b] below meth c H locs 600000 7302249 (lw_Z below #[Value.ref b] s) (F0 m 1269 ls []) := by
  have hx := X.1
  have hb := X.2.1
  obtain ⟨hOC, hOR, hC, hR⟩ := l_ok X
  have hw := hs  μC μR hr
  refine lv_aload_n hx hb dL_law_1269 rfl (lv_at hl 1 rfl) ?_
  refine l_C (rest := []) (As := []) X h hl.1 (c_X6_image l GC hOC  hC _ _ hw) gk_L_145 rfl hd_X6_image ⟨rfl, rfl⟩ ⟨Nat.le_of_ble_eq_true rfl, Nat.le_of_ble_eq_true rfl⟩ rfl (Nat.le_of_ble_eq_true rfl) dL_law_1270 (fun r μ1 H locs hw h => ?_)
  refine lv_aload_n hx hb dL_law_1273 rfl (lv_at hl 2 rfl) ?_
  refine l_R (rest := [.int (r)]) (As := []) X h hl.1 (c_X7_image l GR hOR  hR _ _ hw) gk_L_149 rfl hd_X7_image ⟨rfl, rfl⟩ ⟨Nat.le_of_ble_eq_true rfl, Nat.le_of_ble_eq_true rfl⟩ rfl (Nat.le_of_ble_eq_true rfl) dL_law_1274 (fun r2 μ2 H locs hw h => ?_)
  refine lv_icmp_eq (tgt := 1377) hx hb dL_law_1277 (by decide) (fun _ => ?_) (fun hc => absurd hw.1 hc)
  exact kk μ1 μ2 H locs hw.2 h
set_option maxRecDepth 100000 in
set_option maxHeartbeats 4000000 in
theorem lc_restore {Rl : vM → vM → Prop} {GC GR : vG} {p : Program} {l : Launch} {e : Env} {s : State} {m : MethodId} {below : List Frame} {meth : Method} {c : Code} {b L : Nat} {xs : Nat → Int32} {ls : Array Slot} {x : Int32} {μC μR : vM} {H : Heap} {locs : List Loc} (X : lx GC GR p s m meth c b L xs) (h : lb GC GR s μC μR H locs) (hl : lv_has ls 4 [(0, .ref b), (1, .ref (ga GC 0)), (2, .ref (ga GR 0)), (3, .int x)]) (hs : sm_restore Rl) (hr : Rl μC μR) (v1 : vp_in (x + (1 : Int32)) L) (v2 : vp_in (x + (2 : Int32)) L) (v3 : vp_in (x + (3 : Int32)) L) (v4 : vp_in (x + (4 : Int32)) L) (v5 : vp_in (x + (5 : Int32)) L) (kk : ∀ (μC μR : vM) (H : Heap) (locs : List Loc), Rl μC μR → lb GC GR s μC μR H locs → W p l e room_1 s m #[Value.ref b] below meth c H locs 600000 7302249 (lw_Z below #[Value.ref b] s) (F0 m 1377 ls [])) : W p l e room_1 s m #[Value.ref b] below meth c H locs 600000 7302249 (lw_Z below #[Value.ref b] s) (F0 m 1282 ls []) := by
  have hx := X.1
  have hb := X.2.1
  obtain ⟨hOC, hOR, hC, hR⟩ := l_ok X
  have hw := hs  μC μR hr
  refine lv_aload_n hx hb dL_law_1282 rfl (lv_at hl 1 rfl) ?_
  refine l_C (rest := []) (As := []) X h hl.1 (c_X6_restore l GC hOC  hC _ _ hw) gk_L_150 rfl hd_X6_restore ⟨rfl, rfl⟩ ⟨Nat.le_of_ble_eq_true rfl, Nat.le_of_ble_eq_true rfl⟩ rfl (Nat.le_of_ble_eq_true rfl) dL_law_1283 (fun r μ1 H locs hw h => ?_)
  refine lv_aload_n hx hb dL_law_1286 rfl (lv_at hl 2 rfl) ?_
  refine l_R (rest := [.int (r)]) (As := []) X h hl.1 (c_X7_restore l GR hOR  hR _ _ hw) gk_L_153 rfl hd_X7_restore ⟨rfl, rfl⟩ ⟨Nat.le_of_ble_eq_true rfl, Nat.le_of_ble_eq_true rfl⟩ rfl (Nat.le_of_ble_eq_true rfl) dL_law_1287 (fun r2 μ2 H locs hw h => ?_)
  refine lv_icmp_eq (tgt := 1377) hx hb dL_law_1290 (by decide) (fun _ => ?_) (fun hc => absurd hw.1 hc)
  exact kk μ1 μ2 H locs hw.2 h
set_option maxRecDepth 100000 in
set_option maxHeartbeats 4000000 in
theorem lc_tell {Rl : vM → vM → Prop} {GC GR : vG} {p : Program} {l : Launch} {e : Env} {s : State} {m : MethodId} {below : List Frame} {meth : Method} {c : Code} {b L : Nat} {xs : Nat → Int32} {ls : Array Slot} {x : Int32} {μC μR : vM} {H : Heap} {locs : List Loc} (X : lx GC GR p s m meth c b L xs) (h : lb GC GR s μC μR H locs) (hl : lv_has ls 4 [(0, .ref b), (1, .ref (ga GC 0)), (2, .ref (ga GR 0)), (3, .int x)]) (hs : sm_tell Rl) (hr : Rl μC μR) (v1 : vp_in (x + (1 : Int32)) L) (v2 : vp_in (x + (2 : Int32)) L) (v3 : vp_in (x + (3 : Int32)) L) (v4 : vp_in (x + (4 : Int32)) L) (v5 : vp_in (x + (5 : Int32)) L) (kk : ∀ (μC μR : vM) (H : Heap) (locs : List Loc), Rl μC μR → lb GC GR s μC μR H locs → W p l e room_1 s m #[Value.ref b] below meth c H locs 600000 7302249 (lw_Z below #[Value.ref b] s) (F0 m 1377 ls [])) : W p l e room_1 s m #[Value.ref b] below meth c H locs 600000 7302249 (lw_Z below #[Value.ref b] s) (F0 m 1295 ls []) := by
  have hx := X.1
  have hb := X.2.1
  obtain ⟨hOC, hOR, hC, hR⟩ := l_ok X
  have hw := hs (xs (x + (1 : Int32)).toNatClampNeg) μC μR hr
  refine lv_aload_n hx hb dL_law_1295 rfl (lv_at hl 1 rfl) ?_
  refine lv_aload_n hx hb dL_law_1296 rfl (lv_at hl 0 rfl) ?_
  refine lv_iload_n hx hb dL_law_1297 rfl (lv_at hl 3 rfl) ?_
  refine lv_iconst (v := (1 : Int32)) hx hb dL_law_1298 (by decide) ?_
  refine lv_iadd hx hb dL_law_1299 ?_
  refine l_sld X h.2.2 v1 dL_law_1300 ?_
  refine l_C (rest := []) (As := [.int (xs (x + (1 : Int32)).toNatClampNeg)]) X h hl.1 (c_X6_tell l GC hOC (xs (x + (1 : Int32)).toNatClampNeg) hC _ _ hw) gk_L_154 rfl hd_X6_tell ⟨rfl, rfl⟩ ⟨Nat.le_of_ble_eq_true rfl, Nat.le_of_ble_eq_true rfl⟩ rfl (Nat.le_of_ble_eq_true rfl) dL_law_1301 (fun r μ1 H locs hw h => ?_)
  refine lv_aload_n hx hb dL_law_1304 rfl (lv_at hl 2 rfl) ?_
  refine lv_aload_n hx hb dL_law_1305 rfl (lv_at hl 0 rfl) ?_
  refine lv_iload_n hx hb dL_law_1306 rfl (lv_at hl 3 rfl) ?_
  refine lv_iconst (v := (1 : Int32)) hx hb dL_law_1307 (by decide) ?_
  refine lv_iadd hx hb dL_law_1308 ?_
  refine l_sld X h.2.2 v1 dL_law_1309 ?_
  refine l_R (rest := [.int (r)]) (As := [.int (xs (x + (1 : Int32)).toNatClampNeg)]) X h hl.1 (c_X7_tell l GR hOR (xs (x + (1 : Int32)).toNatClampNeg) hR _ _ hw) gk_L_157 rfl hd_X7_tell ⟨rfl, rfl⟩ ⟨Nat.le_of_ble_eq_true rfl, Nat.le_of_ble_eq_true rfl⟩ rfl (Nat.le_of_ble_eq_true rfl) dL_law_1310 (fun r2 μ2 H locs hw h => ?_)
  refine lv_icmp_eq (tgt := 1377) hx hb dL_law_1313 (by decide) (fun _ => ?_) (fun hc => absurd hw.1 hc)
  exact kk μ1 μ2 H locs hw.2 h
set_option maxRecDepth 100000 in
set_option maxHeartbeats 4000000 in
theorem lc_check {Rl : vM → vM → Prop} {GC GR : vG} {p : Program} {l : Launch} {e : Env} {s : State} {m : MethodId} {below : List Frame} {meth : Method} {c : Code} {b L : Nat} {xs : Nat → Int32} {ls : Array Slot} {x : Int32} {μC μR : vM} {H : Heap} {locs : List Loc} (X : lx GC GR p s m meth c b L xs) (h : lb GC GR s μC μR H locs) (hl : lv_has ls 4 [(0, .ref b), (1, .ref (ga GC 0)), (2, .ref (ga GR 0)), (3, .int x)]) (hs : sm_check Rl) (hr : Rl μC μR) (v1 : vp_in (x + (1 : Int32)) L) (v2 : vp_in (x + (2 : Int32)) L) (v3 : vp_in (x + (3 : Int32)) L) (v4 : vp_in (x + (4 : Int32)) L) (v5 : vp_in (x + (5 : Int32)) L) (kk : ∀ (μC μR : vM) (H : Heap) (locs : List Loc), Rl μC μR → lb GC GR s μC μR H locs → W p l e room_1 s m #[Value.ref b] below meth c H locs 600000 7302249 (lw_Z below #[Value.ref b] s) (F0 m 1377 ls [])) : W p l e room_1 s m #[Value.ref b] below meth c H locs 600000 7302249 (lw_Z below #[Value.ref b] s) (F0 m 1318 ls []) := by
  have hx := X.1
  have hb := X.2.1
  obtain ⟨hOC, hOR, hC, hR⟩ := l_ok X
  have hw := hs  μC μR hr
  refine lv_aload_n hx hb dL_law_1318 rfl (lv_at hl 1 rfl) ?_
  refine l_C (rest := []) (As := []) X h hl.1 (c_X6_check l GC hOC  hC _ _ hw) gk_L_158 rfl hd_X6_check ⟨rfl, rfl⟩ ⟨Nat.le_of_ble_eq_true rfl, Nat.le_of_ble_eq_true rfl⟩ rfl (Nat.le_of_ble_eq_true rfl) dL_law_1319 (fun r μ1 H locs hw h => ?_)
  refine lv_aload_n hx hb dL_law_1322 rfl (lv_at hl 2 rfl) ?_
  refine l_R (rest := [.int (r)]) (As := []) X h hl.1 (c_X7_check l GR hOR  hR _ _ hw) gk_L_161 rfl hd_X7_check ⟨rfl, rfl⟩ ⟨Nat.le_of_ble_eq_true rfl, Nat.le_of_ble_eq_true rfl⟩ rfl (Nat.le_of_ble_eq_true rfl) dL_law_1323 (fun r2 μ2 H locs hw h => ?_)
  refine lv_icmp_eq (tgt := 1377) hx hb dL_law_1326 (by decide) (fun _ => ?_) (fun hc => absurd hw.1 hc)
  exact kk μ1 μ2 H locs hw.2 h
set_option maxRecDepth 100000 in
set_option maxHeartbeats 4000000 in
theorem lc_count {Rl : vM → vM → Prop} {GC GR : vG} {p : Program} {l : Launch} {e : Env} {s : State} {m : MethodId} {below : List Frame} {meth : Method} {c : Code} {b L : Nat} {xs : Nat → Int32} {ls : Array Slot} {x : Int32} {μC μR : vM} {H : Heap} {locs : List Loc} (X : lx GC GR p s m meth c b L xs) (h : lb GC GR s μC μR H locs) (hl : lv_has ls 4 [(0, .ref b), (1, .ref (ga GC 0)), (2, .ref (ga GR 0)), (3, .int x)]) (hs : sm_count Rl) (hr : Rl μC μR) (v1 : vp_in (x + (1 : Int32)) L) (v2 : vp_in (x + (2 : Int32)) L) (v3 : vp_in (x + (3 : Int32)) L) (v4 : vp_in (x + (4 : Int32)) L) (v5 : vp_in (x + (5 : Int32)) L) (kk : ∀ (μC μR : vM) (H : Heap) (locs : List Loc), Rl μC μR → lb GC GR s μC μR H locs → W p l e room_1 s m #[Value.ref b] below meth c H locs 600000 7302249 (lw_Z below #[Value.ref b] s) (F0 m 1377 ls [])) : W p l e room_1 s m #[Value.ref b] below meth c H locs 600000 7302249 (lw_Z below #[Value.ref b] s) (F0 m 1331 ls []) := by
  have hx := X.1
  have hb := X.2.1
  obtain ⟨hOC, hOR, hC, hR⟩ := l_ok X
  have hw := hs (xs (x + (1 : Int32)).toNatClampNeg) μC μR hr
  refine lv_aload_n hx hb dL_law_1331 rfl (lv_at hl 1 rfl) ?_
  refine lv_aload_n hx hb dL_law_1332 rfl (lv_at hl 0 rfl) ?_
  refine lv_iload_n hx hb dL_law_1333 rfl (lv_at hl 3 rfl) ?_
  refine lv_iconst (v := (1 : Int32)) hx hb dL_law_1334 (by decide) ?_
  refine lv_iadd hx hb dL_law_1335 ?_
  refine l_sld X h.2.2 v1 dL_law_1336 ?_
  refine l_C (rest := []) (As := [.int (xs (x + (1 : Int32)).toNatClampNeg)]) X h hl.1 (c_X6_count l GC hOC (xs (x + (1 : Int32)).toNatClampNeg) hC _ _ hw) gk_L_162 rfl hd_X6_count ⟨rfl, rfl⟩ ⟨Nat.le_of_ble_eq_true rfl, Nat.le_of_ble_eq_true rfl⟩ rfl (Nat.le_of_ble_eq_true rfl) dL_law_1337 (fun r μ1 H locs hw h => ?_)
  refine lv_aload_n hx hb dL_law_1340 rfl (lv_at hl 2 rfl) ?_
  refine lv_aload_n hx hb dL_law_1341 rfl (lv_at hl 0 rfl) ?_
  refine lv_iload_n hx hb dL_law_1342 rfl (lv_at hl 3 rfl) ?_
  refine lv_iconst (v := (1 : Int32)) hx hb dL_law_1343 (by decide) ?_
  refine lv_iadd hx hb dL_law_1344 ?_
  refine l_sld X h.2.2 v1 dL_law_1345 ?_
  refine l_R (rest := [.int (r)]) (As := [.int (xs (x + (1 : Int32)).toNatClampNeg)]) X h hl.1 (c_X7_count l GR hOR (xs (x + (1 : Int32)).toNatClampNeg) hR _ _ hw) gk_L_165 rfl hd_X7_count ⟨rfl, rfl⟩ ⟨Nat.le_of_ble_eq_true rfl, Nat.le_of_ble_eq_true rfl⟩ rfl (Nat.le_of_ble_eq_true rfl) dL_law_1346 (fun r2 μ2 H locs hw h => ?_)
  refine lv_icmp_eq (tgt := 1377) hx hb dL_law_1349 (by decide) (fun _ => ?_) (fun hc => absurd hw.1 hc)
  exact kk μ1 μ2 H locs hw.2 h
set_option maxRecDepth 100000 in
set_option maxHeartbeats 4000000 in
theorem lc_told {Rl : vM → vM → Prop} {GC GR : vG} {p : Program} {l : Launch} {e : Env} {s : State} {m : MethodId} {below : List Frame} {meth : Method} {c : Code} {b L : Nat} {xs : Nat → Int32} {ls : Array Slot} {x : Int32} {μC μR : vM} {H : Heap} {locs : List Loc} (X : lx GC GR p s m meth c b L xs) (h : lb GC GR s μC μR H locs) (hl : lv_has ls 4 [(0, .ref b), (1, .ref (ga GC 0)), (2, .ref (ga GR 0)), (3, .int x)]) (hs : sm_told Rl) (hr : Rl μC μR) (v1 : vp_in (x + (1 : Int32)) L) (v2 : vp_in (x + (2 : Int32)) L) (v3 : vp_in (x + (3 : Int32)) L) (v4 : vp_in (x + (4 : Int32)) L) (v5 : vp_in (x + (5 : Int32)) L) (kk : ∀ (μC μR : vM) (H : Heap) (locs : List Loc), Rl μC μR → lb GC GR s μC μR H locs → W p l e room_1 s m #[Value.ref b] below meth c H locs 600000 7302249 (lw_Z below #[Value.ref b] s) (F0 m 1377 ls [])) : W p l e room_1 s m #[Value.ref b] below meth c H locs 600000 7302249 (lw_Z below #[Value.ref b] s) (F0 m 1354 ls []) := by
  have hx := X.1
  have hb := X.2.1
  obtain ⟨hOC, hOR, hC, hR⟩ := l_ok X
  have hw := hs (xs (x + (1 : Int32)).toNatClampNeg) μC μR hr
  refine lv_aload_n hx hb dL_law_1354 rfl (lv_at hl 1 rfl) ?_
  refine lv_aload_n hx hb dL_law_1355 rfl (lv_at hl 0 rfl) ?_
  refine lv_iload_n hx hb dL_law_1356 rfl (lv_at hl 3 rfl) ?_
  refine lv_iconst (v := (1 : Int32)) hx hb dL_law_1357 (by decide) ?_
  refine lv_iadd hx hb dL_law_1358 ?_
  refine l_sld X h.2.2 v1 dL_law_1359 ?_
  refine l_C (rest := []) (As := [.int (xs (x + (1 : Int32)).toNatClampNeg)]) X h hl.1 (c_X6_told l GC hOC (xs (x + (1 : Int32)).toNatClampNeg) hC _ _ hw) gk_L_166 rfl hd_X6_told ⟨rfl, rfl⟩ ⟨Nat.le_of_ble_eq_true rfl, Nat.le_of_ble_eq_true rfl⟩ rfl (Nat.le_of_ble_eq_true rfl) dL_law_1360 (fun r μ1 H locs hw h => ?_)
  refine lv_aload_n hx hb dL_law_1363 rfl (lv_at hl 2 rfl) ?_
  refine lv_aload_n hx hb dL_law_1364 rfl (lv_at hl 0 rfl) ?_
  refine lv_iload_n hx hb dL_law_1365 rfl (lv_at hl 3 rfl) ?_
  refine lv_iconst (v := (1 : Int32)) hx hb dL_law_1366 (by decide) ?_
  refine lv_iadd hx hb dL_law_1367 ?_
  refine l_sld X h.2.2 v1 dL_law_1368 ?_
  refine l_R (rest := [.int (r)]) (As := [.int (xs (x + (1 : Int32)).toNatClampNeg)]) X h hl.1 (c_X7_told l GR hOR (xs (x + (1 : Int32)).toNatClampNeg) hR _ _ hw) gk_L_169 rfl hd_X7_told ⟨rfl, rfl⟩ ⟨Nat.le_of_ble_eq_true rfl, Nat.le_of_ble_eq_true rfl⟩ rfl (Nat.le_of_ble_eq_true rfl) dL_law_1369 (fun r2 μ2 H locs hw h => ?_)
  refine lv_icmp_eq (tgt := 1377) hx hb dL_law_1372 (by decide) (fun _ => ?_) (fun hc => absurd hw.1 hc)
  exact kk μ1 μ2 H locs hw.2 h
set_option maxRecDepth 100000 in
set_option maxHeartbeats 4000000 in
theorem law_loop {Rl : vM → vM → Prop} {GC GR : vG} {p : Program} {l : Launch} {e : Env} {s : State} {m : MethodId} {below : List Frame} {meth : Method} {c : Code} {b L : Nat} {xs : Nat → Int32} (X : lx GC GR p s m meth c b L xs) (hs : sm Rl) : ∀ (n i : Nat), L + 7 ≤ i + n → i ≤ L + 6 → ∀ (ls : Array Slot) (x : Int32) (μC μR : vM) (H : Heap) (locs : List Loc), x = nI i → lb GC GR s μC μR H locs → lv_has ls 4 [(0, .ref b), (1, .ref (ga GC 0)), (2, .ref (ga GR 0)), (3, .int x)] → Rl μC μR → W p l e room_1 s m #[Value.ref b] below meth c H locs 600000 7302249 (lw_Z below #[Value.ref b] s) (F0 m 18 ls []) := by
  intro n
  induction n with
  | zero => intro i hi hi2; exact absurd hi (by omega)
  | succ n ih =>
    intro i hi hi2 ls x μC μR H locs ex h hl hr
    have hx := X.1
    have hb := X.2.1
    refine lv_iload_n hx hb dL_law_18 rfl (lv_at hl 3 rfl) ?_
    refine lv_aload_n hx hb dL_law_19 rfl (lv_at hl 0 rfl) ?_
    refine l_slen X h.2.2 dL_law_20 ?_
    refine lv_bipush (v := (6 : Int32)) hx hb dL_law_21 (by decide) ?_
    refine lv_isub hx hb dL_law_23 ?_
    refine lv_icmp_gt (tgt := 1383) hx hb dL_law_24 (by decide) (fun hc => ?_) (fun hc => ?_)
    · exact l_end X h
    · have hin := l_in X hi2 ex hc
      obtain ⟨v0, v1, v2, v3, v4, v5, hiL⟩ := hin
      refine lv_aload_n hx hb dL_law_27 rfl (lv_at hl 0 rfl) ?_
      refine lv_iload_n hx hb dL_law_28 rfl (lv_at hl 3 rfl) ?_
      refine l_sld X h.2.2 v0 dL_law_29 ?_
      refine lv_bipush (v := (63 : Int32)) hx hb dL_law_30 (by decide) ?_
      refine lv_iand hx hb dL_law_32 ?_
      refine lv_topi (fun w ew => ?_)
      have kk : ∀ (μC μR : vM) (H : Heap) (locs : List Loc), Rl μC μR → lb GC GR s μC μR H locs → W p l e room_1 s m #[Value.ref b] below meth c H locs 600000 7302249 (lw_Z below #[Value.ref b] s) (F0 m 1377 ls []) := by
        intro μC μR H locs hr h
        refine lv_iinc (v := x + (6 : Int32)) (lv' := [(3, .int (x + (6 : Int32))), (0, .ref b), (1, .ref (ga GC 0)), (2, .ref (ga GR 0))]) hx hb dL_law_1377 hl (k := 3) rfl rfl (by decide) rfl (fun ls hl => ?_)
        refine lv_goto (tgt := 18) hx hb dL_law_1380 (by decide) ?_
        exact ih (i + 6) (by omega) (by omega) ls (x + (6 : Int32)) μC μR H locs (by rw [ex]; exact l_add6 i) h (lv_sub hl [1, 2, 3, 0] rfl) hr
      obtain ⟨hs0, hs1, hs2, hs3, hs4, hs5, hs6, hs7, hs8, hs9, hs10, hs11, hs12, hs13, hs14, hs15, hs16, hs17, hs18, hs19, hs20, hs21, hs22, hs23, hs24, hs25, hs26, hs27, hs28, hs29, hs30, hs31, hs32, hs33, hs34, hs35, hs36⟩ := hs
      by_cases hc0 : w = (0 : Int32)
      · refine lv_tableIn (off := 163) (tgt := 196) hx hb dL_law_33 (by rw [hc0]; decide) (by rw [hc0]; decide) (by rw [hc0]; rfl) (by decide) ?_
        exact lc_opens X h hl hs0 hr v1 v2 v3 v4 v5 kk
      by_cases hc1 : w = (1 : Int32)
      · refine lv_tableIn (off := 206) (tgt := 239) hx hb dL_law_33 (by rw [hc1]; decide) (by rw [hc1]; decide) (by rw [hc1]; rfl) (by decide) ?_
        exact lc_field X h hl hs1 hr v1 v2 v3 v4 v5 kk
      by_cases hc2 : w = (2 : Int32)
      · refine lv_tableIn (off := 239) (tgt := 272) hx hb dL_law_33 (by rw [hc2]; decide) (by rw [hc2]; decide) (by rw [hc2]; rfl) (by decide) ?_
        exact lc_far X h hl hs2 hr v1 v2 v3 v4 v5 kk
      by_cases hc3 : w = (3 : Int32)
      · refine lv_tableIn (off := 272) (tgt := 305) hx hb dL_law_33 (by rw [hc3]; decide) (by rw [hc3]; decide) (by rw [hc3]; rfl) (by decide) ?_
        exact lc_bit X h hl hs3 hr v1 v2 v3 v4 v5 kk
      by_cases hc4 : w = (4 : Int32)
      · refine lv_tableIn (off := 315) (tgt := 348) hx hb dL_law_33 (by rw [hc4]; decide) (by rw [hc4]; decide) (by rw [hc4]; rfl) (by decide) ?_
        exact lc_bitIs X h hl hs4 hr v1 v2 v3 v4 v5 kk
      by_cases hc5 : w = (5 : Int32)
      · refine lv_tableIn (off := 348) (tgt := 381) hx hb dL_law_33 (by rw [hc5]; decide) (by rw [hc5]; decide) (by rw [hc5]; rfl) (by decide) ?_
        exact lc_become X h hl hs5 hr v1 v2 v3 v4 v5 kk
      by_cases hc6 : w = (6 : Int32)
      · refine lv_tableIn (off := 381) (tgt := 414) hx hb dL_law_33 (by rw [hc6]; decide) (by rw [hc6]; decide) (by rw [hc6]; rfl) (by decide) ?_
        exact lc_as X h hl hs6 hr v1 v2 v3 v4 v5 kk
      by_cases hc7 : w = (7 : Int32)
      · refine lv_tableIn (off := 414) (tgt := 447) hx hb dL_law_33 (by rw [hc7]; decide) (by rw [hc7]; decide) (by rw [hc7]; rfl) (by decide) ?_
        exact lc_hears X h hl hs7 hr v1 v2 v3 v4 v5 kk
      by_cases hc8 : w = (8 : Int32)
      · refine lv_tableIn (off := 447) (tgt := 480) hx hb dL_law_33 (by rw [hc8]; decide) (by rw [hc8]; decide) (by rw [hc8]; rfl) (by decide) ?_
        exact lc_lay X h hl hs8 hr v1 v2 v3 v4 v5 kk
      by_cases hc9 : w = (9 : Int32)
      · refine lv_tableIn (off := 480) (tgt := 513) hx hb dL_law_33 (by rw [hc9]; decide) (by rw [hc9]; decide) (by rw [hc9]; rfl) (by decide) ?_
        exact lc_feed X h hl hs9 hr v1 v2 v3 v4 v5 kk
      by_cases hc10 : w = (10 : Int32)
      · refine lv_tableIn (off := 543) (tgt := 576) hx hb dL_law_33 (by rw [hc10]; decide) (by rw [hc10]; decide) (by rw [hc10]; rfl) (by decide) ?_
        exact lc_text X h hl hs10 hr v1 v2 v3 v4 v5 kk
      by_cases hc11 : w = (11 : Int32)
      · refine lv_tableIn (off := 566) (tgt := 599) hx hb dL_law_33 (by rw [hc11]; decide) (by rw [hc11]; decide) (by rw [hc11]; rfl) (by decide) ?_
        exact lc_untell X h hl hs11 hr v1 v2 v3 v4 v5 kk
      by_cases hc12 : w = (12 : Int32)
      · refine lv_tableIn (off := 589) (tgt := 622) hx hb dL_law_33 (by rw [hc12]; decide) (by rw [hc12]; decide) (by rw [hc12]; rfl) (by decide) ?_
        exact lc_law X h hl hs12 hr v1 v2 v3 v4 v5 kk
      by_cases hc13 : w = (13 : Int32)
      · refine lv_tableIn (off := 642) (tgt := 675) hx hb dL_law_33 (by rw [hc13]; decide) (by rw [hc13]; decide) (by rw [hc13]; rfl) (by decide) ?_
        exact lc_days X h hl hs13 hr v1 v2 v3 v4 v5 kk
      by_cases hc14 : w = (14 : Int32)
      · refine lv_tableIn (off := 665) (tgt := 698) hx hb dL_law_33 (by rw [hc14]; decide) (by rw [hc14]; decide) (by rw [hc14]; rfl) (by decide) ?_
        exact lc_loose X h hl hs14 hr v1 v2 v3 v4 v5 kk
      by_cases hc15 : w = (15 : Int32)
      · refine lv_tableIn (off := 688) (tgt := 721) hx hb dL_law_33 (by rw [hc15]; decide) (by rw [hc15]; decide) (by rw [hc15]; rfl) (by decide) ?_
        exact lc_day X h hl hs15 hr v1 v2 v3 v4 v5 kk
      by_cases hc16 : w = (16 : Int32)
      · refine lv_tableIn (off := 711) (tgt := 744) hx hb dL_law_33 (by rw [hc16]; decide) (by rw [hc16]; decide) (by rw [hc16]; rfl) (by decide) ?_
        exact lc_seed X h hl hs16 hr v1 v2 v3 v4 v5 kk
      by_cases hc17 : w = (17 : Int32)
      · refine lv_tableIn (off := 734) (tgt := 767) hx hb dL_law_33 (by rw [hc17]; decide) (by rw [hc17]; decide) (by rw [hc17]; rfl) (by decide) ?_
        exact lc_then X h hl hs17 hr v1 v2 v3 v4 v5 kk
      by_cases hc18 : w = (18 : Int32)
      · refine lv_tableIn (off := 767) (tgt := 800) hx hb dL_law_33 (by rw [hc18]; decide) (by rw [hc18]; decide) (by rw [hc18]; rfl) (by decide) ?_
        exact lc_soonest X h hl hs18 hr v1 v2 v3 v4 v5 kk
      by_cases hc19 : w = (19 : Int32)
      · refine lv_tableIn (off := 790) (tgt := 823) hx hb dL_law_33 (by rw [hc19]; decide) (by rw [hc19]; decide) (by rw [hc19]; rfl) (by decide) ?_
        exact lc_gets X h hl hs19 hr v1 v2 v3 v4 v5 kk
      by_cases hc20 : w = (20 : Int32)
      · refine lv_tableIn (off := 823) (tgt := 856) hx hb dL_law_33 (by rw [hc20]; decide) (by rw [hc20]; decide) (by rw [hc20]; rfl) (by decide) ?_
        exact lc_carry X h hl hs20 hr v1 v2 v3 v4 v5 kk
      by_cases hc21 : w = (21 : Int32)
      · refine lv_tableIn (off := 866) (tgt := 899) hx hb dL_law_33 (by rw [hc21]; decide) (by rw [hc21]; decide) (by rw [hc21]; rfl) (by decide) ?_
        exact lc_way X h hl hs21 hr v1 v2 v3 v4 v5 kk
      by_cases hc22 : w = (22 : Int32)
      · refine lv_tableIn (off := 899) (tgt := 932) hx hb dL_law_33 (by rw [hc22]; decide) (by rw [hc22]; decide) (by rw [hc22]; rfl) (by decide) ?_
        exact lc_odds X h hl hs22 hr v1 v2 v3 v4 v5 kk
      by_cases hc23 : w = (23 : Int32)
      · refine lv_tableIn (off := 932) (tgt := 965) hx hb dL_law_33 (by rw [hc23]; decide) (by rw [hc23]; decide) (by rw [hc23]; rfl) (by decide) ?_
        exact lc_whose X h hl hs23 hr v1 v2 v3 v4 v5 kk
      by_cases hc24 : w = (24 : Int32)
      · refine lv_tableIn (off := 975) (tgt := 1008) hx hb dL_law_33 (by rw [hc24]; decide) (by rw [hc24]; decide) (by rw [hc24]; rfl) (by decide) ?_
        exact lc_voice X h hl hs24 hr v1 v2 v3 v4 v5 kk
      by_cases hc25 : w = (25 : Int32)
      · refine lv_tableIn (off := 1018) (tgt := 1051) hx hb dL_law_33 (by rw [hc25]; decide) (by rw [hc25]; decide) (by rw [hc25]; rfl) (by decide) ?_
        exact lc_body X h hl hs25 hr v1 v2 v3 v4 v5 kk
      by_cases hc26 : w = (26 : Int32)
      · refine lv_tableIn (off := 1041) (tgt := 1074) hx hb dL_law_33 (by rw [hc26]; decide) (by rw [hc26]; decide) (by rw [hc26]; rfl) (by decide) ?_
        exact lc_sheet X h hl hs26 hr v1 v2 v3 v4 v5 kk
      by_cases hc27 : w = (27 : Int32)
      · refine lv_tableIn (off := 1084) (tgt := 1117) hx hb dL_law_33 (by rw [hc27]; decide) (by rw [hc27]; decide) (by rw [hc27]; rfl) (by decide) ?_
        exact lc_put X h hl hs27 hr v1 v2 v3 v4 v5 kk
      by_cases hc28 : w = (28 : Int32)
      · refine lv_tableIn (off := 1127) (tgt := 1160) hx hb dL_law_33 (by rw [hc28]; decide) (by rw [hc28]; decide) (by rw [hc28]; rfl) (by decide) ?_
        exact lc_move X h hl hs28 hr v1 v2 v3 v4 v5 kk
      by_cases hc29 : w = (29 : Int32)
      · refine lv_tableIn (off := 1190) (tgt := 1223) hx hb dL_law_33 (by rw [hc29]; decide) (by rw [hc29]; decide) (by rw [hc29]; rfl) (by decide) ?_
        exact lc_lays X h hl hs29 hr v1 v2 v3 v4 v5 kk
      by_cases hc30 : w = (30 : Int32)
      · refine lv_tableIn (off := 1213) (tgt := 1246) hx hb dL_law_33 (by rw [hc30]; decide) (by rw [hc30]; decide) (by rw [hc30]; rfl) (by decide) ?_
        exact lc_judge X h hl hs30 hr v1 v2 v3 v4 v5 kk
      by_cases hc31 : w = (31 : Int32)
      · refine lv_tableIn (off := 1236) (tgt := 1269) hx hb dL_law_33 (by rw [hc31]; decide) (by rw [hc31]; decide) (by rw [hc31]; rfl) (by decide) ?_
        exact lc_image X h hl hs31 hr v1 v2 v3 v4 v5 kk
      by_cases hc32 : w = (32 : Int32)
      · refine lv_tableIn (off := 1249) (tgt := 1282) hx hb dL_law_33 (by rw [hc32]; decide) (by rw [hc32]; decide) (by rw [hc32]; rfl) (by decide) ?_
        exact lc_restore X h hl hs32 hr v1 v2 v3 v4 v5 kk
      by_cases hc33 : w = (33 : Int32)
      · refine lv_tableIn (off := 1262) (tgt := 1295) hx hb dL_law_33 (by rw [hc33]; decide) (by rw [hc33]; decide) (by rw [hc33]; rfl) (by decide) ?_
        exact lc_tell X h hl hs33 hr v1 v2 v3 v4 v5 kk
      by_cases hc34 : w = (34 : Int32)
      · refine lv_tableIn (off := 1285) (tgt := 1318) hx hb dL_law_33 (by rw [hc34]; decide) (by rw [hc34]; decide) (by rw [hc34]; rfl) (by decide) ?_
        exact lc_check X h hl hs34 hr v1 v2 v3 v4 v5 kk
      by_cases hc35 : w = (35 : Int32)
      · refine lv_tableIn (off := 1298) (tgt := 1331) hx hb dL_law_33 (by rw [hc35]; decide) (by rw [hc35]; decide) (by rw [hc35]; rfl) (by decide) ?_
        exact lc_count X h hl hs35 hr v1 v2 v3 v4 v5 kk
      by_cases hc36 : w = (36 : Int32)
      · refine lv_tableIn (off := 1321) (tgt := 1354) hx hb dL_law_33 (by rw [hc36]; decide) (by rw [hc36]; decide) (by rw [hc36]; rfl) (by decide) ?_
        exact lc_told X h hl hs36 hr v1 v2 v3 v4 v5 kk
      refine lv_tableOut (tgt := 1377) hx hb dL_law_33 (by have q0 := lv_neT hc0 (a := 0) (by decide); have q1 := lv_neT hc1 (a := 1) (by decide); have q2 := lv_neT hc2 (a := 2) (by decide); have q3 := lv_neT hc3 (a := 3) (by decide); have q4 := lv_neT hc4 (a := 4) (by decide); have q5 := lv_neT hc5 (a := 5) (by decide); have q6 := lv_neT hc6 (a := 6) (by decide); have q7 := lv_neT hc7 (a := 7) (by decide); have q8 := lv_neT hc8 (a := 8) (by decide); have q9 := lv_neT hc9 (a := 9) (by decide); have q10 := lv_neT hc10 (a := 10) (by decide); have q11 := lv_neT hc11 (a := 11) (by decide); have q12 := lv_neT hc12 (a := 12) (by decide); have q13 := lv_neT hc13 (a := 13) (by decide); have q14 := lv_neT hc14 (a := 14) (by decide); have q15 := lv_neT hc15 (a := 15) (by decide); have q16 := lv_neT hc16 (a := 16) (by decide); have q17 := lv_neT hc17 (a := 17) (by decide); have q18 := lv_neT hc18 (a := 18) (by decide); have q19 := lv_neT hc19 (a := 19) (by decide); have q20 := lv_neT hc20 (a := 20) (by decide); have q21 := lv_neT hc21 (a := 21) (by decide); have q22 := lv_neT hc22 (a := 22) (by decide); have q23 := lv_neT hc23 (a := 23) (by decide); have q24 := lv_neT hc24 (a := 24) (by decide); have q25 := lv_neT hc25 (a := 25) (by decide); have q26 := lv_neT hc26 (a := 26) (by decide); have q27 := lv_neT hc27 (a := 27) (by decide); have q28 := lv_neT hc28 (a := 28) (by decide); have q29 := lv_neT hc29 (a := 29) (by decide); have q30 := lv_neT hc30 (a := 30) (by decide); have q31 := lv_neT hc31 (a := 31) (by decide); have q32 := lv_neT hc32 (a := 32) (by decide); have q33 := lv_neT hc33 (a := 33) (by decide); have q34 := lv_neT hc34 (a := 34) (by decide); have q35 := lv_neT hc35 (a := 35) (by decide); have q36 := lv_neT hc36 (a := 36) (by decide); omega) (by decide) ?_
      exact kk μC μR H locs hr h
