/-! THE LAYER: a world by places. A place j of a world G holds an object (its fields by a template) or an int array; μ j k is what stands there. -/
abbrev vM : Type := Nat → Nat → Int32
abbrev vT : Type := Nat ⊕ (Nat × List (Option (Option Nat)))
abbrev vG : Type := (va_G × ClassId) × ((Nat → Nat) × (Nat → Nat)) × ((Nat → vT) × Nat) × (Nat → Prop)
def gD (G : vG) : va_G := G.1.1
def gc (G : vG) : ClassId := G.1.2
def ga (G : vG) : Nat → Nat := G.2.1.1
def gS (G : vG) : Nat → Nat := G.2.1.2
def gt (G : vG) : Nat → vT := G.2.2.1.1
def gN (G : vG) : Nat := G.2.2.1.2
def gA (G : vG) : Nat → Prop := G.2.2.2
def mf (G : vG) (f : Nat → Int32) : Nat → List (Option (Option Nat)) → List Value
  | _, [] => []
  | k, none :: r => .int (f k) :: mf G f (k + 1) r
  | k, some none :: r => .ref (gS G (f k).toNatClampNeg) :: mf G f (k + 1) r
  | k, some (some j) :: r => .ref (ga G j) :: mf G f (k + 1) r
def me (G : vG) (t : vT) (f : Nat → Int32) : va_E := match t with
  | .inl n => .inl (gc G, n, .inl f)
  | .inr (ci, ks) => .inr (ci, mf G f 0 ks)
def mw (G : vG) (μ : vM) : va_W := (List.range (gN G)).map fun j => (ga G j, me G (gt G j) (μ j))
def sa (μ : vM) (j : Nat) (f : Nat → Int32) : vM := fun i => if i = j then f else μ i
def st (μ : vM) (j k : Nat) (v : Int32) : vM := sa μ j (upd (μ j) k v)
theorem mw_get {G : vG} {μ : vM} {j : Nat} (h : j < gN G) : (mw G μ)[j]? = some (ga G j, me G (gt G j) (μ j)) := by
  simp [mw, h]
theorem mw_set {G : vG} {μ : vM} {j : Nat} (f : Nat → Int32) : (mw G μ).set j (ga G j, me G (gt G j) f) = mw G (sa μ j f) := by
  apply List.ext_getElem?
  intro i
  by_cases hi : i < gN G
  · by_cases hij : i = j
    · subst hij
      rw [List.getElem?_set_self (by simp [mw, hi]), mw_get hi]
      simp [sa]
    · rw [List.getElem?_set_ne (Ne.symm hij), mw_get hi, mw_get hi]
      simp [sa, hij]
  · rw [List.getElem?_eq_none (by simp [mw]; omega), List.getElem?_eq_none (by simp [mw]; omega)]
theorem mf_int {G : vG} {f : Nat → Int32} : ∀ (ks : List (Option (Option Nat))) (k0 k : Nat), ks[k]? = some none → (mf G f k0 ks)[k]? = some (.int (f (k0 + k)))
  | [], _, k, h => by simp at h
  | none :: r, k0, 0, _ => rfl
  | some none :: r, k0, 0, h => by simp at h
  | some (some j) :: r, k0, 0, h => by simp at h
  | none :: r, k0, k + 1, h => by
    have := mf_int (G := G) (f := f) r (k0 + 1) k (by simpa using h)
    simpa [mf, Nat.add_assoc, Nat.add_comm 1 k] using this
  | some none :: r, k0, k + 1, h => by
    have := mf_int (G := G) (f := f) r (k0 + 1) k (by simpa using h)
    simpa [mf, Nat.add_assoc, Nat.add_comm 1 k] using this
  | some (some j) :: r, k0, k + 1, h => by
    have := mf_int (G := G) (f := f) r (k0 + 1) k (by simpa using h)
    simpa [mf, Nat.add_assoc, Nat.add_comm 1 k] using this
theorem mf_str {G : vG} {f : Nat → Int32} : ∀ (ks : List (Option (Option Nat))) (k0 k : Nat), ks[k]? = some (some none) → (mf G f k0 ks)[k]? = some (.ref (gS G (f (k0 + k)).toNatClampNeg))
  | [], _, k, h => by simp at h
  | none :: r, k0, 0, h => by simp at h
  | some none :: r, k0, 0, _ => rfl
  | some (some j) :: r, k0, 0, h => by simp at h
  | none :: r, k0, k + 1, h => by
    have := mf_str (G := G) (f := f) r (k0 + 1) k (by simpa using h)
    simpa [mf, Nat.add_assoc, Nat.add_comm 1 k] using this
  | some none :: r, k0, k + 1, h => by
    have := mf_str (G := G) (f := f) r (k0 + 1) k (by simpa using h)
    simpa [mf, Nat.add_assoc, Nat.add_comm 1 k] using this
  | some (some j) :: r, k0, k + 1, h => by
    have := mf_str (G := G) (f := f) r (k0 + 1) k (by simpa using h)
    simpa [mf, Nat.add_assoc, Nat.add_comm 1 k] using this
theorem mf_ref {G : vG} {f : Nat → Int32} {q : Nat} : ∀ (ks : List (Option (Option Nat))) (k0 k : Nat), ks[k]? = some (some (some q)) → (mf G f k0 ks)[k]? = some (.ref (ga G q))
  | [], _, k, h => by simp at h
  | none :: r, k0, 0, h => by simp at h
  | some none :: r, k0, 0, h => by simp at h
  | some (some j) :: r, k0, 0, h => by simp at h; subst h; rfl
  | none :: r, k0, k + 1, h => by
    have := mf_ref (G := G) (f := f) (q := q) r (k0 + 1) k (by simpa using h)
    simpa [mf] using this
  | some none :: r, k0, k + 1, h => by
    have := mf_ref (G := G) (f := f) (q := q) r (k0 + 1) k (by simpa using h)
    simpa [mf] using this
  | some (some j) :: r, k0, k + 1, h => by
    have := mf_ref (G := G) (f := f) (q := q) r (k0 + 1) k (by simpa using h)
    simpa [mf] using this
theorem mf_len {G : vG} {f : Nat → Int32} : ∀ (ks : List (Option (Option Nat))) (k0 : Nat), (mf G f k0 ks).length = ks.length
  | [], _ => rfl
  | none :: r, k0 => by simp [mf, mf_len r]
  | some none :: r, k0 => by simp [mf, mf_len r]
  | some (some j) :: r, k0 => by simp [mf, mf_len r]
theorem mf_same {G : vG} {f g : Nat → Int32} : ∀ (ks : List (Option (Option Nat))) (k0 : Nat), (∀ k, k0 ≤ k → f k = g k) → mf G f k0 ks = mf G g k0 ks
  | [], _, _ => rfl
  | none :: r, k0, h => by simp only [mf]; rw [h k0 (Nat.le_refl _), mf_same r (k0 + 1) (fun k hk => h k (by omega))]
  | some none :: r, k0, h => by simp only [mf]; rw [h k0 (Nat.le_refl _), mf_same r (k0 + 1) (fun k hk => h k (by omega))]
  | some (some j) :: r, k0, h => by simp only [mf]; rw [mf_same r (k0 + 1) (fun k hk => h k (by omega))]
theorem mf_seti {G : vG} {f : Nat → Int32} {v : Int32} : ∀ (ks : List (Option (Option Nat))) (k0 k : Nat), ks[k]? = some none → (mf G f k0 ks).set k (.int v) = mf G (upd f (k0 + k) v) k0 ks
  | [], _, k, h => by simp at h
  | none :: r, k0, 0, _ => by
    simp only [mf, List.set_cons_zero]
    rw [mf_same (f := f) (g := upd f (k0 + 0) v) r (k0 + 1) (fun k hk => by simp only [upd]; rw [if_neg (by omega)])]
    simp [upd]
  | some none :: r, k0, 0, h => by simp at h
  | some (some j) :: r, k0, 0, h => by simp at h
  | none :: r, k0, k + 1, h => by
    have := mf_seti (G := G) (f := f) (v := v) r (k0 + 1) k (by simpa using h)
    simp only [mf, List.set_cons_succ, this]
    rw [show k0 + 1 + k = k0 + (k + 1) by omega]
    simp [upd]
  | some none :: r, k0, k + 1, h => by
    have := mf_seti (G := G) (f := f) (v := v) r (k0 + 1) k (by simpa using h)
    simp only [mf, List.set_cons_succ, this]
    rw [show k0 + 1 + k = k0 + (k + 1) by omega]
    simp [upd]
  | some (some j) :: r, k0, k + 1, h => by
    have := mf_seti (G := G) (f := f) (v := v) r (k0 + 1) k (by simpa using h)
    simp only [mf, List.set_cons_succ, this]
    rw [show k0 + 1 + k = k0 + (k + 1) by omega]
theorem mf_sets {G : vG} {f : Nat → Int32} {v : Int32} : ∀ (ks : List (Option (Option Nat))) (k0 k : Nat), ks[k]? = some (some none) → (mf G f k0 ks).set k (.ref (gS G v.toNatClampNeg)) = mf G (upd f (k0 + k) v) k0 ks
  | [], _, k, h => by simp at h
  | none :: r, k0, 0, h => by simp at h
  | some none :: r, k0, 0, _ => by
    simp only [mf, List.set_cons_zero]
    rw [mf_same (f := f) (g := upd f (k0 + 0) v) r (k0 + 1) (fun k hk => by simp only [upd]; rw [if_neg (by omega)])]
    simp [upd]
  | some (some j) :: r, k0, 0, h => by simp at h
  | none :: r, k0, k + 1, h => by
    have := mf_sets (G := G) (f := f) (v := v) r (k0 + 1) k (by simpa using h)
    simp only [mf, List.set_cons_succ, this]
    rw [show k0 + 1 + k = k0 + (k + 1) by omega]
    simp [upd]
  | some none :: r, k0, k + 1, h => by
    have := mf_sets (G := G) (f := f) (v := v) r (k0 + 1) k (by simpa using h)
    simp only [mf, List.set_cons_succ, this]
    rw [show k0 + 1 + k = k0 + (k + 1) by omega]
    simp [upd]
  | some (some j) :: r, k0, k + 1, h => by
    have := mf_sets (G := G) (f := f) (v := v) r (k0 + 1) k (by simpa using h)
    simp only [mf, List.set_cons_succ, this]
    rw [show k0 + 1 + k = k0 + (k + 1) by omega]
/-- the addresses are apart, and may be written -/
def gO (G : vG) : Prop := (∀ i j, i < gN G → j < gN G → ga G i = ga G j → i = j) ∧ ∀ j, j < gN G → gA G (ga G j)
theorem mw_D {G : vG} (h : gO G) (μ : vM) : va_D (gA G) (mw G μ) := by
  have key : ∀ (k : Nat) (q : Nat × va_E), (mw G μ)[k]? = some q → k < gN G ∧ q.1 = ga G k := by
    intro k q hk
    have hl : k < gN G := by
      have := (List.getElem?_eq_some_iff.mp hk).1
      simpa [mw] using this
    rw [mw_get hl] at hk
    cases hk
    exact ⟨hl, rfl⟩
  refine ⟨fun i j p q hi hj e => ?_, fun k q hk => ?_⟩
  · obtain ⟨a1, a2⟩ := key i p hi
    obtain ⟨b1, b2⟩ := key j q hj
    exact h.1 i j a1 b1 (by rw [← a2, ← b2, e])
  · obtain ⟨a1, a2⟩ := key k q hk
    rw [a2]; exact h.2 k a1
/-- the walk's state: the world's cells, and nothing else written since the start -/
def bw (G : vG) (s : State) (μ : vM) (H : Heap) (locs : List Loc) : Prop := va_P (gD G) vwCl (mw G μ) H ∧ va_S (gA G) s.heap H locs
-- what stands outside: the class's two static rows, the String constants
def c_ABOVE (k : Nat) : Int32 := [(-1 : Int32), 0, 0, 0, 1, 2, 0].getD k 0
def c_BODIES (k : Nat) : Int32 := [(10 : Int32), 11, 12, 13, 20, 0, 0, 21, 0, 30, 0, 0, 0, 0, 40, 0, 50, 0, 51, 0, 0, 60, 0, 0, 70, 71, 0, 0].getD k 0
def c_len : List Nat := [3, 3, 0, 1, 1, 3, 2, 3, 2, 1]
def c_byt : List (List Int32) := [[115, 100, 102], [119, 104, 121], [], [124], [38], [60, 61, 62], [43, 45], [42, 47, 37], [33, 40], [41]]
def c_strs : List (String × Nat × String) := [("CrumbsHome$World", 27, "sdf"), ("CrumbsHome$World", 36, "why"), ("CrumbsHome$Reader", 25, ""), ("CrumbsHome$Reader", 48, "|"), ("CrumbsHome$Reader", 50, "&"), ("CrumbsHome$Reader", 52, "<=>"), ("CrumbsHome$Reader", 54, "+-"), ("CrumbsHome$Reader", 56, "*/%"), ("CrumbsHome$Reader", 78, "!("), ("CrumbsHome$Reader", 96, ")")]
def gE (G : vG) (U : State) (H : Heap) : Prop :=
  (∃ t, va_Z "CrumbsHome" "ABOVE" "[I" (.ref t) (gA G) U H ∧ va_T .int t 7 (fun k => .int (c_ABOVE k)) (gA G) U H) ∧
  (∃ t, va_Z "CrumbsHome" "BODIES" "[I" (.ref t) (gA G) U H ∧ va_T .int t 28 (fun k => .int (c_BODIES k)) (gA G) U H) ∧
  (∃ adV, vk_S 10 c_len c_byt (gS G) adV (gA G) U H) ∧
  (∀ (i : Nat) (q : String × Nat × String), c_strs[i]? = some q → vk_R q.1 q.2.1 q.2.2 (gS G i) U) ∧
  va_Z "java/lang/String" "COMPACT_STRINGS" "Z" (.int 1) (gA G) U H ∧
  (∀ (i : Nat) (q : String × Nat × String × String × String × String), c_fn[i]? = some q → va_Nw (.fieldLinkNest q.1 q.2.1 q.2.2.1 q.2.2.2.1 q.2.2.2.2.1 q.2.2.2.2.2) U) ∧
  (∀ (i : Nat) (q : String × Nat × MethodName × String), c_mn[i]? = some q → va_Nw (.methodLinkNest q.1 q.2.1 q.2.2.1 q.2.2.2) U)
theorem gE_warm {G : vG} {s U : State} {H : Heap} {locs : List Loc} (h : gE G s s.heap) (hS : va_S (gA G) s.heap H locs) (hW : s.WarmedH U.vm) (hU : U.heap = H) : gE G U U.heap := by
  subst hU
  have kq : ∀ a : Nat, a < s.heap.size → ¬ gA G a → U.heap[a]? = s.heap[a]? := hS.2.1
  obtain ⟨⟨t1, a1, a2⟩, ⟨t2, b1, b2⟩, ⟨adV, d1⟩, e1, f1, g1, g2⟩ := h
  exact ⟨⟨t1, (a1.moved hW.alike).kept kq, (a2.moved hW.alike).kept kq⟩, ⟨t2, (b1.moved hW.alike).kept kq, (b2.moved hW.alike).kept kq⟩, ⟨adV, (d1.moved hW.alike).kept kq⟩, fun i q hq => vk_R.warm hW (e1 i q hq), (f1.moved hW.alike).kept kq, fun i q hq => va_Nw.warmF hW (g1 i q hq), fun i q hq => va_Nw.warmM hW (g2 i q hq)⟩
theorem gE_blind {G : vG} {U V : State} (hv : V.vm = U.vm) (hh : V.heap = U.heap) (h : gE G U U.heap) : gE G V V.heap := by
  have hA : U.vm.Alike V.vm := by rw [hv]; exact Vm.Alike.refl _
  obtain ⟨⟨t1, a1, a2⟩, ⟨t2, b1, b2⟩, ⟨adV, d1⟩, e1, f1, g1, g2⟩ := h
  rw [hh]
  exact ⟨⟨t1, a1.moved hA, a2.moved hA⟩, ⟨t2, b1.moved hA, b2.moved hA⟩, ⟨adV, d1.moved hA⟩, fun i q hq => vk_R.same hv (e1 i q hq), f1.moved hA, fun i q hq => va_Nw.same rfl hv.symm (g1 i q hq), fun i q hq => va_Nw.same rfl hv.symm (g2 i q hq)⟩
/-- a method's start -/
def wd (G : vG) (μ : vM) (U : State) : Prop := va_P (gD G) vwCl (mw G μ) U.heap ∧ va_K (gD G) vwCl [(gc G, .int)] U ∧ gE G U U.heap
abbrev pr (G : vG) (μ : vM) (av : List Value) : Array Value → State → Prop := va_Pc av (wd G μ)
theorem pr_blind {G : vG} {μ : vM} {av : List Value} : FrameBlind (pr G μ av) := by
  intro a U g mk h
  obtain ⟨h0, h1, h2, h3⟩ := h
  exact ⟨h0, h1, va_K.moved (u := U) (U := U.calling g mk a) (Vm.Alike.refl U.vm) h2, gE_blind (U := U) (V := U.calling g mk a) rfl rfl h3⟩
def bp (G : vG) (μ : vM) (t : State) : Prop := va_P (gD G) vwCl (mw G μ) t.heap
/-- a method's end -/
abbrev qI (G : vG) (Q : Int32 → vM → Prop) : Array Value → State → Outcome → State → Prop := va_Qi Q (fun μ t => bp G μ t) (gA G)
abbrev qV (G : vG) (Q : vM → Prop) : Array Value → State → Outcome → State → Prop := va_Qv Q (fun μ t => bp G μ t) (gA G)
abbrev qS (G : vG) (Q : Int32 → vM → Prop) : Array Value → State → Outcome → State → Prop := va_Qr (fun u : Int32 × vM => Q u.1 u.2) (fun u a t => a = gS G u.1.toNatClampNeg ∧ bp G u.2 t) (gA G)
abbrev qP (G : vG) (Q : Nat → vM → Prop) : Array Value → State → Outcome → State → Prop := va_Qr (fun u : Nat × vM => Q u.1 u.2) (fun u a t => a = ga G u.1 ∧ bp G u.2 t) (gA G)
abbrev mt (l : Launch) (G : vG) (y : MethodName) (ws : List Cond) (rm : Room) (av : List Value) (μ : vM) (Qc : Array Value → State → Outcome → State → Prop) : Prop := Met l y ws rm (pr G μ av) Qc 0 0 (gA G)
/-- what holds all along a walk -/
def cx (G : vG) (p : Program) (s : State) (m : MethodId) (args : Array Value) (meth : Method) (c : Code) (cc : ByteArray) (nL : Nat) (ret : Option FieldType) (own : String) : Prop :=
  p.tables.exec = Jvm.exec ∧ c.code = cc ∧ c.maxLocals = nL ∧ s.vm.findClass own = some m.cls ∧ (∀ w ∈ lw_gd, w.before args s = true) ∧ meth.sig.returnType = ret ∧ meth.locks = false ∧ va_K (gD G) vwCl [(gc G, .int)] s ∧ gO G ∧ gE G s s.heap
def bz (v : Int32) : Prop := v = 0 ∨ v = 1
theorem met_of {l : Launch} {y : MethodName} {ws : List Cond} {rm : Room} {av : List Value} {G : vG} {μ : vM} {Qc : Array Value → State → Outcome → State → Prop} {cc : ByteArray} {maxL : Nat} {ret : Option FieldType} (own : String)
    (hy : plainName y.cls = true) (hw : ws = Cond.code y cc maxL ret :: lw_gd) (hown : y.cls = own) (hG : gO G) (hn : (lg_sl av).length ≤ maxL)
    (body : ∀ (p : Program) (e : Env) (s : State) (m : MethodId) (below : List Frame) (meth : Method) (c : Code), cx G p s m av.toArray meth c cc maxL ret own → bw G s μ s.heap [] → ∀ ls : Array Slot, lv_has ls maxL (lv_args 0 av) →
      W p l e rm s m av.toArray below meth c s.heap [] 0 0 (MQ below Qc av.toArray s 0 0 (gA G)) (F0 m 0 ls [])) : mt l G y ws rm av μ Qc := by
  refine Met.ofW (cc := cc) (maxL := maxL) (ret := ret) hy hw ?_
  intro p e s m args below meth c s₁ B hml hv
  obtain ⟨rfl, hP, hK, hE⟩ := hv
  have hts := atoms_spec (ws := ws) B.pre
  have hown' : s.vm.findClass own = some m.cls := by rw [← hown]; exact findClass_of_methodNamed B.named
  rw [lg_entry_eq]
  exact body p e s m below meth c ⟨B.exec, B.bytes, hml, hown', fun w h => hts w (by rw [hw]; exact List.mem_cons_of_mem _ h), B.returns, B.notSynchronized, hK, hG, hE⟩ ⟨hP, va_S.rf⟩ _ (lv_entry av hn)
section RW
variable {G : vG} {p : Program} {l : Launch} {e : Env} {R : Room} {s : State} {m : MethodId} {args : Array Value} {below : List Frame} {meth : Method} {c : Code} {H : Heap} {locs : List Loc} {cells slots : Nat} {Q : State → Prop}
  {cc : ByteArray} {nL : Nat} {ret : Option FieldType} {own : String} {pc : Nat} {ls : Array Slot} {rest : List Value} {μ : vM}
theorem topE {x y : Int32} (h : x = y) (k : W p l e R s m args below meth c H locs cells slots Q (F0 m pc ls (.int x :: rest))) : W p l e R s m args below meth c H locs cells slots Q (F0 m pc ls (.int y :: rest)) := h ▸ k
theorem topL {x y : Int64} (h : x = y) (k : W p l e R s m args below meth c H locs cells slots Q (F0 m pc ls (.long x :: rest))) : W p l e R s m args below meth c H locs cells slots Q (F0 m pc ls (.long y :: rest)) := h ▸ k
theorem r_getI (X : cx G p s m args meth c cc nL ret own) (h : bw G s μ H locs) {C : String} {T : u_T} {N ci index j : Nat} {ks : List (Option (Option Nat))} (ho : gt G j = .inr (ci, ks) ∧ j < gN G) (hc : vwCl[ci]? = some (C, T, N)) (hin : ∀ w ∈ u_ws C T N, w ∈ lw_gd) (k : Nat) (hk : k < N) (hlink : lk own index (T k).1 (T k).2.1 (T k).2.2.1) (hks : ks[k]? = some none) (hdg : decode cc pc = .ok (.getfield index, 3))
    (kk : W p l e R s m args below meth c H locs cells slots Q (F0 m (pc + 3) ls (.int (μ j k) :: rest))) : W p l e R s m args below meth c H locs cells slots Q (F0 m pc ls (.ref (ga G j) :: rest)) := by
  have he : (mw G μ)[j]? = some (ga G j, .inr (ci, mf G (μ j) 0 ks)) := by rw [mw_get ho.2, ho.1]; rfl
  rcases hlink with hlink | ⟨ni, host, hni⟩
  · refine va_get X.1 X.2.1 X.2.2.2.2.1 hin X.2.2.2.1 X.2.2.2.2.2.2.2.1 h.1 j he hc k hk (X.2.2.2.2.1 _ hlink) (fun _ h9 => h9) (v := .int (μ j k)) ?_ hdg kk
    have := mf_int (G := G) (f := μ j) ks 0 k hks
    rwa [Nat.zero_add] at this
  · refine va_getN (host := host) X.1 X.2.1 X.2.2.2.2.1 hin X.2.2.2.1 X.2.2.2.2.2.2.2.1 h.1 j he hc k hk ((X.2.2.2.2.2.2.2.2.2.2.2.2.2.2.1 ni _ hni).use rfl) (fun _ h9 => h9) (v := .int (μ j k)) ?_ hdg kk
    have := mf_int (G := G) (f := μ j) ks 0 k hks
    rwa [Nat.zero_add] at this
theorem r_getS (X : cx G p s m args meth c cc nL ret own) (h : bw G s μ H locs) {C : String} {T : u_T} {N ci index j : Nat} {ks : List (Option (Option Nat))} (ho : gt G j = .inr (ci, ks) ∧ j < gN G) (hc : vwCl[ci]? = some (C, T, N)) (hin : ∀ w ∈ u_ws C T N, w ∈ lw_gd) (k : Nat) (hk : k < N) (hlink : lk own index (T k).1 (T k).2.1 (T k).2.2.1) (hks : ks[k]? = some (some none)) (hdg : decode cc pc = .ok (.getfield index, 3))
    (kk : W p l e R s m args below meth c H locs cells slots Q (F0 m (pc + 3) ls (.ref (gS G (μ j k).toNatClampNeg) :: rest))) : W p l e R s m args below meth c H locs cells slots Q (F0 m pc ls (.ref (ga G j) :: rest)) := by
  have he : (mw G μ)[j]? = some (ga G j, .inr (ci, mf G (μ j) 0 ks)) := by rw [mw_get ho.2, ho.1]; rfl
  rcases hlink with hlink | ⟨ni, host, hni⟩
  · refine va_get X.1 X.2.1 X.2.2.2.2.1 hin X.2.2.2.1 X.2.2.2.2.2.2.2.1 h.1 j he hc k hk (X.2.2.2.2.1 _ hlink) (fun _ h9 => h9) (v := .ref (gS G (μ j k).toNatClampNeg)) ?_ hdg kk
    have := mf_str (G := G) (f := μ j) ks 0 k hks
    rwa [Nat.zero_add] at this
  · refine va_getN (host := host) X.1 X.2.1 X.2.2.2.2.1 hin X.2.2.2.1 X.2.2.2.2.2.2.2.1 h.1 j he hc k hk ((X.2.2.2.2.2.2.2.2.2.2.2.2.2.2.1 ni _ hni).use rfl) (fun _ h9 => h9) (v := .ref (gS G (μ j k).toNatClampNeg)) ?_ hdg kk
    have := mf_str (G := G) (f := μ j) ks 0 k hks
    rwa [Nat.zero_add] at this
theorem r_getR (X : cx G p s m args meth c cc nL ret own) (h : bw G s μ H locs) {C : String} {T : u_T} {N ci index j : Nat} {ks : List (Option (Option Nat))} (ho : gt G j = .inr (ci, ks) ∧ j < gN G) (hc : vwCl[ci]? = some (C, T, N)) (hin : ∀ w ∈ u_ws C T N, w ∈ lw_gd) (k : Nat) (hk : k < N) (hlink : lk own index (T k).1 (T k).2.1 (T k).2.2.1) {q : Nat} (hks : ks[k]? = some (some (some q))) (hdg : decode cc pc = .ok (.getfield index, 3))
    (kk : W p l e R s m args below meth c H locs cells slots Q (F0 m (pc + 3) ls (.ref (ga G q) :: rest))) : W p l e R s m args below meth c H locs cells slots Q (F0 m pc ls (.ref (ga G j) :: rest)) := by
  have he : (mw G μ)[j]? = some (ga G j, .inr (ci, mf G (μ j) 0 ks)) := by rw [mw_get ho.2, ho.1]; rfl
  rcases hlink with hlink | ⟨ni, host, hni⟩
  · exact va_get X.1 X.2.1 X.2.2.2.2.1 (fun w hw => hin w hw) X.2.2.2.1 X.2.2.2.2.2.2.2.1 h.1 j he hc k hk (X.2.2.2.2.1 _ hlink) (fun _ h9 => h9) (v := .ref (ga G q)) (mf_ref ks 0 k hks) hdg kk
  · exact va_getN (host := host) X.1 X.2.1 X.2.2.2.2.1 hin X.2.2.2.1 X.2.2.2.2.2.2.2.1 h.1 j he hc k hk ((X.2.2.2.2.2.2.2.2.2.2.2.2.2.2.1 ni _ hni).use rfl) (fun _ h9 => h9) (v := .ref (ga G q)) (mf_ref ks 0 k hks) hdg kk
theorem r_putI (X : cx G p s m args meth c cc nL ret own) (h : bw G s μ H locs) {C : String} {T : u_T} {N ci index j : Nat} {ks : List (Option (Option Nat))} (ho : gt G j = .inr (ci, ks) ∧ j < gN G) (hc : vwCl[ci]? = some (C, T, N)) (hin : ∀ w ∈ u_ws C T N, w ∈ lw_gd) (ty0 : Nat → FieldType) (hty : ∀ k, k < N → parseFieldDescriptor (T k).2.2.1 = some (ty0 k)) (hnm : ∀ a, a < N → ∀ b, b < N → a ≠ b → (T a).2.1 ≠ (T b).2.1) (k : Nat) (hk : k < N) (hlink : lk own index (T k).1 (T k).2.1 (T k).2.2.1) (hks : ks[k]? = some none) (hfin : (T k).2.2.2 = false) (hT : ty0 k = .int) {v : Int32} {μ' : vM} (hμ : μ' = st μ j k v) (hdg : decode cc pc = .ok (.putfield index, 3))
    (kk : ∀ (H1 : Heap) (locs1 : List Loc), bw G s μ' H1 locs1 → W p l e R s m args below meth c H1 locs1 cells slots Q (F0 m (pc + 3) ls rest)) : W p l e R s m args below meth c H locs cells slots Q (F0 m pc ls (.int v :: .ref (ga G j) :: rest)) := by
  have he : (mw G μ)[j]? = some (ga G j, .inr (ci, mf G (μ j) 0 ks)) := by rw [mw_get ho.2, ho.1]; rfl
  have hl : k < (mf G (μ j) 0 ks).length := by rw [mf_len]; exact (List.getElem?_eq_some_iff.mp hks).1
  rcases hlink with hlink | ⟨ni, host, hni⟩
  · refine va_put (v := .int v) X.1 X.2.1 X.2.2.2.2.1 hin ty0 hty hnm X.2.2.2.1 X.2.2.2.2.2.2.2.1 h.1 (mw_D X.2.2.2.2.2.2.2.2.1 μ) h.2 j he hc k hk (X.2.2.2.2.1 _ hlink) (fun _ h9 => h9) hfin (ty := .int) (by rw [hty k hk, hT]) rfl rfl hl hdg ?_
    intro H1 locs1 hP _ hS
    refine kk H1 locs1 ⟨?_, hS⟩
    have e1 : (ga G j, (Sum.inr (ci, (mf G (μ j) 0 ks).set k (.int v)) : va_E)) = (ga G j, me G (gt G j) (upd (μ j) k v)) := by
      rw [ho.1, mf_seti ks 0 k hks, Nat.zero_add]; rfl
    rw [e1, mw_set] at hP
    rw [hμ]; exact hP
  · refine va_putN (host := host) (v := .int v) X.1 X.2.1 X.2.2.2.2.1 hin ty0 hty hnm X.2.2.2.1 X.2.2.2.2.2.2.2.1 h.1 (mw_D X.2.2.2.2.2.2.2.2.1 μ) h.2 j he hc k hk ((X.2.2.2.2.2.2.2.2.2.2.2.2.2.2.1 ni _ hni).use rfl) (fun _ h9 => h9) hfin (ty := .int) (by rw [hty k hk, hT]) rfl rfl hl hdg ?_
    intro H1 locs1 hP _ hS
    refine kk H1 locs1 ⟨?_, hS⟩
    have e1 : (ga G j, (Sum.inr (ci, (mf G (μ j) 0 ks).set k (.int v)) : va_E)) = (ga G j, me G (gt G j) (upd (μ j) k v)) := by
      rw [ho.1, mf_seti ks 0 k hks, Nat.zero_add]; rfl
    rw [e1, mw_set] at hP
    rw [hμ]; exact hP
theorem r_putZ (X : cx G p s m args meth c cc nL ret own) (h : bw G s μ H locs) {C : String} {T : u_T} {N ci index j : Nat} {ks : List (Option (Option Nat))} (ho : gt G j = .inr (ci, ks) ∧ j < gN G) (hc : vwCl[ci]? = some (C, T, N)) (hin : ∀ w ∈ u_ws C T N, w ∈ lw_gd) (ty0 : Nat → FieldType) (hty : ∀ k, k < N → parseFieldDescriptor (T k).2.2.1 = some (ty0 k)) (hnm : ∀ a, a < N → ∀ b, b < N → a ≠ b → (T a).2.1 ≠ (T b).2.1) (k : Nat) (hk : k < N) (hlink : lk own index (T k).1 (T k).2.1 (T k).2.2.1) (hks : ks[k]? = some none) (hfin : (T k).2.2.2 = false) (hT : ty0 k = .boolean) {v : Int32} (hz : bz v) {μ' : vM} (hμ : μ' = st μ j k v) (hdg : decode cc pc = .ok (.putfield index, 3))
    (kk : ∀ (H1 : Heap) (locs1 : List Loc), bw G s μ' H1 locs1 → W p l e R s m args below meth c H1 locs1 cells slots Q (F0 m (pc + 3) ls rest)) : W p l e R s m args below meth c H locs cells slots Q (F0 m pc ls (.int v :: .ref (ga G j) :: rest)) := by
  have he : (mw G μ)[j]? = some (ga G j, .inr (ci, mf G (μ j) 0 ks)) := by rw [mw_get ho.2, ho.1]; rfl
  have hl : k < (mf G (μ j) 0 ks).length := by rw [mf_len]; exact (List.getElem?_eq_some_iff.mp hks).1
  rcases hlink with hlink | ⟨ni, host, hni⟩
  · refine va_put (v := .int v) X.1 X.2.1 X.2.2.2.2.1 hin ty0 hty hnm X.2.2.2.1 X.2.2.2.2.2.2.2.1 h.1 (mw_D X.2.2.2.2.2.2.2.2.1 μ) h.2 j he hc k hk (X.2.2.2.2.1 _ hlink) (fun _ h9 => h9) hfin (ty := .boolean) (by rw [hty k hk, hT]) (by rcases hz with rfl | rfl <;> rfl) (by rcases hz with rfl | rfl <;> rfl) hl hdg ?_
    intro H1 locs1 hP _ hS
    refine kk H1 locs1 ⟨?_, hS⟩
    have e1 : (ga G j, (Sum.inr (ci, (mf G (μ j) 0 ks).set k (.int v)) : va_E)) = (ga G j, me G (gt G j) (upd (μ j) k v)) := by
      rw [ho.1, mf_seti ks 0 k hks, Nat.zero_add]; rfl
    rw [e1, mw_set] at hP
    rw [hμ]; exact hP
  · refine va_putN (host := host) (v := .int v) X.1 X.2.1 X.2.2.2.2.1 hin ty0 hty hnm X.2.2.2.1 X.2.2.2.2.2.2.2.1 h.1 (mw_D X.2.2.2.2.2.2.2.2.1 μ) h.2 j he hc k hk ((X.2.2.2.2.2.2.2.2.2.2.2.2.2.2.1 ni _ hni).use rfl) (fun _ h9 => h9) hfin (ty := .boolean) (by rw [hty k hk, hT]) (by rcases hz with rfl | rfl <;> rfl) (by rcases hz with rfl | rfl <;> rfl) hl hdg ?_
    intro H1 locs1 hP _ hS
    refine kk H1 locs1 ⟨?_, hS⟩
    have e1 : (ga G j, (Sum.inr (ci, (mf G (μ j) 0 ks).set k (.int v)) : va_E)) = (ga G j, me G (gt G j) (upd (μ j) k v)) := by
      rw [ho.1, mf_seti ks 0 k hks, Nat.zero_add]; rfl
    rw [e1, mw_set] at hP
    rw [hμ]; exact hP
theorem r_putS (X : cx G p s m args meth c cc nL ret own) (h : bw G s μ H locs) {C : String} {T : u_T} {N ci index j : Nat} {ks : List (Option (Option Nat))} (ho : gt G j = .inr (ci, ks) ∧ j < gN G) (hc : vwCl[ci]? = some (C, T, N)) (hin : ∀ w ∈ u_ws C T N, w ∈ lw_gd) (ty0 : Nat → FieldType) (hty : ∀ k, k < N → parseFieldDescriptor (T k).2.2.1 = some (ty0 k)) (hnm : ∀ a, a < N → ∀ b, b < N → a ≠ b → (T a).2.1 ≠ (T b).2.1) (k : Nat) (hk : k < N) (hlink : lk own index (T k).1 (T k).2.1 (T k).2.2.1) (hks : ks[k]? = some (some none)) (hfin : (T k).2.2.2 = false) (hT : ty0 k = .object "java/lang/String") {v : Int32} {μ' : vM} (hμ : μ' = st μ j k v) (hdg : decode cc pc = .ok (.putfield index, 3))
    (kk : ∀ (H1 : Heap) (locs1 : List Loc), bw G s μ' H1 locs1 → W p l e R s m args below meth c H1 locs1 cells slots Q (F0 m (pc + 3) ls rest)) : W p l e R s m args below meth c H locs cells slots Q (F0 m pc ls (.ref (gS G v.toNatClampNeg) :: .ref (ga G j) :: rest)) := by
  have he : (mw G μ)[j]? = some (ga G j, .inr (ci, mf G (μ j) 0 ks)) := by rw [mw_get ho.2, ho.1]; rfl
  have hl : k < (mf G (μ j) 0 ks).length := by rw [mf_len]; exact (List.getElem?_eq_some_iff.mp hks).1
  rcases hlink with hlink | ⟨ni, host, hni⟩
  · refine va_put (v := .ref (gS G v.toNatClampNeg)) X.1 X.2.1 X.2.2.2.2.1 hin ty0 hty hnm X.2.2.2.1 X.2.2.2.2.2.2.2.1 h.1 (mw_D X.2.2.2.2.2.2.2.2.1 μ) h.2 j he hc k hk (X.2.2.2.2.1 _ hlink) (fun _ h9 => h9) hfin (ty := .object "java/lang/String") (by rw [hty k hk, hT]) rfl rfl hl hdg ?_
    intro H1 locs1 hP _ hS
    refine kk H1 locs1 ⟨?_, hS⟩
    have e1 : (ga G j, (Sum.inr (ci, (mf G (μ j) 0 ks).set k (.ref (gS G v.toNatClampNeg))) : va_E)) = (ga G j, me G (gt G j) (upd (μ j) k v)) := by
      rw [ho.1, mf_sets ks 0 k hks, Nat.zero_add]; rfl
    rw [e1, mw_set] at hP
    rw [hμ]; exact hP
  · refine va_putN (host := host) (v := .ref (gS G v.toNatClampNeg)) X.1 X.2.1 X.2.2.2.2.1 hin ty0 hty hnm X.2.2.2.1 X.2.2.2.2.2.2.2.1 h.1 (mw_D X.2.2.2.2.2.2.2.2.1 μ) h.2 j he hc k hk ((X.2.2.2.2.2.2.2.2.2.2.2.2.2.2.1 ni _ hni).use rfl) (fun _ h9 => h9) hfin (ty := .object "java/lang/String") (by rw [hty k hk, hT]) rfl rfl hl hdg ?_
    intro H1 locs1 hP _ hS
    refine kk H1 locs1 ⟨?_, hS⟩
    have e1 : (ga G j, (Sum.inr (ci, (mf G (μ j) 0 ks).set k (.ref (gS G v.toNatClampNeg))) : va_E)) = (ga G j, me G (gt G j) (upd (μ j) k v)) := by
      rw [ho.1, mf_sets ks 0 k hks, Nat.zero_add]; rfl
    rw [e1, mw_set] at hP
    rw [hμ]; exact hP
theorem r_ald (X : cx G p s m args meth c cc nL ret own) (h : bw G s μ H locs) {j n : Nat} (ho : gt G j = .inl n ∧ j < gN G) {i : Int32} (hin : vp_in i n) (hdg : decode cc pc = .ok (.iaload, 1))
    (kk : W p l e R s m args below meth c H locs cells slots Q (F0 m (pc + 1) ls (.int (μ j i.toNatClampNeg) :: rest))) : W p l e R s m args below meth c H locs cells slots Q (F0 m pc ls (.int i :: .ref (ga G j) :: rest)) := by
  have he : (mw G μ)[j]? = some (ga G j, .inl (gc G, n, .inl (μ j))) := by rw [mw_get ho.2, ho.1]; rfl
  exact va_iald X.1 X.2.1 X.2.2.2.2.2.2.2.1 h.1 j 0 he rfl hin hdg kk
theorem r_ast (X : cx G p s m args meth c cc nL ret own) (h : bw G s μ H locs) {j n : Nat} (ho : gt G j = .inl n ∧ j < gN G) {i v : Int32} (hin : vp_in i n) {μ' : vM} (hμ : μ' = st μ j i.toNatClampNeg v) (hdg : decode cc pc = .ok (.iastore, 1))
    (kk : ∀ (H1 : Heap) (locs1 : List Loc), bw G s μ' H1 locs1 → W p l e R s m args below meth c H1 locs1 cells slots Q (F0 m (pc + 1) ls rest)) : W p l e R s m args below meth c H locs cells slots Q (F0 m pc ls (.int v :: .int i :: .ref (ga G j) :: rest)) := by
  have he : (mw G μ)[j]? = some (ga G j, .inl (gc G, n, .inl (μ j))) := by rw [mw_get ho.2, ho.1]; rfl
  refine va_iast X.1 X.2.1 X.2.2.2.2.2.2.2.1 h.1 (mw_D X.2.2.2.2.2.2.2.2.1 μ) h.2 j 0 he rfl hin hdg ?_
  intro H1 locs1 hP _ hS
  refine kk H1 locs1 ⟨?_, hS⟩
  have e1 : (ga G j, (Sum.inl (gc G, n, .inl (upd (μ j) i.toNatClampNeg v)) : va_E)) = (ga G j, me G (gt G j) (upd (μ j) i.toNatClampNeg v)) := by
    rw [ho.1]; rfl
  rw [e1, mw_set] at hP
  rw [hμ]; exact hP
theorem r_alen (X : cx G p s m args meth c cc nL ret own) (h : bw G s μ H locs) {j n : Nat} (ho : gt G j = .inl n ∧ j < gN G) {v : Int32} (hv : Int32.ofNat n = v) (hdg : decode cc pc = .ok (.arraylength, 1))
    (kk : W p l e R s m args below meth c H locs cells slots Q (F0 m (pc + 1) ls (.int v :: rest))) : W p l e R s m args below meth c H locs cells slots Q (F0 m pc ls (.ref (ga G j) :: rest)) := by
  have he : (mw G μ)[j]? = some (ga G j, .inl (gc G, n, .inl (μ j))) := by rw [mw_get ho.2, ho.1]; rfl
  exact va_alen X.1 X.2.1 X.2.2.2.2.2.2.2.1 h.1 j 0 he rfl hv hdg kk
theorem r_copy (X : cx G p s m args meth c cc nL ret own) (hsz : ls.size = nL) (h : bw G s μ H locs) {index : Nat} (hlink : Cond.methodLink own index arraycopyName ∈ lw_gd) (hnat : Cond.native arraycopyName ∈ lw_gd) (hstat : Cond.static arraycopyName ∈ lw_gd) (hini : Cond.initialized "java/lang/System" ∈ lw_gd) {j0 j1 n0 n1 : Nat} (ho0 : gt G j0 = .inl n0 ∧ j0 < gN G) (ho1 : gt G j1 = .inl n1 ∧ j1 < gN G)
    {sp dp n : Int32} (h1 : ¬ sp < 0) (h2 : ¬ dp < 0) (h3 : ¬ n < 0) (h4 : sp.toNatClampNeg + n.toNatClampNeg ≤ n0) (h5 : dp.toNatClampNeg + n.toNatClampNeg ≤ n1) (hframes : 1 ≤ R.frames) (hlocals : (rest.map fun v => v.category).sum + (nativeFrameWords "java/lang/System" "arraycopy" 5 + 11) ≤ R.locals) {μ' : vM} (hμ : μ' = sa μ j1 (va_cpy (μ j0) (μ j1) sp.toNatClampNeg dp.toNatClampNeg n.toNatClampNeg)) (hdg : decode cc pc = .ok (.invokestatic index, 3))
    (kk : ∀ (H1 : Heap) (locs1 : List Loc), bw G s μ' H1 locs1 → W p l e R s m args below meth c H1 locs1 cells slots Q (F0 m (pc + 3) ls rest)) : W p l e R s m args below meth c H locs cells slots Q (F0 m pc ls (.int n :: .int dp :: .ref (ga G j1) :: .int sp :: .ref (ga G j0) :: rest)) := by
  have he0 : (mw G μ)[j0]? = some (ga G j0, .inl (gc G, n0, .inl (μ j0))) := by rw [mw_get ho0.2, ho0.1]; rfl
  have he1 : (mw G μ)[j1]? = some (ga G j1, .inl (gc G, n1, .inl (μ j1))) := by rw [mw_get ho1.2, ho1.1]; rfl
  have hts := X.2.2.2.2.1
  refine va_copyi X.1 X.2.1 (X.2.2.1.trans hsz.symm) X.2.2.2.1 (hts _ hlink) (hts _ hnat) (hts _ hstat) (hts _ hini) X.2.2.2.2.2.2.2.1 h.1 (mw_D X.2.2.2.2.2.2.2.2.1 μ) h.2 j0 j1 0 0 he0 he1 rfl rfl rfl h1 h2 h3 h4 h5 (fun _ _ => rfl) hframes hlocals hdg ?_
  intro H1 locs1 hP _ hS
  refine kk H1 locs1 ⟨?_, hS⟩
  have e1 : (ga G j1, (Sum.inl (gc G, n1, .inl (va_cpy (μ j0) (μ j1) sp.toNatClampNeg dp.toNatClampNeg n.toNatClampNeg)) : va_E)) = (ga G j1, me G (gt G j1) (va_cpy (μ j0) (μ j1) sp.toNatClampNeg dp.toNatClampNeg n.toNatClampNeg)) := by
    rw [ho1.1]; rfl
  rw [e1, mw_set] at hP
  rw [hμ]; exact hP
theorem r_max (X : cx G p s m args meth c cc nL ret own) (hsz : ls.size = nL) {index : Nat} (hlink : Cond.methodLink own index Lib.Math.max.name ∈ lw_gd) (hstat : Cond.static Lib.Math.max.name ∈ lw_gd) (hini : Cond.initialized "java/lang/Math" ∈ lw_gd) (hcode : Cond.code Lib.Math.max.name Lib.Math.max.code 2 (some .int) ∈ lw_gd) (hframes : 1 ≤ R.frames) (hlocals : (rest.map fun v => v.category).sum + 13 ≤ R.locals) (hc : cells ≤ R.cells) (hs : slots ≤ R.slots) {x y : Int32} (hdg : decode cc pc = .ok (.invokestatic index, 3))
    (kk : W p l e R s m args below meth c H locs cells slots Q (F0 m (pc + 3) ls (.int (if x < y then y else x) :: rest))) : W p l e R s m args below meth c H locs cells slots Q (F0 m pc ls (.int y :: .int x :: rest)) :=
  va_mmax X.1 X.2.1 (X.2.2.1.trans hsz.symm) X.2.2.2.1 (X.2.2.2.2.1 _ hlink) (X.2.2.2.2.1 _ hstat) (X.2.2.2.2.1 _ hini) (X.2.2.2.2.1 _ hcode) hframes hlocals hc hs hdg kk
theorem r_ldc (X : cx G p s m args meth c cc nL ret own) {index : Nat} {v : Int32} (hcon : Cond.constant own index v ∈ lw_gd) (hdg : decode cc pc = .ok (.ldc index, 2)) (k : W p l e R s m args below meth c H locs cells slots Q (F0 m (pc + 2) ls (.int v :: rest))) : W p l e R s m args below meth c H locs cells slots Q (F0 m pc ls rest) :=
  lv_ldc X.1 X.2.1 X.2.2.2.1 (X.2.2.2.2.1 _ hcon) hdg k
theorem r_ldcw (X : cx G p s m args meth c cc nL ret own) {index : Nat} {v : Int32} (hcon : Cond.constant own index v ∈ lw_gd) (hdg : decode cc pc = .ok (.ldc_w index, 3)) (k : W p l e R s m args below meth c H locs cells slots Q (F0 m (pc + 3) ls (.int v :: rest))) : W p l e R s m args below meth c H locs cells slots Q (F0 m pc ls rest) :=
  lv_ldcw X.1 X.2.1 X.2.2.2.1 (X.2.2.2.2.1 _ hcon) hdg k
theorem r_ldc2 (X : cx G p s m args meth c cc nL ret own) {index : Nat} {v : Int64} (hcon : Cond.constantLong own index v ∈ lw_gd) (hdg : decode cc pc = .ok (.ldc2_w index, 3)) (k : W p l e R s m args below meth c H locs cells slots Q (F0 m (pc + 3) ls (.long v :: rest))) : W p l e R s m args below meth c H locs cells slots Q (F0 m pc ls rest) :=
  lv_ldc2 X.1 X.2.1 X.2.2.2.1 (X.2.2.2.2.1 _ hcon) hdg k
theorem r_ldcS (X : cx G p s m args meth c cc nL ret own) {index i : Nat} {tx : String} (hi : c_strs[i]? = some (own, index, tx)) (hdg : decode cc pc = .ok (.ldc index, 2)) (k : W p l e R s m args below meth c H locs cells slots Q (F0 m (pc + 2) ls (.ref (gS G i) :: rest))) : W p l e R s m args below meth c H locs cells slots Q (F0 m pc ls rest) :=
  va_ldcS X.1 X.2.1 X.2.2.2.1 (X.2.2.2.2.2.2.2.2.2.2.2.2.1 i _ hi) hdg k
theorem r_gets (X : cx G p s m args meth c cc nL ret own) (h : bw G s μ H locs) {C n d : String} {v : Value} {index : Nat} (hZ : va_Z C n d v (gA G) s s.heap) (hlink : Cond.fieldLink own index C n d ∈ lw_gd) (hdg : decode cc pc = .ok (.getstatic index, 3))
    (kk : W p l e R s m args below meth c H locs cells slots Q (F0 m (pc + 3) ls (v :: rest))) : W p l e R s m args below meth c H locs cells slots Q (F0 m pc ls rest) :=
  va_gets X.1 X.2.1 hZ h.2 X.2.2.2.1 (X.2.2.2.2.1 _ hlink) (fun _ h9 => h9) hdg kk
theorem r_ti (X : cx G p s m args meth c cc nL ret own) (h : bw G s μ H locs) {t N : Nat} {f : Nat → Int32} (hT : va_T .int t N (fun k => .int (f k)) (gA G) s s.heap) {i : Int32} (hin : vp_in i N) (hdg : decode cc pc = .ok (.iaload, 1))
    (kk : W p l e R s m args below meth c H locs cells slots Q (F0 m (pc + 1) ls (.int (f i.toNatClampNeg) :: rest))) : W p l e R s m args below meth c H locs cells slots Q (F0 m pc ls (.int i :: .ref t :: rest)) :=
  va_ti X.1 X.2.1 hT h.2 hin rfl hdg kk
theorem r_recv (X : cx G p s m args meth c cc nL ret own) (h : bw G s μ H locs) {j ci : Nat} {ks : List (Option (Option Nat))} (ho : gt G j = .inr (ci, ks) ∧ j < gN G) {q : vw_C} (hc : vwCl[ci]? = some q) : ∃ cell : Cell, H[ga G j]? = some cell ∧ cell.vm.isStatics = false ∧ s.vm.findClass q.1 = some cell.cls := by
  have he : (mw G μ)[j]? = some (ga G j, .inr (ci, mf G (μ j) 0 ks)) := by rw [mw_get ho.2, ho.1]; rfl
  exact va_recv X.2.2.2.2.2.2.2.1 h.1 hc he
theorem r_pre (X : cx G p s m args meth c cc nL ret own) (h : bw G s μ H locs) {av : List Value} {a : Array Value} (ha : a = av.toArray) : ∀ U : State, U.heap = H → s.WarmedH U.vm → pr G μ av a U := by
  intro U hU hW
  refine ⟨ha, ?_, va_K.moved hW.alike X.2.2.2.2.2.2.2.1, gE_warm X.2.2.2.2.2.2.2.2.2 h.2 hW hU⟩
  show va_P (gD G) vwCl (mw G μ) U.heap
  rw [hU]; exact h.1
theorem r_iret (X : cx G p s m args meth c cc nL (some .int) own) (h : bw G s μ H locs) {Q0 : Int32 → vM → Prop} {v : Int32} (hQ : Q0 v μ) (hdg : decode cc pc = .ok (.ireturn, 1)) : W p l e R s m args below meth c H locs 0 0 (MQ below (qI G Q0) args s 0 0 (gA G)) (F0 m pc ls [.int v]) :=
  W.iret X.1 X.2.1 X.2.2.2.2.2.1 (fun t ht _ => ⟨⟨v, μ, rfl, hQ, by show va_P _ _ _ t.heap; rw [ht]; exact h.1⟩, h.2.F ht⟩) h.2.2.2 hdg X.2.2.2.2.2.2.1
theorem r_zret (X : cx G p s m args meth c cc nL (some .boolean) own) (h : bw G s μ H locs) {Q0 : Int32 → vM → Prop} {v : Int32} (hz : bz v) (hQ : Q0 v μ) (hdg : decode cc pc = .ok (.ireturn, 1)) : W p l e R s m args below meth c H locs 0 0 (MQ below (qI G Q0) args s 0 0 (gA G)) (F0 m pc ls [.int v]) :=
  W.zret X.1 X.2.1 X.2.2.2.2.2.1 (by rcases hz with rfl | rfl <;> rfl) (fun t ht _ => ⟨⟨v, μ, rfl, hQ, by show va_P _ _ _ t.heap; rw [ht]; exact h.1⟩, h.2.F ht⟩) h.2.2.2 hdg X.2.2.2.2.2.2.1
theorem r_vret (X : cx G p s m args meth c cc nL none own) (h : bw G s μ H locs) {Q0 : vM → Prop} (hQ : Q0 μ) (hdg : decode cc pc = .ok (.return_, 1)) : W p l e R s m args below meth c H locs 0 0 (MQ below (qV G Q0) args s 0 0 (gA G)) (F0 m pc ls []) :=
  W.vret X.1 X.2.1 X.2.2.2.2.2.1 (fun t ht _ => ⟨⟨μ, rfl, hQ, by show va_P _ _ _ t.heap; rw [ht]; exact h.1⟩, h.2.F ht⟩) h.2.2.2 hdg X.2.2.2.2.2.2.1
theorem r_sret {nm : String} (X : cx G p s m args meth c cc nL (some (.object nm)) own) (h : bw G s μ H locs) {Q0 : Int32 → vM → Prop} {v : Int32} (hQ : Q0 v μ) (hdg : decode cc pc = .ok (.areturn, 1)) : W p l e R s m args below meth c H locs 0 0 (MQ below (qS G Q0) args s 0 0 (gA G)) (F0 m pc ls [.ref (gS G v.toNatClampNeg)]) :=
  W.aret X.1 X.2.1 X.2.2.2.2.2.1 (Or.inl ⟨nm, rfl⟩) (Or.inr ⟨_, rfl⟩) (fun t ht _ => ⟨⟨(v, μ), _, rfl, hQ, rfl, by show va_P _ _ _ t.heap; rw [ht]; exact h.1⟩, h.2.F ht⟩) h.2.2.2 hdg X.2.2.2.2.2.2.1
theorem r_pret {nm : String} (X : cx G p s m args meth c cc nL (some (.object nm)) own) (h : bw G s μ H locs) {Q0 : Nat → vM → Prop} {v : Nat} (hQ : Q0 v μ) (hdg : decode cc pc = .ok (.areturn, 1)) : W p l e R s m args below meth c H locs 0 0 (MQ below (qP G Q0) args s 0 0 (gA G)) (F0 m pc ls [.ref (ga G v)]) :=
  W.aret X.1 X.2.1 X.2.2.2.2.2.1 (Or.inl ⟨nm, rfl⟩) (Or.inr ⟨_, rfl⟩) (fun t ht _ => ⟨⟨(v, μ), _, rfl, hQ, rfl, by show va_P _ _ _ t.heap; rw [ht]; exact h.1⟩, h.2.F ht⟩) h.2.2.2 hdg X.2.2.2.2.2.2.1
-- calls
theorem k_i (h : bw G s μ H locs) {st0 : List Value} {a : Array Value} {Q0 : Int32 → vM → Prop} (hr : va_Run p l e R s m args below meth c H locs cells slots 0 0 (F0 m pc ls st0) rest (qI G Q0 a) (gA G))
    (kk : ∀ (r : Int32) (μ1 : vM) (H1 : Heap) (locs1 : List Loc), Q0 r μ1 → bw G s μ1 H1 locs1 → W p l e R s m args below meth c H1 locs1 cells slots Q (F0 m (pc + 3) ls (.int r :: rest))) : W p l e R s m args below meth c H locs cells slots Q (F0 m pc ls st0) :=
  va_calli hr h.2 (fun _ _ q => q) (fun _ q => q) (fun r u t H1 locs1 ht _ hp hB _ _ hS => kk r u H1 locs1 hp ⟨by rw [← ht]; exact hB, hS⟩)
theorem k_v (h : bw G s μ H locs) {st0 : List Value} {a : Array Value} {Q0 : vM → Prop} (hr : va_Run p l e R s m args below meth c H locs cells slots 0 0 (F0 m pc ls st0) rest (qV G Q0 a) (gA G))
    (kk : ∀ (μ1 : vM) (H1 : Heap) (locs1 : List Loc), Q0 μ1 → bw G s μ1 H1 locs1 → W p l e R s m args below meth c H1 locs1 cells slots Q (F0 m (pc + 3) ls rest)) : W p l e R s m args below meth c H locs cells slots Q (F0 m pc ls st0) :=
  va_callv hr h.2 (fun _ _ q => q) (fun _ q => q) (fun u t H1 locs1 ht _ hp hB _ _ hS => kk u H1 locs1 hp ⟨by rw [← ht]; exact hB, hS⟩)
theorem k_s (h : bw G s μ H locs) {st0 : List Value} {a : Array Value} {Q0 : Int32 → vM → Prop} (hr : va_Run p l e R s m args below meth c H locs cells slots 0 0 (F0 m pc ls st0) rest (qS G Q0 a) (gA G))
    (kk : ∀ (r : Int32) (μ1 : vM) (H1 : Heap) (locs1 : List Loc), Q0 r μ1 → bw G s μ1 H1 locs1 → W p l e R s m args below meth c H1 locs1 cells slots Q (F0 m (pc + 3) ls (.ref (gS G r.toNatClampNeg) :: rest))) : W p l e R s m args below meth c H locs cells slots Q (F0 m pc ls st0) :=
  va_callr hr h.2 (fun _ _ q => q) (fun _ q => q) (fun u ra t H1 locs1 ht _ hp hB _ _ hS => by rw [hB.1]; exact kk u.1 u.2 H1 locs1 hp ⟨by rw [← ht]; exact hB.2, hS⟩)
theorem k_p (h : bw G s μ H locs) {st0 : List Value} {a : Array Value} {Q0 : Nat → vM → Prop} (hr : va_Run p l e R s m args below meth c H locs cells slots 0 0 (F0 m pc ls st0) rest (qP G Q0 a) (gA G))
    (kk : ∀ (r : Nat) (μ1 : vM) (H1 : Heap) (locs1 : List Loc), Q0 r μ1 → bw G s μ1 H1 locs1 → W p l e R s m args below meth c H1 locs1 cells slots Q (F0 m (pc + 3) ls (.ref (ga G r) :: rest))) : W p l e R s m args below meth c H locs cells slots Q (F0 m pc ls st0) :=
  va_callr hr h.2 (fun _ _ q => q) (fun _ q => q) (fun u ra t H1 locs1 ht _ hp hB _ _ hS => by rw [hB.1]; exact kk u.1 u.2 H1 locs1 hp ⟨by rw [← ht]; exact hB.2, hS⟩)
theorem n_V {y : MethodName} {ws ws' : List Cond} {rm : Room} {As : List Value} {Qc : Array Value → State → Outcome → State → Prop} {bytes : ByteArray} {maxL : Nat} {rt : Option FieldType} {idx j ci : Nat} {ks : List (Option (Option Nat))} {T : u_T} {N : Nat} {C : String} (X : cx G p s m args meth c cc nL ret own) (h : bw G s μ H locs) (hsz : ls.size = nL)
    (hM : mt l G y ws rm (.ref (ga G j) :: As) μ Qc) (hg : GoodIn lw_gd (wsV own idx C y ws)) (hw : ws = Cond.code y bytes maxL rt :: ws') (hd : y.cls = C ∧ y.cls ≠ "java/lang/invoke/MethodHandle" ∧ y.cls ≠ "java/lang/invoke/VarHandle" ∧ (parseMethodDescriptor y.desc).map (fun d => d.parameters.length) = some As.length) (hrc : rm.cells = 0 ∧ rm.slots = 0) (hR : rm.frames + 1 ≤ R.frames ∧ 8 + (maxL + 11) + rm.locals ≤ R.locals)
    (ho : gt G j = .inr (ci, ks) ∧ j < gN G) (hc : vwCl[ci]? = some (C, T, N)) {st0 : List Value} (hst : st0 = As.reverse ++ .ref (ga G j) :: rest) (hW : (rest.map fun v => v.category).sum ≤ 8) (hdg : decode cc pc = .ok (.invokevirtual idx, 3)) (hf : cells ≤ R.cells ∧ slots ≤ R.slots) :
    va_Run p l e R s m args below meth c H locs cells slots 0 0 (F0 m pc ls st0) rest (Qc (Value.ref (ga G j) :: As).toArray) (gA G) :=
  va_runV (As := As) (rest := rest) ⟨X.1, X.2.1, X.2.2.1, X.2.2.2.1, X.2.2.2.2.1⟩ hM (cwV As.length X.2.2.2.2.1 hg hw hrc.1 hrc.2 hd hR) ⟨pr_blind, r_recv X h ho hc, r_pre X h rfl⟩ rfl rfl hsz hst (lv_room hW) hdg hf
theorem n_S {y : MethodName} {ws ws' : List Cond} {rm : Room} {As : List Value} {Qc : Array Value → State → Outcome → State → Prop} {bytes : ByteArray} {maxL : Nat} {rt : Option FieldType} {idx : Nat} (X : cx G p s m args meth c cc nL ret own) (h : bw G s μ H locs) (hsz : ls.size = nL)
    (hM : mt l G y ws rm As μ Qc) (hg : GoodIn lw_gd (wsS own idx y ws)) (hw : ws = Cond.code y bytes maxL rt :: ws') (hd : y.cls = own ∧ y.cls ≠ "java/lang/invoke/MethodHandle" ∧ y.cls ≠ "java/lang/invoke/VarHandle" ∧ (parseMethodDescriptor y.desc).map (fun d => d.parameters.length) = some As.length) (hrc : rm.cells = 0 ∧ rm.slots = 0) (hR : rm.frames + 1 ≤ R.frames ∧ 8 + (maxL + 11) + rm.locals ≤ R.locals)
    {st0 : List Value} (hst : st0 = As.reverse ++ rest) (hW : (rest.map fun v => v.category).sum ≤ 8) (hdg : decode cc pc = .ok (.invokestatic idx, 3)) (hf : cells ≤ R.cells ∧ slots ≤ R.slots) :
    va_Run p l e R s m args below meth c H locs cells slots 0 0 (F0 m pc ls st0) rest (Qc As.toArray) (gA G) :=
  va_runS (As := As) (rest := rest) ⟨X.1, X.2.1, X.2.2.1, X.2.2.2.1, X.2.2.2.2.1⟩ hM (cwS As.length X.2.2.2.2.1 hg hw hrc.1 hrc.2 hd hR) ⟨pr_blind, r_pre X h rfl⟩ rfl rfl hsz hst (lv_room hW) hdg hf
end RW
