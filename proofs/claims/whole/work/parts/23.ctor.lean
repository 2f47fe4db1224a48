/-! THE CONSTRUCTORS: a new object's cells come one by one; at the end they stand in the layout's order -/
def gk (D : va_G) (cA : ClassId) (ad adS : Nat → Nat) (tm : List vT) (A : Nat → Prop) : vG := ((D, cA), (ad, adS), ((fun j => tm.getD j (.inl 0)), tm.length), A)
theorem gk_at {D : va_G} {cA : ClassId} {ad adS : Nat → Nat} {tm : List vT} {A B : Nat → Prop} {μ : vM} : mw (gk D cA ad adS tm A) μ = mw (gk D cA ad adS tm B) μ := by
  have h : ∀ (f : Nat → Int32) (ks : List (Option (Option Nat))) (k : Nat), mf (gk D cA ad adS tm A) f k ks = mf (gk D cA ad adS tm B) f k ks := by
    intro f ks
    induction ks with
    | nil => intro k; rfl
    | cons a r ih =>
      intro k
      match a with
      | none => simp only [mf]; rw [ih]
      | some none => simp only [mf]; rw [ih]; rfl
      | some (some q) => simp only [mf]; rw [ih]; rfl
  simp only [mw]
  apply List.map_congr_left
  intro j _
  show (ad j, me _ (tm.getD j (.inl 0)) (μ j)) = (ad j, me _ (tm.getD j (.inl 0)) (μ j))
  cases tm.getD j (.inl 0) with
  | inl n => rfl
  | inr o => simp only [me]; rw [h]
/-- behind a call: what stands ahead, and what the callee made of its part -/
theorem j_app {A0 : Nat → Prop} {D : va_G} {cl : List vw_C} {wr wc w1 : va_W} {H H1 : Heap} (hP : va_P D cl (wr ++ wc) H) (hD : va_D A0 (wr ++ wc))
    (hk : ∀ q : Nat, q < H.size → ¬ va_A wc H.size q → H1[q]? = H[q]?) (hF : ∀ q, va_A wc H.size q → A0 q) (hP1 : va_P D cl w1 H1) (hD1 : va_D (va_A wc H.size) w1) : va_P D cl (wr ++ w1) H1 ∧ va_D A0 (wr ++ w1) := by
  have hat : ∀ (k : Nat) (q : Nat × va_E), wr[k]? = some q → (wr ++ wc)[k]? = some q := fun k q h => by
    rw [List.getElem?_append_left (List.getElem?_eq_some_iff.mp h).1]; exact h
  have hapart : ∀ (k : Nat) (q : Nat × va_E), wr[k]? = some q → q.1 < H.size ∧ ¬ va_A wc H.size q.1 := by
    intro k q h
    have hl : q.1 < H.size := (hP k q (hat k q h)).lt
    refine ⟨hl, ?_⟩
    rintro (⟨k2, e2, h2⟩ | h2)
    · have h3 : (wr ++ wc)[wr.length + k2]? = some (q.1, e2) := by
        rw [List.getElem?_append_right (by omega)]; simpa using h2
      have h4 := hD.1 k (wr.length + k2) q (q.1, e2) (hat k q h) h3 rfl
      have h5 := (List.getElem?_eq_some_iff.mp h).1
      omega
    · omega
  refine ⟨va_P.app (fun k q h => ?_) hP1, va_D.app ⟨fun i j x y hi hj e => hD.1 i j x y (hat i x hi) (hat j y hj) e, fun k q h => hD.2 k q (hat k q h)⟩ (hD1.weaken (fun _ _ _ h => hF _ h)) ?_⟩
  · exact (hP k q (hat k q h)).kept (hk q.1 (hapart k q h).1 (hapart k q h).2)
  · intro i j x y hi hj e
    exact (hapart i x hi).2 (by rw [e]; exact hD1.2 j y hj)
def ib (A : Nat → Prop) (D : va_G) (s : State) (ws : va_W) (H : Heap) (locs : List Loc) : Prop := va_P D vwCl ws H ∧ va_D A ws ∧ va_S A s.heap H locs
def ctx_i (G0 : vG) (D : va_G) (cA : ClassId) (A : Nat → Prop) (p : Program) (s : State) (m : MethodId) (args : Array Value) (meth : Method) (c : Code) (cc : ByteArray) (nL : Nat) (own : String) : Prop :=
  p.tables.exec = Jvm.exec ∧ c.code = cc ∧ c.maxLocals = nL ∧ s.vm.findClass own = some m.cls ∧ (∀ w ∈ lw_gd, w.before args s = true) ∧ va_K D vwCl [(cA, .int)] s ∧ gE G0 s s.heap ∧ (∀ q : Nat, s.heap.size ≤ q → A q) ∧ (∀ q, A q → gA G0 q)
abbrev pI (G0 : vG) (D : va_G) (cA : ClassId) (h0 sz : Nat) (e0 : va_E) (as : List Value) : Array Value → State → Prop := va_Pc (.ref h0 :: as) (fun U => U.heap.size = sz ∧ va_P D vwCl [(h0, e0)] U.heap ∧ va_K D vwCl [(cA, .int)] U ∧ gE G0 U U.heap)
abbrev qN (G0 : vG) (D : va_G) (cA : ClassId) (h0 sz : Nat) (e0 : va_E) (tm : List vT) (Q : vM → Prop) : Array Value → State → Outcome → State → Prop := va_Qv (fun u : (Nat → Nat) × vM => Q u.2) (fun u t => u.1 0 = h0 ∧ va_P D vwCl (mw (gk D cA u.1 (gS G0) tm (fun _ => True)) u.2) t.heap ∧ va_D (va_A [(h0, e0)] sz) (mw (gk D cA u.1 (gS G0) tm (fun _ => True)) u.2)) (va_A [(h0, e0)] sz)
abbrev mi (l : Launch) (G0 : vG) (D : va_G) (cA : ClassId) (y : MethodName) (ws : List Cond) (rm : Room) (as : List Value) (h0 sz : Nat) (e0 : va_E) (tm : List vT) (Q : vM → Prop) (mc ms : Nat) : Prop := Met l y ws rm (pI G0 D cA h0 sz e0 as) (qN G0 D cA h0 sz e0 tm Q) mc ms (va_A [(h0, e0)] sz)
theorem pI_blind {G0 : vG} {D : va_G} {cA : ClassId} {h0 sz : Nat} {e0 : va_E} {as : List Value} : FrameBlind (pI G0 D cA h0 sz e0 as) := by
  intro a U g mk h
  obtain ⟨h0, h1, h2, h3, h4⟩ := h
  exact ⟨h0, h1, h2, va_K.moved (u := U) (U := U.calling g mk a) (Vm.Alike.refl U.vm) h3, gE_blind (U := U) (V := U.calling g mk a) rfl rfl h4⟩
theorem mi_of {l : Launch} {G0 : vG} {D : va_G} {cA : ClassId} {y : MethodName} {ws : List Cond} {rm : Room} {as : List Value} {h0 sz : Nat} {e0 : va_E} {tm : List vT} {Q : vM → Prop} {mc ms : Nat} {cc : ByteArray} {maxL : Nat} (own : String)
    (hy : plainName y.cls = true) (hw : ws = Cond.code y cc maxL none :: lw_gd) (hown : y.cls = own) (hyn : y.name = "<init>") (hn : (lg_sl (.ref h0 :: as)).length ≤ maxL) (hA0 : ∀ q, va_A [(h0, e0)] sz q → gA G0 q)
    (body : ∀ (p : Program) (e : Env) (s : State) (m : MethodId) (below : List Frame) (meth : Method) (c : Code) (A : Nat → Prop), s.heap.size = sz → va_A [(h0, e0)] sz = A → ctx_i G0 D cA A p s m (.ref h0 :: as).toArray meth c cc maxL own → meth.sig.returnType = none → meth.locks = false → meth.name = "<init>" → ib A D s [(h0, e0)] s.heap [] → ∀ ls : Array Slot, lv_has ls maxL (lv_args 0 (.ref h0 :: as)) →
      W p l e rm s m (.ref h0 :: as).toArray below meth c s.heap [] 0 0 (MQ below (qN G0 D cA h0 sz e0 tm Q) (.ref h0 :: as).toArray s mc ms (va_A [(h0, e0)] sz)) (F0 m 0 ls [])) : mi l G0 D cA y ws rm as h0 sz e0 tm Q mc ms := by
  refine Met.ofW (cc := cc) (maxL := maxL) (ret := none) hy hw ?_
  intro p e s m args below meth c s₁ B hml hv
  obtain ⟨rfl, hsz, hP, hK, hE⟩ := hv
  have hts := atoms_spec (ws := ws) B.pre
  have hown' : s.vm.findClass own = some m.cls := by rw [← hown]; exact findClass_of_methodNamed B.named
  have hin : meth.name = "<init>" := by rw [← hyn]; exact (name_of_methodNamed B.named B.method).1
  rw [lg_entry_eq]
  refine body p e s m below meth c _ hsz rfl ⟨B.exec, B.bytes, hml, hown', fun w h => hts w (by rw [hw]; exact List.mem_cons_of_mem _ h), hK, hE, ?_, hA0⟩ B.returns B.notSynchronized hin ⟨hP, ?_, va_S.rf⟩ _ (lv_entry _ hn)
  · intro q hq; exact Or.inr (by rw [← hsz]; exact hq)
  · refine ⟨fun i j x y hi hj _ => ?_, fun k q hk => Or.inl ⟨k, q.2, hk⟩⟩
    have := (List.getElem?_eq_some_iff.mp hi).1
    have := (List.getElem?_eq_some_iff.mp hj).1
    simp at *; omega
section IW
variable {G0 : vG} {D : va_G} {cA : ClassId} {A : Nat → Prop} {p : Program} {l : Launch} {e : Env} {R : Room} {s : State} {m : MethodId} {args : Array Value} {below : List Frame} {meth : Method} {c : Code} {H : Heap} {locs : List Loc} {cells slots : Nat} {Q : State → Prop}
  {cc : ByteArray} {nL : Nat} {own : String} {pc : Nat} {ls : Array Slot} {rest : List Value} {ws : va_W}
theorem i_obj (X : ctx_i G0 D cA A p s m args meth c cc nL own) (hsz : ls.size = nL) {idx a : Nat} (hlink : Cond.methodLink own idx Lib.objectInit ∈ lw_gd) (hinst : Cond.instanceMethod Lib.objectInit ∈ lw_gd) (hcode : Cond.code Lib.objectInit ⟨#[0xb1]⟩ 1 none ∈ lw_gd) (hd : decode cc pc = .ok (.invokespecial idx, 3)) (hf : 1 ≤ R.frames) (hl : 2 * (F0 m pc ls (Value.ref a :: rest)).monitorRoom + (rest.map fun v => v.category).sum + 12 ≤ R.locals)
    (kk : W p l e R s m args below meth c H locs cells slots Q (F0 m (pc + 3) ls rest)) : W p l e R s m args below meth c H locs cells slots Q (F0 m pc ls (.ref a :: rest)) :=
  W.objInit X.1 X.2.1 X.2.2.2.1 (X.2.2.2.2.1 _ hlink) (X.2.2.2.2.1 _ hinst) (X.2.2.2.2.1 _ hcode) rfl (by rw [X.2.2.1]; exact hsz) rfl hd hf hl kk
theorem i_new (X : ctx_i G0 D cA A p s m args meth c cc nL own) (h : ib A D s ws H locs) {C : String} {T : u_T} {N ci idx : Nat} (hc : vwCl[ci]? = some (C, T, N)) (hin : ∀ w ∈ u_ws C T N, w ∈ lw_gd) (ty : Nat → FieldType) (hty : ∀ k, k < N → parseFieldDescriptor (T k).2.2.1 = some (ty k)) (hcl : Cond.classLink own idx C ∈ lw_gd) (hinst : Cond.instantiable C N ∈ lw_gd) (hini : Cond.initialized C ∈ lw_gd) {fs : List Value} (hfs : ∀ j, j < N → defaultValue (ty j) = vp_V fs j) (hcells : cells + 1 ≤ R.cells) (hslots : slots + N ≤ R.slots) (hdg : decode cc pc = .ok (.new idx, 3))
    (kk : ∀ (q : Nat) (H1 : Heap), ib A D s (ws ++ [(q, .inr (ci, fs))]) H1 locs → W p l e R s m args below meth c H1 locs (cells + 1) (slots + N) Q (F0 m (pc + 3) ls (.ref q :: rest))) : W p l e R s m args below meth c H locs cells slots Q (F0 m pc ls rest) :=
  va_new X.1 X.2.1 X.2.2.2.2.1 hin ty hty X.2.2.2.1 (X.2.2.2.2.1 _ hcl) (X.2.2.2.2.1 _ hinst) (X.2.2.2.2.1 _ hini) X.2.2.2.2.2.1 h.1 h.2.1 h.2.2 X.2.2.2.2.2.2.2.1 hc hfs hcells hslots hdg (fun q H1 a b c => kk q H1 ⟨a, b, c⟩)
theorem i_newa (X : ctx_i G0 D cA A p s m args meth c cc nL own) (h : ib A D s ws H locs) {n : Int32} {N : Nat} (harr : Cond.arrayClass .int ∈ lw_gd) (hn : ¬ n < 0) (hN : n.toNatClampNeg = N) (hbytes : N * componentBytes .int ≤ 536870912) (hcells : cells + 1 ≤ R.cells) (hslots : slots + N ≤ R.slots) (hdg : decode cc pc = .ok (.newarray .int, 2))
    (kk : ∀ (q : Nat) (H1 : Heap), ib A D s (ws ++ [(q, .inl (cA, N, .inl (fun _ => 0)))]) H1 locs → W p l e R s m args below meth c H1 locs (cells + 1) (slots + N) Q (F0 m (pc + 2) ls (.ref q :: rest))) : W p l e R s m args below meth c H locs cells slots Q (F0 m pc ls (.int n :: rest)) := by
  refine va_newa (atype := .int) (ty := .int) (a0 := (N, .inl (fun _ => 0))) X.1 X.2.1 (X.2.2.2.2.1 _ harr) rfl X.2.2.2.2.2.1 h.1 h.2.1 h.2.2 X.2.2.2.2.2.2.2.1 (fun cA => rfl) hn hN hbytes hcells hslots hdg ?_
  intro q cA2 H1 hK a b c
  have h1 : s.vm.findClass ("[" ++ FieldType.toString .int) = some cA := (hK.2 0 (cA, .int) rfl).2
  have h2 : s.vm.findClass ("[" ++ FieldType.toString .int) = some cA2 := (hK.2 1 (cA2, .int) rfl).2
  have h3 : cA2 = cA := by rw [h1] at h2; exact (Option.some.inj h2).symm
  subst h3
  exact kk q H1 ⟨a, b, c⟩
theorem i_putF (X : ctx_i G0 D cA A p s m args meth c cc nL own) (hin2 : meth.name = "<init>") {a : Nat} {fs : List Value} {ci : Nat} {wr : va_W} (h : ib A D s ((a, .inr (ci, fs)) :: wr) H locs) {C : String} {T : u_T} {N idx : Nat} (hc : vwCl[ci]? = some (C, T, N)) (hin : ∀ w ∈ u_ws C T N, w ∈ lw_gd) (ty0 : Nat → FieldType) (hty : ∀ k, k < N → parseFieldDescriptor (T k).2.2.1 = some (ty0 k)) (hnm : ∀ a, a < N → ∀ b, b < N → a ≠ b → (T a).2.1 ≠ (T b).2.1) (k : Nat) (hk : k < N) (hlink : Cond.fieldLink own idx (T k).1 (T k).2.1 (T k).2.2.1 ∈ lw_gd) (hfin : (T k).2.2.2 = true) (hdecl : (T k).1 = own) {ty : FieldType} {v : Value} (hT : ty0 k = ty) (hn : narrow ty v = v) (hfit : fits ty v = true) (hl : k < fs.length) {fs' : List Value} (hfs : fs.set k v = fs') (hdg : decode cc pc = .ok (.putfield idx, 3))
    (kk : ∀ (H1 : Heap) (locs1 : List Loc), ib A D s ((a, .inr (ci, fs')) :: wr) H1 locs1 → W p l e R s m args below meth c H1 locs1 cells slots Q (F0 m (pc + 3) ls rest)) : W p l e R s m args below meth c H locs cells slots Q (F0 m pc ls (v :: .ref a :: rest)) := by
  subst hfs
  exact va_putF X.1 X.2.1 X.2.2.2.2.1 hin ty0 hty hnm X.2.2.2.1 X.2.2.2.2.2.1 h.1 h.2.1 h.2.2 0 rfl hc k hk (X.2.2.2.2.1 _ hlink) (fun _ h9 => h9) hfin hin2 hdecl (by rw [hty k hk, hT]) hn hfit hl hdg (fun H1 locs1 a b c => kk H1 locs1 ⟨a, b, c⟩)
theorem i_put (X : ctx_i G0 D cA A p s m args meth c cc nL own) {a : Nat} {fs : List Value} {ci : Nat} {wr : va_W} (h : ib A D s ((a, .inr (ci, fs)) :: wr) H locs) {C : String} {T : u_T} {N idx : Nat} (hc : vwCl[ci]? = some (C, T, N)) (hin : ∀ w ∈ u_ws C T N, w ∈ lw_gd) (ty0 : Nat → FieldType) (hty : ∀ k, k < N → parseFieldDescriptor (T k).2.2.1 = some (ty0 k)) (hnm : ∀ a, a < N → ∀ b, b < N → a ≠ b → (T a).2.1 ≠ (T b).2.1) (k : Nat) (hk : k < N) (hlink : Cond.fieldLink own idx (T k).1 (T k).2.1 (T k).2.2.1 ∈ lw_gd) (hfin : (T k).2.2.2 = false) {ty : FieldType} {v : Value} (hT : ty0 k = ty) (hn : narrow ty v = v) (hfit : fits ty v = true) (hl : k < fs.length) {fs' : List Value} (hfs : fs.set k v = fs') (hdg : decode cc pc = .ok (.putfield idx, 3))
    (kk : ∀ (H1 : Heap) (locs1 : List Loc), ib A D s ((a, .inr (ci, fs')) :: wr) H1 locs1 → W p l e R s m args below meth c H1 locs1 cells slots Q (F0 m (pc + 3) ls rest)) : W p l e R s m args below meth c H locs cells slots Q (F0 m pc ls (v :: .ref a :: rest)) := by
  subst hfs
  exact va_put X.1 X.2.1 X.2.2.2.2.1 hin ty0 hty hnm X.2.2.2.1 X.2.2.2.2.2.1 h.1 h.2.1 h.2.2 0 rfl hc k hk (X.2.2.2.2.1 _ hlink) (fun _ h9 => h9) hfin (by rw [hty k hk, hT]) hn hfit hl hdg (fun H1 locs1 a b c => kk H1 locs1 ⟨a, b, c⟩)
theorem i_ldcS (X : ctx_i G0 D cA A p s m args meth c cc nL own) {idx i : Nat} {tx : String} {v : Int32} (hv : v.toNatClampNeg = i) (hi : c_strs[i]? = some (own, idx, tx)) (hdg : decode cc pc = .ok (.ldc idx, 2)) (k : W p l e R s m args below meth c H locs cells slots Q (F0 m (pc + 2) ls (.ref (gS G0 v.toNatClampNeg) :: rest))) : W p l e R s m args below meth c H locs cells slots Q (F0 m pc ls rest) := by
  subst hv
  exact va_ldcS X.1 X.2.1 X.2.2.2.1 (X.2.2.2.2.2.2.1.2.2.2.1 _ _ hi) hdg k
theorem i_free (h : ib A D s ws H locs) {wr : va_W} {q : Nat} {e0 : va_E} (hws : ws = wr ++ [(q, e0)]) (hA : ∀ q : Nat, s.heap.size ≤ q → A q) : ∀ r, va_A [(q, e0)] H.size r → A r := by
  subst hws
  intro r hr
  rcases hr with ⟨k, e1, hk⟩ | hr
  · have hl := (List.getElem?_eq_some_iff.mp hk).1
    have h0 : k = 0 := by simp at hl; omega
    subst h0
    simp at hk
    have := h.2.1.2 wr.length (q, e0) (by simp)
    rw [← hk.1]; exact this
  · exact hA r (Nat.le_trans h.2.2.1 hr)
theorem i_pre (X : ctx_i G0 D cA A p s m args meth c cc nL own) (h : ib A D s ws H locs) {wr : va_W} {q : Nat} {e0 : va_E} (hws : ws = wr ++ [(q, e0)]) {as : List Value} : ∀ U : State, U.heap = H → s.WarmedH U.vm → pI G0 D cA q H.size e0 as (Value.ref q :: as).toArray U := by
  subst hws
  intro U hU hW
  refine ⟨rfl, by rw [hU], ?_, va_K.moved hW.alike X.2.2.2.2.2.1, gE_warm2 X.2.2.2.2.2.2.1 (fun a ha hn => by rw [hU]; exact h.2.2.2.1 a ha (fun hA => hn (X.2.2.2.2.2.2.2.2 a hA))) hW⟩
  rw [hU]
  intro k r hk
  have hl := (List.getElem?_eq_some_iff.mp hk).1
  have h0 : k = 0 := by simp at hl; omega
  subst h0
  exact h.1 wr.length r (by simpa using hk)
theorem i_behind {mc ms : Nat} (X : ctx_i G0 D cA A p s m args meth c cc nL own) (h : ib A D s ws H locs) {wr : va_W} {q : Nat} {e0 : va_E} (hws : ws = wr ++ [(q, e0)]) {tm : List vT} {Q0 : vM → Prop} {free : Nat → Prop} (hfree : free = va_A [(q, e0)] H.size) {st0 : List Value} {a : Array Value}
    (hr : va_Run p l e R s m args below meth c H locs cells slots mc ms (F0 m pc ls st0) rest (qN G0 D cA q H.size e0 tm Q0 a) free)
    (kk : ∀ (ad : Nat → Nat) (μ : vM) (H1 : Heap) (locs1 : List Loc), ad 0 = q → Q0 μ → ib A D s (wr ++ mw (gk D cA ad (gS G0) tm (fun _ => True)) μ) H1 locs1 → W p l e R s m args below meth c H1 locs1 (cells + mc) (slots + ms) Q (F0 m (pc + 3) ls rest)) : W p l e R s m args below meth c H locs cells slots Q (F0 m pc ls st0) := by
  subst hfree
  have hF := i_free h hws X.2.2.2.2.2.2.2.1
  refine va_callv hr h.2.2 (fun r _ h => hF r h) hF (fun u t H1 locs1 ht _ hp hB _ hk hS => ?_)
  subst hws
  obtain ⟨hB1, hB2, hB3⟩ := hB
  rw [ht] at hB2
  obtain ⟨a1, a2⟩ := j_app h.1 h.2.1 hk hF hB2 hB3
  exact kk u.1 u.2 H1 locs1 hB1 hp ⟨a1, a2, hS⟩
theorem gw_c {y : MethodName} {bytes : ByteArray} {n : Nat} {ret : Option FieldType} (h : Cond.code y bytes n ret ∈ lw_gd) : GoodIn lw_gd (Cond.code y bytes n ret :: lw_gd) := by
  intro w hw
  rcases List.mem_cons.mp hw with rfl | hw
  · exact gd_good _ h
  · exact gd_good w hw
/-- the call of a constructor on the object made last -/
theorem i_call {mc ms : Nat} (X : ctx_i G0 D cA A p s m args meth c cc nL own) (hsz : ls.size = nL) (h : ib A D s ws H locs) {wr : va_W} {q : Nat} {e0 : va_E} (hws : ws = wr ++ [(q, e0)]) {y : MethodName} {bytes : ByteArray} {maxL idx : Nat} {rm : Room} {as : List Value} {tm : List vT} {Q0 : vM → Prop} {st0 : List Value}
    (hM : mi l G0 D cA y (Cond.code y bytes maxL none :: lw_gd) rm as q H.size e0 tm Q0 mc ms) (hcode : Cond.code y bytes maxL none ∈ lw_gd) (hrc : rm.cells = mc) (hrs : rm.slots = ms) (hini : Cond.initialized y.cls ∈ lw_gd) (hlk : Cond.methodLink own idx y ∈ lw_gd) (hinst : Cond.instanceMethod y ∈ lw_gd) (hyn : y.name = "<init>") (hd : y.cls ≠ "java/lang/invoke/MethodHandle" ∧ y.cls ≠ "java/lang/invoke/VarHandle" ∧ (parseMethodDescriptor y.desc).map (fun d => d.parameters.length) = some as.length) (hR : rm.frames + 1 ≤ R.frames ∧ 8 + (maxL + 11) + rm.locals ≤ R.locals)
    (hst : st0 = as.reverse ++ .ref q :: rest) (hW : (rest.map fun v => v.category).sum ≤ 8) (hdg : decode cc pc = .ok (.invokespecial idx, 3)) (hf : cells + mc ≤ R.cells ∧ slots + ms ≤ R.slots)
    (kk : ∀ (ad : Nat → Nat) (μ : vM) (H1 : Heap) (locs1 : List Loc), ad 0 = q → Q0 μ → ib A D s (wr ++ mw (gk D cA ad (gS G0) tm (fun _ => True)) μ) H1 locs1 → W p l e R s m args below meth c H1 locs1 (cells + mc) (slots + ms) Q (F0 m (pc + 3) ls rest)) : W p l e R s m args below meth c H locs cells slots Q (F0 m pc ls st0) :=
  i_behind X h hws rfl (va_runI (As := as) (rest := rest) ⟨X.1, X.2.1, X.2.2.1, X.2.2.2.1, X.2.2.2.2.1⟩ hM (cwI as.length X.2.2.2.2.1 (gw_c hcode) rfl hrc hrs (X.2.2.2.2.1 _ hini) (X.2.2.2.2.1 _ hlk) (X.2.2.2.2.1 _ hinst) hyn hd hR) ⟨pI_blind, i_pre X h hws⟩ rfl rfl hsz hst (lv_room hW) hdg hf) kk
theorem i_callN {mc ms : Nat} (X : ctx_i G0 D cA A p s m args meth c cc nL own) (hsz : ls.size = nL) (h : ib A D s ws H locs) {wr : va_W} {q : Nat} {e0 : va_E} (hws : ws = wr ++ [(q, e0)]) {y : MethodName} {bytes : ByteArray} {maxL idx ni : Nat} {host : String} {rm : Room} {as : List Value} {tm : List vT} {Q0 : vM → Prop} {st0 : List Value}
    (hM : mi l G0 D cA y (Cond.code y bytes maxL none :: lw_gd) rm as q H.size e0 tm Q0 mc ms) (hcode : Cond.code y bytes maxL none ∈ lw_gd) (hrc : rm.cells = mc) (hrs : rm.slots = ms) (hini : Cond.initialized y.cls ∈ lw_gd) (hlk : c_mn[ni]? = some (own, idx, y, host)) (hinst : Cond.instanceMethod y ∈ lw_gd) (hyn : y.name = "<init>") (hd : y.cls ≠ "java/lang/invoke/MethodHandle" ∧ y.cls ≠ "java/lang/invoke/VarHandle" ∧ (parseMethodDescriptor y.desc).map (fun d => d.parameters.length) = some as.length) (hR : rm.frames + 1 ≤ R.frames ∧ 8 + (maxL + 11) + rm.locals ≤ R.locals)
    (hst : st0 = as.reverse ++ .ref q :: rest) (hW : (rest.map fun v => v.category).sum ≤ 8) (hdg : decode cc pc = .ok (.invokespecial idx, 3)) (hf : cells + mc ≤ R.cells ∧ slots + ms ≤ R.slots)
    (kk : ∀ (ad : Nat → Nat) (μ : vM) (H1 : Heap) (locs1 : List Loc), ad 0 = q → Q0 μ → ib A D s (wr ++ mw (gk D cA ad (gS G0) tm (fun _ => True)) μ) H1 locs1 → W p l e R s m args below meth c H1 locs1 (cells + mc) (slots + ms) Q (F0 m (pc + 3) ls rest)) : W p l e R s m args below meth c H locs cells slots Q (F0 m pc ls st0) :=
  i_behind X h hws rfl (va_runIN (host := host) (As := as) (rest := rest) ⟨X.1, X.2.1, X.2.2.1, X.2.2.2.1, X.2.2.2.2.1⟩ hM ⟨va_cnB as.length X.2.2.2.2.1 (gw_c hcode) rfl hrc hrs (X.2.2.2.2.2.2.1.2.2.2.2.2.2 ni _ hlk) (X.2.2.2.2.1 _ hini) hd hR, hyn, X.2.2.2.2.1 _ hinst⟩ ⟨pI_blind, i_pre X h hws⟩ rfl rfl hsz hst (lv_room hW) hdg hf) kk
/-- its end -/
theorem i_ret {h0 sz mc ms : Nat} {e0 : va_E} {tm : List vT} {Q0 : vM → Prop} (X : ctx_i G0 D cA A p s m args meth c cc nL own) (hr : meth.sig.returnType = none) (hlocks : meth.locks = false) (hAe : va_A [(h0, e0)] sz = A) (h : ib A D s ws H locs) {ad : Nat → Nat} {μ : vM} (h0e : ad 0 = h0) (hws : ws = mw (gk D cA ad (gS G0) tm (fun _ => True)) μ) (hQ : Q0 μ) (hdg : decode cc pc = .ok (.return_, 1)) : W p l e R s m args below meth c H locs mc ms (MQ below (qN G0 D cA h0 sz e0 tm Q0) args s mc ms (va_A [(h0, e0)] sz)) (F0 m pc ls []) := by
  subst hAe
  subst hws
  exact W.vret X.1 X.2.1 hr (fun t ht _ => ⟨⟨(ad, μ), rfl, hQ, h0e, by rw [ht]; exact h.1, h.2.1⟩, h.2.2.F ht⟩) h.2.2.2.2 hdg hlocks
end IW

theorem gE_nar {G G2 : vG} {U : State} {H : Heap} (hS : gS G2 = gS G) (hA : ∀ q, gA G2 q → gA G q) (h : gE G U H) : gE G2 U H := by
  obtain ⟨⟨t1, a1, a2⟩, ⟨t2, b1, b2⟩, ⟨adV, d1⟩, e1, f1, g1, g2⟩ := h
  exact ⟨⟨t1, a1.narrow hA, a2.narrow hA⟩, ⟨t2, b1.narrow hA, b2.narrow hA⟩, ⟨adV, by rw [hS]; exact d1.narrow hA⟩, fun i q hq => by rw [hS]; exact e1 i q hq, f1.narrow hA, g1, g2⟩
theorem gO_of {G : vG} {μ : vM} (hD : va_D (gA G) (mw G μ)) : gO G := ⟨fun i j hi hj e => hD.1 i j _ _ (mw_get hi) (mw_get hj) e, fun j hj => hD.2 j _ (mw_get hj)⟩
section IW2
variable {G0 : vG} {D : va_G} {cA : ClassId} {A : Nat → Prop} {p : Program} {l : Launch} {e : Env} {R : Room} {s : State} {m : MethodId} {args : Array Value} {below : List Frame} {meth : Method} {c : Code} {H : Heap} {locs : List Loc} {cells slots : Nat} {Q : State → Prop}
  {cc : ByteArray} {nL : Nat} {own : String} {pc : Nat} {ls : Array Slot} {rest : List Value} {ws : va_W}
theorem i_get (X : ctx_i G0 D cA A p s m args meth c cc nL own) (h : ib A D s ws H locs) {a : Nat} {fs : List Value} {ci : Nat} {C : String} {T : u_T} {N idx : Nat} (he : ws[0]? = some (a, .inr (ci, fs))) (hc : vwCl[ci]? = some (C, T, N)) (hin : ∀ w ∈ u_ws C T N, w ∈ lw_gd) (k : Nat) (hk : k < N) (hlink : Cond.fieldLink own idx (T k).1 (T k).2.1 (T k).2.2.1 ∈ lw_gd) {v : Value} (hv : fs[k]? = some v) (hdg : decode cc pc = .ok (.getfield idx, 3))
    (kk : W p l e R s m args below meth c H locs cells slots Q (F0 m (pc + 3) ls (v :: rest))) : W p l e R s m args below meth c H locs cells slots Q (F0 m pc ls (.ref a :: rest)) :=
  va_get X.1 X.2.1 X.2.2.2.2.1 hin X.2.2.2.1 X.2.2.2.2.2.1 h.1 0 he hc k hk (X.2.2.2.2.1 _ hlink) (fun _ h9 => h9) hv hdg kk
theorem i_ast (X : ctx_i G0 D cA A p s m args meth c cc nL own) (h : ib A D s ws H locs) (q0 : Nat) {a n k : Nat} {f : Nat → Int32} (ha : ws[q0]? = some (a, .inl (cA, n, .inl f))) {i v : Int32} (hk : i.toNatClampNeg = k) (hin : vp_in i n) {ws' : va_W} (hws : ws.set q0 (a, .inl (cA, n, .inl (upd f k v))) = ws') (hdg : decode cc pc = .ok (.iastore, 1))
    (kk : ∀ (H1 : Heap) (locs1 : List Loc), ib A D s ws' H1 locs1 → W p l e R s m args below meth c H1 locs1 cells slots Q (F0 m (pc + 1) ls rest)) : W p l e R s m args below meth c H locs cells slots Q (F0 m pc ls (.int v :: .int i :: .ref a :: rest)) := by
  subst hk
  subst hws
  exact va_iast X.1 X.2.1 X.2.2.2.2.2.1 h.1 h.2.1 h.2.2 q0 0 ha rfl hin hdg (fun H1 locs1 a b c => kk H1 locs1 ⟨a, b, c⟩)
end IW2
def tl0 : List vT := [.inr (0, [none, none, some (some 1), some (some 2), some (some 3), some (some 4), some (some 5), some (some 6)]), .inl 8, .inl 8, .inl 8, .inl 8, .inl 8, .inl 4]
def tl1 : List vT := [.inr (1, [some none, none, some (some 1), some (some 2), none]), .inl 60, .inl 60]
def tl2 : List vT := [.inr (2, [some (some 1), none, some (some 2), none, some none, none, none]), .inl 60, .inl 60]
def tl3 : List vT := [.inr (3, [some (some 1), some (some 2)]), .inl 10, .inl 100]
def tl4 : List vT := [.inr (4, [some (some 1), some (some 2), some (some 3)]), .inl 4, .inl 4, .inl 96]
def tl5 : List vT := [.inr (5, [some (some 1), some (some 4), some (some 11), some (some 14), some (some 17), none, some (some 18), none, none]), .inr (3, [some (some 2), some (some 3)]), .inl 10, .inl 100, .inr (0, [none, none, some (some 5), some (some 6), some (some 7), some (some 8), some (some 9), some (some 10)]), .inl 8, .inl 8, .inl 8, .inl 8, .inl 8, .inl 4, .inr (1, [some none, none, some (some 12), some (some 13), none]), .inl 60, .inl 60, .inr (1, [some none, none, some (some 15), some (some 16), none]), .inl 60, .inl 60, .inl 60, .inl 24]
def tl6 : List vT := [.inr (6, [some (some 1), some (some 20), none, some (some 39), some (some 46), some (some 49), some (some 50), some (some 53), some (some 57), some (some 58), none, none]), .inr (5, [some (some 2), some (some 5), some (some 12), some (some 15), some (some 18), none, some (some 19), none, none]), .inr (3, [some (some 3), some (some 4)]), .inl 10, .inl 100, .inr (0, [none, none, some (some 6), some (some 7), some (some 8), some (some 9), some (some 10), some (some 11)]), .inl 8, .inl 8, .inl 8, .inl 8, .inl 8, .inl 4, .inr (1, [some none, none, some (some 13), some (some 14), none]), .inl 60, .inl 60, .inr (1, [some none, none, some (some 16), some (some 17), none]), .inl 60, .inl 60, .inl 60, .inl 24, .inr (5, [some (some 21), some (some 24), some (some 31), some (some 34), some (some 37), none, some (some 38), none, none]), .inr (3, [some (some 22), some (some 23)]), .inl 10, .inl 100, .inr (0, [none, none, some (some 25), some (some 26), some (some 27), some (some 28), some (some 29), some (some 30)]), .inl 8, .inl 8, .inl 8, .inl 8, .inl 8, .inl 4, .inr (1, [some none, none, some (some 32), some (some 33), none]), .inl 60, .inl 60, .inr (1, [some none, none, some (some 35), some (some 36), none]), .inl 60, .inl 60, .inl 60, .inl 24, .inr (0, [none, none, some (some 40), some (some 41), some (some 42), some (some 43), some (some 44), some (some 45)]), .inl 8, .inl 8, .inl 8, .inl 8, .inl 8, .inl 4, .inr (3, [some (some 47), some (some 48)]), .inl 10, .inl 100, .inl 8, .inr (2, [some (some 51), none, some (some 52), none, some none, none, none]), .inl 60, .inl 60, .inr (4, [some (some 54), some (some 55), some (some 56)]), .inl 4, .inl 4, .inl 96, .inl 7, .inl 30]
def tl7 : List vT := [.inr (7, [some (some 1), some (some 2), some (some 3), none, some (some 4), some (some 5), some (some 6), some (some 7), some (some 8), none, some (some 9), some (some 10), some (some 11), some (some 12), none, none, none, none, none, some (some 13), some (some 14), none, none]), .inl 385, .inl 385, .inl 385, .inl 7, .inl 4, .inl 4, .inl 96, .inl 100, .inl 60, .inl 60, .inl 3, .inl 60, .inl 8, .inl 30]
def m0_X0 : vM := fun j => if j = 6 then upd (upd (upd (upd (fun _ => 0) 0 0) 1 1) 2 2) 3 3 else fun _ => 0
def m0_X1 (a1 a2 : Int32) : vM := fun j => if j = 0 then (fun k => if k = 0 then a1 else if k = 1 then a2 else 0) else fun _ => 0
def m0_X2 : vM := fun j => if j = 0 then (fun k => if k = 4 then (2 : Int32) else 0) else fun _ => 0
def m0_X3 : vM := fun _ _ => 0
def m0_X4 : vM := fun _ _ => 0
def m0_X5 (μ1 : vM) : vM := fun j => if j = 0 then (fun k => if k = 8 then (1 : Int32) else 0) else if j < 4 then μ1 (j - 1) else if j < 11 then m0_X0 (j - 4) else if j < 14 then m0_X1 0 3 (j - 11) else if j < 17 then m0_X1 1 99 (j - 14) else fun _ => 0
def m0_X6 (μ1 μ2 μ3 : vM) : vM := fun j => if j = 0 then (fun _ => 0) else if j < 20 then μ1 (j - 1) else if j < 39 then μ2 (j - 20) else if j < 46 then m0_X0 (j - 39) else if j < 49 then μ3 (j - 46) else if j < 50 then (fun _ => 0) else if j < 53 then m0_X2 (j - 50) else if j < 57 then m0_X4 (j - 53) else fun _ => 0
def m0_X7 : vM := fun j => if j = 1 then upd (upd (upd (upd (upd (fun _ => 0) 1 1) 5 0) 6 1) 7 2) 8 3 else fun _ => 0
set_option maxRecDepth 100000 in
set_option maxHeartbeats 4000000 in
theorem ci_X0 (l : Launch) (G0 : vG) (D : va_G) (cA : ClassId) (h0 sz : Nat) (hA0 : ∀ q, va_A [(h0, (.inr (0, [.int 0, .int 0, .null, .null, .null, .null, .null, .null]) : va_E))] sz q → gA G0 q) (Q : vM → Prop) (hw : Q m0_X0) : mi l G0 D cA yX0_init vX0_init { frames := 1, cells := 6, slots := 44, locals := 30 } [] h0 sz (.inr (0, [.int 0, .int 0, .null, .null, .null, .null, .null, .null])) tl0 Q 6 44 := by
  refine mi_of (cc := cX0_init) (maxL := 2) RX0 (by decide) rfl rfl rfl (Nat.le_of_ble_eq_true rfl) hA0 ?_
  intro p e s m below meth c A hsz hAe X hr hlocks hin h ls hl
  have hl : lv_has ls 2 [(0, .ref h0)] := hl
  have hx := X.1
  have hb := X.2.1
  refine lv_aload_n hx hb dX0_init_0 rfl (lv_at hl 0 rfl) ?_
  refine i_obj X hl.1 ww_1_69 ww_1_23 ww_1_24 dX0_init_1 (Nat.le_of_ble_eq_true rfl) (Nat.le_of_ble_eq_true rfl) ?_
  refine lv_aload_n hx hb dX0_init_4 rfl (lv_at hl 0 rfl) ?_
  refine lv_iconst (v := (0 : Int32)) hx hb dX0_init_5 (by decide) ?_
  refine i_put (wr := []) (ty := .int) (v := .int (0 : Int32)) (fs' := [.int (0 : Int32), .int 0, .null, .null, .null, .null, .null, .null]) X h rfl uX0 tyX0 tyX0_ok nmX0 0 (by decide) ww_1_70 rfl  rfl rfl rfl (Nat.le_of_ble_eq_true rfl) rfl dX0_init_6 (fun H locs h => ?_)
  have h : ib A D s [(h0, .inr (0, [.int (0 : Int32), .int 0, .null, .null, .null, .null, .null, .null]))] H _ := h
  refine lv_aload_n hx hb dX0_init_9 rfl (lv_at hl 0 rfl) ?_
  refine lv_iconst (v := (0 : Int32)) hx hb dX0_init_10 (by decide) ?_
  refine i_put (wr := []) (ty := .int) (v := .int (0 : Int32)) (fs' := [.int (0 : Int32), .int (0 : Int32), .null, .null, .null, .null, .null, .null]) X h rfl uX0 tyX0 tyX0_ok nmX0 1 (by decide) ww_1_73 rfl  rfl rfl rfl (Nat.le_of_ble_eq_true rfl) rfl dX0_init_11 (fun H locs h => ?_)
  have h : ib A D s [(h0, .inr (0, [.int (0 : Int32), .int (0 : Int32), .null, .null, .null, .null, .null, .null]))] H _ := h
  refine lv_aload_n hx hb dX0_init_14 rfl (lv_at hl 0 rfl) ?_
  refine lv_bipush (v := (8 : Int32)) hx hb dX0_init_15 (by decide) ?_
  refine i_newa (N := 8) X h ww_1_63 (by decide) (by decide) (Nat.le_of_ble_eq_true rfl) (Nat.le_of_ble_eq_true rfl) (Nat.le_of_ble_eq_true rfl) dX0_init_17 (fun q17 H h => ?_)
  have h : ib A D s [(h0, .inr (0, [.int (0 : Int32), .int (0 : Int32), .null, .null, .null, .null, .null, .null])), (q17, .inl (cA, 8, .inl (fun _ => 0)))] H _ := h
  refine W.widen (k := 1) (n := 8) (Nat.le_of_ble_eq_true rfl) (Nat.le_of_ble_eq_true rfl) ?_
  refine i_putF (wr := [(q17, .inl (cA, 8, .inl (fun _ => 0)))]) (ty := .array .int) (v := .ref q17) (fs' := [.int (0 : Int32), .int (0 : Int32), .ref q17, .null, .null, .null, .null, .null]) X hin h rfl uX0 tyX0 tyX0_ok nmX0 2 (by decide) ww_1_75 rfl rfl rfl rfl rfl (Nat.le_of_ble_eq_true rfl) rfl dX0_init_19 (fun H locs h => ?_)
  have h : ib A D s [(h0, .inr (0, [.int (0 : Int32), .int (0 : Int32), .ref q17, .null, .null, .null, .null, .null])), (q17, .inl (cA, 8, .inl (fun _ => 0)))] H _ := h
  refine lv_aload_n hx hb dX0_init_22 rfl (lv_at hl 0 rfl) ?_
  refine lv_bipush (v := (8 : Int32)) hx hb dX0_init_23 (by decide) ?_
  refine i_newa (N := 8) X h ww_1_63 (by decide) (by decide) (Nat.le_of_ble_eq_true rfl) (Nat.le_of_ble_eq_true rfl) (Nat.le_of_ble_eq_true rfl) dX0_init_25 (fun q25 H h => ?_)
  have h : ib A D s [(h0, .inr (0, [.int (0 : Int32), .int (0 : Int32), .ref q17, .null, .null, .null, .null, .null])), (q17, .inl (cA, 8, .inl (fun _ => 0))), (q25, .inl (cA, 8, .inl (fun _ => 0)))] H _ := h
  refine W.widen (k := 2) (n := 16) (Nat.le_of_ble_eq_true rfl) (Nat.le_of_ble_eq_true rfl) ?_
  refine i_putF (wr := [(q17, .inl (cA, 8, .inl (fun _ => 0))), (q25, .inl (cA, 8, .inl (fun _ => 0)))]) (ty := .array .int) (v := .ref q25) (fs' := [.int (0 : Int32), .int (0 : Int32), .ref q17, .ref q25, .null, .null, .null, .null]) X hin h rfl uX0 tyX0 tyX0_ok nmX0 3 (by decide) ww_1_77 rfl rfl rfl rfl rfl (Nat.le_of_ble_eq_true rfl) rfl dX0_init_27 (fun H locs h => ?_)
  have h : ib A D s [(h0, .inr (0, [.int (0 : Int32), .int (0 : Int32), .ref q17, .ref q25, .null, .null, .null, .null])), (q17, .inl (cA, 8, .inl (fun _ => 0))), (q25, .inl (cA, 8, .inl (fun _ => 0)))] H _ := h
  refine lv_aload_n hx hb dX0_init_30 rfl (lv_at hl 0 rfl) ?_
  refine lv_bipush (v := (8 : Int32)) hx hb dX0_init_31 (by decide) ?_
  refine i_newa (N := 8) X h ww_1_63 (by decide) (by decide) (Nat.le_of_ble_eq_true rfl) (Nat.le_of_ble_eq_true rfl) (Nat.le_of_ble_eq_true rfl) dX0_init_33 (fun q33 H h => ?_)
  have h : ib A D s [(h0, .inr (0, [.int (0 : Int32), .int (0 : Int32), .ref q17, .ref q25, .null, .null, .null, .null])), (q17, .inl (cA, 8, .inl (fun _ => 0))), (q25, .inl (cA, 8, .inl (fun _ => 0))), (q33, .inl (cA, 8, .inl (fun _ => 0)))] H _ := h
  refine W.widen (k := 3) (n := 24) (Nat.le_of_ble_eq_true rfl) (Nat.le_of_ble_eq_true rfl) ?_
  refine i_putF (wr := [(q17, .inl (cA, 8, .inl (fun _ => 0))), (q25, .inl (cA, 8, .inl (fun _ => 0))), (q33, .inl (cA, 8, .inl (fun _ => 0)))]) (ty := .array .int) (v := .ref q33) (fs' := [.int (0 : Int32), .int (0 : Int32), .ref q17, .ref q25, .ref q33, .null, .null, .null]) X hin h rfl uX0 tyX0 tyX0_ok nmX0 4 (by decide) ww_1_79 rfl rfl rfl rfl rfl (Nat.le_of_ble_eq_true rfl) rfl dX0_init_35 (fun H locs h => ?_)
  have h : ib A D s [(h0, .inr (0, [.int (0 : Int32), .int (0 : Int32), .ref q17, .ref q25, .ref q33, .null, .null, .null])), (q17, .inl (cA, 8, .inl (fun _ => 0))), (q25, .inl (cA, 8, .inl (fun _ => 0))), (q33, .inl (cA, 8, .inl (fun _ => 0)))] H _ := h
  refine lv_aload_n hx hb dX0_init_38 rfl (lv_at hl 0 rfl) ?_
  refine lv_bipush (v := (8 : Int32)) hx hb dX0_init_39 (by decide) ?_
  refine i_newa (N := 8) X h ww_1_63 (by decide) (by decide) (Nat.le_of_ble_eq_true rfl) (Nat.le_of_ble_eq_true rfl) (Nat.le_of_ble_eq_true rfl) dX0_init_41 (fun q41 H h => ?_)
  have h : ib A D s [(h0, .inr (0, [.int (0 : Int32), .int (0 : Int32), .ref q17, .ref q25, .ref q33, .null, .null, .null])), (q17, .inl (cA, 8, .inl (fun _ => 0))), (q25, .inl (cA, 8, .inl (fun _ => 0))), (q33, .inl (cA, 8, .inl (fun _ => 0))), (q41, .inl (cA, 8, .inl (fun _ => 0)))] H _ := h
  refine W.widen (k := 4) (n := 32) (Nat.le_of_ble_eq_true rfl) (Nat.le_of_ble_eq_true rfl) ?_
  refine i_putF (wr := [(q17, .inl (cA, 8, .inl (fun _ => 0))), (q25, .inl (cA, 8, .inl (fun _ => 0))), (q33, .inl (cA, 8, .inl (fun _ => 0))), (q41, .inl (cA, 8, .inl (fun _ => 0)))]) (ty := .array .int) (v := .ref q41) (fs' := [.int (0 : Int32), .int (0 : Int32), .ref q17, .ref q25, .ref q33, .ref q41, .null, .null]) X hin h rfl uX0 tyX0 tyX0_ok nmX0 5 (by decide) ww_1_81 rfl rfl rfl rfl rfl (Nat.le_of_ble_eq_true rfl) rfl dX0_init_43 (fun H locs h => ?_)
  have h : ib A D s [(h0, .inr (0, [.int (0 : Int32), .int (0 : Int32), .ref q17, .ref q25, .ref q33, .ref q41, .null, .null])), (q17, .inl (cA, 8, .inl (fun _ => 0))), (q25, .inl (cA, 8, .inl (fun _ => 0))), (q33, .inl (cA, 8, .inl (fun _ => 0))), (q41, .inl (cA, 8, .inl (fun _ => 0)))] H _ := h
  refine lv_aload_n hx hb dX0_init_46 rfl (lv_at hl 0 rfl) ?_
  refine lv_bipush (v := (8 : Int32)) hx hb dX0_init_47 (by decide) ?_
  refine i_newa (N := 8) X h ww_1_63 (by decide) (by decide) (Nat.le_of_ble_eq_true rfl) (Nat.le_of_ble_eq_true rfl) (Nat.le_of_ble_eq_true rfl) dX0_init_49 (fun q49 H h => ?_)
  have h : ib A D s [(h0, .inr (0, [.int (0 : Int32), .int (0 : Int32), .ref q17, .ref q25, .ref q33, .ref q41, .null, .null])), (q17, .inl (cA, 8, .inl (fun _ => 0))), (q25, .inl (cA, 8, .inl (fun _ => 0))), (q33, .inl (cA, 8, .inl (fun _ => 0))), (q41, .inl (cA, 8, .inl (fun _ => 0))), (q49, .inl (cA, 8, .inl (fun _ => 0)))] H _ := h
  refine W.widen (k := 5) (n := 40) (Nat.le_of_ble_eq_true rfl) (Nat.le_of_ble_eq_true rfl) ?_
  refine i_putF (wr := [(q17, .inl (cA, 8, .inl (fun _ => 0))), (q25, .inl (cA, 8, .inl (fun _ => 0))), (q33, .inl (cA, 8, .inl (fun _ => 0))), (q41, .inl (cA, 8, .inl (fun _ => 0))), (q49, .inl (cA, 8, .inl (fun _ => 0)))]) (ty := .array .int) (v := .ref q49) (fs' := [.int (0 : Int32), .int (0 : Int32), .ref q17, .ref q25, .ref q33, .ref q41, .ref q49, .null]) X hin h rfl uX0 tyX0 tyX0_ok nmX0 6 (by decide) ww_1_84 rfl rfl rfl rfl rfl (Nat.le_of_ble_eq_true rfl) rfl dX0_init_51 (fun H locs h => ?_)
  have h : ib A D s [(h0, .inr (0, [.int (0 : Int32), .int (0 : Int32), .ref q17, .ref q25, .ref q33, .ref q41, .ref q49, .null])), (q17, .inl (cA, 8, .inl (fun _ => 0))), (q25, .inl (cA, 8, .inl (fun _ => 0))), (q33, .inl (cA, 8, .inl (fun _ => 0))), (q41, .inl (cA, 8, .inl (fun _ => 0))), (q49, .inl (cA, 8, .inl (fun _ => 0)))] H _ := h
  refine lv_aload_n hx hb dX0_init_54 rfl (lv_at hl 0 rfl) ?_
  refine lv_iconst (v := (4 : Int32)) hx hb dX0_init_55 (by decide) ?_
  refine i_newa (N := 4) X h ww_1_63 (by decide) (by decide) (Nat.le_of_ble_eq_true rfl) (Nat.le_of_ble_eq_true rfl) (Nat.le_of_ble_eq_true rfl) dX0_init_56 (fun q56 H h => ?_)
  have h : ib A D s [(h0, .inr (0, [.int (0 : Int32), .int (0 : Int32), .ref q17, .ref q25, .ref q33, .ref q41, .ref q49, .null])), (q17, .inl (cA, 8, .inl (fun _ => 0))), (q25, .inl (cA, 8, .inl (fun _ => 0))), (q33, .inl (cA, 8, .inl (fun _ => 0))), (q41, .inl (cA, 8, .inl (fun _ => 0))), (q49, .inl (cA, 8, .inl (fun _ => 0))), (q56, .inl (cA, 4, .inl (fun _ => 0)))] H _ := h
  refine W.widen (k := 6) (n := 44) (Nat.le_of_ble_eq_true rfl) (Nat.le_of_ble_eq_true rfl) ?_
  refine i_putF (wr := [(q17, .inl (cA, 8, .inl (fun _ => 0))), (q25, .inl (cA, 8, .inl (fun _ => 0))), (q33, .inl (cA, 8, .inl (fun _ => 0))), (q41, .inl (cA, 8, .inl (fun _ => 0))), (q49, .inl (cA, 8, .inl (fun _ => 0))), (q56, .inl (cA, 4, .inl (fun _ => 0)))]) (ty := .array .int) (v := .ref q56) (fs' := [.int (0 : Int32), .int (0 : Int32), .ref q17, .ref q25, .ref q33, .ref q41, .ref q49, .ref q56]) X hin h rfl uX0 tyX0 tyX0_ok nmX0 7 (by decide) ww_1_87 rfl rfl rfl rfl rfl (Nat.le_of_ble_eq_true rfl) rfl dX0_init_58 (fun H locs h => ?_)
  have h : ib A D s [(h0, .inr (0, [.int (0 : Int32), .int (0 : Int32), .ref q17, .ref q25, .ref q33, .ref q41, .ref q49, .ref q56])), (q17, .inl (cA, 8, .inl (fun _ => 0))), (q25, .inl (cA, 8, .inl (fun _ => 0))), (q33, .inl (cA, 8, .inl (fun _ => 0))), (q41, .inl (cA, 8, .inl (fun _ => 0))), (q49, .inl (cA, 8, .inl (fun _ => 0))), (q56, .inl (cA, 4, .inl (fun _ => 0)))] H _ := h
  refine lv_iconst (v := (0 : Int32)) hx hb dX0_init_61 (by decide) ?_
  refine lv_istore_n (lv' := [(1, .int (0 : Int32)), (0, .ref h0)]) hx hb dX0_init_62 rfl hl (by decide) rfl (fun ls hl => ?_)
  refine lv_iload_n hx hb dX0_init_63 rfl (lv_at hl 0 rfl) ?_
  refine lv_iconst (v := (4 : Int32)) hx hb dX0_init_64 (by decide) ?_
  refine lv_icmp_ge (tgt := 81) hx hb dX0_init_65 (by decide) (fun hc => absurd hc (by decide)) (fun _ => ?_)
  refine lv_aload_n hx hb dX0_init_68 rfl (lv_at hl 1 rfl) ?_
  refine i_get X h rfl rfl uX0 7 (by decide) ww_1_87 (v := .ref q56) rfl dX0_init_69 ?_
  refine lv_iload_n hx hb dX0_init_72 rfl (lv_at hl 0 rfl) ?_
  refine lv_iload_n hx hb dX0_init_73 rfl (lv_at hl 0 rfl) ?_
  refine i_ast (k := 0) X h 6 rfl (by decide) (by unfold vp_in; decide) (ws' := [(h0, .inr (0, [.int (0 : Int32), .int (0 : Int32), .ref q17, .ref q25, .ref q33, .ref q41, .ref q49, .ref q56])), (q17, .inl (cA, 8, .inl (fun _ => 0))), (q25, .inl (cA, 8, .inl (fun _ => 0))), (q33, .inl (cA, 8, .inl (fun _ => 0))), (q41, .inl (cA, 8, .inl (fun _ => 0))), (q49, .inl (cA, 8, .inl (fun _ => 0))), (q56, .inl (cA, 4, .inl (upd (fun _ => 0) 0 0)))]) rfl dX0_init_74 (fun H locs h => ?_)
  refine lv_iinc (v := (1 : Int32)) (lv' := [(1, .int (1 : Int32)), (0, .ref h0)]) hx hb dX0_init_75 hl (k := 0) rfl (by decide) (by decide) rfl (fun ls hl => ?_)
  refine lv_goto (tgt := 63) hx hb dX0_init_78 (by decide) ?_
  refine lv_iload_n hx hb dX0_init_63 rfl (lv_at hl 0 rfl) ?_
  refine lv_iconst (v := (4 : Int32)) hx hb dX0_init_64 (by decide) ?_
  refine lv_icmp_ge (tgt := 81) hx hb dX0_init_65 (by decide) (fun hc => absurd hc (by decide)) (fun _ => ?_)
  refine lv_aload_n hx hb dX0_init_68 rfl (lv_at hl 1 rfl) ?_
  refine i_get X h rfl rfl uX0 7 (by decide) ww_1_87 (v := .ref q56) rfl dX0_init_69 ?_
  refine lv_iload_n hx hb dX0_init_72 rfl (lv_at hl 0 rfl) ?_
  refine lv_iload_n hx hb dX0_init_73 rfl (lv_at hl 0 rfl) ?_
  refine i_ast (k := 1) X h 6 rfl (by decide) (by unfold vp_in; decide) (ws' := [(h0, .inr (0, [.int (0 : Int32), .int (0 : Int32), .ref q17, .ref q25, .ref q33, .ref q41, .ref q49, .ref q56])), (q17, .inl (cA, 8, .inl (fun _ => 0))), (q25, .inl (cA, 8, .inl (fun _ => 0))), (q33, .inl (cA, 8, .inl (fun _ => 0))), (q41, .inl (cA, 8, .inl (fun _ => 0))), (q49, .inl (cA, 8, .inl (fun _ => 0))), (q56, .inl (cA, 4, .inl (upd (upd (fun _ => 0) 0 0) 1 1)))]) rfl dX0_init_74 (fun H locs h => ?_)
  refine lv_iinc (v := (2 : Int32)) (lv' := [(1, .int (2 : Int32)), (0, .ref h0)]) hx hb dX0_init_75 hl (k := 0) rfl (by decide) (by decide) rfl (fun ls hl => ?_)
  refine lv_goto (tgt := 63) hx hb dX0_init_78 (by decide) ?_
  refine lv_iload_n hx hb dX0_init_63 rfl (lv_at hl 0 rfl) ?_
  refine lv_iconst (v := (4 : Int32)) hx hb dX0_init_64 (by decide) ?_
  refine lv_icmp_ge (tgt := 81) hx hb dX0_init_65 (by decide) (fun hc => absurd hc (by decide)) (fun _ => ?_)
  refine lv_aload_n hx hb dX0_init_68 rfl (lv_at hl 1 rfl) ?_
  refine i_get X h rfl rfl uX0 7 (by decide) ww_1_87 (v := .ref q56) rfl dX0_init_69 ?_
  refine lv_iload_n hx hb dX0_init_72 rfl (lv_at hl 0 rfl) ?_
  refine lv_iload_n hx hb dX0_init_73 rfl (lv_at hl 0 rfl) ?_
  refine i_ast (k := 2) X h 6 rfl (by decide) (by unfold vp_in; decide) (ws' := [(h0, .inr (0, [.int (0 : Int32), .int (0 : Int32), .ref q17, .ref q25, .ref q33, .ref q41, .ref q49, .ref q56])), (q17, .inl (cA, 8, .inl (fun _ => 0))), (q25, .inl (cA, 8, .inl (fun _ => 0))), (q33, .inl (cA, 8, .inl (fun _ => 0))), (q41, .inl (cA, 8, .inl (fun _ => 0))), (q49, .inl (cA, 8, .inl (fun _ => 0))), (q56, .inl (cA, 4, .inl (upd (upd (upd (fun _ => 0) 0 0) 1 1) 2 2)))]) rfl dX0_init_74 (fun H locs h => ?_)
  refine lv_iinc (v := (3 : Int32)) (lv' := [(1, .int (3 : Int32)), (0, .ref h0)]) hx hb dX0_init_75 hl (k := 0) rfl (by decide) (by decide) rfl (fun ls hl => ?_)
  refine lv_goto (tgt := 63) hx hb dX0_init_78 (by decide) ?_
  refine lv_iload_n hx hb dX0_init_63 rfl (lv_at hl 0 rfl) ?_
  refine lv_iconst (v := (4 : Int32)) hx hb dX0_init_64 (by decide) ?_
  refine lv_icmp_ge (tgt := 81) hx hb dX0_init_65 (by decide) (fun hc => absurd hc (by decide)) (fun _ => ?_)
  refine lv_aload_n hx hb dX0_init_68 rfl (lv_at hl 1 rfl) ?_
  refine i_get X h rfl rfl uX0 7 (by decide) ww_1_87 (v := .ref q56) rfl dX0_init_69 ?_
  refine lv_iload_n hx hb dX0_init_72 rfl (lv_at hl 0 rfl) ?_
  refine lv_iload_n hx hb dX0_init_73 rfl (lv_at hl 0 rfl) ?_
  refine i_ast (k := 3) X h 6 rfl (by decide) (by unfold vp_in; decide) (ws' := [(h0, .inr (0, [.int (0 : Int32), .int (0 : Int32), .ref q17, .ref q25, .ref q33, .ref q41, .ref q49, .ref q56])), (q17, .inl (cA, 8, .inl (fun _ => 0))), (q25, .inl (cA, 8, .inl (fun _ => 0))), (q33, .inl (cA, 8, .inl (fun _ => 0))), (q41, .inl (cA, 8, .inl (fun _ => 0))), (q49, .inl (cA, 8, .inl (fun _ => 0))), (q56, .inl (cA, 4, .inl (upd (upd (upd (upd (fun _ => 0) 0 0) 1 1) 2 2) 3 3)))]) rfl dX0_init_74 (fun H locs h => ?_)
  refine lv_iinc (v := (4 : Int32)) (lv' := [(1, .int (4 : Int32)), (0, .ref h0)]) hx hb dX0_init_75 hl (k := 0) rfl (by decide) (by decide) rfl (fun ls hl => ?_)
  refine lv_goto (tgt := 63) hx hb dX0_init_78 (by decide) ?_
  refine lv_iload_n hx hb dX0_init_63 rfl (lv_at hl 0 rfl) ?_
  refine lv_iconst (v := (4 : Int32)) hx hb dX0_init_64 (by decide) ?_
  refine lv_icmp_ge (tgt := 81) hx hb dX0_init_65 (by decide) (fun _ => ?_) (fun hc => absurd (by decide) hc)
  exact i_ret (ad := fun j => if j = 0 then h0 else if j = 1 then q17 else if j = 2 then q25 else if j = 3 then q33 else if j = 4 then q41 else if j = 5 then q49 else q56) (μ := m0_X0) X hr hlocks hAe h rfl rfl hw dX0_init_81
set_option maxRecDepth 100000 in
set_option maxHeartbeats 4000000 in
theorem ci_X1 (l : Launch) (G0 : vG) (D : va_G) (cA : ClassId) (h0 sz : Nat) (a1 a2 : Int32) (hA0 : ∀ q, va_A [(h0, (.inr (1, [.null, .int 0, .null, .null, .int 0]) : va_E))] sz q → gA G0 q) (Q : vM → Prop) (hw : Q (m0_X1 a1 a2)) : mi l G0 D cA yX1_init vX1_init { frames := 1, cells := 2, slots := 120, locals := 30 } [.ref (gS G0 a1.toNatClampNeg), .int a2] h0 sz (.inr (1, [.null, .int 0, .null, .null, .int 0])) tl1 Q 2 120 := by
  refine mi_of (cc := cX1_init) (maxL := 3) RX1 (by decide) rfl rfl rfl (Nat.le_of_ble_eq_true rfl) hA0 ?_
  intro p e s m below meth c A hsz hAe X hr hlocks hin h ls hl
  have hl : lv_has ls 3 [(0, .ref h0), (1, .ref (gS G0 a1.toNatClampNeg)), (2, .int a2)] := hl
  have hx := X.1
  have hb := X.2.1
  refine lv_aload_n hx hb dX1_init_0 rfl (lv_at hl 0 rfl) ?_
  refine i_obj X hl.1 ww_1_112 ww_1_23 ww_1_24 dX1_init_1 (Nat.le_of_ble_eq_true rfl) (Nat.le_of_ble_eq_true rfl) ?_
  refine lv_aload_n hx hb dX1_init_4 rfl (lv_at hl 0 rfl) ?_
  refine lv_bipush (v := (60 : Int32)) hx hb dX1_init_5 (by decide) ?_
  refine i_newa (N := 60) X h ww_1_63 (by decide) (by decide) (Nat.le_of_ble_eq_true rfl) (Nat.le_of_ble_eq_true rfl) (Nat.le_of_ble_eq_true rfl) dX1_init_7 (fun q7 H h => ?_)
  have h : ib A D s [(h0, .inr (1, [.null, .int 0, .null, .null, .int 0])), (q7, .inl (cA, 60, .inl (fun _ => 0)))] H _ := h
  refine W.widen (k := 1) (n := 60) (Nat.le_of_ble_eq_true rfl) (Nat.le_of_ble_eq_true rfl) ?_
  refine i_putF (wr := [(q7, .inl (cA, 60, .inl (fun _ => 0)))]) (ty := .array .int) (v := .ref q7) (fs' := [.null, .int 0, .ref q7, .null, .int 0]) X hin h rfl uX1 tyX1 tyX1_ok nmX1 2 (by decide) ww_1_116 rfl rfl rfl rfl rfl (Nat.le_of_ble_eq_true rfl) rfl dX1_init_9 (fun H locs h => ?_)
  have h : ib A D s [(h0, .inr (1, [.null, .int 0, .ref q7, .null, .int 0])), (q7, .inl (cA, 60, .inl (fun _ => 0)))] H _ := h
  refine lv_aload_n hx hb dX1_init_12 rfl (lv_at hl 0 rfl) ?_
  refine lv_bipush (v := (60 : Int32)) hx hb dX1_init_13 (by decide) ?_
  refine i_newa (N := 60) X h ww_1_63 (by decide) (by decide) (Nat.le_of_ble_eq_true rfl) (Nat.le_of_ble_eq_true rfl) (Nat.le_of_ble_eq_true rfl) dX1_init_15 (fun q15 H h => ?_)
  have h : ib A D s [(h0, .inr (1, [.null, .int 0, .ref q7, .null, .int 0])), (q7, .inl (cA, 60, .inl (fun _ => 0))), (q15, .inl (cA, 60, .inl (fun _ => 0)))] H _ := h
  refine W.widen (k := 2) (n := 120) (Nat.le_of_ble_eq_true rfl) (Nat.le_of_ble_eq_true rfl) ?_
  refine i_putF (wr := [(q7, .inl (cA, 60, .inl (fun _ => 0))), (q15, .inl (cA, 60, .inl (fun _ => 0)))]) (ty := .array .int) (v := .ref q15) (fs' := [.null, .int 0, .ref q7, .ref q15, .int 0]) X hin h rfl uX1 tyX1 tyX1_ok nmX1 3 (by decide) ww_1_118 rfl rfl rfl rfl rfl (Nat.le_of_ble_eq_true rfl) rfl dX1_init_17 (fun H locs h => ?_)
  have h : ib A D s [(h0, .inr (1, [.null, .int 0, .ref q7, .ref q15, .int 0])), (q7, .inl (cA, 60, .inl (fun _ => 0))), (q15, .inl (cA, 60, .inl (fun _ => 0)))] H _ := h
  refine lv_aload_n hx hb dX1_init_20 rfl (lv_at hl 0 rfl) ?_
  refine lv_iconst (v := (0 : Int32)) hx hb dX1_init_21 (by decide) ?_
  refine i_put (wr := [(q7, .inl (cA, 60, .inl (fun _ => 0))), (q15, .inl (cA, 60, .inl (fun _ => 0)))]) (ty := .int) (v := .int (0 : Int32)) (fs' := [.null, .int 0, .ref q7, .ref q15, .int (0 : Int32)]) X h rfl uX1 tyX1 tyX1_ok nmX1 4 (by decide) ww_1_119 rfl  rfl rfl rfl (Nat.le_of_ble_eq_true rfl) rfl dX1_init_22 (fun H locs h => ?_)
  have h : ib A D s [(h0, .inr (1, [.null, .int 0, .ref q7, .ref q15, .int (0 : Int32)])), (q7, .inl (cA, 60, .inl (fun _ => 0))), (q15, .inl (cA, 60, .inl (fun _ => 0)))] H _ := h
  refine lv_aload_n hx hb dX1_init_25 rfl (lv_at hl 0 rfl) ?_
  refine lv_aload_n hx hb dX1_init_26 rfl (lv_at hl 1 rfl) ?_
  refine i_putF (wr := [(q7, .inl (cA, 60, .inl (fun _ => 0))), (q15, .inl (cA, 60, .inl (fun _ => 0)))]) (ty := .object "java/lang/String") (v := .ref (gS G0 a1.toNatClampNeg)) (fs' := [.ref (gS G0 a1.toNatClampNeg), .int 0, .ref q7, .ref q15, .int (0 : Int32)]) X hin h rfl uX1 tyX1 tyX1_ok nmX1 0 (by decide) ww_1_113 rfl rfl rfl rfl rfl (Nat.le_of_ble_eq_true rfl) rfl dX1_init_27 (fun H locs h => ?_)
  have h : ib A D s [(h0, .inr (1, [.ref (gS G0 a1.toNatClampNeg), .int 0, .ref q7, .ref q15, .int (0 : Int32)])), (q7, .inl (cA, 60, .inl (fun _ => 0))), (q15, .inl (cA, 60, .inl (fun _ => 0)))] H _ := h
  refine lv_aload_n hx hb dX1_init_30 rfl (lv_at hl 0 rfl) ?_
  refine lv_iload_n hx hb dX1_init_31 rfl (lv_at hl 2 rfl) ?_
  refine i_putF (wr := [(q7, .inl (cA, 60, .inl (fun _ => 0))), (q15, .inl (cA, 60, .inl (fun _ => 0)))]) (ty := .int) (v := .int a2) (fs' := [.ref (gS G0 a1.toNatClampNeg), .int a2, .ref q7, .ref q15, .int (0 : Int32)]) X hin h rfl uX1 tyX1 tyX1_ok nmX1 1 (by decide) ww_1_115 rfl rfl rfl rfl rfl (Nat.le_of_ble_eq_true rfl) rfl dX1_init_32 (fun H locs h => ?_)
  have h : ib A D s [(h0, .inr (1, [.ref (gS G0 a1.toNatClampNeg), .int a2, .ref q7, .ref q15, .int (0 : Int32)])), (q7, .inl (cA, 60, .inl (fun _ => 0))), (q15, .inl (cA, 60, .inl (fun _ => 0)))] H _ := h
  exact i_ret (ad := fun j => if j = 0 then h0 else if j = 1 then q7 else q15) (μ := (m0_X1 a1 a2)) X hr hlocks hAe h rfl rfl hw dX1_init_35
set_option maxRecDepth 100000 in
set_option maxHeartbeats 4000000 in
theorem ci_X2 (l : Launch) (G0 : vG) (D : va_G) (cA : ClassId) (h0 sz : Nat) (hA0 : ∀ q, va_A [(h0, (.inr (2, [.null, .int 0, .null, .int 0, .null, .int 0, .int 0]) : va_E))] sz q → gA G0 q) (Q : vM → Prop) (hw : Q m0_X2) : mi l G0 D cA yX2_init vX2_init { frames := 1, cells := 2, slots := 120, locals := 30 } [] h0 sz (.inr (2, [.null, .int 0, .null, .int 0, .null, .int 0, .int 0])) tl2 Q 2 120 := by
  refine mi_of (cc := cX2_init) (maxL := 1) RX2 (by decide) rfl rfl rfl (Nat.le_of_ble_eq_true rfl) hA0 ?_
  intro p e s m below meth c A hsz hAe X hr hlocks hin h ls hl
  have hl : lv_has ls 1 [(0, .ref h0)] := hl
  have hx := X.1
  have hb := X.2.1
  refine lv_aload_n hx hb dX2_init_0 rfl (lv_at hl 0 rfl) ?_
  refine i_obj X hl.1 ww_1_181 ww_1_23 ww_1_24 dX2_init_1 (Nat.le_of_ble_eq_true rfl) (Nat.le_of_ble_eq_true rfl) ?_
  refine lv_aload_n hx hb dX2_init_4 rfl (lv_at hl 0 rfl) ?_
  refine lv_bipush (v := (60 : Int32)) hx hb dX2_init_5 (by decide) ?_
  refine i_newa (N := 60) X h ww_1_63 (by decide) (by decide) (Nat.le_of_ble_eq_true rfl) (Nat.le_of_ble_eq_true rfl) (Nat.le_of_ble_eq_true rfl) dX2_init_7 (fun q7 H h => ?_)
  have h : ib A D s [(h0, .inr (2, [.null, .int 0, .null, .int 0, .null, .int 0, .int 0])), (q7, .inl (cA, 60, .inl (fun _ => 0)))] H _ := h
  refine W.widen (k := 1) (n := 60) (Nat.le_of_ble_eq_true rfl) (Nat.le_of_ble_eq_true rfl) ?_
  refine i_putF (wr := [(q7, .inl (cA, 60, .inl (fun _ => 0)))]) (ty := .array .int) (v := .ref q7) (fs' := [.ref q7, .int 0, .null, .int 0, .null, .int 0, .int 0]) X hin h rfl uX2 tyX2 tyX2_ok nmX2 0 (by decide) ww_1_183 rfl rfl rfl rfl rfl (Nat.le_of_ble_eq_true rfl) rfl dX2_init_9 (fun H locs h => ?_)
  have h : ib A D s [(h0, .inr (2, [.ref q7, .int 0, .null, .int 0, .null, .int 0, .int 0])), (q7, .inl (cA, 60, .inl (fun _ => 0)))] H _ := h
  refine lv_aload_n hx hb dX2_init_12 rfl (lv_at hl 0 rfl) ?_
  refine lv_iconst (v := (0 : Int32)) hx hb dX2_init_13 (by decide) ?_
  refine i_put (wr := [(q7, .inl (cA, 60, .inl (fun _ => 0)))]) (ty := .int) (v := .int (0 : Int32)) (fs' := [.ref q7, .int (0 : Int32), .null, .int 0, .null, .int 0, .int 0]) X h rfl uX2 tyX2 tyX2_ok nmX2 1 (by decide) ww_1_185 rfl  rfl rfl rfl (Nat.le_of_ble_eq_true rfl) rfl dX2_init_14 (fun H locs h => ?_)
  have h : ib A D s [(h0, .inr (2, [.ref q7, .int (0 : Int32), .null, .int 0, .null, .int 0, .int 0])), (q7, .inl (cA, 60, .inl (fun _ => 0)))] H _ := h
  refine lv_aload_n hx hb dX2_init_17 rfl (lv_at hl 0 rfl) ?_
  refine lv_bipush (v := (60 : Int32)) hx hb dX2_init_18 (by decide) ?_
  refine i_newa (N := 60) X h ww_1_63 (by decide) (by decide) (Nat.le_of_ble_eq_true rfl) (Nat.le_of_ble_eq_true rfl) (Nat.le_of_ble_eq_true rfl) dX2_init_20 (fun q20 H h => ?_)
  have h : ib A D s [(h0, .inr (2, [.ref q7, .int (0 : Int32), .null, .int 0, .null, .int 0, .int 0])), (q7, .inl (cA, 60, .inl (fun _ => 0))), (q20, .inl (cA, 60, .inl (fun _ => 0)))] H _ := h
  refine W.widen (k := 2) (n := 120) (Nat.le_of_ble_eq_true rfl) (Nat.le_of_ble_eq_true rfl) ?_
  refine i_putF (wr := [(q7, .inl (cA, 60, .inl (fun _ => 0))), (q20, .inl (cA, 60, .inl (fun _ => 0)))]) (ty := .array .int) (v := .ref q20) (fs' := [.ref q7, .int (0 : Int32), .ref q20, .int 0, .null, .int 0, .int 0]) X hin h rfl uX2 tyX2 tyX2_ok nmX2 2 (by decide) ww_1_187 rfl rfl rfl rfl rfl (Nat.le_of_ble_eq_true rfl) rfl dX2_init_22 (fun H locs h => ?_)
  have h : ib A D s [(h0, .inr (2, [.ref q7, .int (0 : Int32), .ref q20, .int 0, .null, .int 0, .int 0])), (q7, .inl (cA, 60, .inl (fun _ => 0))), (q20, .inl (cA, 60, .inl (fun _ => 0)))] H _ := h
  refine lv_aload_n hx hb dX2_init_25 rfl (lv_at hl 0 rfl) ?_
  refine lv_iconst (v := (0 : Int32)) hx hb dX2_init_26 (by decide) ?_
  refine i_put (wr := [(q7, .inl (cA, 60, .inl (fun _ => 0))), (q20, .inl (cA, 60, .inl (fun _ => 0)))]) (ty := .int) (v := .int (0 : Int32)) (fs' := [.ref q7, .int (0 : Int32), .ref q20, .int (0 : Int32), .null, .int 0, .int 0]) X h rfl uX2 tyX2 tyX2_ok nmX2 3 (by decide) ww_1_188 rfl  rfl rfl rfl (Nat.le_of_ble_eq_true rfl) rfl dX2_init_27 (fun H locs h => ?_)
  have h : ib A D s [(h0, .inr (2, [.ref q7, .int (0 : Int32), .ref q20, .int (0 : Int32), .null, .int 0, .int 0])), (q7, .inl (cA, 60, .inl (fun _ => 0))), (q20, .inl (cA, 60, .inl (fun _ => 0)))] H _ := h
  refine lv_aload_n hx hb dX2_init_30 rfl (lv_at hl 0 rfl) ?_
  refine i_ldcS (v := (2 : Int32)) (i := 2) X (by decide) rfl dX2_init_31 ?_
  refine i_put (wr := [(q7, .inl (cA, 60, .inl (fun _ => 0))), (q20, .inl (cA, 60, .inl (fun _ => 0)))]) (ty := .object "java/lang/String") (v := .ref (gS G0 ((2 : Int32)).toNatClampNeg)) (fs' := [.ref q7, .int (0 : Int32), .ref q20, .int (0 : Int32), .ref (gS G0 ((2 : Int32)).toNatClampNeg), .int 0, .int 0]) X h rfl uX2 tyX2 tyX2_ok nmX2 4 (by decide) ww_1_189 rfl  rfl rfl rfl (Nat.le_of_ble_eq_true rfl) rfl dX2_init_33 (fun H locs h => ?_)
  have h : ib A D s [(h0, .inr (2, [.ref q7, .int (0 : Int32), .ref q20, .int (0 : Int32), .ref (gS G0 ((2 : Int32)).toNatClampNeg), .int 0, .int 0])), (q7, .inl (cA, 60, .inl (fun _ => 0))), (q20, .inl (cA, 60, .inl (fun _ => 0)))] H _ := h
  refine lv_aload_n hx hb dX2_init_36 rfl (lv_at hl 0 rfl) ?_
  refine lv_iconst (v := (0 : Int32)) hx hb dX2_init_37 (by decide) ?_
  refine i_put (wr := [(q7, .inl (cA, 60, .inl (fun _ => 0))), (q20, .inl (cA, 60, .inl (fun _ => 0)))]) (ty := .int) (v := .int (0 : Int32)) (fs' := [.ref q7, .int (0 : Int32), .ref q20, .int (0 : Int32), .ref (gS G0 ((2 : Int32)).toNatClampNeg), .int (0 : Int32), .int 0]) X h rfl uX2 tyX2 tyX2_ok nmX2 5 (by decide) ww_1_190 rfl  rfl rfl rfl (Nat.le_of_ble_eq_true rfl) rfl dX2_init_38 (fun H locs h => ?_)
  have h : ib A D s [(h0, .inr (2, [.ref q7, .int (0 : Int32), .ref q20, .int (0 : Int32), .ref (gS G0 ((2 : Int32)).toNatClampNeg), .int (0 : Int32), .int 0])), (q7, .inl (cA, 60, .inl (fun _ => 0))), (q20, .inl (cA, 60, .inl (fun _ => 0)))] H _ := h
  refine lv_aload_n hx hb dX2_init_41 rfl (lv_at hl 0 rfl) ?_
  refine lv_iconst (v := (0 : Int32)) hx hb dX2_init_42 (by decide) ?_
  refine i_put (wr := [(q7, .inl (cA, 60, .inl (fun _ => 0))), (q20, .inl (cA, 60, .inl (fun _ => 0)))]) (ty := .boolean) (v := .int (0 : Int32)) (fs' := [.ref q7, .int (0 : Int32), .ref q20, .int (0 : Int32), .ref (gS G0 ((2 : Int32)).toNatClampNeg), .int (0 : Int32), .int (0 : Int32)]) X h rfl uX2 tyX2 tyX2_ok nmX2 6 (by decide) ww_1_191 rfl  rfl rfl rfl (Nat.le_of_ble_eq_true rfl) rfl dX2_init_43 (fun H locs h => ?_)
  have h : ib A D s [(h0, .inr (2, [.ref q7, .int (0 : Int32), .ref q20, .int (0 : Int32), .ref (gS G0 ((2 : Int32)).toNatClampNeg), .int (0 : Int32), .int (0 : Int32)])), (q7, .inl (cA, 60, .inl (fun _ => 0))), (q20, .inl (cA, 60, .inl (fun _ => 0)))] H _ := h
  exact i_ret (ad := fun j => if j = 0 then h0 else if j = 1 then q7 else q20) (μ := m0_X2) X hr hlocks hAe h rfl rfl hw dX2_init_46
set_option maxRecDepth 100000 in
set_option maxHeartbeats 4000000 in
theorem ci_X3 (l : Launch) (G0 : vG) (D : va_G) (cA : ClassId) (h0 sz : Nat) (hA0 : ∀ q, va_A [(h0, (.inr (3, [.null, .null]) : va_E))] sz q → gA G0 q) (Q : vM → Prop) (hw : wp_X3_measure 0 Q m0_X3) : mi l G0 D cA yX3_init vX3_init { frames := 3, cells := 2, slots := 110, locals := 78 } [] h0 sz (.inr (3, [.null, .null])) tl3 Q 2 110 := by
  refine mi_of (cc := cX3_init) (maxL := 1) RX3 (by decide) rfl rfl rfl (Nat.le_of_ble_eq_true rfl) hA0 ?_
  intro p e s m below meth c A hsz hAe X hr hlocks hin h ls hl
  have hl : lv_has ls 1 [(0, .ref h0)] := hl
  have hx := X.1
  have hb := X.2.1
  refine lv_aload_n hx hb dX3_init_0 rfl (lv_at hl 0 rfl) ?_
  refine i_obj X hl.1 ww_1_36 ww_1_23 ww_1_24 dX3_init_1 (Nat.le_of_ble_eq_true rfl) (Nat.le_of_ble_eq_true rfl) ?_
  refine lv_aload_n hx hb dX3_init_4 rfl (lv_at hl 0 rfl) ?_
  refine lv_bipush (v := (10 : Int32)) hx hb dX3_init_5 (by decide) ?_
  refine i_newa (N := 10) X h ww_1_63 (by decide) (by decide) (Nat.le_of_ble_eq_true rfl) (Nat.le_of_ble_eq_true rfl) (Nat.le_of_ble_eq_true rfl) dX3_init_7 (fun q7 H h => ?_)
  have h : ib A D s [(h0, .inr (3, [.null, .null])), (q7, .inl (cA, 10, .inl (fun _ => 0)))] H _ := h
  refine W.widen (k := 1) (n := 10) (Nat.le_of_ble_eq_true rfl) (Nat.le_of_ble_eq_true rfl) ?_
  refine i_putF (wr := [(q7, .inl (cA, 10, .inl (fun _ => 0)))]) (ty := .array .int) (v := .ref q7) (fs' := [.ref q7, .null]) X hin h rfl uX3 tyX3 tyX3_ok nmX3 0 (by decide) ww_1_56 rfl rfl rfl rfl rfl (Nat.le_of_ble_eq_true rfl) rfl dX3_init_9 (fun H locs h => ?_)
  have h : ib A D s [(h0, .inr (3, [.ref q7, .null])), (q7, .inl (cA, 10, .inl (fun _ => 0)))] H _ := h
  refine lv_aload_n hx hb dX3_init_12 rfl (lv_at hl 0 rfl) ?_
  refine lv_bipush (v := (100 : Int32)) hx hb dX3_init_13 (by decide) ?_
  refine i_newa (N := 100) X h ww_1_63 (by decide) (by decide) (Nat.le_of_ble_eq_true rfl) (Nat.le_of_ble_eq_true rfl) (Nat.le_of_ble_eq_true rfl) dX3_init_15 (fun q15 H h => ?_)
  have h : ib A D s [(h0, .inr (3, [.ref q7, .null])), (q7, .inl (cA, 10, .inl (fun _ => 0))), (q15, .inl (cA, 100, .inl (fun _ => 0)))] H _ := h
  refine W.widen (k := 2) (n := 110) (Nat.le_of_ble_eq_true rfl) (Nat.le_of_ble_eq_true rfl) ?_
  refine i_putF (wr := [(q7, .inl (cA, 10, .inl (fun _ => 0))), (q15, .inl (cA, 100, .inl (fun _ => 0)))]) (ty := .array .int) (v := .ref q15) (fs' := [.ref q7, .ref q15]) X hin h rfl uX3 tyX3 tyX3_ok nmX3 1 (by decide) ww_1_57 rfl rfl rfl rfl rfl (Nat.le_of_ble_eq_true rfl) rfl dX3_init_17 (fun H locs h => ?_)
  have h : ib A D s [(h0, .inr (3, [.ref q7, .ref q15])), (q7, .inl (cA, 10, .inl (fun _ => 0))), (q15, .inl (cA, 100, .inl (fun _ => 0)))] H _ := h
  refine lv_aload_n hx hb dX3_init_20 rfl (lv_at hl 0 rfl) ?_
  have hws : [(h0, .inr (3, [.ref q7, .ref q15])), (q7, .inl (cA, 10, .inl (fun _ => 0))), (q15, .inl (cA, 100, .inl (fun _ => 0)))] = mw (gk D cA (fun j => if j = 0 then h0 else if j = 1 then q7 else q15) (gS G0) tl3 A) m0_X3 := rfl
  rw [hws] at h
  generalize hG3 : gk D cA (fun j => if j = 0 then h0 else if j = 1 then q7 else q15) (gS G0) tl3 A = G3 at h
  have hO3 : gO G3 := by subst hG3; exact gO_of h.2.1
  have h3 : isX3 G3 0 := by subst hG3; exact ⟨rfl, rfl, rfl, Nat.le_of_ble_eq_true rfl⟩
  have hE3 : gE G3 s s.heap := by subst hG3; exact gE_nar (G := G0) rfl X.2.2.2.2.2.2.2.2 X.2.2.2.2.2.2.1
  have X3 : cx G3 p s m (.ref h0 :: [] : List Value).toArray meth c cX3_init 1 none RX3 := by subst hG3; exact ⟨X.1, X.2.1, X.2.2.1, X.2.2.2.1, X.2.2.2.2.1, hr, hlocks, X.2.2.2.2.2.1, hO3, hE3⟩
  have hB3 : bw G3 s m0_X3 H locs := by subst hG3; exact ⟨h.1, h.2.2⟩
  have hl3 : lv_has ls 1 [(0, .ref (ga G3 0))] := by subst hG3; exact hl
  refine W.eq (g2 := F0 m 21 ls [.ref (ga G3 0)]) (by subst hG3; rfl) ?_
  refine k_v hB3 (n_V (rest := []) (As := []) X3 hB3 hl.1 (c_X3_measure l G3 hO3 0 h3 _ _ hw) gk_X3_18 rfl hd_X3_measure ⟨rfl, rfl⟩ ⟨Nat.le_of_ble_eq_true rfl, Nat.le_of_ble_eq_true rfl⟩ (X3_o h3) rfl rfl (Nat.le_of_ble_eq_true rfl) dX3_init_21 ⟨Nat.le_of_ble_eq_true rfl, Nat.le_of_ble_eq_true rfl⟩) (fun μ1 H locs hw h => ?_)
  have hb3 : ib A D s (mw G3 μ1) H locs := by have hd3 := mw_D hO3 μ1; subst hG3; exact ⟨h.1, hd3, h.2⟩
  subst hG3
  exact i_ret (ad := fun j => if j = 0 then h0 else if j = 1 then q7 else q15) X hr hlocks hAe hb3 rfl gk_at hw dX3_init_24
set_option maxRecDepth 100000 in
set_option maxHeartbeats 4000000 in
theorem ci_X4 (l : Launch) (G0 : vG) (D : va_G) (cA : ClassId) (h0 sz : Nat) (hA0 : ∀ q, va_A [(h0, (.inr (4, [.null, .null, .null]) : va_E))] sz q → gA G0 q) (Q : vM → Prop) (hw : Q m0_X4) : mi l G0 D cA yX4_init vX4_init { frames := 1, cells := 3, slots := 104, locals := 30 } [] h0 sz (.inr (4, [.null, .null, .null])) tl4 Q 3 104 := by
  refine mi_of (cc := cX4_init) (maxL := 1) RX4 (by decide) rfl rfl rfl (Nat.le_of_ble_eq_true rfl) hA0 ?_
  intro p e s m below meth c A hsz hAe X hr hlocks hin h ls hl
  have hl : lv_has ls 1 [(0, .ref h0)] := hl
  have hx := X.1
  have hb := X.2.1
  refine lv_aload_n hx hb dX4_init_0 rfl (lv_at hl 0 rfl) ?_
  refine i_obj X hl.1 ww_1_212 ww_1_23 ww_1_24 dX4_init_1 (Nat.le_of_ble_eq_true rfl) (Nat.le_of_ble_eq_true rfl) ?_
  refine lv_aload_n hx hb dX4_init_4 rfl (lv_at hl 0 rfl) ?_
  refine lv_iconst (v := (4 : Int32)) hx hb dX4_init_5 (by decide) ?_
  refine i_newa (N := 4) X h ww_1_63 (by decide) (by decide) (Nat.le_of_ble_eq_true rfl) (Nat.le_of_ble_eq_true rfl) (Nat.le_of_ble_eq_true rfl) dX4_init_6 (fun q6 H h => ?_)
  have h : ib A D s [(h0, .inr (4, [.null, .null, .null])), (q6, .inl (cA, 4, .inl (fun _ => 0)))] H _ := h
  refine W.widen (k := 1) (n := 4) (Nat.le_of_ble_eq_true rfl) (Nat.le_of_ble_eq_true rfl) ?_
  refine i_putF (wr := [(q6, .inl (cA, 4, .inl (fun _ => 0)))]) (ty := .array .int) (v := .ref q6) (fs' := [.ref q6, .null, .null]) X hin h rfl uX4 tyX4 tyX4_ok nmX4 0 (by decide) ww_1_213 rfl rfl rfl rfl rfl (Nat.le_of_ble_eq_true rfl) rfl dX4_init_8 (fun H locs h => ?_)
  have h : ib A D s [(h0, .inr (4, [.ref q6, .null, .null])), (q6, .inl (cA, 4, .inl (fun _ => 0)))] H _ := h
  refine lv_aload_n hx hb dX4_init_11 rfl (lv_at hl 0 rfl) ?_
  refine lv_iconst (v := (4 : Int32)) hx hb dX4_init_12 (by decide) ?_
  refine i_newa (N := 4) X h ww_1_63 (by decide) (by decide) (Nat.le_of_ble_eq_true rfl) (Nat.le_of_ble_eq_true rfl) (Nat.le_of_ble_eq_true rfl) dX4_init_13 (fun q13 H h => ?_)
  have h : ib A D s [(h0, .inr (4, [.ref q6, .null, .null])), (q6, .inl (cA, 4, .inl (fun _ => 0))), (q13, .inl (cA, 4, .inl (fun _ => 0)))] H _ := h
  refine W.widen (k := 2) (n := 8) (Nat.le_of_ble_eq_true rfl) (Nat.le_of_ble_eq_true rfl) ?_
  refine i_putF (wr := [(q6, .inl (cA, 4, .inl (fun _ => 0))), (q13, .inl (cA, 4, .inl (fun _ => 0)))]) (ty := .array .int) (v := .ref q13) (fs' := [.ref q6, .ref q13, .null]) X hin h rfl uX4 tyX4 tyX4_ok nmX4 1 (by decide) ww_1_215 rfl rfl rfl rfl rfl (Nat.le_of_ble_eq_true rfl) rfl dX4_init_15 (fun H locs h => ?_)
  have h : ib A D s [(h0, .inr (4, [.ref q6, .ref q13, .null])), (q6, .inl (cA, 4, .inl (fun _ => 0))), (q13, .inl (cA, 4, .inl (fun _ => 0)))] H _ := h
  refine lv_aload_n hx hb dX4_init_18 rfl (lv_at hl 0 rfl) ?_
  refine lv_bipush (v := (96 : Int32)) hx hb dX4_init_19 (by decide) ?_
  refine i_newa (N := 96) X h ww_1_63 (by decide) (by decide) (Nat.le_of_ble_eq_true rfl) (Nat.le_of_ble_eq_true rfl) (Nat.le_of_ble_eq_true rfl) dX4_init_21 (fun q21 H h => ?_)
  have h : ib A D s [(h0, .inr (4, [.ref q6, .ref q13, .null])), (q6, .inl (cA, 4, .inl (fun _ => 0))), (q13, .inl (cA, 4, .inl (fun _ => 0))), (q21, .inl (cA, 96, .inl (fun _ => 0)))] H _ := h
  refine W.widen (k := 3) (n := 104) (Nat.le_of_ble_eq_true rfl) (Nat.le_of_ble_eq_true rfl) ?_
  refine i_putF (wr := [(q6, .inl (cA, 4, .inl (fun _ => 0))), (q13, .inl (cA, 4, .inl (fun _ => 0))), (q21, .inl (cA, 96, .inl (fun _ => 0)))]) (ty := .array .int) (v := .ref q21) (fs' := [.ref q6, .ref q13, .ref q21]) X hin h rfl uX4 tyX4 tyX4_ok nmX4 2 (by decide) ww_1_217 rfl rfl rfl rfl rfl (Nat.le_of_ble_eq_true rfl) rfl dX4_init_23 (fun H locs h => ?_)
  have h : ib A D s [(h0, .inr (4, [.ref q6, .ref q13, .ref q21])), (q6, .inl (cA, 4, .inl (fun _ => 0))), (q13, .inl (cA, 4, .inl (fun _ => 0))), (q21, .inl (cA, 96, .inl (fun _ => 0)))] H _ := h
  exact i_ret (ad := fun j => if j = 0 then h0 else if j = 1 then q6 else if j = 2 then q13 else q21) (μ := m0_X4) X hr hlocks hAe h rfl rfl hw dX4_init_26
set_option maxRecDepth 100000 in
set_option maxHeartbeats 4000000 in
theorem ci_X5 (l : Launch) (G0 : vG) (D : va_G) (cA : ClassId) (h0 sz : Nat) (hA0 : ∀ q, va_A [(h0, (.inr (5, [.null, .null, .null, .null, .null, .int 0, .null, .int 0, .int 0]) : va_E))] sz q → gA G0 q) (Q : vM → Prop) (hw : wp_X3_measure 0 (fun μ1 => Q (m0_X5 μ1)) m0_X3) : mi l G0 D cA yX5_init vX5_init { frames := 4, cells := 18, slots := 498, locals := 98 } [] h0 sz (.inr (5, [.null, .null, .null, .null, .null, .int 0, .null, .int 0, .int 0])) tl5 Q 18 498 := by
  refine mi_of (cc := cX5_init) (maxL := 1) RX5 (by decide) rfl rfl rfl (Nat.le_of_ble_eq_true rfl) hA0 ?_
  intro p e s m below meth c A hsz hAe X hr hlocks hin h ls hl
  have hl : lv_has ls 1 [(0, .ref h0)] := hl
  have hx := X.1
  have hb := X.2.1
  refine lv_aload_n hx hb dX5_init_0 rfl (lv_at hl 0 rfl) ?_
  refine i_obj X hl.1 ww_1_30 ww_1_23 ww_1_24 dX5_init_1 (Nat.le_of_ble_eq_true rfl) (Nat.le_of_ble_eq_true rfl) ?_
  refine lv_aload_n hx hb dX5_init_4 rfl (lv_at hl 0 rfl) ?_
  refine i_new (ci := 3) (fs := [.null, .null]) X h rfl uX3 tyX3 tyX3_ok ww_1_31 ww_1_32 ww_1_3 (fun j hj => by rcases (show j = 0 ∨ j = 1 by omega) with rfl | rfl <;> rfl) (Nat.le_of_ble_eq_true rfl) (Nat.le_of_ble_eq_true rfl) dX5_init_5 (fun q5 H h => ?_)
  have h : ib A D s ((h0, .inr (5, [.null, .null, .null, .null, .null, .int 0, .null, .int 0, .int 0])) :: (([] : va_W) ++ [(q5, .inr (3, [.null, .null]))])) H _ := h
  refine W.widen (k := 1) (n := 2) (Nat.le_of_ble_eq_true rfl) (Nat.le_of_ble_eq_true rfl) ?_
  refine lv_dup hx hb dX5_init_8 rfl ?_
  refine i_call  (wr := ((h0, .inr (5, [.null, .null, .null, .null, .null, .int 0, .null, .int 0, .int 0])) :: ([] : va_W))) (as := []) (rest := [.ref q5, .ref h0]) X hl.1 h rfl (ci_X3 l G0 D cA q5 H.size (fun r hr => X.2.2.2.2.2.2.2.2 r (i_free h (wr := ((h0, .inr (5, [.null, .null, .null, .null, .null, .int 0, .null, .int 0, .int 0])) :: ([] : va_W))) rfl X.2.2.2.2.2.2.2.1 r hr)) (fun μ1 => Q (m0_X5 μ1)) hw) ww_1_35 rfl rfl ww_1_3 ww_1_33 ww_1_34 rfl ⟨by decide, by decide, by show _ = some 0; decide +kernel⟩ ⟨Nat.le_of_ble_eq_true rfl, Nat.le_of_ble_eq_true rfl⟩ rfl (Nat.le_of_ble_eq_true rfl) dX5_init_9 ⟨Nat.le_of_ble_eq_true rfl, Nat.le_of_ble_eq_true rfl⟩ (fun ad9 μ9 H1 locs1 e9 hwn hn => ?_)
  subst e9
  have hw := hwn
  have h : ib A D s ((h0, .inr (5, [.null, .null, .null, .null, .null, .int 0, .null, .int 0, .int 0])) :: (([] : va_W) ++ mw (gk D cA ad9 (gS G0) tl3 (fun _ => True)) μ9)) H1 _ := hn
  clear hn
  generalize H1 = H at h ⊢
  refine W.widen (k := 3) (n := 112) (Nat.le_of_ble_eq_true rfl) (Nat.le_of_ble_eq_true rfl) ?_
  refine i_putF (wr := (([] : va_W) ++ mw (gk D cA ad9 (gS G0) tl3 (fun _ => True)) μ9)) (ty := .object "CrumbsHome$Roads") (v := .ref (ad9 0)) (fs' := [.ref (ad9 0), .null, .null, .null, .null, .int 0, .null, .int 0, .int 0]) X hin h rfl uX5 tyX5 tyX5_ok nmX5 0 (by decide) ww_1_135 rfl rfl rfl rfl rfl (Nat.le_of_ble_eq_true rfl) rfl dX5_init_12 (fun H locs h => ?_)
  have h : ib A D s ((h0, .inr (5, [.ref (ad9 0), .null, .null, .null, .null, .int 0, .null, .int 0, .int 0])) :: (([] : va_W) ++ mw (gk D cA ad9 (gS G0) tl3 (fun _ => True)) μ9)) H _ := h
  refine lv_aload_n hx hb dX5_init_15 rfl (lv_at hl 0 rfl) ?_
  refine i_new (ci := 0) (fs := [.int 0, .int 0, .null, .null, .null, .null, .null, .null]) X h rfl uX0 tyX0 tyX0_ok ww_1_64 ww_1_65 ww_1_5 (fun j hj => by rcases (show j = 0 ∨ j = 1 ∨ j = 2 ∨ j = 3 ∨ j = 4 ∨ j = 5 ∨ j = 6 ∨ j = 7 by omega) with rfl | rfl | rfl | rfl | rfl | rfl | rfl | rfl <;> rfl) (Nat.le_of_ble_eq_true rfl) (Nat.le_of_ble_eq_true rfl) dX5_init_16 (fun q16 H h => ?_)
  have h : ib A D s ((h0, .inr (5, [.ref (ad9 0), .null, .null, .null, .null, .int 0, .null, .int 0, .int 0])) :: ((([] : va_W) ++ mw (gk D cA ad9 (gS G0) tl3 (fun _ => True)) μ9) ++ [(q16, .inr (0, [.int 0, .int 0, .null, .null, .null, .null, .null, .null]))])) H _ := h
  refine W.widen (k := 4) (n := 120) (Nat.le_of_ble_eq_true rfl) (Nat.le_of_ble_eq_true rfl) ?_
  refine lv_dup hx hb dX5_init_19 rfl ?_
  refine i_call  (wr := ((h0, .inr (5, [.ref (ad9 0), .null, .null, .null, .null, .int 0, .null, .int 0, .int 0])) :: (([] : va_W) ++ mw (gk D cA ad9 (gS G0) tl3 (fun _ => True)) μ9))) (as := []) (rest := [.ref q16, .ref h0]) X hl.1 h rfl (ci_X0 l G0 D cA q16 H.size (fun r hr => X.2.2.2.2.2.2.2.2 r (i_free h (wr := ((h0, .inr (5, [.ref (ad9 0), .null, .null, .null, .null, .int 0, .null, .int 0, .int 0])) :: (([] : va_W) ++ mw (gk D cA ad9 (gS G0) tl3 (fun _ => True)) μ9))) rfl X.2.2.2.2.2.2.2.1 r hr)) (fun μ => μ = m0_X0) rfl) ww_1_68 rfl rfl ww_1_5 ww_1_66 ww_1_67 rfl ⟨by decide, by decide, by show _ = some 0; decide +kernel⟩ ⟨Nat.le_of_ble_eq_true rfl, Nat.le_of_ble_eq_true rfl⟩ rfl (Nat.le_of_ble_eq_true rfl) dX5_init_20 ⟨Nat.le_of_ble_eq_true rfl, Nat.le_of_ble_eq_true rfl⟩ (fun ad20 μ20 H1 locs1 e20 hw9 hn => ?_)
  subst e20
  subst hw9
  have h : ib A D s ((h0, .inr (5, [.ref (ad9 0), .null, .null, .null, .null, .int 0, .null, .int 0, .int 0])) :: ((([] : va_W) ++ mw (gk D cA ad9 (gS G0) tl3 (fun _ => True)) μ9) ++ mw (gk D cA ad20 (gS G0) tl0 (fun _ => True)) m0_X0)) H1 _ := hn
  clear hn
  generalize H1 = H at h ⊢
  refine W.widen (k := 10) (n := 164) (Nat.le_of_ble_eq_true rfl) (Nat.le_of_ble_eq_true rfl) ?_
  refine i_putF (wr := ((([] : va_W) ++ mw (gk D cA ad9 (gS G0) tl3 (fun _ => True)) μ9) ++ mw (gk D cA ad20 (gS G0) tl0 (fun _ => True)) m0_X0)) (ty := .object "CrumbsHome$Harvest") (v := .ref (ad20 0)) (fs' := [.ref (ad9 0), .ref (ad20 0), .null, .null, .null, .int 0, .null, .int 0, .int 0]) X hin h rfl uX5 tyX5 tyX5_ok nmX5 1 (by decide) ww_1_137 rfl rfl rfl rfl rfl (Nat.le_of_ble_eq_true rfl) rfl dX5_init_23 (fun H locs h => ?_)
  have h : ib A D s ((h0, .inr (5, [.ref (ad9 0), .ref (ad20 0), .null, .null, .null, .int 0, .null, .int 0, .int 0])) :: ((([] : va_W) ++ mw (gk D cA ad9 (gS G0) tl3 (fun _ => True)) μ9) ++ mw (gk D cA ad20 (gS G0) tl0 (fun _ => True)) m0_X0)) H _ := h
  refine lv_aload_n hx hb dX5_init_26 rfl (lv_at hl 0 rfl) ?_
  refine i_new (ci := 1) (fs := [.null, .int 0, .null, .null, .int 0]) X h rfl uX1 tyX1 tyX1_ok ww_1_106 ww_1_107 ww_1_6 (fun j hj => by rcases (show j = 0 ∨ j = 1 ∨ j = 2 ∨ j = 3 ∨ j = 4 by omega) with rfl | rfl | rfl | rfl | rfl <;> rfl) (Nat.le_of_ble_eq_true rfl) (Nat.le_of_ble_eq_true rfl) dX5_init_27 (fun q27 H h => ?_)
  have h : ib A D s ((h0, .inr (5, [.ref (ad9 0), .ref (ad20 0), .null, .null, .null, .int 0, .null, .int 0, .int 0])) :: (((([] : va_W) ++ mw (gk D cA ad9 (gS G0) tl3 (fun _ => True)) μ9) ++ mw (gk D cA ad20 (gS G0) tl0 (fun _ => True)) m0_X0) ++ [(q27, .inr (1, [.null, .int 0, .null, .null, .int 0]))])) H _ := h
  refine W.widen (k := 11) (n := 169) (Nat.le_of_ble_eq_true rfl) (Nat.le_of_ble_eq_true rfl) ?_
  refine lv_dup hx hb dX5_init_30 rfl ?_
  refine i_ldcS (v := (0 : Int32)) (i := 0) X (by decide) rfl dX5_init_31 ?_
  refine lv_iconst (v := (3 : Int32)) hx hb dX5_init_33 (by decide) ?_
  refine i_call  (wr := ((h0, .inr (5, [.ref (ad9 0), .ref (ad20 0), .null, .null, .null, .int 0, .null, .int 0, .int 0])) :: ((([] : va_W) ++ mw (gk D cA ad9 (gS G0) tl3 (fun _ => True)) μ9) ++ mw (gk D cA ad20 (gS G0) tl0 (fun _ => True)) m0_X0))) (as := [.ref (gS G0 ((0 : Int32)).toNatClampNeg), .int (3 : Int32)]) (rest := [.ref q27, .ref h0]) X hl.1 h rfl (ci_X1 l G0 D cA q27 H.size (0 : Int32) (3 : Int32) (fun r hr => X.2.2.2.2.2.2.2.2 r (i_free h (wr := ((h0, .inr (5, [.ref (ad9 0), .ref (ad20 0), .null, .null, .null, .int 0, .null, .int 0, .int 0])) :: ((([] : va_W) ++ mw (gk D cA ad9 (gS G0) tl3 (fun _ => True)) μ9) ++ mw (gk D cA ad20 (gS G0) tl0 (fun _ => True)) m0_X0))) rfl X.2.2.2.2.2.2.2.1 r hr)) (fun μ => μ = m0_X1 (0) (3) ) rfl) ww_1_111 rfl rfl ww_1_6 ww_1_109 ww_1_110 rfl ⟨by decide, by decide, by show _ = some 2; decide +kernel⟩ ⟨Nat.le_of_ble_eq_true rfl, Nat.le_of_ble_eq_true rfl⟩ rfl (Nat.le_of_ble_eq_true rfl) dX5_init_34 ⟨Nat.le_of_ble_eq_true rfl, Nat.le_of_ble_eq_true rfl⟩ (fun ad34 μ34 H1 locs1 e34 hw9 hn => ?_)
  subst e34
  subst hw9
  have h : ib A D s ((h0, .inr (5, [.ref (ad9 0), .ref (ad20 0), .null, .null, .null, .int 0, .null, .int 0, .int 0])) :: (((([] : va_W) ++ mw (gk D cA ad9 (gS G0) tl3 (fun _ => True)) μ9) ++ mw (gk D cA ad20 (gS G0) tl0 (fun _ => True)) m0_X0) ++ mw (gk D cA ad34 (gS G0) tl1 (fun _ => True)) (m0_X1 (0) (3)))) H1 _ := hn
  clear hn
  generalize H1 = H at h ⊢
  refine W.widen (k := 13) (n := 289) (Nat.le_of_ble_eq_true rfl) (Nat.le_of_ble_eq_true rfl) ?_
  refine i_putF (wr := (((([] : va_W) ++ mw (gk D cA ad9 (gS G0) tl3 (fun _ => True)) μ9) ++ mw (gk D cA ad20 (gS G0) tl0 (fun _ => True)) m0_X0) ++ mw (gk D cA ad34 (gS G0) tl1 (fun _ => True)) (m0_X1 (0) (3)))) (ty := .object "CrumbsHome$Law") (v := .ref (ad34 0)) (fs' := [.ref (ad9 0), .ref (ad20 0), .ref (ad34 0), .null, .null, .int 0, .null, .int 0, .int 0]) X hin h rfl uX5 tyX5 tyX5_ok nmX5 2 (by decide) ww_1_139 rfl rfl rfl rfl rfl (Nat.le_of_ble_eq_true rfl) rfl dX5_init_37 (fun H locs h => ?_)
  have h : ib A D s ((h0, .inr (5, [.ref (ad9 0), .ref (ad20 0), .ref (ad34 0), .null, .null, .int 0, .null, .int 0, .int 0])) :: (((([] : va_W) ++ mw (gk D cA ad9 (gS G0) tl3 (fun _ => True)) μ9) ++ mw (gk D cA ad20 (gS G0) tl0 (fun _ => True)) m0_X0) ++ mw (gk D cA ad34 (gS G0) tl1 (fun _ => True)) (m0_X1 (0) (3)))) H _ := h
  refine lv_aload_n hx hb dX5_init_40 rfl (lv_at hl 0 rfl) ?_
  refine i_new (ci := 1) (fs := [.null, .int 0, .null, .null, .int 0]) X h rfl uX1 tyX1 tyX1_ok ww_1_106 ww_1_107 ww_1_6 (fun j hj => by rcases (show j = 0 ∨ j = 1 ∨ j = 2 ∨ j = 3 ∨ j = 4 by omega) with rfl | rfl | rfl | rfl | rfl <;> rfl) (Nat.le_of_ble_eq_true rfl) (Nat.le_of_ble_eq_true rfl) dX5_init_41 (fun q41 H h => ?_)
  have h : ib A D s ((h0, .inr (5, [.ref (ad9 0), .ref (ad20 0), .ref (ad34 0), .null, .null, .int 0, .null, .int 0, .int 0])) :: ((((([] : va_W) ++ mw (gk D cA ad9 (gS G0) tl3 (fun _ => True)) μ9) ++ mw (gk D cA ad20 (gS G0) tl0 (fun _ => True)) m0_X0) ++ mw (gk D cA ad34 (gS G0) tl1 (fun _ => True)) (m0_X1 (0) (3))) ++ [(q41, .inr (1, [.null, .int 0, .null, .null, .int 0]))])) H _ := h
  refine W.widen (k := 14) (n := 294) (Nat.le_of_ble_eq_true rfl) (Nat.le_of_ble_eq_true rfl) ?_
  refine lv_dup hx hb dX5_init_44 rfl ?_
  refine i_ldcS (v := (1 : Int32)) (i := 1) X (by decide) rfl dX5_init_45 ?_
  refine lv_bipush (v := (99 : Int32)) hx hb dX5_init_47 (by decide) ?_
  refine i_call  (wr := ((h0, .inr (5, [.ref (ad9 0), .ref (ad20 0), .ref (ad34 0), .null, .null, .int 0, .null, .int 0, .int 0])) :: (((([] : va_W) ++ mw (gk D cA ad9 (gS G0) tl3 (fun _ => True)) μ9) ++ mw (gk D cA ad20 (gS G0) tl0 (fun _ => True)) m0_X0) ++ mw (gk D cA ad34 (gS G0) tl1 (fun _ => True)) (m0_X1 (0) (3))))) (as := [.ref (gS G0 ((1 : Int32)).toNatClampNeg), .int (99 : Int32)]) (rest := [.ref q41, .ref h0]) X hl.1 h rfl (ci_X1 l G0 D cA q41 H.size (1 : Int32) (99 : Int32) (fun r hr => X.2.2.2.2.2.2.2.2 r (i_free h (wr := ((h0, .inr (5, [.ref (ad9 0), .ref (ad20 0), .ref (ad34 0), .null, .null, .int 0, .null, .int 0, .int 0])) :: (((([] : va_W) ++ mw (gk D cA ad9 (gS G0) tl3 (fun _ => True)) μ9) ++ mw (gk D cA ad20 (gS G0) tl0 (fun _ => True)) m0_X0) ++ mw (gk D cA ad34 (gS G0) tl1 (fun _ => True)) (m0_X1 (0) (3))))) rfl X.2.2.2.2.2.2.2.1 r hr)) (fun μ => μ = m0_X1 (1) (99) ) rfl) ww_1_111 rfl rfl ww_1_6 ww_1_109 ww_1_110 rfl ⟨by decide, by decide, by show _ = some 2; decide +kernel⟩ ⟨Nat.le_of_ble_eq_true rfl, Nat.le_of_ble_eq_true rfl⟩ rfl (Nat.le_of_ble_eq_true rfl) dX5_init_49 ⟨Nat.le_of_ble_eq_true rfl, Nat.le_of_ble_eq_true rfl⟩ (fun ad49 μ49 H1 locs1 e49 hw9 hn => ?_)
  subst e49
  subst hw9
  have h : ib A D s ((h0, .inr (5, [.ref (ad9 0), .ref (ad20 0), .ref (ad34 0), .null, .null, .int 0, .null, .int 0, .int 0])) :: ((((([] : va_W) ++ mw (gk D cA ad9 (gS G0) tl3 (fun _ => True)) μ9) ++ mw (gk D cA ad20 (gS G0) tl0 (fun _ => True)) m0_X0) ++ mw (gk D cA ad34 (gS G0) tl1 (fun _ => True)) (m0_X1 (0) (3))) ++ mw (gk D cA ad49 (gS G0) tl1 (fun _ => True)) (m0_X1 (1) (99)))) H1 _ := hn
  clear hn
  generalize H1 = H at h ⊢
  refine W.widen (k := 16) (n := 414) (Nat.le_of_ble_eq_true rfl) (Nat.le_of_ble_eq_true rfl) ?_
  refine i_putF (wr := ((((([] : va_W) ++ mw (gk D cA ad9 (gS G0) tl3 (fun _ => True)) μ9) ++ mw (gk D cA ad20 (gS G0) tl0 (fun _ => True)) m0_X0) ++ mw (gk D cA ad34 (gS G0) tl1 (fun _ => True)) (m0_X1 (0) (3))) ++ mw (gk D cA ad49 (gS G0) tl1 (fun _ => True)) (m0_X1 (1) (99)))) (ty := .object "CrumbsHome$Law") (v := .ref (ad49 0)) (fs' := [.ref (ad9 0), .ref (ad20 0), .ref (ad34 0), .ref (ad49 0), .null, .int 0, .null, .int 0, .int 0]) X hin h rfl uX5 tyX5 tyX5_ok nmX5 3 (by decide) ww_1_141 rfl rfl rfl rfl rfl (Nat.le_of_ble_eq_true rfl) rfl dX5_init_52 (fun H locs h => ?_)
  have h : ib A D s ((h0, .inr (5, [.ref (ad9 0), .ref (ad20 0), .ref (ad34 0), .ref (ad49 0), .null, .int 0, .null, .int 0, .int 0])) :: ((((([] : va_W) ++ mw (gk D cA ad9 (gS G0) tl3 (fun _ => True)) μ9) ++ mw (gk D cA ad20 (gS G0) tl0 (fun _ => True)) m0_X0) ++ mw (gk D cA ad34 (gS G0) tl1 (fun _ => True)) (m0_X1 (0) (3))) ++ mw (gk D cA ad49 (gS G0) tl1 (fun _ => True)) (m0_X1 (1) (99)))) H _ := h
  refine lv_aload_n hx hb dX5_init_55 rfl (lv_at hl 0 rfl) ?_
  refine lv_bipush (v := (60 : Int32)) hx hb dX5_init_56 (by decide) ?_
  refine i_newa (N := 60) X h ww_1_63 (by decide) (by decide) (Nat.le_of_ble_eq_true rfl) (Nat.le_of_ble_eq_true rfl) (Nat.le_of_ble_eq_true rfl) dX5_init_58 (fun q58 H h => ?_)
  have h : ib A D s ((h0, .inr (5, [.ref (ad9 0), .ref (ad20 0), .ref (ad34 0), .ref (ad49 0), .null, .int 0, .null, .int 0, .int 0])) :: (((((([] : va_W) ++ mw (gk D cA ad9 (gS G0) tl3 (fun _ => True)) μ9) ++ mw (gk D cA ad20 (gS G0) tl0 (fun _ => True)) m0_X0) ++ mw (gk D cA ad34 (gS G0) tl1 (fun _ => True)) (m0_X1 (0) (3))) ++ mw (gk D cA ad49 (gS G0) tl1 (fun _ => True)) (m0_X1 (1) (99))) ++ [(q58, .inl (cA, 60, .inl (fun _ => 0)))])) H _ := h
  refine W.widen (k := 17) (n := 474) (Nat.le_of_ble_eq_true rfl) (Nat.le_of_ble_eq_true rfl) ?_
  refine i_putF (wr := (((((([] : va_W) ++ mw (gk D cA ad9 (gS G0) tl3 (fun _ => True)) μ9) ++ mw (gk D cA ad20 (gS G0) tl0 (fun _ => True)) m0_X0) ++ mw (gk D cA ad34 (gS G0) tl1 (fun _ => True)) (m0_X1 (0) (3))) ++ mw (gk D cA ad49 (gS G0) tl1 (fun _ => True)) (m0_X1 (1) (99))) ++ [(q58, .inl (cA, 60, .inl (fun _ => 0)))])) (ty := .array .int) (v := .ref q58) (fs' := [.ref (ad9 0), .ref (ad20 0), .ref (ad34 0), .ref (ad49 0), .ref q58, .int 0, .null, .int 0, .int 0]) X hin h rfl uX5 tyX5 tyX5_ok nmX5 4 (by decide) ww_1_143 rfl rfl rfl rfl rfl (Nat.le_of_ble_eq_true rfl) rfl dX5_init_60 (fun H locs h => ?_)
  have h : ib A D s ((h0, .inr (5, [.ref (ad9 0), .ref (ad20 0), .ref (ad34 0), .ref (ad49 0), .ref q58, .int 0, .null, .int 0, .int 0])) :: (((((([] : va_W) ++ mw (gk D cA ad9 (gS G0) tl3 (fun _ => True)) μ9) ++ mw (gk D cA ad20 (gS G0) tl0 (fun _ => True)) m0_X0) ++ mw (gk D cA ad34 (gS G0) tl1 (fun _ => True)) (m0_X1 (0) (3))) ++ mw (gk D cA ad49 (gS G0) tl1 (fun _ => True)) (m0_X1 (1) (99))) ++ [(q58, .inl (cA, 60, .inl (fun _ => 0)))])) H _ := h
  refine lv_aload_n hx hb dX5_init_63 rfl (lv_at hl 0 rfl) ?_
  refine lv_iconst (v := (0 : Int32)) hx hb dX5_init_64 (by decide) ?_
  refine i_put (wr := (((((([] : va_W) ++ mw (gk D cA ad9 (gS G0) tl3 (fun _ => True)) μ9) ++ mw (gk D cA ad20 (gS G0) tl0 (fun _ => True)) m0_X0) ++ mw (gk D cA ad34 (gS G0) tl1 (fun _ => True)) (m0_X1 (0) (3))) ++ mw (gk D cA ad49 (gS G0) tl1 (fun _ => True)) (m0_X1 (1) (99))) ++ [(q58, .inl (cA, 60, .inl (fun _ => 0)))])) (ty := .int) (v := .int (0 : Int32)) (fs' := [.ref (ad9 0), .ref (ad20 0), .ref (ad34 0), .ref (ad49 0), .ref q58, .int (0 : Int32), .null, .int 0, .int 0]) X h rfl uX5 tyX5 tyX5_ok nmX5 5 (by decide) ww_1_145 rfl  rfl rfl rfl (Nat.le_of_ble_eq_true rfl) rfl dX5_init_65 (fun H locs h => ?_)
  have h : ib A D s ((h0, .inr (5, [.ref (ad9 0), .ref (ad20 0), .ref (ad34 0), .ref (ad49 0), .ref q58, .int (0 : Int32), .null, .int 0, .int 0])) :: (((((([] : va_W) ++ mw (gk D cA ad9 (gS G0) tl3 (fun _ => True)) μ9) ++ mw (gk D cA ad20 (gS G0) tl0 (fun _ => True)) m0_X0) ++ mw (gk D cA ad34 (gS G0) tl1 (fun _ => True)) (m0_X1 (0) (3))) ++ mw (gk D cA ad49 (gS G0) tl1 (fun _ => True)) (m0_X1 (1) (99))) ++ [(q58, .inl (cA, 60, .inl (fun _ => 0)))])) H _ := h
  refine lv_aload_n hx hb dX5_init_68 rfl (lv_at hl 0 rfl) ?_
  refine lv_bipush (v := (24 : Int32)) hx hb dX5_init_69 (by decide) ?_
  refine i_newa (N := 24) X h ww_1_63 (by decide) (by decide) (Nat.le_of_ble_eq_true rfl) (Nat.le_of_ble_eq_true rfl) (Nat.le_of_ble_eq_true rfl) dX5_init_71 (fun q71 H h => ?_)
  have h : ib A D s ((h0, .inr (5, [.ref (ad9 0), .ref (ad20 0), .ref (ad34 0), .ref (ad49 0), .ref q58, .int (0 : Int32), .null, .int 0, .int 0])) :: ((((((([] : va_W) ++ mw (gk D cA ad9 (gS G0) tl3 (fun _ => True)) μ9) ++ mw (gk D cA ad20 (gS G0) tl0 (fun _ => True)) m0_X0) ++ mw (gk D cA ad34 (gS G0) tl1 (fun _ => True)) (m0_X1 (0) (3))) ++ mw (gk D cA ad49 (gS G0) tl1 (fun _ => True)) (m0_X1 (1) (99))) ++ [(q58, .inl (cA, 60, .inl (fun _ => 0)))]) ++ [(q71, .inl (cA, 24, .inl (fun _ => 0)))])) H _ := h
  refine W.widen (k := 18) (n := 498) (Nat.le_of_ble_eq_true rfl) (Nat.le_of_ble_eq_true rfl) ?_
  refine i_putF (wr := ((((((([] : va_W) ++ mw (gk D cA ad9 (gS G0) tl3 (fun _ => True)) μ9) ++ mw (gk D cA ad20 (gS G0) tl0 (fun _ => True)) m0_X0) ++ mw (gk D cA ad34 (gS G0) tl1 (fun _ => True)) (m0_X1 (0) (3))) ++ mw (gk D cA ad49 (gS G0) tl1 (fun _ => True)) (m0_X1 (1) (99))) ++ [(q58, .inl (cA, 60, .inl (fun _ => 0)))]) ++ [(q71, .inl (cA, 24, .inl (fun _ => 0)))])) (ty := .array .int) (v := .ref q71) (fs' := [.ref (ad9 0), .ref (ad20 0), .ref (ad34 0), .ref (ad49 0), .ref q58, .int (0 : Int32), .ref q71, .int 0, .int 0]) X hin h rfl uX5 tyX5 tyX5_ok nmX5 6 (by decide) ww_1_147 rfl rfl rfl rfl rfl (Nat.le_of_ble_eq_true rfl) rfl dX5_init_73 (fun H locs h => ?_)
  have h : ib A D s ((h0, .inr (5, [.ref (ad9 0), .ref (ad20 0), .ref (ad34 0), .ref (ad49 0), .ref q58, .int (0 : Int32), .ref q71, .int 0, .int 0])) :: ((((((([] : va_W) ++ mw (gk D cA ad9 (gS G0) tl3 (fun _ => True)) μ9) ++ mw (gk D cA ad20 (gS G0) tl0 (fun _ => True)) m0_X0) ++ mw (gk D cA ad34 (gS G0) tl1 (fun _ => True)) (m0_X1 (0) (3))) ++ mw (gk D cA ad49 (gS G0) tl1 (fun _ => True)) (m0_X1 (1) (99))) ++ [(q58, .inl (cA, 60, .inl (fun _ => 0)))]) ++ [(q71, .inl (cA, 24, .inl (fun _ => 0)))])) H _ := h
  refine lv_aload_n hx hb dX5_init_76 rfl (lv_at hl 0 rfl) ?_
  refine lv_iconst (v := (0 : Int32)) hx hb dX5_init_77 (by decide) ?_
  refine i_put (wr := ((((((([] : va_W) ++ mw (gk D cA ad9 (gS G0) tl3 (fun _ => True)) μ9) ++ mw (gk D cA ad20 (gS G0) tl0 (fun _ => True)) m0_X0) ++ mw (gk D cA ad34 (gS G0) tl1 (fun _ => True)) (m0_X1 (0) (3))) ++ mw (gk D cA ad49 (gS G0) tl1 (fun _ => True)) (m0_X1 (1) (99))) ++ [(q58, .inl (cA, 60, .inl (fun _ => 0)))]) ++ [(q71, .inl (cA, 24, .inl (fun _ => 0)))])) (ty := .int) (v := .int (0 : Int32)) (fs' := [.ref (ad9 0), .ref (ad20 0), .ref (ad34 0), .ref (ad49 0), .ref q58, .int (0 : Int32), .ref q71, .int (0 : Int32), .int 0]) X h rfl uX5 tyX5 tyX5_ok nmX5 7 (by decide) ww_1_149 rfl  rfl rfl rfl (Nat.le_of_ble_eq_true rfl) rfl dX5_init_78 (fun H locs h => ?_)
  have h : ib A D s ((h0, .inr (5, [.ref (ad9 0), .ref (ad20 0), .ref (ad34 0), .ref (ad49 0), .ref q58, .int (0 : Int32), .ref q71, .int (0 : Int32), .int 0])) :: ((((((([] : va_W) ++ mw (gk D cA ad9 (gS G0) tl3 (fun _ => True)) μ9) ++ mw (gk D cA ad20 (gS G0) tl0 (fun _ => True)) m0_X0) ++ mw (gk D cA ad34 (gS G0) tl1 (fun _ => True)) (m0_X1 (0) (3))) ++ mw (gk D cA ad49 (gS G0) tl1 (fun _ => True)) (m0_X1 (1) (99))) ++ [(q58, .inl (cA, 60, .inl (fun _ => 0)))]) ++ [(q71, .inl (cA, 24, .inl (fun _ => 0)))])) H _ := h
  refine lv_aload_n hx hb dX5_init_81 rfl (lv_at hl 0 rfl) ?_
  refine lv_iconst (v := (1 : Int32)) hx hb dX5_init_82 (by decide) ?_
  refine i_put (wr := ((((((([] : va_W) ++ mw (gk D cA ad9 (gS G0) tl3 (fun _ => True)) μ9) ++ mw (gk D cA ad20 (gS G0) tl0 (fun _ => True)) m0_X0) ++ mw (gk D cA ad34 (gS G0) tl1 (fun _ => True)) (m0_X1 (0) (3))) ++ mw (gk D cA ad49 (gS G0) tl1 (fun _ => True)) (m0_X1 (1) (99))) ++ [(q58, .inl (cA, 60, .inl (fun _ => 0)))]) ++ [(q71, .inl (cA, 24, .inl (fun _ => 0)))])) (ty := .int) (v := .int (1 : Int32)) (fs' := [.ref (ad9 0), .ref (ad20 0), .ref (ad34 0), .ref (ad49 0), .ref q58, .int (0 : Int32), .ref q71, .int (0 : Int32), .int (1 : Int32)]) X h rfl uX5 tyX5 tyX5_ok nmX5 8 (by decide) ww_1_151 rfl  rfl rfl rfl (Nat.le_of_ble_eq_true rfl) rfl dX5_init_83 (fun H locs h => ?_)
  have h : ib A D s ((h0, .inr (5, [.ref (ad9 0), .ref (ad20 0), .ref (ad34 0), .ref (ad49 0), .ref q58, .int (0 : Int32), .ref q71, .int (0 : Int32), .int (1 : Int32)])) :: ((((((([] : va_W) ++ mw (gk D cA ad9 (gS G0) tl3 (fun _ => True)) μ9) ++ mw (gk D cA ad20 (gS G0) tl0 (fun _ => True)) m0_X0) ++ mw (gk D cA ad34 (gS G0) tl1 (fun _ => True)) (m0_X1 (0) (3))) ++ mw (gk D cA ad49 (gS G0) tl1 (fun _ => True)) (m0_X1 (1) (99))) ++ [(q58, .inl (cA, 60, .inl (fun _ => 0)))]) ++ [(q71, .inl (cA, 24, .inl (fun _ => 0)))])) H _ := h
  exact i_ret (ad := fun j => if j = 0 then h0 else if j < 4 then ad9 (j - 1) else if j < 11 then ad20 (j - 4) else if j < 14 then ad34 (j - 11) else if j < 17 then ad49 (j - 14) else if j < 18 then q58 else q71) (μ := (m0_X5 μ9)) X hr hlocks hAe h rfl rfl hw dX5_init_86
set_option maxRecDepth 100000 in
set_option maxHeartbeats 4000000 in
theorem ci_X6 (l : Launch) (G0 : vG) (D : va_G) (cA : ClassId) (h0 sz : Nat) (hA0 : ∀ q, va_A [(h0, (.inr (6, [.null, .null, .int 0, .null, .null, .null, .null, .null, .null, .null, .int 0, .int 0]) : va_E))] sz q → gA G0 q) (Q : vM → Prop) (hw : wp_X3_measure 0 (fun ν1 => wp_X3_measure 0 (fun ν2 => wp_X3_measure 0 (fun ν3 => Q (m0_X6 (m0_X5 ν1) (m0_X5 ν2) ν3)) m0_X3) m0_X3) m0_X3) : mi l G0 D cA yX6_init vX6_init { frames := 5, cells := 58, slots := 1457, locals := 118 } [] h0 sz (.inr (6, [.null, .null, .int 0, .null, .null, .null, .null, .null, .null, .null, .int 0, .int 0])) tl6 Q 58 1457 := by
  refine mi_of (cc := cX6_init) (maxL := 1) RX6 (by decide) rfl rfl rfl (Nat.le_of_ble_eq_true rfl) hA0 ?_
  intro p e s m below meth c A hsz hAe X hr hlocks hin h ls hl
  have hl : lv_has ls 1 [(0, .ref h0)] := hl
  have hx := X.1
  have hb := X.2.1
  refine lv_aload_n hx hb dX6_init_0 rfl (lv_at hl 0 rfl) ?_
  refine i_obj X hl.1 ww_1_22 ww_1_23 ww_1_24 dX6_init_1 (Nat.le_of_ble_eq_true rfl) (Nat.le_of_ble_eq_true rfl) ?_
  refine lv_aload_n hx hb dX6_init_4 rfl (lv_at hl 0 rfl) ?_
  refine i_new (ci := 5) (fs := [.null, .null, .null, .null, .null, .int 0, .null, .int 0, .int 0]) X h rfl uX5 tyX5 tyX5_ok ww_1_25 ww_1_26 ww_1_2 (fun j hj => by rcases (show j = 0 ∨ j = 1 ∨ j = 2 ∨ j = 3 ∨ j = 4 ∨ j = 5 ∨ j = 6 ∨ j = 7 ∨ j = 8 by omega) with rfl | rfl | rfl | rfl | rfl | rfl | rfl | rfl | rfl <;> rfl) (Nat.le_of_ble_eq_true rfl) (Nat.le_of_ble_eq_true rfl) dX6_init_5 (fun q5 H h => ?_)
  have h : ib A D s ((h0, .inr (6, [.null, .null, .int 0, .null, .null, .null, .null, .null, .null, .null, .int 0, .int 0])) :: (([] : va_W) ++ [(q5, .inr (5, [.null, .null, .null, .null, .null, .int 0, .null, .int 0, .int 0]))])) H _ := h
  refine W.widen (k := 1) (n := 9) (Nat.le_of_ble_eq_true rfl) (Nat.le_of_ble_eq_true rfl) ?_
  refine lv_dup hx hb dX6_init_8 rfl ?_
  refine i_callN (ni := 0) (wr := ((h0, .inr (6, [.null, .null, .int 0, .null, .null, .null, .null, .null, .null, .null, .int 0, .int 0])) :: ([] : va_W))) (as := []) (rest := [.ref q5, .ref h0]) X hl.1 h rfl (ci_X5 l G0 D cA q5 H.size (fun r hr => X.2.2.2.2.2.2.2.2 r (i_free h (wr := ((h0, .inr (6, [.null, .null, .int 0, .null, .null, .null, .null, .null, .null, .null, .int 0, .int 0])) :: ([] : va_W))) rfl X.2.2.2.2.2.2.2.1 r hr)) (fun μN => wp_X3_measure 0 (fun ν2 => wp_X3_measure 0 (fun ν3 => Q (m0_X6 μN (m0_X5 ν2) ν3)) m0_X3) m0_X3) hw) ww_1_29 rfl rfl ww_1_2 rfl ww_1_28 rfl ⟨by decide, by decide, by show _ = some 0; decide +kernel⟩ ⟨Nat.le_of_ble_eq_true rfl, Nat.le_of_ble_eq_true rfl⟩ rfl (Nat.le_of_ble_eq_true rfl) dX6_init_9 ⟨Nat.le_of_ble_eq_true rfl, Nat.le_of_ble_eq_true rfl⟩ (fun ad9 μ9 H1 locs1 e9 hwn hn => ?_)
  subst e9
  have hw := hwn
  have h : ib A D s ((h0, .inr (6, [.null, .null, .int 0, .null, .null, .null, .null, .null, .null, .null, .int 0, .int 0])) :: (([] : va_W) ++ mw (gk D cA ad9 (gS G0) tl5 (fun _ => True)) μ9)) H1 _ := hn
  clear hn
  generalize H1 = H at h ⊢
  refine W.widen (k := 19) (n := 507) (Nat.le_of_ble_eq_true rfl) (Nat.le_of_ble_eq_true rfl) ?_
  refine i_putF (wr := (([] : va_W) ++ mw (gk D cA ad9 (gS G0) tl5 (fun _ => True)) μ9)) (ty := .object "CrumbsHome$World") (v := .ref (ad9 0)) (fs' := [.ref (ad9 0), .null, .int 0, .null, .null, .null, .null, .null, .null, .null, .int 0, .int 0]) X hin h rfl uX6 tyX6 tyX6_ok nmX6 0 (by decide) ww_1_225 rfl rfl rfl rfl rfl (Nat.le_of_ble_eq_true rfl) rfl dX6_init_12 (fun H locs h => ?_)
  have h : ib A D s ((h0, .inr (6, [.ref (ad9 0), .null, .int 0, .null, .null, .null, .null, .null, .null, .null, .int 0, .int 0])) :: (([] : va_W) ++ mw (gk D cA ad9 (gS G0) tl5 (fun _ => True)) μ9)) H _ := h
  refine lv_aload_n hx hb dX6_init_15 rfl (lv_at hl 0 rfl) ?_
  refine i_new (ci := 5) (fs := [.null, .null, .null, .null, .null, .int 0, .null, .int 0, .int 0]) X h rfl uX5 tyX5 tyX5_ok ww_1_25 ww_1_26 ww_1_2 (fun j hj => by rcases (show j = 0 ∨ j = 1 ∨ j = 2 ∨ j = 3 ∨ j = 4 ∨ j = 5 ∨ j = 6 ∨ j = 7 ∨ j = 8 by omega) with rfl | rfl | rfl | rfl | rfl | rfl | rfl | rfl | rfl <;> rfl) (Nat.le_of_ble_eq_true rfl) (Nat.le_of_ble_eq_true rfl) dX6_init_16 (fun q16 H h => ?_)
  have h : ib A D s ((h0, .inr (6, [.ref (ad9 0), .null, .int 0, .null, .null, .null, .null, .null, .null, .null, .int 0, .int 0])) :: ((([] : va_W) ++ mw (gk D cA ad9 (gS G0) tl5 (fun _ => True)) μ9) ++ [(q16, .inr (5, [.null, .null, .null, .null, .null, .int 0, .null, .int 0, .int 0]))])) H _ := h
  refine W.widen (k := 20) (n := 516) (Nat.le_of_ble_eq_true rfl) (Nat.le_of_ble_eq_true rfl) ?_
  refine lv_dup hx hb dX6_init_19 rfl ?_
  refine i_callN (ni := 0) (wr := ((h0, .inr (6, [.ref (ad9 0), .null, .int 0, .null, .null, .null, .null, .null, .null, .null, .int 0, .int 0])) :: (([] : va_W) ++ mw (gk D cA ad9 (gS G0) tl5 (fun _ => True)) μ9))) (as := []) (rest := [.ref q16, .ref h0]) X hl.1 h rfl (ci_X5 l G0 D cA q16 H.size (fun r hr => X.2.2.2.2.2.2.2.2 r (i_free h (wr := ((h0, .inr (6, [.ref (ad9 0), .null, .int 0, .null, .null, .null, .null, .null, .null, .null, .int 0, .int 0])) :: (([] : va_W) ++ mw (gk D cA ad9 (gS G0) tl5 (fun _ => True)) μ9))) rfl X.2.2.2.2.2.2.2.1 r hr)) (fun μK => wp_X3_measure 0 (fun ν3 => Q (m0_X6 μ9 μK ν3)) m0_X3) hw) ww_1_29 rfl rfl ww_1_2 rfl ww_1_28 rfl ⟨by decide, by decide, by show _ = some 0; decide +kernel⟩ ⟨Nat.le_of_ble_eq_true rfl, Nat.le_of_ble_eq_true rfl⟩ rfl (Nat.le_of_ble_eq_true rfl) dX6_init_20 ⟨Nat.le_of_ble_eq_true rfl, Nat.le_of_ble_eq_true rfl⟩ (fun ad20 μ20 H1 locs1 e20 hwn hn => ?_)
  subst e20
  have hw := hwn
  have h : ib A D s ((h0, .inr (6, [.ref (ad9 0), .null, .int 0, .null, .null, .null, .null, .null, .null, .null, .int 0, .int 0])) :: ((([] : va_W) ++ mw (gk D cA ad9 (gS G0) tl5 (fun _ => True)) μ9) ++ mw (gk D cA ad20 (gS G0) tl5 (fun _ => True)) μ20)) H1 _ := hn
  clear hn
  generalize H1 = H at h ⊢
  refine W.widen (k := 38) (n := 1014) (Nat.le_of_ble_eq_true rfl) (Nat.le_of_ble_eq_true rfl) ?_
  refine i_putF (wr := ((([] : va_W) ++ mw (gk D cA ad9 (gS G0) tl5 (fun _ => True)) μ9) ++ mw (gk D cA ad20 (gS G0) tl5 (fun _ => True)) μ20)) (ty := .object "CrumbsHome$World") (v := .ref (ad20 0)) (fs' := [.ref (ad9 0), .ref (ad20 0), .int 0, .null, .null, .null, .null, .null, .null, .null, .int 0, .int 0]) X hin h rfl uX6 tyX6 tyX6_ok nmX6 1 (by decide) ww_1_226 rfl rfl rfl rfl rfl (Nat.le_of_ble_eq_true rfl) rfl dX6_init_23 (fun H locs h => ?_)
  have h : ib A D s ((h0, .inr (6, [.ref (ad9 0), .ref (ad20 0), .int 0, .null, .null, .null, .null, .null, .null, .null, .int 0, .int 0])) :: ((([] : va_W) ++ mw (gk D cA ad9 (gS G0) tl5 (fun _ => True)) μ9) ++ mw (gk D cA ad20 (gS G0) tl5 (fun _ => True)) μ20)) H _ := h
  refine lv_aload_n hx hb dX6_init_26 rfl (lv_at hl 0 rfl) ?_
  refine lv_iconst (v := (0 : Int32)) hx hb dX6_init_27 (by decide) ?_
  refine i_put (wr := ((([] : va_W) ++ mw (gk D cA ad9 (gS G0) tl5 (fun _ => True)) μ9) ++ mw (gk D cA ad20 (gS G0) tl5 (fun _ => True)) μ20)) (ty := .int) (v := .int (0 : Int32)) (fs' := [.ref (ad9 0), .ref (ad20 0), .int (0 : Int32), .null, .null, .null, .null, .null, .null, .null, .int 0, .int 0]) X h rfl uX6 tyX6 tyX6_ok nmX6 2 (by decide) ww_1_227 rfl  rfl rfl rfl (Nat.le_of_ble_eq_true rfl) rfl dX6_init_28 (fun H locs h => ?_)
  have h : ib A D s ((h0, .inr (6, [.ref (ad9 0), .ref (ad20 0), .int (0 : Int32), .null, .null, .null, .null, .null, .null, .null, .int 0, .int 0])) :: ((([] : va_W) ++ mw (gk D cA ad9 (gS G0) tl5 (fun _ => True)) μ9) ++ mw (gk D cA ad20 (gS G0) tl5 (fun _ => True)) μ20)) H _ := h
  refine lv_aload_n hx hb dX6_init_31 rfl (lv_at hl 0 rfl) ?_
  refine i_new (ci := 0) (fs := [.int 0, .int 0, .null, .null, .null, .null, .null, .null]) X h rfl uX0 tyX0 tyX0_ok ww_1_172 ww_1_65 ww_1_5 (fun j hj => by rcases (show j = 0 ∨ j = 1 ∨ j = 2 ∨ j = 3 ∨ j = 4 ∨ j = 5 ∨ j = 6 ∨ j = 7 by omega) with rfl | rfl | rfl | rfl | rfl | rfl | rfl | rfl <;> rfl) (Nat.le_of_ble_eq_true rfl) (Nat.le_of_ble_eq_true rfl) dX6_init_32 (fun q32 H h => ?_)
  have h : ib A D s ((h0, .inr (6, [.ref (ad9 0), .ref (ad20 0), .int (0 : Int32), .null, .null, .null, .null, .null, .null, .null, .int 0, .int 0])) :: (((([] : va_W) ++ mw (gk D cA ad9 (gS G0) tl5 (fun _ => True)) μ9) ++ mw (gk D cA ad20 (gS G0) tl5 (fun _ => True)) μ20) ++ [(q32, .inr (0, [.int 0, .int 0, .null, .null, .null, .null, .null, .null]))])) H _ := h
  refine W.widen (k := 39) (n := 1022) (Nat.le_of_ble_eq_true rfl) (Nat.le_of_ble_eq_true rfl) ?_
  refine lv_dup hx hb dX6_init_35 rfl ?_
  refine i_call  (wr := ((h0, .inr (6, [.ref (ad9 0), .ref (ad20 0), .int (0 : Int32), .null, .null, .null, .null, .null, .null, .null, .int 0, .int 0])) :: ((([] : va_W) ++ mw (gk D cA ad9 (gS G0) tl5 (fun _ => True)) μ9) ++ mw (gk D cA ad20 (gS G0) tl5 (fun _ => True)) μ20))) (as := []) (rest := [.ref q32, .ref h0]) X hl.1 h rfl (ci_X0 l G0 D cA q32 H.size (fun r hr => X.2.2.2.2.2.2.2.2 r (i_free h (wr := ((h0, .inr (6, [.ref (ad9 0), .ref (ad20 0), .int (0 : Int32), .null, .null, .null, .null, .null, .null, .null, .int 0, .int 0])) :: ((([] : va_W) ++ mw (gk D cA ad9 (gS G0) tl5 (fun _ => True)) μ9) ++ mw (gk D cA ad20 (gS G0) tl5 (fun _ => True)) μ20))) rfl X.2.2.2.2.2.2.2.1 r hr)) (fun μ => μ = m0_X0) rfl) ww_1_68 rfl rfl ww_1_5 ww_1_173 ww_1_67 rfl ⟨by decide, by decide, by show _ = some 0; decide +kernel⟩ ⟨Nat.le_of_ble_eq_true rfl, Nat.le_of_ble_eq_true rfl⟩ rfl (Nat.le_of_ble_eq_true rfl) dX6_init_36 ⟨Nat.le_of_ble_eq_true rfl, Nat.le_of_ble_eq_true rfl⟩ (fun ad36 μ36 H1 locs1 e36 hw9 hn => ?_)
  subst e36
  subst hw9
  have h : ib A D s ((h0, .inr (6, [.ref (ad9 0), .ref (ad20 0), .int (0 : Int32), .null, .null, .null, .null, .null, .null, .null, .int 0, .int 0])) :: (((([] : va_W) ++ mw (gk D cA ad9 (gS G0) tl5 (fun _ => True)) μ9) ++ mw (gk D cA ad20 (gS G0) tl5 (fun _ => True)) μ20) ++ mw (gk D cA ad36 (gS G0) tl0 (fun _ => True)) m0_X0)) H1 _ := hn
  clear hn
  generalize H1 = H at h ⊢
  refine W.widen (k := 45) (n := 1066) (Nat.le_of_ble_eq_true rfl) (Nat.le_of_ble_eq_true rfl) ?_
  refine i_putF (wr := (((([] : va_W) ++ mw (gk D cA ad9 (gS G0) tl5 (fun _ => True)) μ9) ++ mw (gk D cA ad20 (gS G0) tl5 (fun _ => True)) μ20) ++ mw (gk D cA ad36 (gS G0) tl0 (fun _ => True)) m0_X0)) (ty := .object "CrumbsHome$Harvest") (v := .ref (ad36 0)) (fs' := [.ref (ad9 0), .ref (ad20 0), .int (0 : Int32), .ref (ad36 0), .null, .null, .null, .null, .null, .null, .int 0, .int 0]) X hin h rfl uX6 tyX6 tyX6_ok nmX6 3 (by decide) ww_1_228 rfl rfl rfl rfl rfl (Nat.le_of_ble_eq_true rfl) rfl dX6_init_39 (fun H locs h => ?_)
  have h : ib A D s ((h0, .inr (6, [.ref (ad9 0), .ref (ad20 0), .int (0 : Int32), .ref (ad36 0), .null, .null, .null, .null, .null, .null, .int 0, .int 0])) :: (((([] : va_W) ++ mw (gk D cA ad9 (gS G0) tl5 (fun _ => True)) μ9) ++ mw (gk D cA ad20 (gS G0) tl5 (fun _ => True)) μ20) ++ mw (gk D cA ad36 (gS G0) tl0 (fun _ => True)) m0_X0)) H _ := h
  refine lv_aload_n hx hb dX6_init_42 rfl (lv_at hl 0 rfl) ?_
  refine i_new (ci := 3) (fs := [.null, .null]) X h rfl uX3 tyX3 tyX3_ok ww_1_174 ww_1_32 ww_1_3 (fun j hj => by rcases (show j = 0 ∨ j = 1 by omega) with rfl | rfl <;> rfl) (Nat.le_of_ble_eq_true rfl) (Nat.le_of_ble_eq_true rfl) dX6_init_43 (fun q43 H h => ?_)
  have h : ib A D s ((h0, .inr (6, [.ref (ad9 0), .ref (ad20 0), .int (0 : Int32), .ref (ad36 0), .null, .null, .null, .null, .null, .null, .int 0, .int 0])) :: ((((([] : va_W) ++ mw (gk D cA ad9 (gS G0) tl5 (fun _ => True)) μ9) ++ mw (gk D cA ad20 (gS G0) tl5 (fun _ => True)) μ20) ++ mw (gk D cA ad36 (gS G0) tl0 (fun _ => True)) m0_X0) ++ [(q43, .inr (3, [.null, .null]))])) H _ := h
  refine W.widen (k := 46) (n := 1068) (Nat.le_of_ble_eq_true rfl) (Nat.le_of_ble_eq_true rfl) ?_
  refine lv_dup hx hb dX6_init_46 rfl ?_
  refine i_call  (wr := ((h0, .inr (6, [.ref (ad9 0), .ref (ad20 0), .int (0 : Int32), .ref (ad36 0), .null, .null, .null, .null, .null, .null, .int 0, .int 0])) :: (((([] : va_W) ++ mw (gk D cA ad9 (gS G0) tl5 (fun _ => True)) μ9) ++ mw (gk D cA ad20 (gS G0) tl5 (fun _ => True)) μ20) ++ mw (gk D cA ad36 (gS G0) tl0 (fun _ => True)) m0_X0))) (as := []) (rest := [.ref q43, .ref h0]) X hl.1 h rfl (ci_X3 l G0 D cA q43 H.size (fun r hr => X.2.2.2.2.2.2.2.2 r (i_free h (wr := ((h0, .inr (6, [.ref (ad9 0), .ref (ad20 0), .int (0 : Int32), .ref (ad36 0), .null, .null, .null, .null, .null, .null, .int 0, .int 0])) :: (((([] : va_W) ++ mw (gk D cA ad9 (gS G0) tl5 (fun _ => True)) μ9) ++ mw (gk D cA ad20 (gS G0) tl5 (fun _ => True)) μ20) ++ mw (gk D cA ad36 (gS G0) tl0 (fun _ => True)) m0_X0))) rfl X.2.2.2.2.2.2.2.1 r hr)) (fun ν3 => Q (m0_X6 μ9 μ20 ν3)) hw) ww_1_35 rfl rfl ww_1_3 ww_1_175 ww_1_34 rfl ⟨by decide, by decide, by show _ = some 0; decide +kernel⟩ ⟨Nat.le_of_ble_eq_true rfl, Nat.le_of_ble_eq_true rfl⟩ rfl (Nat.le_of_ble_eq_true rfl) dX6_init_47 ⟨Nat.le_of_ble_eq_true rfl, Nat.le_of_ble_eq_true rfl⟩ (fun ad47 μ47 H1 locs1 e47 hwn hn => ?_)
  subst e47
  have hw := hwn
  have h : ib A D s ((h0, .inr (6, [.ref (ad9 0), .ref (ad20 0), .int (0 : Int32), .ref (ad36 0), .null, .null, .null, .null, .null, .null, .int 0, .int 0])) :: ((((([] : va_W) ++ mw (gk D cA ad9 (gS G0) tl5 (fun _ => True)) μ9) ++ mw (gk D cA ad20 (gS G0) tl5 (fun _ => True)) μ20) ++ mw (gk D cA ad36 (gS G0) tl0 (fun _ => True)) m0_X0) ++ mw (gk D cA ad47 (gS G0) tl3 (fun _ => True)) μ47)) H1 _ := hn
  clear hn
  generalize H1 = H at h ⊢
  refine W.widen (k := 48) (n := 1178) (Nat.le_of_ble_eq_true rfl) (Nat.le_of_ble_eq_true rfl) ?_
  refine i_putF (wr := ((((([] : va_W) ++ mw (gk D cA ad9 (gS G0) tl5 (fun _ => True)) μ9) ++ mw (gk D cA ad20 (gS G0) tl5 (fun _ => True)) μ20) ++ mw (gk D cA ad36 (gS G0) tl0 (fun _ => True)) m0_X0) ++ mw (gk D cA ad47 (gS G0) tl3 (fun _ => True)) μ47)) (ty := .object "CrumbsHome$Roads") (v := .ref (ad47 0)) (fs' := [.ref (ad9 0), .ref (ad20 0), .int (0 : Int32), .ref (ad36 0), .ref (ad47 0), .null, .null, .null, .null, .null, .int 0, .int 0]) X hin h rfl uX6 tyX6 tyX6_ok nmX6 4 (by decide) ww_1_229 rfl rfl rfl rfl rfl (Nat.le_of_ble_eq_true rfl) rfl dX6_init_50 (fun H locs h => ?_)
  have h : ib A D s ((h0, .inr (6, [.ref (ad9 0), .ref (ad20 0), .int (0 : Int32), .ref (ad36 0), .ref (ad47 0), .null, .null, .null, .null, .null, .int 0, .int 0])) :: ((((([] : va_W) ++ mw (gk D cA ad9 (gS G0) tl5 (fun _ => True)) μ9) ++ mw (gk D cA ad20 (gS G0) tl5 (fun _ => True)) μ20) ++ mw (gk D cA ad36 (gS G0) tl0 (fun _ => True)) m0_X0) ++ mw (gk D cA ad47 (gS G0) tl3 (fun _ => True)) μ47)) H _ := h
  refine lv_aload_n hx hb dX6_init_53 rfl (lv_at hl 0 rfl) ?_
  refine lv_bipush (v := (8 : Int32)) hx hb dX6_init_54 (by decide) ?_
  refine i_newa (N := 8) X h ww_1_63 (by decide) (by decide) (Nat.le_of_ble_eq_true rfl) (Nat.le_of_ble_eq_true rfl) (Nat.le_of_ble_eq_true rfl) dX6_init_56 (fun q56 H h => ?_)
  have h : ib A D s ((h0, .inr (6, [.ref (ad9 0), .ref (ad20 0), .int (0 : Int32), .ref (ad36 0), .ref (ad47 0), .null, .null, .null, .null, .null, .int 0, .int 0])) :: (((((([] : va_W) ++ mw (gk D cA ad9 (gS G0) tl5 (fun _ => True)) μ9) ++ mw (gk D cA ad20 (gS G0) tl5 (fun _ => True)) μ20) ++ mw (gk D cA ad36 (gS G0) tl0 (fun _ => True)) m0_X0) ++ mw (gk D cA ad47 (gS G0) tl3 (fun _ => True)) μ47) ++ [(q56, .inl (cA, 8, .inl (fun _ => 0)))])) H _ := h
  refine W.widen (k := 49) (n := 1186) (Nat.le_of_ble_eq_true rfl) (Nat.le_of_ble_eq_true rfl) ?_
  refine i_putF (wr := (((((([] : va_W) ++ mw (gk D cA ad9 (gS G0) tl5 (fun _ => True)) μ9) ++ mw (gk D cA ad20 (gS G0) tl5 (fun _ => True)) μ20) ++ mw (gk D cA ad36 (gS G0) tl0 (fun _ => True)) m0_X0) ++ mw (gk D cA ad47 (gS G0) tl3 (fun _ => True)) μ47) ++ [(q56, .inl (cA, 8, .inl (fun _ => 0)))])) (ty := .array .int) (v := .ref q56) (fs' := [.ref (ad9 0), .ref (ad20 0), .int (0 : Int32), .ref (ad36 0), .ref (ad47 0), .ref q56, .null, .null, .null, .null, .int 0, .int 0]) X hin h rfl uX6 tyX6 tyX6_ok nmX6 5 (by decide) ww_1_230 rfl rfl rfl rfl rfl (Nat.le_of_ble_eq_true rfl) rfl dX6_init_58 (fun H locs h => ?_)
  have h : ib A D s ((h0, .inr (6, [.ref (ad9 0), .ref (ad20 0), .int (0 : Int32), .ref (ad36 0), .ref (ad47 0), .ref q56, .null, .null, .null, .null, .int 0, .int 0])) :: (((((([] : va_W) ++ mw (gk D cA ad9 (gS G0) tl5 (fun _ => True)) μ9) ++ mw (gk D cA ad20 (gS G0) tl5 (fun _ => True)) μ20) ++ mw (gk D cA ad36 (gS G0) tl0 (fun _ => True)) m0_X0) ++ mw (gk D cA ad47 (gS G0) tl3 (fun _ => True)) μ47) ++ [(q56, .inl (cA, 8, .inl (fun _ => 0)))])) H _ := h
  refine lv_aload_n hx hb dX6_init_61 rfl (lv_at hl 0 rfl) ?_
  refine i_new (ci := 2) (fs := [.null, .int 0, .null, .int 0, .null, .int 0, .int 0]) X h rfl uX2 tyX2 tyX2_ok ww_1_176 ww_1_177 ww_1_7 (fun j hj => by rcases (show j = 0 ∨ j = 1 ∨ j = 2 ∨ j = 3 ∨ j = 4 ∨ j = 5 ∨ j = 6 by omega) with rfl | rfl | rfl | rfl | rfl | rfl | rfl <;> rfl) (Nat.le_of_ble_eq_true rfl) (Nat.le_of_ble_eq_true rfl) dX6_init_62 (fun q62 H h => ?_)
  have h : ib A D s ((h0, .inr (6, [.ref (ad9 0), .ref (ad20 0), .int (0 : Int32), .ref (ad36 0), .ref (ad47 0), .ref q56, .null, .null, .null, .null, .int 0, .int 0])) :: ((((((([] : va_W) ++ mw (gk D cA ad9 (gS G0) tl5 (fun _ => True)) μ9) ++ mw (gk D cA ad20 (gS G0) tl5 (fun _ => True)) μ20) ++ mw (gk D cA ad36 (gS G0) tl0 (fun _ => True)) m0_X0) ++ mw (gk D cA ad47 (gS G0) tl3 (fun _ => True)) μ47) ++ [(q56, .inl (cA, 8, .inl (fun _ => 0)))]) ++ [(q62, .inr (2, [.null, .int 0, .null, .int 0, .null, .int 0, .int 0]))])) H _ := h
  refine W.widen (k := 50) (n := 1193) (Nat.le_of_ble_eq_true rfl) (Nat.le_of_ble_eq_true rfl) ?_
  refine lv_dup hx hb dX6_init_65 rfl ?_
  refine i_callN (ni := 1) (wr := ((h0, .inr (6, [.ref (ad9 0), .ref (ad20 0), .int (0 : Int32), .ref (ad36 0), .ref (ad47 0), .ref q56, .null, .null, .null, .null, .int 0, .int 0])) :: (((((([] : va_W) ++ mw (gk D cA ad9 (gS G0) tl5 (fun _ => True)) μ9) ++ mw (gk D cA ad20 (gS G0) tl5 (fun _ => True)) μ20) ++ mw (gk D cA ad36 (gS G0) tl0 (fun _ => True)) m0_X0) ++ mw (gk D cA ad47 (gS G0) tl3 (fun _ => True)) μ47) ++ [(q56, .inl (cA, 8, .inl (fun _ => 0)))]))) (as := []) (rest := [.ref q62, .ref h0]) X hl.1 h rfl (ci_X2 l G0 D cA q62 H.size (fun r hr => X.2.2.2.2.2.2.2.2 r (i_free h (wr := ((h0, .inr (6, [.ref (ad9 0), .ref (ad20 0), .int (0 : Int32), .ref (ad36 0), .ref (ad47 0), .ref q56, .null, .null, .null, .null, .int 0, .int 0])) :: (((((([] : va_W) ++ mw (gk D cA ad9 (gS G0) tl5 (fun _ => True)) μ9) ++ mw (gk D cA ad20 (gS G0) tl5 (fun _ => True)) μ20) ++ mw (gk D cA ad36 (gS G0) tl0 (fun _ => True)) m0_X0) ++ mw (gk D cA ad47 (gS G0) tl3 (fun _ => True)) μ47) ++ [(q56, .inl (cA, 8, .inl (fun _ => 0)))]))) rfl X.2.2.2.2.2.2.2.1 r hr)) (fun μ => μ = m0_X2) rfl) ww_1_180 rfl rfl ww_1_7 rfl ww_1_179 rfl ⟨by decide, by decide, by show _ = some 0; decide +kernel⟩ ⟨Nat.le_of_ble_eq_true rfl, Nat.le_of_ble_eq_true rfl⟩ rfl (Nat.le_of_ble_eq_true rfl) dX6_init_66 ⟨Nat.le_of_ble_eq_true rfl, Nat.le_of_ble_eq_true rfl⟩ (fun ad66 μ66 H1 locs1 e66 hw9 hn => ?_)
  subst e66
  subst hw9
  have h : ib A D s ((h0, .inr (6, [.ref (ad9 0), .ref (ad20 0), .int (0 : Int32), .ref (ad36 0), .ref (ad47 0), .ref q56, .null, .null, .null, .null, .int 0, .int 0])) :: ((((((([] : va_W) ++ mw (gk D cA ad9 (gS G0) tl5 (fun _ => True)) μ9) ++ mw (gk D cA ad20 (gS G0) tl5 (fun _ => True)) μ20) ++ mw (gk D cA ad36 (gS G0) tl0 (fun _ => True)) m0_X0) ++ mw (gk D cA ad47 (gS G0) tl3 (fun _ => True)) μ47) ++ [(q56, .inl (cA, 8, .inl (fun _ => 0)))]) ++ mw (gk D cA ad66 (gS G0) tl2 (fun _ => True)) m0_X2)) H1 _ := hn
  clear hn
  generalize H1 = H at h ⊢
  refine W.widen (k := 52) (n := 1313) (Nat.le_of_ble_eq_true rfl) (Nat.le_of_ble_eq_true rfl) ?_
  refine i_putF (wr := ((((((([] : va_W) ++ mw (gk D cA ad9 (gS G0) tl5 (fun _ => True)) μ9) ++ mw (gk D cA ad20 (gS G0) tl5 (fun _ => True)) μ20) ++ mw (gk D cA ad36 (gS G0) tl0 (fun _ => True)) m0_X0) ++ mw (gk D cA ad47 (gS G0) tl3 (fun _ => True)) μ47) ++ [(q56, .inl (cA, 8, .inl (fun _ => 0)))]) ++ mw (gk D cA ad66 (gS G0) tl2 (fun _ => True)) m0_X2)) (ty := .object "CrumbsHome$Reader") (v := .ref (ad66 0)) (fs' := [.ref (ad9 0), .ref (ad20 0), .int (0 : Int32), .ref (ad36 0), .ref (ad47 0), .ref q56, .ref (ad66 0), .null, .null, .null, .int 0, .int 0]) X hin h rfl uX6 tyX6 tyX6_ok nmX6 6 (by decide) ww_1_231 rfl rfl rfl rfl rfl (Nat.le_of_ble_eq_true rfl) rfl dX6_init_69 (fun H locs h => ?_)
  have h : ib A D s ((h0, .inr (6, [.ref (ad9 0), .ref (ad20 0), .int (0 : Int32), .ref (ad36 0), .ref (ad47 0), .ref q56, .ref (ad66 0), .null, .null, .null, .int 0, .int 0])) :: ((((((([] : va_W) ++ mw (gk D cA ad9 (gS G0) tl5 (fun _ => True)) μ9) ++ mw (gk D cA ad20 (gS G0) tl5 (fun _ => True)) μ20) ++ mw (gk D cA ad36 (gS G0) tl0 (fun _ => True)) m0_X0) ++ mw (gk D cA ad47 (gS G0) tl3 (fun _ => True)) μ47) ++ [(q56, .inl (cA, 8, .inl (fun _ => 0)))]) ++ mw (gk D cA ad66 (gS G0) tl2 (fun _ => True)) m0_X2)) H _ := h
  refine lv_aload_n hx hb dX6_init_72 rfl (lv_at hl 0 rfl) ?_
  refine i_new (ci := 4) (fs := [.null, .null, .null]) X h rfl uX4 tyX4 tyX4_ok ww_1_207 ww_1_208 ww_1_8 (fun j hj => by rcases (show j = 0 ∨ j = 1 ∨ j = 2 by omega) with rfl | rfl | rfl <;> rfl) (Nat.le_of_ble_eq_true rfl) (Nat.le_of_ble_eq_true rfl) dX6_init_73 (fun q73 H h => ?_)
  have h : ib A D s ((h0, .inr (6, [.ref (ad9 0), .ref (ad20 0), .int (0 : Int32), .ref (ad36 0), .ref (ad47 0), .ref q56, .ref (ad66 0), .null, .null, .null, .int 0, .int 0])) :: (((((((([] : va_W) ++ mw (gk D cA ad9 (gS G0) tl5 (fun _ => True)) μ9) ++ mw (gk D cA ad20 (gS G0) tl5 (fun _ => True)) μ20) ++ mw (gk D cA ad36 (gS G0) tl0 (fun _ => True)) m0_X0) ++ mw (gk D cA ad47 (gS G0) tl3 (fun _ => True)) μ47) ++ [(q56, .inl (cA, 8, .inl (fun _ => 0)))]) ++ mw (gk D cA ad66 (gS G0) tl2 (fun _ => True)) m0_X2) ++ [(q73, .inr (4, [.null, .null, .null]))])) H _ := h
  refine W.widen (k := 53) (n := 1316) (Nat.le_of_ble_eq_true rfl) (Nat.le_of_ble_eq_true rfl) ?_
  refine lv_dup hx hb dX6_init_76 rfl ?_
  refine i_callN (ni := 2) (wr := ((h0, .inr (6, [.ref (ad9 0), .ref (ad20 0), .int (0 : Int32), .ref (ad36 0), .ref (ad47 0), .ref q56, .ref (ad66 0), .null, .null, .null, .int 0, .int 0])) :: ((((((([] : va_W) ++ mw (gk D cA ad9 (gS G0) tl5 (fun _ => True)) μ9) ++ mw (gk D cA ad20 (gS G0) tl5 (fun _ => True)) μ20) ++ mw (gk D cA ad36 (gS G0) tl0 (fun _ => True)) m0_X0) ++ mw (gk D cA ad47 (gS G0) tl3 (fun _ => True)) μ47) ++ [(q56, .inl (cA, 8, .inl (fun _ => 0)))]) ++ mw (gk D cA ad66 (gS G0) tl2 (fun _ => True)) m0_X2))) (as := []) (rest := [.ref q73, .ref h0]) X hl.1 h rfl (ci_X4 l G0 D cA q73 H.size (fun r hr => X.2.2.2.2.2.2.2.2 r (i_free h (wr := ((h0, .inr (6, [.ref (ad9 0), .ref (ad20 0), .int (0 : Int32), .ref (ad36 0), .ref (ad47 0), .ref q56, .ref (ad66 0), .null, .null, .null, .int 0, .int 0])) :: ((((((([] : va_W) ++ mw (gk D cA ad9 (gS G0) tl5 (fun _ => True)) μ9) ++ mw (gk D cA ad20 (gS G0) tl5 (fun _ => True)) μ20) ++ mw (gk D cA ad36 (gS G0) tl0 (fun _ => True)) m0_X0) ++ mw (gk D cA ad47 (gS G0) tl3 (fun _ => True)) μ47) ++ [(q56, .inl (cA, 8, .inl (fun _ => 0)))]) ++ mw (gk D cA ad66 (gS G0) tl2 (fun _ => True)) m0_X2))) rfl X.2.2.2.2.2.2.2.1 r hr)) (fun μ => μ = m0_X4) rfl) ww_1_211 rfl rfl ww_1_8 rfl ww_1_210 rfl ⟨by decide, by decide, by show _ = some 0; decide +kernel⟩ ⟨Nat.le_of_ble_eq_true rfl, Nat.le_of_ble_eq_true rfl⟩ rfl (Nat.le_of_ble_eq_true rfl) dX6_init_77 ⟨Nat.le_of_ble_eq_true rfl, Nat.le_of_ble_eq_true rfl⟩ (fun ad77 μ77 H1 locs1 e77 hw9 hn => ?_)
  subst e77
  subst hw9
  have h : ib A D s ((h0, .inr (6, [.ref (ad9 0), .ref (ad20 0), .int (0 : Int32), .ref (ad36 0), .ref (ad47 0), .ref q56, .ref (ad66 0), .null, .null, .null, .int 0, .int 0])) :: (((((((([] : va_W) ++ mw (gk D cA ad9 (gS G0) tl5 (fun _ => True)) μ9) ++ mw (gk D cA ad20 (gS G0) tl5 (fun _ => True)) μ20) ++ mw (gk D cA ad36 (gS G0) tl0 (fun _ => True)) m0_X0) ++ mw (gk D cA ad47 (gS G0) tl3 (fun _ => True)) μ47) ++ [(q56, .inl (cA, 8, .inl (fun _ => 0)))]) ++ mw (gk D cA ad66 (gS G0) tl2 (fun _ => True)) m0_X2) ++ mw (gk D cA ad77 (gS G0) tl4 (fun _ => True)) m0_X4)) H1 _ := hn
  clear hn
  generalize H1 = H at h ⊢
  refine W.widen (k := 56) (n := 1420) (Nat.le_of_ble_eq_true rfl) (Nat.le_of_ble_eq_true rfl) ?_
  refine i_putF (wr := (((((((([] : va_W) ++ mw (gk D cA ad9 (gS G0) tl5 (fun _ => True)) μ9) ++ mw (gk D cA ad20 (gS G0) tl5 (fun _ => True)) μ20) ++ mw (gk D cA ad36 (gS G0) tl0 (fun _ => True)) m0_X0) ++ mw (gk D cA ad47 (gS G0) tl3 (fun _ => True)) μ47) ++ [(q56, .inl (cA, 8, .inl (fun _ => 0)))]) ++ mw (gk D cA ad66 (gS G0) tl2 (fun _ => True)) m0_X2) ++ mw (gk D cA ad77 (gS G0) tl4 (fun _ => True)) m0_X4)) (ty := .object "CrumbsHome$Sheets") (v := .ref (ad77 0)) (fs' := [.ref (ad9 0), .ref (ad20 0), .int (0 : Int32), .ref (ad36 0), .ref (ad47 0), .ref q56, .ref (ad66 0), .ref (ad77 0), .null, .null, .int 0, .int 0]) X hin h rfl uX6 tyX6 tyX6_ok nmX6 7 (by decide) ww_1_232 rfl rfl rfl rfl rfl (Nat.le_of_ble_eq_true rfl) rfl dX6_init_80 (fun H locs h => ?_)
  have h : ib A D s ((h0, .inr (6, [.ref (ad9 0), .ref (ad20 0), .int (0 : Int32), .ref (ad36 0), .ref (ad47 0), .ref q56, .ref (ad66 0), .ref (ad77 0), .null, .null, .int 0, .int 0])) :: (((((((([] : va_W) ++ mw (gk D cA ad9 (gS G0) tl5 (fun _ => True)) μ9) ++ mw (gk D cA ad20 (gS G0) tl5 (fun _ => True)) μ20) ++ mw (gk D cA ad36 (gS G0) tl0 (fun _ => True)) m0_X0) ++ mw (gk D cA ad47 (gS G0) tl3 (fun _ => True)) μ47) ++ [(q56, .inl (cA, 8, .inl (fun _ => 0)))]) ++ mw (gk D cA ad66 (gS G0) tl2 (fun _ => True)) m0_X2) ++ mw (gk D cA ad77 (gS G0) tl4 (fun _ => True)) m0_X4)) H _ := h
  refine lv_aload_n hx hb dX6_init_83 rfl (lv_at hl 0 rfl) ?_
  refine lv_bipush (v := (7 : Int32)) hx hb dX6_init_84 (by decide) ?_
  refine i_newa (N := 7) X h ww_1_63 (by decide) (by decide) (Nat.le_of_ble_eq_true rfl) (Nat.le_of_ble_eq_true rfl) (Nat.le_of_ble_eq_true rfl) dX6_init_86 (fun q86 H h => ?_)
  have h : ib A D s ((h0, .inr (6, [.ref (ad9 0), .ref (ad20 0), .int (0 : Int32), .ref (ad36 0), .ref (ad47 0), .ref q56, .ref (ad66 0), .ref (ad77 0), .null, .null, .int 0, .int 0])) :: ((((((((([] : va_W) ++ mw (gk D cA ad9 (gS G0) tl5 (fun _ => True)) μ9) ++ mw (gk D cA ad20 (gS G0) tl5 (fun _ => True)) μ20) ++ mw (gk D cA ad36 (gS G0) tl0 (fun _ => True)) m0_X0) ++ mw (gk D cA ad47 (gS G0) tl3 (fun _ => True)) μ47) ++ [(q56, .inl (cA, 8, .inl (fun _ => 0)))]) ++ mw (gk D cA ad66 (gS G0) tl2 (fun _ => True)) m0_X2) ++ mw (gk D cA ad77 (gS G0) tl4 (fun _ => True)) m0_X4) ++ [(q86, .inl (cA, 7, .inl (fun _ => 0)))])) H _ := h
  refine W.widen (k := 57) (n := 1427) (Nat.le_of_ble_eq_true rfl) (Nat.le_of_ble_eq_true rfl) ?_
  refine i_putF (wr := ((((((((([] : va_W) ++ mw (gk D cA ad9 (gS G0) tl5 (fun _ => True)) μ9) ++ mw (gk D cA ad20 (gS G0) tl5 (fun _ => True)) μ20) ++ mw (gk D cA ad36 (gS G0) tl0 (fun _ => True)) m0_X0) ++ mw (gk D cA ad47 (gS G0) tl3 (fun _ => True)) μ47) ++ [(q56, .inl (cA, 8, .inl (fun _ => 0)))]) ++ mw (gk D cA ad66 (gS G0) tl2 (fun _ => True)) m0_X2) ++ mw (gk D cA ad77 (gS G0) tl4 (fun _ => True)) m0_X4) ++ [(q86, .inl (cA, 7, .inl (fun _ => 0)))])) (ty := .array .int) (v := .ref q86) (fs' := [.ref (ad9 0), .ref (ad20 0), .int (0 : Int32), .ref (ad36 0), .ref (ad47 0), .ref q56, .ref (ad66 0), .ref (ad77 0), .ref q86, .null, .int 0, .int 0]) X hin h rfl uX6 tyX6 tyX6_ok nmX6 8 (by decide) ww_1_233 rfl rfl rfl rfl rfl (Nat.le_of_ble_eq_true rfl) rfl dX6_init_88 (fun H locs h => ?_)
  have h : ib A D s ((h0, .inr (6, [.ref (ad9 0), .ref (ad20 0), .int (0 : Int32), .ref (ad36 0), .ref (ad47 0), .ref q56, .ref (ad66 0), .ref (ad77 0), .ref q86, .null, .int 0, .int 0])) :: ((((((((([] : va_W) ++ mw (gk D cA ad9 (gS G0) tl5 (fun _ => True)) μ9) ++ mw (gk D cA ad20 (gS G0) tl5 (fun _ => True)) μ20) ++ mw (gk D cA ad36 (gS G0) tl0 (fun _ => True)) m0_X0) ++ mw (gk D cA ad47 (gS G0) tl3 (fun _ => True)) μ47) ++ [(q56, .inl (cA, 8, .inl (fun _ => 0)))]) ++ mw (gk D cA ad66 (gS G0) tl2 (fun _ => True)) m0_X2) ++ mw (gk D cA ad77 (gS G0) tl4 (fun _ => True)) m0_X4) ++ [(q86, .inl (cA, 7, .inl (fun _ => 0)))])) H _ := h
  refine lv_aload_n hx hb dX6_init_91 rfl (lv_at hl 0 rfl) ?_
  refine lv_bipush (v := (30 : Int32)) hx hb dX6_init_92 (by decide) ?_
  refine i_newa (N := 30) X h ww_1_63 (by decide) (by decide) (Nat.le_of_ble_eq_true rfl) (Nat.le_of_ble_eq_true rfl) (Nat.le_of_ble_eq_true rfl) dX6_init_94 (fun q94 H h => ?_)
  have h : ib A D s ((h0, .inr (6, [.ref (ad9 0), .ref (ad20 0), .int (0 : Int32), .ref (ad36 0), .ref (ad47 0), .ref q56, .ref (ad66 0), .ref (ad77 0), .ref q86, .null, .int 0, .int 0])) :: (((((((((([] : va_W) ++ mw (gk D cA ad9 (gS G0) tl5 (fun _ => True)) μ9) ++ mw (gk D cA ad20 (gS G0) tl5 (fun _ => True)) μ20) ++ mw (gk D cA ad36 (gS G0) tl0 (fun _ => True)) m0_X0) ++ mw (gk D cA ad47 (gS G0) tl3 (fun _ => True)) μ47) ++ [(q56, .inl (cA, 8, .inl (fun _ => 0)))]) ++ mw (gk D cA ad66 (gS G0) tl2 (fun _ => True)) m0_X2) ++ mw (gk D cA ad77 (gS G0) tl4 (fun _ => True)) m0_X4) ++ [(q86, .inl (cA, 7, .inl (fun _ => 0)))]) ++ [(q94, .inl (cA, 30, .inl (fun _ => 0)))])) H _ := h
  refine W.widen (k := 58) (n := 1457) (Nat.le_of_ble_eq_true rfl) (Nat.le_of_ble_eq_true rfl) ?_
  refine i_putF (wr := (((((((((([] : va_W) ++ mw (gk D cA ad9 (gS G0) tl5 (fun _ => True)) μ9) ++ mw (gk D cA ad20 (gS G0) tl5 (fun _ => True)) μ20) ++ mw (gk D cA ad36 (gS G0) tl0 (fun _ => True)) m0_X0) ++ mw (gk D cA ad47 (gS G0) tl3 (fun _ => True)) μ47) ++ [(q56, .inl (cA, 8, .inl (fun _ => 0)))]) ++ mw (gk D cA ad66 (gS G0) tl2 (fun _ => True)) m0_X2) ++ mw (gk D cA ad77 (gS G0) tl4 (fun _ => True)) m0_X4) ++ [(q86, .inl (cA, 7, .inl (fun _ => 0)))]) ++ [(q94, .inl (cA, 30, .inl (fun _ => 0)))])) (ty := .array .int) (v := .ref q94) (fs' := [.ref (ad9 0), .ref (ad20 0), .int (0 : Int32), .ref (ad36 0), .ref (ad47 0), .ref q56, .ref (ad66 0), .ref (ad77 0), .ref q86, .ref q94, .int 0, .int 0]) X hin h rfl uX6 tyX6 tyX6_ok nmX6 9 (by decide) ww_1_234 rfl rfl rfl rfl rfl (Nat.le_of_ble_eq_true rfl) rfl dX6_init_96 (fun H locs h => ?_)
  have h : ib A D s ((h0, .inr (6, [.ref (ad9 0), .ref (ad20 0), .int (0 : Int32), .ref (ad36 0), .ref (ad47 0), .ref q56, .ref (ad66 0), .ref (ad77 0), .ref q86, .ref q94, .int 0, .int 0])) :: (((((((((([] : va_W) ++ mw (gk D cA ad9 (gS G0) tl5 (fun _ => True)) μ9) ++ mw (gk D cA ad20 (gS G0) tl5 (fun _ => True)) μ20) ++ mw (gk D cA ad36 (gS G0) tl0 (fun _ => True)) m0_X0) ++ mw (gk D cA ad47 (gS G0) tl3 (fun _ => True)) μ47) ++ [(q56, .inl (cA, 8, .inl (fun _ => 0)))]) ++ mw (gk D cA ad66 (gS G0) tl2 (fun _ => True)) m0_X2) ++ mw (gk D cA ad77 (gS G0) tl4 (fun _ => True)) m0_X4) ++ [(q86, .inl (cA, 7, .inl (fun _ => 0)))]) ++ [(q94, .inl (cA, 30, .inl (fun _ => 0)))])) H _ := h
  refine lv_aload_n hx hb dX6_init_99 rfl (lv_at hl 0 rfl) ?_
  refine lv_iconst (v := (0 : Int32)) hx hb dX6_init_100 (by decide) ?_
  refine i_put (wr := (((((((((([] : va_W) ++ mw (gk D cA ad9 (gS G0) tl5 (fun _ => True)) μ9) ++ mw (gk D cA ad20 (gS G0) tl5 (fun _ => True)) μ20) ++ mw (gk D cA ad36 (gS G0) tl0 (fun _ => True)) m0_X0) ++ mw (gk D cA ad47 (gS G0) tl3 (fun _ => True)) μ47) ++ [(q56, .inl (cA, 8, .inl (fun _ => 0)))]) ++ mw (gk D cA ad66 (gS G0) tl2 (fun _ => True)) m0_X2) ++ mw (gk D cA ad77 (gS G0) tl4 (fun _ => True)) m0_X4) ++ [(q86, .inl (cA, 7, .inl (fun _ => 0)))]) ++ [(q94, .inl (cA, 30, .inl (fun _ => 0)))])) (ty := .int) (v := .int (0 : Int32)) (fs' := [.ref (ad9 0), .ref (ad20 0), .int (0 : Int32), .ref (ad36 0), .ref (ad47 0), .ref q56, .ref (ad66 0), .ref (ad77 0), .ref q86, .ref q94, .int (0 : Int32), .int 0]) X h rfl uX6 tyX6 tyX6_ok nmX6 10 (by decide) ww_1_235 rfl  rfl rfl rfl (Nat.le_of_ble_eq_true rfl) rfl dX6_init_101 (fun H locs h => ?_)
  have h : ib A D s ((h0, .inr (6, [.ref (ad9 0), .ref (ad20 0), .int (0 : Int32), .ref (ad36 0), .ref (ad47 0), .ref q56, .ref (ad66 0), .ref (ad77 0), .ref q86, .ref q94, .int (0 : Int32), .int 0])) :: (((((((((([] : va_W) ++ mw (gk D cA ad9 (gS G0) tl5 (fun _ => True)) μ9) ++ mw (gk D cA ad20 (gS G0) tl5 (fun _ => True)) μ20) ++ mw (gk D cA ad36 (gS G0) tl0 (fun _ => True)) m0_X0) ++ mw (gk D cA ad47 (gS G0) tl3 (fun _ => True)) μ47) ++ [(q56, .inl (cA, 8, .inl (fun _ => 0)))]) ++ mw (gk D cA ad66 (gS G0) tl2 (fun _ => True)) m0_X2) ++ mw (gk D cA ad77 (gS G0) tl4 (fun _ => True)) m0_X4) ++ [(q86, .inl (cA, 7, .inl (fun _ => 0)))]) ++ [(q94, .inl (cA, 30, .inl (fun _ => 0)))])) H _ := h
  refine lv_aload_n hx hb dX6_init_104 rfl (lv_at hl 0 rfl) ?_
  refine lv_iconst (v := (0 : Int32)) hx hb dX6_init_105 (by decide) ?_
  refine i_put (wr := (((((((((([] : va_W) ++ mw (gk D cA ad9 (gS G0) tl5 (fun _ => True)) μ9) ++ mw (gk D cA ad20 (gS G0) tl5 (fun _ => True)) μ20) ++ mw (gk D cA ad36 (gS G0) tl0 (fun _ => True)) m0_X0) ++ mw (gk D cA ad47 (gS G0) tl3 (fun _ => True)) μ47) ++ [(q56, .inl (cA, 8, .inl (fun _ => 0)))]) ++ mw (gk D cA ad66 (gS G0) tl2 (fun _ => True)) m0_X2) ++ mw (gk D cA ad77 (gS G0) tl4 (fun _ => True)) m0_X4) ++ [(q86, .inl (cA, 7, .inl (fun _ => 0)))]) ++ [(q94, .inl (cA, 30, .inl (fun _ => 0)))])) (ty := .boolean) (v := .int (0 : Int32)) (fs' := [.ref (ad9 0), .ref (ad20 0), .int (0 : Int32), .ref (ad36 0), .ref (ad47 0), .ref q56, .ref (ad66 0), .ref (ad77 0), .ref q86, .ref q94, .int (0 : Int32), .int (0 : Int32)]) X h rfl uX6 tyX6 tyX6_ok nmX6 11 (by decide) ww_1_236 rfl  rfl rfl rfl (Nat.le_of_ble_eq_true rfl) rfl dX6_init_106 (fun H locs h => ?_)
  have h : ib A D s ((h0, .inr (6, [.ref (ad9 0), .ref (ad20 0), .int (0 : Int32), .ref (ad36 0), .ref (ad47 0), .ref q56, .ref (ad66 0), .ref (ad77 0), .ref q86, .ref q94, .int (0 : Int32), .int (0 : Int32)])) :: (((((((((([] : va_W) ++ mw (gk D cA ad9 (gS G0) tl5 (fun _ => True)) μ9) ++ mw (gk D cA ad20 (gS G0) tl5 (fun _ => True)) μ20) ++ mw (gk D cA ad36 (gS G0) tl0 (fun _ => True)) m0_X0) ++ mw (gk D cA ad47 (gS G0) tl3 (fun _ => True)) μ47) ++ [(q56, .inl (cA, 8, .inl (fun _ => 0)))]) ++ mw (gk D cA ad66 (gS G0) tl2 (fun _ => True)) m0_X2) ++ mw (gk D cA ad77 (gS G0) tl4 (fun _ => True)) m0_X4) ++ [(q86, .inl (cA, 7, .inl (fun _ => 0)))]) ++ [(q94, .inl (cA, 30, .inl (fun _ => 0)))])) H _ := h
  exact i_ret (ad := fun j => if j = 0 then h0 else if j < 20 then ad9 (j - 1) else if j < 39 then ad20 (j - 20) else if j < 46 then ad36 (j - 39) else if j < 49 then ad47 (j - 46) else if j < 50 then q56 else if j < 53 then ad66 (j - 50) else if j < 57 then ad77 (j - 53) else if j < 58 then q86 else q94) (μ := (m0_X6 μ9 μ20 μ47)) X hr hlocks hAe h rfl rfl hw dX6_init_109
set_option maxRecDepth 100000 in
set_option maxHeartbeats 4000000 in
theorem ci_X7 (l : Launch) (G0 : vG) (D : va_G) (cA : ClassId) (h0 sz : Nat) (hA0 : ∀ q, va_A [(h0, (.inr (7, [.null, .null, .null, .int 0, .null, .null, .null, .null, .null, .int 0, .null, .null, .null, .null, .int 0, .int 0, .int 0, .int 0, .int 0, .null, .null, .int 0, .int 0]) : va_E))] sz q → gA G0 q) (Q : vM → Prop) (hw : Q m0_X7) : mi l G0 D cA yX7_init vX7_init { frames := 1, cells := 14, slots := 1587, locals := 30 } [] h0 sz (.inr (7, [.null, .null, .null, .int 0, .null, .null, .null, .null, .null, .int 0, .null, .null, .null, .null, .int 0, .int 0, .int 0, .int 0, .int 0, .null, .null, .int 0, .int 0])) tl7 Q 14 1587 := by
  refine mi_of (cc := cX7_init) (maxL := 2) RX7 (by decide) rfl rfl rfl (Nat.le_of_ble_eq_true rfl) hA0 ?_
  intro p e s m below meth c A hsz hAe X hr hlocks hin h ls hl
  have hl : lv_has ls 2 [(0, .ref h0)] := hl
  have hx := X.1
  have hb := X.2.1
  refine lv_aload_n hx hb dX7_init_0 rfl (lv_at hl 0 rfl) ?_
  refine i_obj X hl.1 ww_4_50 ww_1_23 ww_1_24 dX7_init_1 (Nat.le_of_ble_eq_true rfl) (Nat.le_of_ble_eq_true rfl) ?_
  refine lv_aload_n hx hb dX7_init_4 rfl (lv_at hl 0 rfl) ?_
  refine lv_sipush (v := (385 : Int32)) hx hb dX7_init_5 (by decide) ?_
  refine i_newa (N := 385) X h ww_1_63 (by decide) (by decide) (Nat.le_of_ble_eq_true rfl) (Nat.le_of_ble_eq_true rfl) (Nat.le_of_ble_eq_true rfl) dX7_init_8 (fun q8 H h => ?_)
  have h : ib A D s [(h0, .inr (7, [.null, .null, .null, .int 0, .null, .null, .null, .null, .null, .int 0, .null, .null, .null, .null, .int 0, .int 0, .int 0, .int 0, .int 0, .null, .null, .int 0, .int 0])), (q8, .inl (cA, 385, .inl (fun _ => 0)))] H _ := h
  refine W.widen (k := 1) (n := 385) (Nat.le_of_ble_eq_true rfl) (Nat.le_of_ble_eq_true rfl) ?_
  refine i_putF (wr := [(q8, .inl (cA, 385, .inl (fun _ => 0)))]) (ty := .array .int) (v := .ref q8) (fs' := [.ref q8, .null, .null, .int 0, .null, .null, .null, .null, .null, .int 0, .null, .null, .null, .null, .int 0, .int 0, .int 0, .int 0, .int 0, .null, .null, .int 0, .int 0]) X hin h rfl uX7 tyX7 tyX7_ok nmX7 0 (by decide) ww_4_51 rfl rfl rfl rfl rfl (Nat.le_of_ble_eq_true rfl) rfl dX7_init_10 (fun H locs h => ?_)
  have h : ib A D s [(h0, .inr (7, [.ref q8, .null, .null, .int 0, .null, .null, .null, .null, .null, .int 0, .null, .null, .null, .null, .int 0, .int 0, .int 0, .int 0, .int 0, .null, .null, .int 0, .int 0])), (q8, .inl (cA, 385, .inl (fun _ => 0)))] H _ := h
  refine lv_aload_n hx hb dX7_init_13 rfl (lv_at hl 0 rfl) ?_
  refine lv_sipush (v := (385 : Int32)) hx hb dX7_init_14 (by decide) ?_
  refine i_newa (N := 385) X h ww_1_63 (by decide) (by decide) (Nat.le_of_ble_eq_true rfl) (Nat.le_of_ble_eq_true rfl) (Nat.le_of_ble_eq_true rfl) dX7_init_17 (fun q17 H h => ?_)
  have h : ib A D s [(h0, .inr (7, [.ref q8, .null, .null, .int 0, .null, .null, .null, .null, .null, .int 0, .null, .null, .null, .null, .int 0, .int 0, .int 0, .int 0, .int 0, .null, .null, .int 0, .int 0])), (q8, .inl (cA, 385, .inl (fun _ => 0))), (q17, .inl (cA, 385, .inl (fun _ => 0)))] H _ := h
  refine W.widen (k := 2) (n := 770) (Nat.le_of_ble_eq_true rfl) (Nat.le_of_ble_eq_true rfl) ?_
  refine i_putF (wr := [(q8, .inl (cA, 385, .inl (fun _ => 0))), (q17, .inl (cA, 385, .inl (fun _ => 0)))]) (ty := .array .int) (v := .ref q17) (fs' := [.ref q8, .ref q17, .null, .int 0, .null, .null, .null, .null, .null, .int 0, .null, .null, .null, .null, .int 0, .int 0, .int 0, .int 0, .int 0, .null, .null, .int 0, .int 0]) X hin h rfl uX7 tyX7 tyX7_ok nmX7 1 (by decide) ww_4_52 rfl rfl rfl rfl rfl (Nat.le_of_ble_eq_true rfl) rfl dX7_init_19 (fun H locs h => ?_)
  have h : ib A D s [(h0, .inr (7, [.ref q8, .ref q17, .null, .int 0, .null, .null, .null, .null, .null, .int 0, .null, .null, .null, .null, .int 0, .int 0, .int 0, .int 0, .int 0, .null, .null, .int 0, .int 0])), (q8, .inl (cA, 385, .inl (fun _ => 0))), (q17, .inl (cA, 385, .inl (fun _ => 0)))] H _ := h
  refine lv_aload_n hx hb dX7_init_22 rfl (lv_at hl 0 rfl) ?_
  refine lv_sipush (v := (385 : Int32)) hx hb dX7_init_23 (by decide) ?_
  refine i_newa (N := 385) X h ww_1_63 (by decide) (by decide) (Nat.le_of_ble_eq_true rfl) (Nat.le_of_ble_eq_true rfl) (Nat.le_of_ble_eq_true rfl) dX7_init_26 (fun q26 H h => ?_)
  have h : ib A D s [(h0, .inr (7, [.ref q8, .ref q17, .null, .int 0, .null, .null, .null, .null, .null, .int 0, .null, .null, .null, .null, .int 0, .int 0, .int 0, .int 0, .int 0, .null, .null, .int 0, .int 0])), (q8, .inl (cA, 385, .inl (fun _ => 0))), (q17, .inl (cA, 385, .inl (fun _ => 0))), (q26, .inl (cA, 385, .inl (fun _ => 0)))] H _ := h
  refine W.widen (k := 3) (n := 1155) (Nat.le_of_ble_eq_true rfl) (Nat.le_of_ble_eq_true rfl) ?_
  refine i_putF (wr := [(q8, .inl (cA, 385, .inl (fun _ => 0))), (q17, .inl (cA, 385, .inl (fun _ => 0))), (q26, .inl (cA, 385, .inl (fun _ => 0)))]) (ty := .array .int) (v := .ref q26) (fs' := [.ref q8, .ref q17, .ref q26, .int 0, .null, .null, .null, .null, .null, .int 0, .null, .null, .null, .null, .int 0, .int 0, .int 0, .int 0, .int 0, .null, .null, .int 0, .int 0]) X hin h rfl uX7 tyX7 tyX7_ok nmX7 2 (by decide) ww_4_53 rfl rfl rfl rfl rfl (Nat.le_of_ble_eq_true rfl) rfl dX7_init_28 (fun H locs h => ?_)
  have h : ib A D s [(h0, .inr (7, [.ref q8, .ref q17, .ref q26, .int 0, .null, .null, .null, .null, .null, .int 0, .null, .null, .null, .null, .int 0, .int 0, .int 0, .int 0, .int 0, .null, .null, .int 0, .int 0])), (q8, .inl (cA, 385, .inl (fun _ => 0))), (q17, .inl (cA, 385, .inl (fun _ => 0))), (q26, .inl (cA, 385, .inl (fun _ => 0)))] H _ := h
  refine lv_aload_n hx hb dX7_init_31 rfl (lv_at hl 0 rfl) ?_
  refine lv_bipush (v := (7 : Int32)) hx hb dX7_init_32 (by decide) ?_
  refine i_newa (N := 7) X h ww_1_63 (by decide) (by decide) (Nat.le_of_ble_eq_true rfl) (Nat.le_of_ble_eq_true rfl) (Nat.le_of_ble_eq_true rfl) dX7_init_34 (fun q34 H h => ?_)
  have h : ib A D s [(h0, .inr (7, [.ref q8, .ref q17, .ref q26, .int 0, .null, .null, .null, .null, .null, .int 0, .null, .null, .null, .null, .int 0, .int 0, .int 0, .int 0, .int 0, .null, .null, .int 0, .int 0])), (q8, .inl (cA, 385, .inl (fun _ => 0))), (q17, .inl (cA, 385, .inl (fun _ => 0))), (q26, .inl (cA, 385, .inl (fun _ => 0))), (q34, .inl (cA, 7, .inl (fun _ => 0)))] H _ := h
  refine W.widen (k := 4) (n := 1162) (Nat.le_of_ble_eq_true rfl) (Nat.le_of_ble_eq_true rfl) ?_
  refine i_putF (wr := [(q8, .inl (cA, 385, .inl (fun _ => 0))), (q17, .inl (cA, 385, .inl (fun _ => 0))), (q26, .inl (cA, 385, .inl (fun _ => 0))), (q34, .inl (cA, 7, .inl (fun _ => 0)))]) (ty := .array .int) (v := .ref q34) (fs' := [.ref q8, .ref q17, .ref q26, .int 0, .ref q34, .null, .null, .null, .null, .int 0, .null, .null, .null, .null, .int 0, .int 0, .int 0, .int 0, .int 0, .null, .null, .int 0, .int 0]) X hin h rfl uX7 tyX7 tyX7_ok nmX7 4 (by decide) ww_4_55 rfl rfl rfl rfl rfl (Nat.le_of_ble_eq_true rfl) rfl dX7_init_36 (fun H locs h => ?_)
  have h : ib A D s [(h0, .inr (7, [.ref q8, .ref q17, .ref q26, .int 0, .ref q34, .null, .null, .null, .null, .int 0, .null, .null, .null, .null, .int 0, .int 0, .int 0, .int 0, .int 0, .null, .null, .int 0, .int 0])), (q8, .inl (cA, 385, .inl (fun _ => 0))), (q17, .inl (cA, 385, .inl (fun _ => 0))), (q26, .inl (cA, 385, .inl (fun _ => 0))), (q34, .inl (cA, 7, .inl (fun _ => 0)))] H _ := h
  refine lv_aload_n hx hb dX7_init_39 rfl (lv_at hl 0 rfl) ?_
  refine lv_iconst (v := (4 : Int32)) hx hb dX7_init_40 (by decide) ?_
  refine i_newa (N := 4) X h ww_1_63 (by decide) (by decide) (Nat.le_of_ble_eq_true rfl) (Nat.le_of_ble_eq_true rfl) (Nat.le_of_ble_eq_true rfl) dX7_init_41 (fun q41 H h => ?_)
  have h : ib A D s [(h0, .inr (7, [.ref q8, .ref q17, .ref q26, .int 0, .ref q34, .null, .null, .null, .null, .int 0, .null, .null, .null, .null, .int 0, .int 0, .int 0, .int 0, .int 0, .null, .null, .int 0, .int 0])), (q8, .inl (cA, 385, .inl (fun _ => 0))), (q17, .inl (cA, 385, .inl (fun _ => 0))), (q26, .inl (cA, 385, .inl (fun _ => 0))), (q34, .inl (cA, 7, .inl (fun _ => 0))), (q41, .inl (cA, 4, .inl (fun _ => 0)))] H _ := h
  refine W.widen (k := 5) (n := 1166) (Nat.le_of_ble_eq_true rfl) (Nat.le_of_ble_eq_true rfl) ?_
  refine i_putF (wr := [(q8, .inl (cA, 385, .inl (fun _ => 0))), (q17, .inl (cA, 385, .inl (fun _ => 0))), (q26, .inl (cA, 385, .inl (fun _ => 0))), (q34, .inl (cA, 7, .inl (fun _ => 0))), (q41, .inl (cA, 4, .inl (fun _ => 0)))]) (ty := .array .int) (v := .ref q41) (fs' := [.ref q8, .ref q17, .ref q26, .int 0, .ref q34, .ref q41, .null, .null, .null, .int 0, .null, .null, .null, .null, .int 0, .int 0, .int 0, .int 0, .int 0, .null, .null, .int 0, .int 0]) X hin h rfl uX7 tyX7 tyX7_ok nmX7 5 (by decide) ww_4_56 rfl rfl rfl rfl rfl (Nat.le_of_ble_eq_true rfl) rfl dX7_init_43 (fun H locs h => ?_)
  have h : ib A D s [(h0, .inr (7, [.ref q8, .ref q17, .ref q26, .int 0, .ref q34, .ref q41, .null, .null, .null, .int 0, .null, .null, .null, .null, .int 0, .int 0, .int 0, .int 0, .int 0, .null, .null, .int 0, .int 0])), (q8, .inl (cA, 385, .inl (fun _ => 0))), (q17, .inl (cA, 385, .inl (fun _ => 0))), (q26, .inl (cA, 385, .inl (fun _ => 0))), (q34, .inl (cA, 7, .inl (fun _ => 0))), (q41, .inl (cA, 4, .inl (fun _ => 0)))] H _ := h
  refine lv_aload_n hx hb dX7_init_46 rfl (lv_at hl 0 rfl) ?_
  refine lv_iconst (v := (4 : Int32)) hx hb dX7_init_47 (by decide) ?_
  refine i_newa (N := 4) X h ww_1_63 (by decide) (by decide) (Nat.le_of_ble_eq_true rfl) (Nat.le_of_ble_eq_true rfl) (Nat.le_of_ble_eq_true rfl) dX7_init_48 (fun q48 H h => ?_)
  have h : ib A D s [(h0, .inr (7, [.ref q8, .ref q17, .ref q26, .int 0, .ref q34, .ref q41, .null, .null, .null, .int 0, .null, .null, .null, .null, .int 0, .int 0, .int 0, .int 0, .int 0, .null, .null, .int 0, .int 0])), (q8, .inl (cA, 385, .inl (fun _ => 0))), (q17, .inl (cA, 385, .inl (fun _ => 0))), (q26, .inl (cA, 385, .inl (fun _ => 0))), (q34, .inl (cA, 7, .inl (fun _ => 0))), (q41, .inl (cA, 4, .inl (fun _ => 0))), (q48, .inl (cA, 4, .inl (fun _ => 0)))] H _ := h
  refine W.widen (k := 6) (n := 1170) (Nat.le_of_ble_eq_true rfl) (Nat.le_of_ble_eq_true rfl) ?_
  refine i_putF (wr := [(q8, .inl (cA, 385, .inl (fun _ => 0))), (q17, .inl (cA, 385, .inl (fun _ => 0))), (q26, .inl (cA, 385, .inl (fun _ => 0))), (q34, .inl (cA, 7, .inl (fun _ => 0))), (q41, .inl (cA, 4, .inl (fun _ => 0))), (q48, .inl (cA, 4, .inl (fun _ => 0)))]) (ty := .array .int) (v := .ref q48) (fs' := [.ref q8, .ref q17, .ref q26, .int 0, .ref q34, .ref q41, .ref q48, .null, .null, .int 0, .null, .null, .null, .null, .int 0, .int 0, .int 0, .int 0, .int 0, .null, .null, .int 0, .int 0]) X hin h rfl uX7 tyX7 tyX7_ok nmX7 6 (by decide) ww_4_57 rfl rfl rfl rfl rfl (Nat.le_of_ble_eq_true rfl) rfl dX7_init_50 (fun H locs h => ?_)
  have h : ib A D s [(h0, .inr (7, [.ref q8, .ref q17, .ref q26, .int 0, .ref q34, .ref q41, .ref q48, .null, .null, .int 0, .null, .null, .null, .null, .int 0, .int 0, .int 0, .int 0, .int 0, .null, .null, .int 0, .int 0])), (q8, .inl (cA, 385, .inl (fun _ => 0))), (q17, .inl (cA, 385, .inl (fun _ => 0))), (q26, .inl (cA, 385, .inl (fun _ => 0))), (q34, .inl (cA, 7, .inl (fun _ => 0))), (q41, .inl (cA, 4, .inl (fun _ => 0))), (q48, .inl (cA, 4, .inl (fun _ => 0)))] H _ := h
  refine lv_aload_n hx hb dX7_init_53 rfl (lv_at hl 0 rfl) ?_
  refine lv_bipush (v := (96 : Int32)) hx hb dX7_init_54 (by decide) ?_
  refine i_newa (N := 96) X h ww_1_63 (by decide) (by decide) (Nat.le_of_ble_eq_true rfl) (Nat.le_of_ble_eq_true rfl) (Nat.le_of_ble_eq_true rfl) dX7_init_56 (fun q56 H h => ?_)
  have h : ib A D s [(h0, .inr (7, [.ref q8, .ref q17, .ref q26, .int 0, .ref q34, .ref q41, .ref q48, .null, .null, .int 0, .null, .null, .null, .null, .int 0, .int 0, .int 0, .int 0, .int 0, .null, .null, .int 0, .int 0])), (q8, .inl (cA, 385, .inl (fun _ => 0))), (q17, .inl (cA, 385, .inl (fun _ => 0))), (q26, .inl (cA, 385, .inl (fun _ => 0))), (q34, .inl (cA, 7, .inl (fun _ => 0))), (q41, .inl (cA, 4, .inl (fun _ => 0))), (q48, .inl (cA, 4, .inl (fun _ => 0))), (q56, .inl (cA, 96, .inl (fun _ => 0)))] H _ := h
  refine W.widen (k := 7) (n := 1266) (Nat.le_of_ble_eq_true rfl) (Nat.le_of_ble_eq_true rfl) ?_
  refine i_putF (wr := [(q8, .inl (cA, 385, .inl (fun _ => 0))), (q17, .inl (cA, 385, .inl (fun _ => 0))), (q26, .inl (cA, 385, .inl (fun _ => 0))), (q34, .inl (cA, 7, .inl (fun _ => 0))), (q41, .inl (cA, 4, .inl (fun _ => 0))), (q48, .inl (cA, 4, .inl (fun _ => 0))), (q56, .inl (cA, 96, .inl (fun _ => 0)))]) (ty := .array .int) (v := .ref q56) (fs' := [.ref q8, .ref q17, .ref q26, .int 0, .ref q34, .ref q41, .ref q48, .ref q56, .null, .int 0, .null, .null, .null, .null, .int 0, .int 0, .int 0, .int 0, .int 0, .null, .null, .int 0, .int 0]) X hin h rfl uX7 tyX7 tyX7_ok nmX7 7 (by decide) ww_4_58 rfl rfl rfl rfl rfl (Nat.le_of_ble_eq_true rfl) rfl dX7_init_58 (fun H locs h => ?_)
  have h : ib A D s [(h0, .inr (7, [.ref q8, .ref q17, .ref q26, .int 0, .ref q34, .ref q41, .ref q48, .ref q56, .null, .int 0, .null, .null, .null, .null, .int 0, .int 0, .int 0, .int 0, .int 0, .null, .null, .int 0, .int 0])), (q8, .inl (cA, 385, .inl (fun _ => 0))), (q17, .inl (cA, 385, .inl (fun _ => 0))), (q26, .inl (cA, 385, .inl (fun _ => 0))), (q34, .inl (cA, 7, .inl (fun _ => 0))), (q41, .inl (cA, 4, .inl (fun _ => 0))), (q48, .inl (cA, 4, .inl (fun _ => 0))), (q56, .inl (cA, 96, .inl (fun _ => 0)))] H _ := h
  refine lv_aload_n hx hb dX7_init_61 rfl (lv_at hl 0 rfl) ?_
  refine lv_bipush (v := (100 : Int32)) hx hb dX7_init_62 (by decide) ?_
  refine i_newa (N := 100) X h ww_1_63 (by decide) (by decide) (Nat.le_of_ble_eq_true rfl) (Nat.le_of_ble_eq_true rfl) (Nat.le_of_ble_eq_true rfl) dX7_init_64 (fun q64 H h => ?_)
  have h : ib A D s [(h0, .inr (7, [.ref q8, .ref q17, .ref q26, .int 0, .ref q34, .ref q41, .ref q48, .ref q56, .null, .int 0, .null, .null, .null, .null, .int 0, .int 0, .int 0, .int 0, .int 0, .null, .null, .int 0, .int 0])), (q8, .inl (cA, 385, .inl (fun _ => 0))), (q17, .inl (cA, 385, .inl (fun _ => 0))), (q26, .inl (cA, 385, .inl (fun _ => 0))), (q34, .inl (cA, 7, .inl (fun _ => 0))), (q41, .inl (cA, 4, .inl (fun _ => 0))), (q48, .inl (cA, 4, .inl (fun _ => 0))), (q56, .inl (cA, 96, .inl (fun _ => 0))), (q64, .inl (cA, 100, .inl (fun _ => 0)))] H _ := h
  refine W.widen (k := 8) (n := 1366) (Nat.le_of_ble_eq_true rfl) (Nat.le_of_ble_eq_true rfl) ?_
  refine i_putF (wr := [(q8, .inl (cA, 385, .inl (fun _ => 0))), (q17, .inl (cA, 385, .inl (fun _ => 0))), (q26, .inl (cA, 385, .inl (fun _ => 0))), (q34, .inl (cA, 7, .inl (fun _ => 0))), (q41, .inl (cA, 4, .inl (fun _ => 0))), (q48, .inl (cA, 4, .inl (fun _ => 0))), (q56, .inl (cA, 96, .inl (fun _ => 0))), (q64, .inl (cA, 100, .inl (fun _ => 0)))]) (ty := .array .int) (v := .ref q64) (fs' := [.ref q8, .ref q17, .ref q26, .int 0, .ref q34, .ref q41, .ref q48, .ref q56, .ref q64, .int 0, .null, .null, .null, .null, .int 0, .int 0, .int 0, .int 0, .int 0, .null, .null, .int 0, .int 0]) X hin h rfl uX7 tyX7 tyX7_ok nmX7 8 (by decide) ww_4_59 rfl rfl rfl rfl rfl (Nat.le_of_ble_eq_true rfl) rfl dX7_init_66 (fun H locs h => ?_)
  have h : ib A D s [(h0, .inr (7, [.ref q8, .ref q17, .ref q26, .int 0, .ref q34, .ref q41, .ref q48, .ref q56, .ref q64, .int 0, .null, .null, .null, .null, .int 0, .int 0, .int 0, .int 0, .int 0, .null, .null, .int 0, .int 0])), (q8, .inl (cA, 385, .inl (fun _ => 0))), (q17, .inl (cA, 385, .inl (fun _ => 0))), (q26, .inl (cA, 385, .inl (fun _ => 0))), (q34, .inl (cA, 7, .inl (fun _ => 0))), (q41, .inl (cA, 4, .inl (fun _ => 0))), (q48, .inl (cA, 4, .inl (fun _ => 0))), (q56, .inl (cA, 96, .inl (fun _ => 0))), (q64, .inl (cA, 100, .inl (fun _ => 0)))] H _ := h
  refine lv_aload_n hx hb dX7_init_69 rfl (lv_at hl 0 rfl) ?_
  refine lv_bipush (v := (60 : Int32)) hx hb dX7_init_70 (by decide) ?_
  refine i_newa (N := 60) X h ww_1_63 (by decide) (by decide) (Nat.le_of_ble_eq_true rfl) (Nat.le_of_ble_eq_true rfl) (Nat.le_of_ble_eq_true rfl) dX7_init_72 (fun q72 H h => ?_)
  have h : ib A D s [(h0, .inr (7, [.ref q8, .ref q17, .ref q26, .int 0, .ref q34, .ref q41, .ref q48, .ref q56, .ref q64, .int 0, .null, .null, .null, .null, .int 0, .int 0, .int 0, .int 0, .int 0, .null, .null, .int 0, .int 0])), (q8, .inl (cA, 385, .inl (fun _ => 0))), (q17, .inl (cA, 385, .inl (fun _ => 0))), (q26, .inl (cA, 385, .inl (fun _ => 0))), (q34, .inl (cA, 7, .inl (fun _ => 0))), (q41, .inl (cA, 4, .inl (fun _ => 0))), (q48, .inl (cA, 4, .inl (fun _ => 0))), (q56, .inl (cA, 96, .inl (fun _ => 0))), (q64, .inl (cA, 100, .inl (fun _ => 0))), (q72, .inl (cA, 60, .inl (fun _ => 0)))] H _ := h
  refine W.widen (k := 9) (n := 1426) (Nat.le_of_ble_eq_true rfl) (Nat.le_of_ble_eq_true rfl) ?_
  refine i_putF (wr := [(q8, .inl (cA, 385, .inl (fun _ => 0))), (q17, .inl (cA, 385, .inl (fun _ => 0))), (q26, .inl (cA, 385, .inl (fun _ => 0))), (q34, .inl (cA, 7, .inl (fun _ => 0))), (q41, .inl (cA, 4, .inl (fun _ => 0))), (q48, .inl (cA, 4, .inl (fun _ => 0))), (q56, .inl (cA, 96, .inl (fun _ => 0))), (q64, .inl (cA, 100, .inl (fun _ => 0))), (q72, .inl (cA, 60, .inl (fun _ => 0)))]) (ty := .array .int) (v := .ref q72) (fs' := [.ref q8, .ref q17, .ref q26, .int 0, .ref q34, .ref q41, .ref q48, .ref q56, .ref q64, .int 0, .ref q72, .null, .null, .null, .int 0, .int 0, .int 0, .int 0, .int 0, .null, .null, .int 0, .int 0]) X hin h rfl uX7 tyX7 tyX7_ok nmX7 10 (by decide) ww_4_61 rfl rfl rfl rfl rfl (Nat.le_of_ble_eq_true rfl) rfl dX7_init_74 (fun H locs h => ?_)
  have h : ib A D s [(h0, .inr (7, [.ref q8, .ref q17, .ref q26, .int 0, .ref q34, .ref q41, .ref q48, .ref q56, .ref q64, .int 0, .ref q72, .null, .null, .null, .int 0, .int 0, .int 0, .int 0, .int 0, .null, .null, .int 0, .int 0])), (q8, .inl (cA, 385, .inl (fun _ => 0))), (q17, .inl (cA, 385, .inl (fun _ => 0))), (q26, .inl (cA, 385, .inl (fun _ => 0))), (q34, .inl (cA, 7, .inl (fun _ => 0))), (q41, .inl (cA, 4, .inl (fun _ => 0))), (q48, .inl (cA, 4, .inl (fun _ => 0))), (q56, .inl (cA, 96, .inl (fun _ => 0))), (q64, .inl (cA, 100, .inl (fun _ => 0))), (q72, .inl (cA, 60, .inl (fun _ => 0)))] H _ := h
  refine lv_aload_n hx hb dX7_init_77 rfl (lv_at hl 0 rfl) ?_
  refine lv_bipush (v := (60 : Int32)) hx hb dX7_init_78 (by decide) ?_
  refine i_newa (N := 60) X h ww_1_63 (by decide) (by decide) (Nat.le_of_ble_eq_true rfl) (Nat.le_of_ble_eq_true rfl) (Nat.le_of_ble_eq_true rfl) dX7_init_80 (fun q80 H h => ?_)
  have h : ib A D s [(h0, .inr (7, [.ref q8, .ref q17, .ref q26, .int 0, .ref q34, .ref q41, .ref q48, .ref q56, .ref q64, .int 0, .ref q72, .null, .null, .null, .int 0, .int 0, .int 0, .int 0, .int 0, .null, .null, .int 0, .int 0])), (q8, .inl (cA, 385, .inl (fun _ => 0))), (q17, .inl (cA, 385, .inl (fun _ => 0))), (q26, .inl (cA, 385, .inl (fun _ => 0))), (q34, .inl (cA, 7, .inl (fun _ => 0))), (q41, .inl (cA, 4, .inl (fun _ => 0))), (q48, .inl (cA, 4, .inl (fun _ => 0))), (q56, .inl (cA, 96, .inl (fun _ => 0))), (q64, .inl (cA, 100, .inl (fun _ => 0))), (q72, .inl (cA, 60, .inl (fun _ => 0))), (q80, .inl (cA, 60, .inl (fun _ => 0)))] H _ := h
  refine W.widen (k := 10) (n := 1486) (Nat.le_of_ble_eq_true rfl) (Nat.le_of_ble_eq_true rfl) ?_
  refine i_putF (wr := [(q8, .inl (cA, 385, .inl (fun _ => 0))), (q17, .inl (cA, 385, .inl (fun _ => 0))), (q26, .inl (cA, 385, .inl (fun _ => 0))), (q34, .inl (cA, 7, .inl (fun _ => 0))), (q41, .inl (cA, 4, .inl (fun _ => 0))), (q48, .inl (cA, 4, .inl (fun _ => 0))), (q56, .inl (cA, 96, .inl (fun _ => 0))), (q64, .inl (cA, 100, .inl (fun _ => 0))), (q72, .inl (cA, 60, .inl (fun _ => 0))), (q80, .inl (cA, 60, .inl (fun _ => 0)))]) (ty := .array .int) (v := .ref q80) (fs' := [.ref q8, .ref q17, .ref q26, .int 0, .ref q34, .ref q41, .ref q48, .ref q56, .ref q64, .int 0, .ref q72, .ref q80, .null, .null, .int 0, .int 0, .int 0, .int 0, .int 0, .null, .null, .int 0, .int 0]) X hin h rfl uX7 tyX7 tyX7_ok nmX7 11 (by decide) ww_4_62 rfl rfl rfl rfl rfl (Nat.le_of_ble_eq_true rfl) rfl dX7_init_82 (fun H locs h => ?_)
  have h : ib A D s [(h0, .inr (7, [.ref q8, .ref q17, .ref q26, .int 0, .ref q34, .ref q41, .ref q48, .ref q56, .ref q64, .int 0, .ref q72, .ref q80, .null, .null, .int 0, .int 0, .int 0, .int 0, .int 0, .null, .null, .int 0, .int 0])), (q8, .inl (cA, 385, .inl (fun _ => 0))), (q17, .inl (cA, 385, .inl (fun _ => 0))), (q26, .inl (cA, 385, .inl (fun _ => 0))), (q34, .inl (cA, 7, .inl (fun _ => 0))), (q41, .inl (cA, 4, .inl (fun _ => 0))), (q48, .inl (cA, 4, .inl (fun _ => 0))), (q56, .inl (cA, 96, .inl (fun _ => 0))), (q64, .inl (cA, 100, .inl (fun _ => 0))), (q72, .inl (cA, 60, .inl (fun _ => 0))), (q80, .inl (cA, 60, .inl (fun _ => 0)))] H _ := h
  refine lv_aload_n hx hb dX7_init_85 rfl (lv_at hl 0 rfl) ?_
  refine lv_iconst (v := (3 : Int32)) hx hb dX7_init_86 (by decide) ?_
  refine i_newa (N := 3) X h ww_1_63 (by decide) (by decide) (Nat.le_of_ble_eq_true rfl) (Nat.le_of_ble_eq_true rfl) (Nat.le_of_ble_eq_true rfl) dX7_init_87 (fun q87 H h => ?_)
  have h : ib A D s [(h0, .inr (7, [.ref q8, .ref q17, .ref q26, .int 0, .ref q34, .ref q41, .ref q48, .ref q56, .ref q64, .int 0, .ref q72, .ref q80, .null, .null, .int 0, .int 0, .int 0, .int 0, .int 0, .null, .null, .int 0, .int 0])), (q8, .inl (cA, 385, .inl (fun _ => 0))), (q17, .inl (cA, 385, .inl (fun _ => 0))), (q26, .inl (cA, 385, .inl (fun _ => 0))), (q34, .inl (cA, 7, .inl (fun _ => 0))), (q41, .inl (cA, 4, .inl (fun _ => 0))), (q48, .inl (cA, 4, .inl (fun _ => 0))), (q56, .inl (cA, 96, .inl (fun _ => 0))), (q64, .inl (cA, 100, .inl (fun _ => 0))), (q72, .inl (cA, 60, .inl (fun _ => 0))), (q80, .inl (cA, 60, .inl (fun _ => 0))), (q87, .inl (cA, 3, .inl (fun _ => 0)))] H _ := h
  refine W.widen (k := 11) (n := 1489) (Nat.le_of_ble_eq_true rfl) (Nat.le_of_ble_eq_true rfl) ?_
  refine i_putF (wr := [(q8, .inl (cA, 385, .inl (fun _ => 0))), (q17, .inl (cA, 385, .inl (fun _ => 0))), (q26, .inl (cA, 385, .inl (fun _ => 0))), (q34, .inl (cA, 7, .inl (fun _ => 0))), (q41, .inl (cA, 4, .inl (fun _ => 0))), (q48, .inl (cA, 4, .inl (fun _ => 0))), (q56, .inl (cA, 96, .inl (fun _ => 0))), (q64, .inl (cA, 100, .inl (fun _ => 0))), (q72, .inl (cA, 60, .inl (fun _ => 0))), (q80, .inl (cA, 60, .inl (fun _ => 0))), (q87, .inl (cA, 3, .inl (fun _ => 0)))]) (ty := .array .int) (v := .ref q87) (fs' := [.ref q8, .ref q17, .ref q26, .int 0, .ref q34, .ref q41, .ref q48, .ref q56, .ref q64, .int 0, .ref q72, .ref q80, .ref q87, .null, .int 0, .int 0, .int 0, .int 0, .int 0, .null, .null, .int 0, .int 0]) X hin h rfl uX7 tyX7 tyX7_ok nmX7 12 (by decide) ww_4_63 rfl rfl rfl rfl rfl (Nat.le_of_ble_eq_true rfl) rfl dX7_init_89 (fun H locs h => ?_)
  have h : ib A D s [(h0, .inr (7, [.ref q8, .ref q17, .ref q26, .int 0, .ref q34, .ref q41, .ref q48, .ref q56, .ref q64, .int 0, .ref q72, .ref q80, .ref q87, .null, .int 0, .int 0, .int 0, .int 0, .int 0, .null, .null, .int 0, .int 0])), (q8, .inl (cA, 385, .inl (fun _ => 0))), (q17, .inl (cA, 385, .inl (fun _ => 0))), (q26, .inl (cA, 385, .inl (fun _ => 0))), (q34, .inl (cA, 7, .inl (fun _ => 0))), (q41, .inl (cA, 4, .inl (fun _ => 0))), (q48, .inl (cA, 4, .inl (fun _ => 0))), (q56, .inl (cA, 96, .inl (fun _ => 0))), (q64, .inl (cA, 100, .inl (fun _ => 0))), (q72, .inl (cA, 60, .inl (fun _ => 0))), (q80, .inl (cA, 60, .inl (fun _ => 0))), (q87, .inl (cA, 3, .inl (fun _ => 0)))] H _ := h
  refine lv_aload_n hx hb dX7_init_92 rfl (lv_at hl 0 rfl) ?_
  refine lv_bipush (v := (60 : Int32)) hx hb dX7_init_93 (by decide) ?_
  refine i_newa (N := 60) X h ww_1_63 (by decide) (by decide) (Nat.le_of_ble_eq_true rfl) (Nat.le_of_ble_eq_true rfl) (Nat.le_of_ble_eq_true rfl) dX7_init_95 (fun q95 H h => ?_)
  have h : ib A D s [(h0, .inr (7, [.ref q8, .ref q17, .ref q26, .int 0, .ref q34, .ref q41, .ref q48, .ref q56, .ref q64, .int 0, .ref q72, .ref q80, .ref q87, .null, .int 0, .int 0, .int 0, .int 0, .int 0, .null, .null, .int 0, .int 0])), (q8, .inl (cA, 385, .inl (fun _ => 0))), (q17, .inl (cA, 385, .inl (fun _ => 0))), (q26, .inl (cA, 385, .inl (fun _ => 0))), (q34, .inl (cA, 7, .inl (fun _ => 0))), (q41, .inl (cA, 4, .inl (fun _ => 0))), (q48, .inl (cA, 4, .inl (fun _ => 0))), (q56, .inl (cA, 96, .inl (fun _ => 0))), (q64, .inl (cA, 100, .inl (fun _ => 0))), (q72, .inl (cA, 60, .inl (fun _ => 0))), (q80, .inl (cA, 60, .inl (fun _ => 0))), (q87, .inl (cA, 3, .inl (fun _ => 0))), (q95, .inl (cA, 60, .inl (fun _ => 0)))] H _ := h
  refine W.widen (k := 12) (n := 1549) (Nat.le_of_ble_eq_true rfl) (Nat.le_of_ble_eq_true rfl) ?_
  refine i_putF (wr := [(q8, .inl (cA, 385, .inl (fun _ => 0))), (q17, .inl (cA, 385, .inl (fun _ => 0))), (q26, .inl (cA, 385, .inl (fun _ => 0))), (q34, .inl (cA, 7, .inl (fun _ => 0))), (q41, .inl (cA, 4, .inl (fun _ => 0))), (q48, .inl (cA, 4, .inl (fun _ => 0))), (q56, .inl (cA, 96, .inl (fun _ => 0))), (q64, .inl (cA, 100, .inl (fun _ => 0))), (q72, .inl (cA, 60, .inl (fun _ => 0))), (q80, .inl (cA, 60, .inl (fun _ => 0))), (q87, .inl (cA, 3, .inl (fun _ => 0))), (q95, .inl (cA, 60, .inl (fun _ => 0)))]) (ty := .array .int) (v := .ref q95) (fs' := [.ref q8, .ref q17, .ref q26, .int 0, .ref q34, .ref q41, .ref q48, .ref q56, .ref q64, .int 0, .ref q72, .ref q80, .ref q87, .ref q95, .int 0, .int 0, .int 0, .int 0, .int 0, .null, .null, .int 0, .int 0]) X hin h rfl uX7 tyX7 tyX7_ok nmX7 13 (by decide) ww_4_64 rfl rfl rfl rfl rfl (Nat.le_of_ble_eq_true rfl) rfl dX7_init_97 (fun H locs h => ?_)
  have h : ib A D s [(h0, .inr (7, [.ref q8, .ref q17, .ref q26, .int 0, .ref q34, .ref q41, .ref q48, .ref q56, .ref q64, .int 0, .ref q72, .ref q80, .ref q87, .ref q95, .int 0, .int 0, .int 0, .int 0, .int 0, .null, .null, .int 0, .int 0])), (q8, .inl (cA, 385, .inl (fun _ => 0))), (q17, .inl (cA, 385, .inl (fun _ => 0))), (q26, .inl (cA, 385, .inl (fun _ => 0))), (q34, .inl (cA, 7, .inl (fun _ => 0))), (q41, .inl (cA, 4, .inl (fun _ => 0))), (q48, .inl (cA, 4, .inl (fun _ => 0))), (q56, .inl (cA, 96, .inl (fun _ => 0))), (q64, .inl (cA, 100, .inl (fun _ => 0))), (q72, .inl (cA, 60, .inl (fun _ => 0))), (q80, .inl (cA, 60, .inl (fun _ => 0))), (q87, .inl (cA, 3, .inl (fun _ => 0))), (q95, .inl (cA, 60, .inl (fun _ => 0)))] H _ := h
  refine lv_aload_n hx hb dX7_init_100 rfl (lv_at hl 0 rfl) ?_
  refine lv_bipush (v := (8 : Int32)) hx hb dX7_init_101 (by decide) ?_
  refine i_newa (N := 8) X h ww_1_63 (by decide) (by decide) (Nat.le_of_ble_eq_true rfl) (Nat.le_of_ble_eq_true rfl) (Nat.le_of_ble_eq_true rfl) dX7_init_103 (fun q103 H h => ?_)
  have h : ib A D s [(h0, .inr (7, [.ref q8, .ref q17, .ref q26, .int 0, .ref q34, .ref q41, .ref q48, .ref q56, .ref q64, .int 0, .ref q72, .ref q80, .ref q87, .ref q95, .int 0, .int 0, .int 0, .int 0, .int 0, .null, .null, .int 0, .int 0])), (q8, .inl (cA, 385, .inl (fun _ => 0))), (q17, .inl (cA, 385, .inl (fun _ => 0))), (q26, .inl (cA, 385, .inl (fun _ => 0))), (q34, .inl (cA, 7, .inl (fun _ => 0))), (q41, .inl (cA, 4, .inl (fun _ => 0))), (q48, .inl (cA, 4, .inl (fun _ => 0))), (q56, .inl (cA, 96, .inl (fun _ => 0))), (q64, .inl (cA, 100, .inl (fun _ => 0))), (q72, .inl (cA, 60, .inl (fun _ => 0))), (q80, .inl (cA, 60, .inl (fun _ => 0))), (q87, .inl (cA, 3, .inl (fun _ => 0))), (q95, .inl (cA, 60, .inl (fun _ => 0))), (q103, .inl (cA, 8, .inl (fun _ => 0)))] H _ := h
  refine W.widen (k := 13) (n := 1557) (Nat.le_of_ble_eq_true rfl) (Nat.le_of_ble_eq_true rfl) ?_
  refine i_putF (wr := [(q8, .inl (cA, 385, .inl (fun _ => 0))), (q17, .inl (cA, 385, .inl (fun _ => 0))), (q26, .inl (cA, 385, .inl (fun _ => 0))), (q34, .inl (cA, 7, .inl (fun _ => 0))), (q41, .inl (cA, 4, .inl (fun _ => 0))), (q48, .inl (cA, 4, .inl (fun _ => 0))), (q56, .inl (cA, 96, .inl (fun _ => 0))), (q64, .inl (cA, 100, .inl (fun _ => 0))), (q72, .inl (cA, 60, .inl (fun _ => 0))), (q80, .inl (cA, 60, .inl (fun _ => 0))), (q87, .inl (cA, 3, .inl (fun _ => 0))), (q95, .inl (cA, 60, .inl (fun _ => 0))), (q103, .inl (cA, 8, .inl (fun _ => 0)))]) (ty := .array .int) (v := .ref q103) (fs' := [.ref q8, .ref q17, .ref q26, .int 0, .ref q34, .ref q41, .ref q48, .ref q56, .ref q64, .int 0, .ref q72, .ref q80, .ref q87, .ref q95, .int 0, .int 0, .int 0, .int 0, .int 0, .ref q103, .null, .int 0, .int 0]) X hin h rfl uX7 tyX7 tyX7_ok nmX7 19 (by decide) ww_4_70 rfl rfl rfl rfl rfl (Nat.le_of_ble_eq_true rfl) rfl dX7_init_105 (fun H locs h => ?_)
  have h : ib A D s [(h0, .inr (7, [.ref q8, .ref q17, .ref q26, .int 0, .ref q34, .ref q41, .ref q48, .ref q56, .ref q64, .int 0, .ref q72, .ref q80, .ref q87, .ref q95, .int 0, .int 0, .int 0, .int 0, .int 0, .ref q103, .null, .int 0, .int 0])), (q8, .inl (cA, 385, .inl (fun _ => 0))), (q17, .inl (cA, 385, .inl (fun _ => 0))), (q26, .inl (cA, 385, .inl (fun _ => 0))), (q34, .inl (cA, 7, .inl (fun _ => 0))), (q41, .inl (cA, 4, .inl (fun _ => 0))), (q48, .inl (cA, 4, .inl (fun _ => 0))), (q56, .inl (cA, 96, .inl (fun _ => 0))), (q64, .inl (cA, 100, .inl (fun _ => 0))), (q72, .inl (cA, 60, .inl (fun _ => 0))), (q80, .inl (cA, 60, .inl (fun _ => 0))), (q87, .inl (cA, 3, .inl (fun _ => 0))), (q95, .inl (cA, 60, .inl (fun _ => 0))), (q103, .inl (cA, 8, .inl (fun _ => 0)))] H _ := h
  refine lv_aload_n hx hb dX7_init_108 rfl (lv_at hl 0 rfl) ?_
  refine lv_bipush (v := (30 : Int32)) hx hb dX7_init_109 (by decide) ?_
  refine i_newa (N := 30) X h ww_1_63 (by decide) (by decide) (Nat.le_of_ble_eq_true rfl) (Nat.le_of_ble_eq_true rfl) (Nat.le_of_ble_eq_true rfl) dX7_init_111 (fun q111 H h => ?_)
  have h : ib A D s [(h0, .inr (7, [.ref q8, .ref q17, .ref q26, .int 0, .ref q34, .ref q41, .ref q48, .ref q56, .ref q64, .int 0, .ref q72, .ref q80, .ref q87, .ref q95, .int 0, .int 0, .int 0, .int 0, .int 0, .ref q103, .null, .int 0, .int 0])), (q8, .inl (cA, 385, .inl (fun _ => 0))), (q17, .inl (cA, 385, .inl (fun _ => 0))), (q26, .inl (cA, 385, .inl (fun _ => 0))), (q34, .inl (cA, 7, .inl (fun _ => 0))), (q41, .inl (cA, 4, .inl (fun _ => 0))), (q48, .inl (cA, 4, .inl (fun _ => 0))), (q56, .inl (cA, 96, .inl (fun _ => 0))), (q64, .inl (cA, 100, .inl (fun _ => 0))), (q72, .inl (cA, 60, .inl (fun _ => 0))), (q80, .inl (cA, 60, .inl (fun _ => 0))), (q87, .inl (cA, 3, .inl (fun _ => 0))), (q95, .inl (cA, 60, .inl (fun _ => 0))), (q103, .inl (cA, 8, .inl (fun _ => 0))), (q111, .inl (cA, 30, .inl (fun _ => 0)))] H _ := h
  refine W.widen (k := 14) (n := 1587) (Nat.le_of_ble_eq_true rfl) (Nat.le_of_ble_eq_true rfl) ?_
  refine i_putF (wr := [(q8, .inl (cA, 385, .inl (fun _ => 0))), (q17, .inl (cA, 385, .inl (fun _ => 0))), (q26, .inl (cA, 385, .inl (fun _ => 0))), (q34, .inl (cA, 7, .inl (fun _ => 0))), (q41, .inl (cA, 4, .inl (fun _ => 0))), (q48, .inl (cA, 4, .inl (fun _ => 0))), (q56, .inl (cA, 96, .inl (fun _ => 0))), (q64, .inl (cA, 100, .inl (fun _ => 0))), (q72, .inl (cA, 60, .inl (fun _ => 0))), (q80, .inl (cA, 60, .inl (fun _ => 0))), (q87, .inl (cA, 3, .inl (fun _ => 0))), (q95, .inl (cA, 60, .inl (fun _ => 0))), (q103, .inl (cA, 8, .inl (fun _ => 0))), (q111, .inl (cA, 30, .inl (fun _ => 0)))]) (ty := .array .int) (v := .ref q111) (fs' := [.ref q8, .ref q17, .ref q26, .int 0, .ref q34, .ref q41, .ref q48, .ref q56, .ref q64, .int 0, .ref q72, .ref q80, .ref q87, .ref q95, .int 0, .int 0, .int 0, .int 0, .int 0, .ref q103, .ref q111, .int 0, .int 0]) X hin h rfl uX7 tyX7 tyX7_ok nmX7 20 (by decide) ww_4_71 rfl rfl rfl rfl rfl (Nat.le_of_ble_eq_true rfl) rfl dX7_init_113 (fun H locs h => ?_)
  have h : ib A D s [(h0, .inr (7, [.ref q8, .ref q17, .ref q26, .int 0, .ref q34, .ref q41, .ref q48, .ref q56, .ref q64, .int 0, .ref q72, .ref q80, .ref q87, .ref q95, .int 0, .int 0, .int 0, .int 0, .int 0, .ref q103, .ref q111, .int 0, .int 0])), (q8, .inl (cA, 385, .inl (fun _ => 0))), (q17, .inl (cA, 385, .inl (fun _ => 0))), (q26, .inl (cA, 385, .inl (fun _ => 0))), (q34, .inl (cA, 7, .inl (fun _ => 0))), (q41, .inl (cA, 4, .inl (fun _ => 0))), (q48, .inl (cA, 4, .inl (fun _ => 0))), (q56, .inl (cA, 96, .inl (fun _ => 0))), (q64, .inl (cA, 100, .inl (fun _ => 0))), (q72, .inl (cA, 60, .inl (fun _ => 0))), (q80, .inl (cA, 60, .inl (fun _ => 0))), (q87, .inl (cA, 3, .inl (fun _ => 0))), (q95, .inl (cA, 60, .inl (fun _ => 0))), (q103, .inl (cA, 8, .inl (fun _ => 0))), (q111, .inl (cA, 30, .inl (fun _ => 0)))] H _ := h
  refine lv_aload_n hx hb dX7_init_116 rfl (lv_at hl 0 rfl) ?_
  refine i_get X h rfl rfl uX7 0 (by decide) ww_4_51 (v := .ref q8) rfl dX7_init_117 ?_
  refine lv_iconst (v := (1 : Int32)) hx hb dX7_init_120 (by decide) ?_
  refine lv_iconst (v := (1 : Int32)) hx hb dX7_init_121 (by decide) ?_
  refine i_ast (k := 1) X h 1 rfl (by decide) (by unfold vp_in; decide) (ws' := [(h0, .inr (7, [.ref q8, .ref q17, .ref q26, .int 0, .ref q34, .ref q41, .ref q48, .ref q56, .ref q64, .int 0, .ref q72, .ref q80, .ref q87, .ref q95, .int 0, .int 0, .int 0, .int 0, .int 0, .ref q103, .ref q111, .int 0, .int 0])), (q8, .inl (cA, 385, .inl (upd (fun _ => 0) 1 1))), (q17, .inl (cA, 385, .inl (fun _ => 0))), (q26, .inl (cA, 385, .inl (fun _ => 0))), (q34, .inl (cA, 7, .inl (fun _ => 0))), (q41, .inl (cA, 4, .inl (fun _ => 0))), (q48, .inl (cA, 4, .inl (fun _ => 0))), (q56, .inl (cA, 96, .inl (fun _ => 0))), (q64, .inl (cA, 100, .inl (fun _ => 0))), (q72, .inl (cA, 60, .inl (fun _ => 0))), (q80, .inl (cA, 60, .inl (fun _ => 0))), (q87, .inl (cA, 3, .inl (fun _ => 0))), (q95, .inl (cA, 60, .inl (fun _ => 0))), (q103, .inl (cA, 8, .inl (fun _ => 0))), (q111, .inl (cA, 30, .inl (fun _ => 0)))]) rfl dX7_init_122 (fun H locs h => ?_)
  refine lv_iconst (v := (0 : Int32)) hx hb dX7_init_123 (by decide) ?_
  refine lv_istore_n (lv' := [(1, .int (0 : Int32)), (0, .ref h0)]) hx hb dX7_init_124 rfl hl (by decide) rfl (fun ls hl => ?_)
  refine lv_iload_n hx hb dX7_init_125 rfl (lv_at hl 0 rfl) ?_
  refine lv_iconst (v := (4 : Int32)) hx hb dX7_init_126 (by decide) ?_
  refine lv_icmp_ge (tgt := 145) hx hb dX7_init_127 (by decide) (fun hc => absurd hc (by decide)) (fun _ => ?_)
  refine lv_aload_n hx hb dX7_init_130 rfl (lv_at hl 1 rfl) ?_
  refine i_get X h rfl rfl uX7 0 (by decide) ww_4_51 (v := .ref q8) rfl dX7_init_131 ?_
  refine lv_iconst (v := (5 : Int32)) hx hb dX7_init_134 (by decide) ?_
  refine lv_iload_n hx hb dX7_init_135 rfl (lv_at hl 0 rfl) ?_
  refine lv_iadd hx hb dX7_init_136 ?_
  refine topE (x := (5 : Int32)) (by decide) ?_
  refine lv_iload_n hx hb dX7_init_137 rfl (lv_at hl 0 rfl) ?_
  refine i_ast (k := 5) X h 1 rfl (by decide) (by unfold vp_in; decide) (ws' := [(h0, .inr (7, [.ref q8, .ref q17, .ref q26, .int 0, .ref q34, .ref q41, .ref q48, .ref q56, .ref q64, .int 0, .ref q72, .ref q80, .ref q87, .ref q95, .int 0, .int 0, .int 0, .int 0, .int 0, .ref q103, .ref q111, .int 0, .int 0])), (q8, .inl (cA, 385, .inl (upd (upd (fun _ => 0) 1 1) 5 0))), (q17, .inl (cA, 385, .inl (fun _ => 0))), (q26, .inl (cA, 385, .inl (fun _ => 0))), (q34, .inl (cA, 7, .inl (fun _ => 0))), (q41, .inl (cA, 4, .inl (fun _ => 0))), (q48, .inl (cA, 4, .inl (fun _ => 0))), (q56, .inl (cA, 96, .inl (fun _ => 0))), (q64, .inl (cA, 100, .inl (fun _ => 0))), (q72, .inl (cA, 60, .inl (fun _ => 0))), (q80, .inl (cA, 60, .inl (fun _ => 0))), (q87, .inl (cA, 3, .inl (fun _ => 0))), (q95, .inl (cA, 60, .inl (fun _ => 0))), (q103, .inl (cA, 8, .inl (fun _ => 0))), (q111, .inl (cA, 30, .inl (fun _ => 0)))]) rfl dX7_init_138 (fun H locs h => ?_)
  refine lv_iinc (v := (1 : Int32)) (lv' := [(1, .int (1 : Int32)), (0, .ref h0)]) hx hb dX7_init_139 hl (k := 0) rfl (by decide) (by decide) rfl (fun ls hl => ?_)
  refine lv_goto (tgt := 125) hx hb dX7_init_142 (by decide) ?_
  refine lv_iload_n hx hb dX7_init_125 rfl (lv_at hl 0 rfl) ?_
  refine lv_iconst (v := (4 : Int32)) hx hb dX7_init_126 (by decide) ?_
  refine lv_icmp_ge (tgt := 145) hx hb dX7_init_127 (by decide) (fun hc => absurd hc (by decide)) (fun _ => ?_)
  refine lv_aload_n hx hb dX7_init_130 rfl (lv_at hl 1 rfl) ?_
  refine i_get X h rfl rfl uX7 0 (by decide) ww_4_51 (v := .ref q8) rfl dX7_init_131 ?_
  refine lv_iconst (v := (5 : Int32)) hx hb dX7_init_134 (by decide) ?_
  refine lv_iload_n hx hb dX7_init_135 rfl (lv_at hl 0 rfl) ?_
  refine lv_iadd hx hb dX7_init_136 ?_
  refine topE (x := (6 : Int32)) (by decide) ?_
  refine lv_iload_n hx hb dX7_init_137 rfl (lv_at hl 0 rfl) ?_
  refine i_ast (k := 6) X h 1 rfl (by decide) (by unfold vp_in; decide) (ws' := [(h0, .inr (7, [.ref q8, .ref q17, .ref q26, .int 0, .ref q34, .ref q41, .ref q48, .ref q56, .ref q64, .int 0, .ref q72, .ref q80, .ref q87, .ref q95, .int 0, .int 0, .int 0, .int 0, .int 0, .ref q103, .ref q111, .int 0, .int 0])), (q8, .inl (cA, 385, .inl (upd (upd (upd (fun _ => 0) 1 1) 5 0) 6 1))), (q17, .inl (cA, 385, .inl (fun _ => 0))), (q26, .inl (cA, 385, .inl (fun _ => 0))), (q34, .inl (cA, 7, .inl (fun _ => 0))), (q41, .inl (cA, 4, .inl (fun _ => 0))), (q48, .inl (cA, 4, .inl (fun _ => 0))), (q56, .inl (cA, 96, .inl (fun _ => 0))), (q64, .inl (cA, 100, .inl (fun _ => 0))), (q72, .inl (cA, 60, .inl (fun _ => 0))), (q80, .inl (cA, 60, .inl (fun _ => 0))), (q87, .inl (cA, 3, .inl (fun _ => 0))), (q95, .inl (cA, 60, .inl (fun _ => 0))), (q103, .inl (cA, 8, .inl (fun _ => 0))), (q111, .inl (cA, 30, .inl (fun _ => 0)))]) rfl dX7_init_138 (fun H locs h => ?_)
  refine lv_iinc (v := (2 : Int32)) (lv' := [(1, .int (2 : Int32)), (0, .ref h0)]) hx hb dX7_init_139 hl (k := 0) rfl (by decide) (by decide) rfl (fun ls hl => ?_)
  refine lv_goto (tgt := 125) hx hb dX7_init_142 (by decide) ?_
  refine lv_iload_n hx hb dX7_init_125 rfl (lv_at hl 0 rfl) ?_
  refine lv_iconst (v := (4 : Int32)) hx hb dX7_init_126 (by decide) ?_
  refine lv_icmp_ge (tgt := 145) hx hb dX7_init_127 (by decide) (fun hc => absurd hc (by decide)) (fun _ => ?_)
  refine lv_aload_n hx hb dX7_init_130 rfl (lv_at hl 1 rfl) ?_
  refine i_get X h rfl rfl uX7 0 (by decide) ww_4_51 (v := .ref q8) rfl dX7_init_131 ?_
  refine lv_iconst (v := (5 : Int32)) hx hb dX7_init_134 (by decide) ?_
  refine lv_iload_n hx hb dX7_init_135 rfl (lv_at hl 0 rfl) ?_
  refine lv_iadd hx hb dX7_init_136 ?_
  refine topE (x := (7 : Int32)) (by decide) ?_
  refine lv_iload_n hx hb dX7_init_137 rfl (lv_at hl 0 rfl) ?_
  refine i_ast (k := 7) X h 1 rfl (by decide) (by unfold vp_in; decide) (ws' := [(h0, .inr (7, [.ref q8, .ref q17, .ref q26, .int 0, .ref q34, .ref q41, .ref q48, .ref q56, .ref q64, .int 0, .ref q72, .ref q80, .ref q87, .ref q95, .int 0, .int 0, .int 0, .int 0, .int 0, .ref q103, .ref q111, .int 0, .int 0])), (q8, .inl (cA, 385, .inl (upd (upd (upd (upd (fun _ => 0) 1 1) 5 0) 6 1) 7 2))), (q17, .inl (cA, 385, .inl (fun _ => 0))), (q26, .inl (cA, 385, .inl (fun _ => 0))), (q34, .inl (cA, 7, .inl (fun _ => 0))), (q41, .inl (cA, 4, .inl (fun _ => 0))), (q48, .inl (cA, 4, .inl (fun _ => 0))), (q56, .inl (cA, 96, .inl (fun _ => 0))), (q64, .inl (cA, 100, .inl (fun _ => 0))), (q72, .inl (cA, 60, .inl (fun _ => 0))), (q80, .inl (cA, 60, .inl (fun _ => 0))), (q87, .inl (cA, 3, .inl (fun _ => 0))), (q95, .inl (cA, 60, .inl (fun _ => 0))), (q103, .inl (cA, 8, .inl (fun _ => 0))), (q111, .inl (cA, 30, .inl (fun _ => 0)))]) rfl dX7_init_138 (fun H locs h => ?_)
  refine lv_iinc (v := (3 : Int32)) (lv' := [(1, .int (3 : Int32)), (0, .ref h0)]) hx hb dX7_init_139 hl (k := 0) rfl (by decide) (by decide) rfl (fun ls hl => ?_)
  refine lv_goto (tgt := 125) hx hb dX7_init_142 (by decide) ?_
  refine lv_iload_n hx hb dX7_init_125 rfl (lv_at hl 0 rfl) ?_
  refine lv_iconst (v := (4 : Int32)) hx hb dX7_init_126 (by decide) ?_
  refine lv_icmp_ge (tgt := 145) hx hb dX7_init_127 (by decide) (fun hc => absurd hc (by decide)) (fun _ => ?_)
  refine lv_aload_n hx hb dX7_init_130 rfl (lv_at hl 1 rfl) ?_
  refine i_get X h rfl rfl uX7 0 (by decide) ww_4_51 (v := .ref q8) rfl dX7_init_131 ?_
  refine lv_iconst (v := (5 : Int32)) hx hb dX7_init_134 (by decide) ?_
  refine lv_iload_n hx hb dX7_init_135 rfl (lv_at hl 0 rfl) ?_
  refine lv_iadd hx hb dX7_init_136 ?_
  refine topE (x := (8 : Int32)) (by decide) ?_
  refine lv_iload_n hx hb dX7_init_137 rfl (lv_at hl 0 rfl) ?_
  refine i_ast (k := 8) X h 1 rfl (by decide) (by unfold vp_in; decide) (ws' := [(h0, .inr (7, [.ref q8, .ref q17, .ref q26, .int 0, .ref q34, .ref q41, .ref q48, .ref q56, .ref q64, .int 0, .ref q72, .ref q80, .ref q87, .ref q95, .int 0, .int 0, .int 0, .int 0, .int 0, .ref q103, .ref q111, .int 0, .int 0])), (q8, .inl (cA, 385, .inl (upd (upd (upd (upd (upd (fun _ => 0) 1 1) 5 0) 6 1) 7 2) 8 3))), (q17, .inl (cA, 385, .inl (fun _ => 0))), (q26, .inl (cA, 385, .inl (fun _ => 0))), (q34, .inl (cA, 7, .inl (fun _ => 0))), (q41, .inl (cA, 4, .inl (fun _ => 0))), (q48, .inl (cA, 4, .inl (fun _ => 0))), (q56, .inl (cA, 96, .inl (fun _ => 0))), (q64, .inl (cA, 100, .inl (fun _ => 0))), (q72, .inl (cA, 60, .inl (fun _ => 0))), (q80, .inl (cA, 60, .inl (fun _ => 0))), (q87, .inl (cA, 3, .inl (fun _ => 0))), (q95, .inl (cA, 60, .inl (fun _ => 0))), (q103, .inl (cA, 8, .inl (fun _ => 0))), (q111, .inl (cA, 30, .inl (fun _ => 0)))]) rfl dX7_init_138 (fun H locs h => ?_)
  refine lv_iinc (v := (4 : Int32)) (lv' := [(1, .int (4 : Int32)), (0, .ref h0)]) hx hb dX7_init_139 hl (k := 0) rfl (by decide) (by decide) rfl (fun ls hl => ?_)
  refine lv_goto (tgt := 125) hx hb dX7_init_142 (by decide) ?_
  refine lv_iload_n hx hb dX7_init_125 rfl (lv_at hl 0 rfl) ?_
  refine lv_iconst (v := (4 : Int32)) hx hb dX7_init_126 (by decide) ?_
  refine lv_icmp_ge (tgt := 145) hx hb dX7_init_127 (by decide) (fun _ => ?_) (fun hc => absurd (by decide) hc)
  exact i_ret (ad := fun j => if j = 0 then h0 else if j = 1 then q8 else if j = 2 then q17 else if j = 3 then q26 else if j = 4 then q34 else if j = 5 then q41 else if j = 6 then q48 else if j = 7 then q56 else if j = 8 then q64 else if j = 9 then q72 else if j = 10 then q80 else if j = 11 then q87 else if j = 12 then q95 else if j = 13 then q103 else q111) (μ := m0_X7) X hr hlocks hAe h rfl rfl hw dX7_init_145
