/-! the parser: what both write -/
abbrev pS := Nat × (Bool × List Nat)
def qk (B : Nat → Nat) (m h : Nat) : Nat := if h < m then B h else 999
def qw (a : pS) (v : Nat) : pS := (a.1, a.2.1, a.2.2 ++ [v])
def qm (a : pS) : pS := (a.1 + 1, a.2)
def qb (a : pS) : pS := (a.1, true, a.2.2)
def qL : List (List Nat) := [[115, 100, 102], [119, 104, 121], [], [124], [38], [60, 61, 62], [43, 45], [42, 47, 37], [33, 40], [41]]
def qh (q c : Nat) : Bool := (qL.getD q []).contains c
def qn (u c : Nat) : Nat := if u = 0 then (if c = 115 then 0 else if c = 100 then 1 else if c = 102 then 2 else 3) else (if c = 119 then 0 else if c = 104 then 1 else if c = 121 then 2 else 3)
def qd (c : Nat) : Bool := decide (48 ≤ c) && decide (c ≤ 57)
def qg (B : Nat → Nat) (m : Nat) : Nat → Nat → Nat → Nat × Nat
  | 0, v, h => (v, h)
  | g + 1, v, h => if qd (qk B m h) = true then qg B m g (10 * v + qk B m h - 48) (h + 1) else (v, h)
def qf (B : Nat → Nat) (m u : Nat) (a : pS) : pS := if qn u (qk B m a.1) < 3 then qw (qm a) (10000 + qn u (qk B m a.1)) else if qd (qk B m a.1) = true then ((qg B m 4 0 a.1).2, a.2.1, a.2.2 ++ [(qg B m 4 0 a.1).1]) else qb a
def ql (B : Nat → Nat) (m q : Nat) (f : pS → pS) : Nat → pS → pS
  | 0, a => a
  | g + 1, a => if a.2.1 = false ∧ qh q (qk B m a.1) = true then ql B m q f g (qw (f (qm a)) (20000 + qk B m a.1)) else a
def qr (B : Nat → Nat) (m : Nat) (o : pS → pS) : Nat → pS → pS
  | 0 => o
  | k + 1 => fun a => ql B m (7 - k) (qr B m o k) (if k = 2 then 1 else 60) (qr B m o k a)
def qo (B : Nat → Nat) (m u : Nat) : Nat → pS → pS
  | 0, a => if qh 8 (qk B m a.1) = true then qb a else qf B m u a
  | d + 1, a => if qh 8 (qk B m a.1) = true then (if qk B m a.1 = 33 then qw (qo B m u d (qm a)) 20033 else (if (qr B m (qo B m u d) 5 (qm a)).2.1 = false ∧ qh 9 (qk B m (qr B m (qo B m u d) 5 (qm a)).1) = true then qm (qr B m (qo B m u d) 5 (qm a)) else qb (qr B m (qo B m u d) 5 (qm a)))) else qf B m u a
/-- a piece of words: the pile's height behind it -/
def rn : List Nat → Nat → Option Nat
  | [], h => some h
  | w :: r, h => if w < 10003 then rn r (h + 1) else if w = 20033 then (if h = 0 then none else rn r h) else if h < 2 then none else rn r (h - 1)
theorem rn_app : ∀ (s t : List Nat) (h : Nat), rn (s ++ t) h = (rn s h).bind (rn t)
  | [], t, h => rfl
  | w :: r, t, h => by
    simp only [List.cons_append, rn]
    split
    · exact rn_app r t _
    · split
      · split
        · rfl
        · exact rn_app r t _
      · split
        · rfl
        · exact rn_app r t _
def okw (w : Nat) : Prop := w < 10000 ∨ (∃ i, i < 3 ∧ w = 10000 + i) ∨ w = 20033 ∨ ∃ c, sgn c ∧ w = 20000 + c
def okS (s : List Nat) : Prop := (∀ w, w ∈ s → okw w) ∧ ∀ h, rn s h = some (h + 1)
theorem okS_2 {s t : List Nat} {c : Nat} (hs : okS s) (ht : okS t) (hc : sgn c) : okS (s ++ (t ++ [20000 + c])) := by
  refine ⟨fun w hw => ?_, fun h => ?_⟩
  · rcases List.mem_append.mp hw with h1 | h1
    · exact hs.1 w h1
    · rcases List.mem_append.mp h1 with h2 | h2
      · exact ht.1 w h2
      · rw [List.mem_singleton.mp h2]; exact Or.inr (Or.inr (Or.inr ⟨c, hc, rfl⟩))
  · have hb := sgn_r hc
    have h33 : c ≠ 33 := by rcases hc with rfl | rfl | rfl | rfl | rfl | rfl | rfl | rfl | rfl | rfl <;> decide
    rw [rn_app, hs.2]
    show rn (t ++ [20000 + c]) (h + 1) = some (h + 1)
    rw [rn_app, ht.2]
    show rn [20000 + c] (h + 1 + 1) = some (h + 1)
    simp only [rn]
    rw [if_neg (by omega), if_neg (by omega), if_neg (by omega)]
    rfl
theorem okS_1 {s : List Nat} (hs : okS s) : okS (s ++ [20033]) := by
  refine ⟨fun w hw => ?_, fun h => ?_⟩
  · rcases List.mem_append.mp hw with h1 | h1
    · exact hs.1 w h1
    · rw [List.mem_singleton.mp h1]; exact Or.inr (Or.inr (Or.inl rfl))
  · rw [rn_app, hs.2]
    show rn [20033] (h + 1) = some (h + 1)
    simp only [rn]
    rw [if_neg (by omega), if_pos trivial, if_neg (by omega)]
theorem okS_0 {w : Nat} (hw : w < 10000 ∨ ∃ i, i < 3 ∧ w = 10000 + i) : okS [w] := by
  refine ⟨fun x hx => ?_, fun h => ?_⟩
  · rw [List.mem_singleton.mp hx]
    rcases hw with h1 | h1
    · exact Or.inl h1
    · exact Or.inr (Or.inl h1)
  · simp only [rn]
    rw [if_pos (by rcases hw with h1 | ⟨i, hi, rfl⟩ <;> omega)]
def ES (m : Nat) (a : pS) : Prop := a.1 ≤ m ∧ (a.2.1 = false → a.2.2.length ≤ a.1)
/-- a piece of the parser, from a good state -/
def GP (m : Nat) (F : pS → pS) : Prop := ∀ a : pS, a.2.1 = false → a.1 ≤ m → a.1 ≤ (F a).1 ∧ (F a).1 ≤ m ∧ ((F a).2.1 = false → ∃ s, (F a).2.2 = a.2.2 ++ s ∧ s.length + a.1 ≤ (F a).1 ∧ okS s)
theorem gp_es {m : Nat} {F : pS → pS} (h : GP m F) {a : pS} (h0 : a.2.1 = false) (e : ES m a) : ES m (F a) := by
  obtain ⟨h1, h2, h3⟩ := h a h0 e.1
  refine ⟨h2, fun hb => ?_⟩
  obtain ⟨s, e1, e2, -⟩ := h3 hb
  have := e.2 h0
  rw [e1, List.length_append]
  omega
theorem qk_lt {B : Nat → Nat} {m h : Nat} (hk : qk B m h < 256) : h < m := by
  unfold qk at hk
  by_cases c : h < m
  · exact c
  · rw [if_neg c] at hk; omega
theorem qk_cs {B : Nat → Nat} {m h : Nat} (hB : ∀ i, i < m → B i < 256) : (h < m ∧ qk B m h = B h ∧ qk B m h < 256) ∨ (m ≤ h ∧ qk B m h = 999) := by
  unfold qk
  by_cases c : h < m
  · rw [if_pos c]; exact Or.inl ⟨c, rfl, hB h c⟩
  · rw [if_neg c]; exact Or.inr ⟨by omega, rfl⟩
theorem qh_b {q c : Nat} (h : qh q c = true) : c < 256 := by
  unfold qh at h
  rw [List.contains_iff_mem] at h
  have h1 : ∀ q, q < 10 → ∀ c, c ∈ qL.getD q [] → c < 256 := by decide
  by_cases hq : q < 10
  · exact h1 q hq c h
  · obtain ⟨k, rfl⟩ := Nat.exists_eq_add_of_le (show 10 ≤ q by omega)
    rw [Nat.add_comm] at h
    exact absurd (show c ∈ ([] : List Nat) from h) (by simp)
theorem qh_s {k c : Nat} (hk : k < 5) (h : qh (7 - k) c = true) : sgn c := by
  have hk' : k = 0 ∨ k = 1 ∨ k = 2 ∨ k = 3 ∨ k = 4 := by omega
  unfold qh at h
  rw [List.contains_iff_mem] at h
  unfold sgn
  rcases hk' with rfl | rfl | rfl | rfl | rfl <;> simp [qL] at h <;> omega
theorem gp_ql {B : Nat → Nat} {m k : Nat} {f : pS → pS} (hk : k < 5) (hf : GP m f) : ∀ (g : Nat) (a b : pS), a.2.1 = false → a.1 ≤ m → (a.1 ≤ b.1 ∧ b.1 ≤ m ∧ (b.2.1 = false → ∃ s, b.2.2 = a.2.2 ++ s ∧ s.length + a.1 ≤ b.1 ∧ okS s)) → (a.1 ≤ (ql B m (7 - k) f g b).1 ∧ (ql B m (7 - k) f g b).1 ≤ m ∧ ((ql B m (7 - k) f g b).2.1 = false → ∃ s, (ql B m (7 - k) f g b).2.2 = a.2.2 ++ s ∧ s.length + a.1 ≤ (ql B m (7 - k) f g b).1 ∧ okS s)) := by
  intro g
  induction g with
  | zero => intro a b _ _ h; exact h
  | succ g ih =>
    intro a b ha0 ham h
    unfold ql
    by_cases c : b.2.1 = false ∧ qh (7 - k) (qk B m b.1) = true
    · rw [if_pos c]
      have hs := qh_s hk c.2
      have hlt := qk_lt (qh_b c.2)
      obtain ⟨f1, f2, f3⟩ := hf (qm b) c.1 (show b.1 + 1 ≤ m by omega)
      have f1' : b.1 + 1 ≤ (f (qm b)).1 := f1
      refine ih a _ ha0 ham ⟨show a.1 ≤ (f (qm b)).1 by omega, f2, fun hb => ?_⟩
      obtain ⟨s, e1, e2, e3⟩ := h.2.2 c.1
      obtain ⟨t, g1, g2, g3⟩ := f3 hb
      have g1' : (f (qm b)).2.2 = b.2.2 ++ t := g1
      have g2' : t.length + (b.1 + 1) ≤ (f (qm b)).1 := g2
      refine ⟨s ++ (t ++ [20000 + qk B m b.1]), ?_, ?_, okS_2 e3 g3 hs⟩
      · show (f (qm b)).2.2 ++ [20000 + qk B m b.1] = _
        rw [g1', e1, List.append_assoc, List.append_assoc]
      · show _ ≤ (f (qm b)).1
        simp only [List.length_append, List.length_singleton]
        omega
    · rw [if_neg c]; exact h
theorem gp_qr {B : Nat → Nat} {m : Nat} {o : pS → pS} (ho : GP m o) : ∀ k, k ≤ 5 → GP m (qr B m o k)
  | 0, _ => ho
  | k + 1, hk => by
    have h := gp_qr (B := B) ho k (by omega)
    intro a h0 hm
    exact gp_ql (by omega) h _ a _ h0 hm (h a h0 hm)
theorem qn_b {u c : Nat} (h : qn u c < 3) : c < 256 := by
  unfold qn at h
  repeat' split at h
  all_goals omega
theorem qd_b {c : Nat} : qd c = true ↔ 48 ≤ c ∧ c ≤ 57 := by
  unfold qd
  rw [Bool.and_eq_true, decide_eq_true_iff, decide_eq_true_iff]
theorem gp_qg {B : Nat → Nat} {m : Nat} : ∀ (g v h : Nat), h ≤ m → h ≤ (qg B m g v h).2 ∧ (qg B m g v h).2 ≤ m ∧ (qg B m g v h).1 < (v + 1) * 10 ^ g := by
  intro g
  induction g with
  | zero => intro v h hm; exact ⟨Nat.le_refl _, hm, by simp [qg]⟩
  | succ g ih =>
    intro v h hm
    unfold qg
    by_cases c : qd (qk B m h) = true
    · rw [if_pos c]
      have hq := qd_b.mp c
      have hlt : h < m := qk_lt (B := B) (by omega)
      obtain ⟨i1, i2, i3⟩ := ih (10 * v + qk B m h - 48) (h + 1) (by omega)
      refine ⟨by omega, i2, Nat.lt_of_lt_of_le i3 ?_⟩
      rw [Nat.pow_succ, Nat.mul_comm (10 ^ g) 10, ← Nat.mul_assoc]
      exact Nat.mul_le_mul_right _ (by omega)
    · rw [if_neg c]
      refine ⟨Nat.le_refl _, hm, ?_⟩
      have : 1 ≤ 10 ^ (g + 1) := Nat.pos_of_ne_zero (fun h => absurd (Nat.pow_eq_zero.mp h).1 (by decide))
      calc v < (v + 1) * 1 := by omega
        _ ≤ (v + 1) * 10 ^ (g + 1) := Nat.mul_le_mul_left _ this
theorem gp_qf {B : Nat → Nat} {m u : Nat} : GP m (qf B m u) := by
  intro a h0 hm
  unfold qf
  by_cases c : qn u (qk B m a.1) < 3
  · rw [if_pos c]
    have hlt := qk_lt (qn_b c)
    refine ⟨show a.1 ≤ a.1 + 1 by omega, show a.1 + 1 ≤ m by omega, fun _ => ⟨_, rfl, ?_, okS_0 (Or.inr ⟨_, c, rfl⟩)⟩⟩
    show 1 + a.1 ≤ a.1 + 1
    omega
  · rw [if_neg c]
    by_cases d : qd (qk B m a.1) = true
    · rw [if_pos d]
      have hq := qd_b.mp d
      have hlt : a.1 < m := qk_lt (B := B) (by omega)
      have g4 := gp_qg (B := B) (m := m) 4 0 a.1 hm
      have g3 := gp_qg (B := B) (m := m) 3 (10 * 0 + qk B m a.1 - 48) (a.1 + 1) (by omega)
      have e : qg B m 4 0 a.1 = qg B m 3 (10 * 0 + qk B m a.1 - 48) (a.1 + 1) := by
        conv => lhs; unfold qg
        rw [if_pos d]
      refine ⟨g4.1, g4.2.1, fun _ => ⟨_, rfl, ?_, okS_0 (Or.inl ?_)⟩⟩
      · show 1 + a.1 ≤ (qg B m 4 0 a.1).2
        rw [e]; omega
      · have := g4.2.2
        omega
    · rw [if_neg d]
      exact ⟨Nat.le_refl _, hm, fun hb => absurd hb (by show ¬ true = false; decide)⟩
theorem gp_qo {B : Nat → Nat} {m u : Nat} : ∀ d, GP m (qo B m u d)
  | 0 => by
    intro a h0 hm
    unfold qo
    by_cases c : qh 8 (qk B m a.1) = true
    · rw [if_pos c]
      exact ⟨Nat.le_refl _, hm, fun hb => absurd hb (by show ¬ true = false; decide)⟩
    · rw [if_neg c]; exact gp_qf a h0 hm
  | d + 1 => by
    have ih := gp_qo (B := B) (m := m) (u := u) d
    intro a h0 hm
    unfold qo
    by_cases c : qh 8 (qk B m a.1) = true
    · rw [if_pos c]
      have hlt := qk_lt (qh_b c)
      by_cases e : qk B m a.1 = 33
      · rw [if_pos e]
        obtain ⟨i1, i2, i3⟩ := ih (qm a) h0 (show a.1 + 1 ≤ m by omega)
        have i1' : a.1 + 1 ≤ (qo B m u d (qm a)).1 := i1
        refine ⟨show a.1 ≤ (qo B m u d (qm a)).1 by omega, i2, fun hb => ?_⟩
        obtain ⟨s, e1, e2, e3⟩ := i3 hb
        have e1' : (qo B m u d (qm a)).2.2 = a.2.2 ++ s := e1
        have e2' : s.length + (a.1 + 1) ≤ (qo B m u d (qm a)).1 := e2
        refine ⟨s ++ [20033], ?_, ?_, okS_1 e3⟩
        · show (qo B m u d (qm a)).2.2 ++ [20033] = _
          rw [e1', List.append_assoc]
        · show _ ≤ (qo B m u d (qm a)).1
          simp only [List.length_append, List.length_singleton]
          omega
      · rw [if_neg e]
        obtain ⟨i1, i2, i3⟩ := gp_qr (B := B) ih 5 (by omega) (qm a) h0 (show a.1 + 1 ≤ m by omega)
        have i1' : a.1 + 1 ≤ (qr B m (qo B m u d) 5 (qm a)).1 := i1
        by_cases f : (qr B m (qo B m u d) 5 (qm a)).2.1 = false ∧ qh 9 (qk B m (qr B m (qo B m u d) 5 (qm a)).1) = true
        · rw [if_pos f]
          have hlt2 := qk_lt (qh_b f.2)
          obtain ⟨s, e1, e2, e3⟩ := i3 f.1
          have e2' : s.length + (a.1 + 1) ≤ (qr B m (qo B m u d) 5 (qm a)).1 := e2
          refine ⟨show a.1 ≤ (qr B m (qo B m u d) 5 (qm a)).1 + 1 by omega, show (qr B m (qo B m u d) 5 (qm a)).1 + 1 ≤ m by omega, fun _ => ⟨s, e1, ?_, e3⟩⟩
          show _ ≤ (qr B m (qo B m u d) 5 (qm a)).1 + 1
          omega
        · rw [if_neg f]
          exact ⟨show a.1 ≤ (qr B m (qo B m u d) 5 (qm a)).1 by omega, i2, fun hb => absurd hb (by show ¬ true = false; decide)⟩
    · rw [if_neg c]; exact gp_qf a h0 hm
