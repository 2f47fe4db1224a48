/-! carry: what is of another field changes nothing; all home is the most -/
def fs (f : Int32) (ρ ρ' : Nat → Int32) : Prop := (∀ i, (∀ b, b < 8 → i ≠ 22 + 5 * b) → ρ' i = ρ i) ∧ ∀ b, b < 8 → ρ (21 + 5 * b) = f → ρ' (22 + 5 * b) = ρ (22 + 5 * b)
theorem pl_cg {ρ ρ' : Nat → Int32} {at_ : Nat} {a b c : Int32} (h : ∀ i, at_ ≤ i → ρ' i = ρ i) : ∀ k, pl ρ' at_ a b c k = pl ρ at_ a b c k ∧ hg ρ' at_ k = hg ρ at_ k
  | 0 => ⟨rfl, rfl⟩
  | k + 1 => by
    obtain ⟨h1, h2⟩ := pl_cg (a := a) (b := b) (c := c) h k
    simp only [pl, hg]
    rw [h1, h2, h (at_ + 1 + k) (by omega), h (at_ + 61 + k) (by omega)]
    exact ⟨rfl, rfl⟩
theorem gv_cg {ρ ρ' : Nat → Int32} {at_ : Nat} {m a b c : Int32} (h : ∀ i, at_ ≤ i → ρ' i = ρ i) : gv ρ' at_ m a b c = gv ρ at_ m a b c := by
  unfold gv
  rw [h at_ (Nat.le_refl _), (pl_cg (a := a) (b := b) (c := c) h _).1]
theorem zF_cg {ρ ρ' : Nat → Int32} {b : Nat} (h : ∀ i, (∀ b, b < 8 → i ≠ 22 + 5 * b) → ρ' i = ρ i) (hb : b < 8) : zF ρ' b = zF ρ b := by
  unfold zF; rw [h (19 + 5 * b) (by omega), h (20 + 5 * b) (by omega), h (23 + 5 * b) (by omega)]
theorem uF_cg {ρ ρ' : Nat → Int32} {b : Nat} (h : ∀ i, (∀ b, b < 8 → i ≠ 22 + 5 * b) → ρ' i = ρ i) (hb : b < 8) : uF ρ' b = uF ρ b := by
  unfold uF; rw [zF_cg h hb, gv_cg (fun i hi => h i (by omega)), h (23 + 5 * b) (by omega), h 0 (by omega)]
theorem gF_fs {f : Int32} {ρ ρ' : Nat → Int32} {b : Nat} (o : ok ρ) (h : fs f ρ ρ') (hb : b < 8) : gF ρ' b = gF ρ b := by
  obtain ⟨f', p, q, hf, hp, hq, e1, e2, e3, e4, d⟩ := ok_b o hb
  unfold gF
  rw [h.1 (21 + 5 * b) (by omega), e1, nI_clamp (by omega), h.1 (5 + f') (by omega)]
theorem dF_fs {f : Int32} {ρ ρ' : Nat → Int32} {b : Nat} (o : ok ρ) (h : fs f ρ ρ') (hb : b < 8) (hf : ρ (21 + 5 * b) = f) : dF ρ' b = dF ρ b := by
  obtain ⟨f', p, q, hf', hp, hq, e1, e2, e3, e4, d⟩ := ok_b o hb
  unfold dF
  rw [gF_fs o h hb, h.2 b hb hf, e2, e3, nI_clamp (by omega), nI_clamp (by omega)]
  exact df_cg (fun i _ _ => h.1 i (by omega)) hp
theorem cF_fs {f : Int32} {ρ ρ' : Nat → Int32} {b n : Nat} (h : fs f ρ ρ') (hb : b < 8) (hn : n < 9) (hf : ρ (21 + 5 * b) = f) : cG ρ' n b = cG ρ n b := by
  have key : cF ρ' n b ↔ cF ρ n b := by
    have one : ∀ a, a < n → (co ρ' b a ↔ co ρ b a) := by
      intro a ha
      unfold co
      rw [h.1 (21 + 5 * a) (by omega), h.1 (21 + 5 * b) (by omega), h.2 b hb hf]
      constructor
      · rintro ⟨h1, h2, h3⟩; exact ⟨h1, h2, by rw [← h.2 a (by omega) (by rw [h2]; exact hf)]; exact h3⟩
      · rintro ⟨h1, h2, h3⟩; exact ⟨h1, h2, by rw [h.2 a (by omega) (by rw [h2]; exact hf)]; exact h3⟩
    constructor
    · rintro ⟨a, h1, h2⟩; exact ⟨a, h1, (one a h1).mp h2⟩
    · rintro ⟨a, h1, h2⟩; exact ⟨a, h1, (one a h1).mpr h2⟩
  by_cases c : cF ρ n b
  · rw [cG_1 c, cG_1 (key.mpr c)]
  · rw [cG_0 c, cG_0 (fun z => c (key.mp z))]
theorem sF_fs {f : Int32} {ρ ρ' : Nat → Int32} {b : Nat} (o : ok ρ) (h : fs f ρ ρ') (hb : b < 8) (hf : ρ (21 + 5 * b) = f) : sF ρ' b = sF ρ b := by
  obtain ⟨n, hn, e⟩ := ok_n o
  have hw : wF ρ' b = wF ρ b := by
    unfold wF
    rw [h.1 (19 + 5 * b) (by omega), h.1 (20 + 5 * b) (by omega), h.1 0 (by omega), h.1 2 (by omega), e, nI_clamp (by omega), cF_fs h hb hn hf]
  unfold sF
  rw [hw, dF_fs o h hb hf, gv_cg (fun i hi => h.1 i (by omega)), h.1 0 (by omega)]
theorem nw_fs {f : Int32} {ρ ρ' : Nat → Int32} {b : Nat} (o : ok ρ) (h : fs f ρ ρ') (hb : b < 8) (hf : ρ (21 + 5 * b) = f) : nw ρ' b = nw ρ b := by
  obtain ⟨f', p, q, hf', hp, hq, e1, e2, e3, e4, d⟩ := ok_b o hb
  unfold nw
  rw [dF_fs o h hb hf, sF_fs o h hb hf, gF_fs o h hb, h.2 b hb hf]
  by_cases c : dF ρ b = 99
  · rw [if_pos c, if_pos c]
  · rw [if_neg c, if_neg c, e2, e3, nI_clamp (by omega), nI_clamp (by omega)]
    rw [wl_cg (fun i _ _ => h.1 i (by omega)) _ p hp (Or.inr (by rw [df_eq d]; exact c))]
theorem goF_at {ρ : Nat → Int32} {b n : Nat} (hn : n < 9) (e : ρ 2 = nI n) : goF ρ (22 + 5 * b) = if b < n then nw ρ b else ρ (22 + 5 * b) := by
  unfold goF
  rw [upd_ne (by omega), e, nI_clamp (by omega)]
  by_cases c : b < n
  · rw [if_pos c, mid_in n c]
  · rw [if_neg c, mid_at (by omega)]
theorem goF_ne {ρ : Nat → Int32} {i n : Nat} (hn : n < 9) (e : ρ 2 = nI n) (h : ∀ b, b < 8 → i ≠ 22 + 5 * b) : goF ρ i = if i = 0 then ρ 0 + 1 else ρ i := by
  unfold goF
  by_cases c : i = 0
  · subst c; rw [if_pos rfl, upd_eq]
  · rw [if_neg c, upd_ne c, e, nI_clamp (by omega), mid_ne n (fun a ha => h a (by omega))]
theorem fs_go {f : Int32} {ρ ρ' : Nat → Int32} (o : ok ρ) (h : fs f ρ ρ') : fs f (goF ρ) (goF ρ') := by
  obtain ⟨n, hn, e⟩ := ok_n o
  have e' : ρ' 2 = nI n := by rw [h.1 2 (by omega)]; exact e
  refine ⟨fun i hi => ?_, fun b hb hf => ?_⟩
  · rw [goF_ne hn e hi, goF_ne hn e' hi, h.1 i hi, h.1 0 (by omega)]
  · rw [goF_ne hn e (by omega), if_neg (by omega)] at hf
    rw [goF_at hn e, goF_at hn e', nw_fs o h hb hf, h.2 b hb hf]
theorem fs_it {f : Int32} : ∀ (k : Nat) {ρ ρ' : Nat → Int32}, ok ρ → fs f ρ ρ' → fs f (it k ρ) (it k ρ')
  | 0, _, _, _, h => h
  | k + 1, ρ, ρ', o, h => by rw [it_succ, it_succ]; exact fs_go (it_ok k o) (fs_it k o h)
theorem got_fs {f : Int32} {ρ ρ' : Nat → Int32} (o : ok ρ) (h : fs f ρ ρ') : ∀ k, k ≤ 8 → got ρ' f k = got ρ f k
  | 0, _ => rfl
  | k + 1, hk => by
    have ih := got_fs o h k (by omega)
    have e : ρ' (21 + 5 * k) = ρ (21 + 5 * k) := h.1 _ (by omega)
    simp only [got]
    by_cases c : ρ (21 + 5 * k) = f
    · have : (ρ' (21 + 5 * k) = f ∧ atH ρ' k) ↔ (ρ (21 + 5 * k) = f ∧ atH ρ k) := by
        unfold atH; rw [e, h.2 k (by omega) c, gF_fs o h (by omega)]
      simp only [this, ih, uF_cg h.1 (show k < 8 by omega)]
    · rw [if_neg (fun z => c (e ▸ z.1)), if_neg (fun z => c z.1), ih]
-- those of a set are home
noncomputable def put (s : Nat) (ρ : Nat → Int32) : Nat → Nat → Int32
  | 0 => ρ
  | k + 1 => upd (put s ρ k) (22 + 5 * k) (if bt (nI s) k = true then gF ρ k else ρ (22 + 5 * k))
theorem put_ne {s : Nat} {ρ : Nat → Int32} {i : Nat} : ∀ k, (∀ a, a < k → i ≠ 22 + 5 * a) → put s ρ k i = ρ i
  | 0, _ => rfl
  | k + 1, h => by
    simp only [put]
    rw [upd_ne (h k (by omega))]
    exact put_ne k (fun a ha => h a (by omega))
theorem put_in {s : Nat} {ρ : Nat → Int32} {b : Nat} : ∀ k, b < k → put s ρ k (22 + 5 * b) = if bt (nI s) b = true then gF ρ b else ρ (22 + 5 * b)
  | 0, h => absurd h (by omega)
  | k + 1, h => by
    simp only [put]
    by_cases e : b = k
    · subst e; rw [upd_eq]
    · rw [upd_ne (by omega)]; exact put_in k (by omega)
theorem put_sm {s : Nat} {ρ : Nat → Int32} {k : Nat} (hk : k ≤ 8) : sm0 ρ (put s ρ k) := fun i hi => put_ne k (fun a ha => by omega)
theorem ok_put {s : Nat} {ρ : Nat → Int32} (o : ok ρ) : ∀ k, k ≤ 8 → ok (put s ρ k)
  | 0, _ => o
  | k + 1, h => by
    simp only [put]
    obtain ⟨f', p, q, hf', hp, hq, e1, e2, e3, e4, d⟩ := ok_b (b := k) o (by omega)
    refine ok_at (by omega) ?_ (ok_put o k (by omega))
    split
    · exact ⟨q, hq, e3⟩
    · exact ⟨p, hp, e2⟩
noncomputable def val (ρ : Nat → Int32) (f : Int32) (n k s : Nat) : Int32 := got (it k (put s ρ n)) f n
theorem val_fs {ρ : Nat → Int32} {f : Int32} {n k s s' : Nat} (o : ok ρ) (hn : n < 9) (h : ∀ b, b < n → ρ (21 + 5 * b) = f → ¬ atH ρ b → bt (nI s') b = bt (nI s) b) : val ρ f n k s' = val ρ f n k s := by
  unfold val
  have op := ok_put (s := s) o n (by omega)
  refine got_fs (it_ok k op) (fs_it k op ⟨fun i hi => ?_, fun b hb hf => ?_⟩) n (by omega)
  · rw [put_ne n (fun a ha => hi a (by omega)), put_ne n (fun a ha => hi a (by omega))]
  · rw [put_ne n (fun a ha => by omega)] at hf
    by_cases c : b < n
    · rw [put_in n c, put_in n c]
      by_cases ch : atH ρ b
      · unfold atH at ch
        split <;> split <;> simp_all
      · rw [h b c hf ch]
    · rw [put_ne n (fun a ha => by omega), put_ne n (fun a ha => by omega)]
-- all home is the most
noncomputable def uNt (ρ : Nat → Int32) (b : Nat) : Nat := (uF ρ b).toNatClampNeg
theorem uNt_e (ρ : Nat → Int32) (b : Nat) : uF ρ b = nI (uNt ρ b) ∧ uNt ρ b ≤ 99 := by
  obtain ⟨k, hk, e⟩ := uF_99 ρ b
  unfold uNt
  rw [e, nI_clamp (by omega)]; exact ⟨rfl, hk⟩
noncomputable def gtN (ρ : Nat → Int32) (f : Int32) : Nat → Nat
  | 0 => 0
  | k + 1 => if ρ (21 + 5 * k) = f ∧ atH ρ k then gtN ρ f k + uNt ρ k else gtN ρ f k
noncomputable def tN (ρ : Nat → Int32) (f : Int32) : Nat → Nat
  | 0 => 0
  | k + 1 => if ρ (21 + 5 * k) = f then tN ρ f k + uNt ρ k else tN ρ f k
theorem got_n (ρ : Nat → Int32) (f : Int32) : ∀ k, got ρ f k = nI (gtN ρ f k)
  | 0 => rfl
  | k + 1 => by
    simp only [got, gtN]
    split
    · rw [got_n ρ f k, (uNt_e ρ k).1, nI_add]
    · exact got_n ρ f k
theorem tN_le (ρ : Nat → Int32) (f : Int32) : ∀ k, tN ρ f k ≤ 99 * k
  | 0 => Nat.le_refl _
  | k + 1 => by
    have := tN_le ρ f k
    have := (uNt_e ρ k).2
    simp only [tN]
    split <;> omega
theorem gtN_le (ρ : Nat → Int32) (f : Int32) : ∀ k, gtN ρ f k ≤ tN ρ f k
  | 0 => Nat.le_refl _
  | k + 1 => by
    have := gtN_le ρ f k
    simp only [gtN, tN]
    by_cases c : ρ (21 + 5 * k) = f
    · rw [if_pos c]; split <;> omega
    · rw [if_neg c, if_neg (fun z => c z.1)]; exact this
theorem gtN_all {ρ : Nat → Int32} {f : Int32} : ∀ k, (∀ b, b < k → ρ (21 + 5 * b) = f → atH ρ b) → gtN ρ f k = tN ρ f k
  | 0, _ => rfl
  | k + 1, h => by
    have := gtN_all (ρ := ρ) (f := f) k (fun b hb => h b (by omega))
    simp only [gtN, tN]
    by_cases c : ρ (21 + 5 * k) = f
    · rw [if_pos c, if_pos ⟨c, h k (by omega) c⟩, this]
    · rw [if_neg c, if_neg (fun z => c z.1)]; exact this
theorem tN_cg {ρ ρ' : Nat → Int32} {f : Int32} (h : ∀ i, (∀ b, b < 8 → i ≠ 22 + 5 * b) → ρ' i = ρ i) : ∀ k, k ≤ 8 → tN ρ' f k = tN ρ f k
  | 0, _ => rfl
  | k + 1, hk => by
    have := tN_cg (f := f) h k (by omega)
    simp only [tN]
    rw [this, h (21 + 5 * k) (by omega)]
    unfold uNt
    rw [uF_cg h (by omega)]
theorem at_go {ρ : Nat → Int32} (o : ok ρ) {b : Nat} (hb : b < 8) (h : atH ρ b) : atH (goF ρ) b := by
  obtain ⟨n, hn, e⟩ := ok_n o
  obtain ⟨f', p, q, hf', hp, hq, e1, e2, e3, e4, d⟩ := ok_b o hb
  unfold atH at h ⊢
  rw [gF_sm (sm0_go o) o hb, goF_at hn e]
  split
  · have pq : p = q := by rw [e2, e3] at h; exact (nI_eq (by omega) (by omega)).mp h
    unfold nw
    split
    · exact h
    · rw [e2, e3, nI_clamp (by omega), nI_clamp (by omega), pq, wl_q]
  · exact h
theorem at_it {ρ : Nat → Int32} (o : ok ρ) {b : Nat} (hb : b < 8) (h : atH ρ b) : ∀ k, atH (it k ρ) b
  | 0 => h
  | k + 1 => by rw [it_succ]; exact at_go (it_ok k o) hb (at_it o hb h k)
theorem it_cg : ∀ (k : Nat) {ρ ρ' : Nat → Int32}, ok ρ → ok ρ' → (∀ i, (∀ b, b < 8 → i ≠ 22 + 5 * b) → ρ' i = ρ i) → ∀ i, (∀ b, b < 8 → i ≠ 22 + 5 * b) → it k ρ' i = it k ρ i
  | 0, _, _, _, _, h => h
  | k + 1, ρ, ρ', o, o', h => by
    intro i hi
    have ih := it_cg k o o' h
    obtain ⟨n, hn, e⟩ := ok_n (it_ok k o)
    rw [it_succ, it_succ, goF_ne hn e hi, goF_ne hn (by rw [ih 2 (by omega)]; exact e) hi, ih i hi, ih 0 (by omega)]
theorem val_max {ρ : Nat → Int32} {f : Int32} {n k s A : Nat} (o : ok ρ) (hn : n < 9) (h : ∀ b, b < n → ρ (21 + 5 * b) = f → ¬ atH ρ b → bt (nI A) b = true) : val ρ f n k s ≤ val ρ f n k A := by
  have os := ok_put (s := s) o n (by omega)
  have oA := ok_put (s := A) o n (by omega)
  unfold val
  rw [got_n, got_n]
  have e1 : gtN (it k (put A ρ n)) f n = tN (it k (put A ρ n)) f n := by
    refine gtN_all n fun b hb hf => at_it oA (by omega) ?_ k
    rw [it_sm k oA (21 + 5 * b) (by omega), put_ne n (fun a ha => by omega)] at hf
    unfold atH
    rw [gF_sm (put_sm (by omega)) o (by omega), put_in n hb]
    by_cases c : atH ρ b
    · unfold atH at c; split <;> simp_all
    · rw [if_pos (h b hb hf c)]
  have e2 : tN (it k (put A ρ n)) f n = tN (it k (put s ρ n)) f n := by
    refine tN_cg (it_cg k os oA fun i hi => ?_) n (by omega)
    rw [put_ne n (fun a ha => hi a (by omega)), put_ne n (fun a ha => hi a (by omega))]
  rw [e1, e2]
  have := tN_le (it k (put s ρ n)) f n
  exact nI_le (gtN_le _ _ _) (by omega)
