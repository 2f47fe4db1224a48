/-! kinds: what stands at a place (written by wip/whole/gen/gen.py) -/
def isX0 (G : vG) (j : Nat) : Prop := gt G j = .inr (0, [none, none, some (some (j + 1)), some (some (j + 2)), some (some (j + 3)), some (some (j + 4)), some (some (j + 5)), some (some (j + 6))]) ∧ gt G (j + 1) = .inl 8 ∧ gt G (j + 2) = .inl 8 ∧ gt G (j + 3) = .inl 8 ∧ gt G (j + 4) = .inl 8 ∧ gt G (j + 5) = .inl 8 ∧ gt G (j + 6) = .inl 4 ∧ (j + 6) < gN G
theorem X0_o {G : vG} {j : Nat} (h : isX0 G j) : gt G j = .inr (0, [none, none, some (some (j + 1)), some (some (j + 2)), some (some (j + 3)), some (some (j + 4)), some (some (j + 5)), some (some (j + 6))]) ∧ j < gN G := ⟨h.1, by have := h.2.2.2.2.2.2.2; omega⟩
theorem X0_kind {G : vG} {j : Nat} (h : isX0 G j) : gt G (j + 1) = .inl 8 ∧ (j + 1) < gN G := ⟨h.2.1, by have := h.2.2.2.2.2.2.2; omega⟩
theorem X0_m {G : vG} {j : Nat} (h : isX0 G j) : gt G (j + 2) = .inl 8 ∧ (j + 2) < gN G := ⟨h.2.2.1, by have := h.2.2.2.2.2.2.2; omega⟩
theorem X0_of {G : vG} {j : Nat} (h : isX0 G j) : gt G (j + 3) = .inl 8 ∧ (j + 3) < gN G := ⟨h.2.2.2.1, by have := h.2.2.2.2.2.2.2; omega⟩
theorem X0_at {G : vG} {j : Nat} (h : isX0 G j) : gt G (j + 4) = .inl 8 ∧ (j + 4) < gN G := ⟨h.2.2.2.2.1, by have := h.2.2.2.2.2.2.2; omega⟩
theorem X0_heard {G : vG} {j : Nat} (h : isX0 G j) : gt G (j + 5) = .inl 8 ∧ (j + 5) < gN G := ⟨h.2.2.2.2.2.1, by have := h.2.2.2.2.2.2.2; omega⟩
theorem X0_fieldAt {G : vG} {j : Nat} (h : isX0 G j) : gt G (j + 6) = .inl 4 ∧ (j + 6) < gN G := ⟨h.2.2.2.2.2.2.1, by have := h.2.2.2.2.2.2.2; omega⟩
def isX1 (G : vG) (j : Nat) : Prop := gt G j = .inr (1, [some none, none, some (some (j + 1)), some (some (j + 2)), none]) ∧ gt G (j + 1) = .inl 60 ∧ gt G (j + 2) = .inl 60 ∧ (j + 2) < gN G
theorem X1_o {G : vG} {j : Nat} (h : isX1 G j) : gt G j = .inr (1, [some none, none, some (some (j + 1)), some (some (j + 2)), none]) ∧ j < gN G := ⟨h.1, by have := h.2.2.2; omega⟩
theorem X1_code {G : vG} {j : Nat} (h : isX1 G j) : gt G (j + 1) = .inl 60 ∧ (j + 1) < gN G := ⟨h.2.1, by have := h.2.2.2; omega⟩
theorem X1_stack {G : vG} {j : Nat} (h : isX1 G j) : gt G (j + 2) = .inl 60 ∧ (j + 2) < gN G := ⟨h.2.2.1, by have := h.2.2.2; omega⟩
def isX2 (G : vG) (j : Nat) : Prop := gt G j = .inr (2, [some (some (j + 1)), none, some (some (j + 2)), none, some none, none, none]) ∧ gt G (j + 1) = .inl 60 ∧ gt G (j + 2) = .inl 60 ∧ (j + 2) < gN G
theorem X2_o {G : vG} {j : Nat} (h : isX2 G j) : gt G j = .inr (2, [some (some (j + 1)), none, some (some (j + 2)), none, some none, none, none]) ∧ j < gN G := ⟨h.1, by have := h.2.2.2; omega⟩
theorem X2_code {G : vG} {j : Nat} (h : isX2 G j) : gt G (j + 1) = .inl 60 ∧ (j + 1) < gN G := ⟨h.2.1, by have := h.2.2.2; omega⟩
theorem X2_tape {G : vG} {j : Nat} (h : isX2 G j) : gt G (j + 2) = .inl 60 ∧ (j + 2) < gN G := ⟨h.2.2.1, by have := h.2.2.2; omega⟩
def isX3 (G : vG) (j : Nat) : Prop := gt G j = .inr (3, [some (some (j + 1)), some (some (j + 2))]) ∧ gt G (j + 1) = .inl 10 ∧ gt G (j + 2) = .inl 100 ∧ (j + 2) < gN G
theorem X3_o {G : vG} {j : Nat} (h : isX3 G j) : gt G j = .inr (3, [some (some (j + 1)), some (some (j + 2))]) ∧ j < gN G := ⟨h.1, by have := h.2.2.2; omega⟩
theorem X3_ways {G : vG} {j : Nat} (h : isX3 G j) : gt G (j + 1) = .inl 10 ∧ (j + 1) < gN G := ⟨h.2.1, by have := h.2.2.2; omega⟩
theorem X3_far {G : vG} {j : Nat} (h : isX3 G j) : gt G (j + 2) = .inl 100 ∧ (j + 2) < gN G := ⟨h.2.2.1, by have := h.2.2.2; omega⟩
def isX4 (G : vG) (j : Nat) : Prop := gt G j = .inr (4, [some (some (j + 1)), some (some (j + 2)), some (some (j + 3))]) ∧ gt G (j + 1) = .inl 4 ∧ gt G (j + 2) = .inl 4 ∧ gt G (j + 3) = .inl 96 ∧ (j + 3) < gN G
theorem X4_o {G : vG} {j : Nat} (h : isX4 G j) : gt G j = .inr (4, [some (some (j + 1)), some (some (j + 2)), some (some (j + 3))]) ∧ j < gN G := ⟨h.1, by have := h.2.2.2.2; omega⟩
theorem X4_bits {G : vG} {j : Nat} (h : isX4 G j) : gt G (j + 1) = .inl 4 ∧ (j + 1) < gN G := ⟨h.2.1, by have := h.2.2.2.2; omega⟩
theorem X4_length {G : vG} {j : Nat} (h : isX4 G j) : gt G (j + 2) = .inl 4 ∧ (j + 2) < gN G := ⟨h.2.2.1, by have := h.2.2.2.2; omega⟩
theorem X4_numbers {G : vG} {j : Nat} (h : isX4 G j) : gt G (j + 3) = .inl 96 ∧ (j + 3) < gN G := ⟨h.2.2.2.1, by have := h.2.2.2.2; omega⟩
def isX5 (G : vG) (j : Nat) : Prop := gt G j = .inr (5, [some (some (j + 1)), some (some (j + 4)), some (some (j + 11)), some (some (j + 14)), some (some (j + 17)), none, some (some (j + 18)), none, none]) ∧ isX3 G (j + 1) ∧ isX0 G (j + 4) ∧ isX1 G (j + 11) ∧ isX1 G (j + 14) ∧ gt G (j + 17) = .inl 60 ∧ gt G (j + 18) = .inl 24 ∧ (j + 18) < gN G
theorem X5_o {G : vG} {j : Nat} (h : isX5 G j) : gt G j = .inr (5, [some (some (j + 1)), some (some (j + 4)), some (some (j + 11)), some (some (j + 14)), some (some (j + 17)), none, some (some (j + 18)), none, none]) ∧ j < gN G := ⟨h.1, by have := h.2.2.2.2.2.2.2; omega⟩
theorem X5_roads {G : vG} {j : Nat} (h : isX5 G j) : isX3 G (j + 1) := h.2.1
theorem X5_harvest {G : vG} {j : Nat} (h : isX5 G j) : isX0 G (j + 4) := h.2.2.1
theorem X5_steps {G : vG} {j : Nat} (h : isX5 G j) : isX1 G (j + 11) := h.2.2.2.1
theorem X5_worth {G : vG} {j : Nat} (h : isX5 G j) : isX1 G (j + 14) := h.2.2.2.2.1
theorem X5_tape {G : vG} {j : Nat} (h : isX5 G j) : gt G (j + 17) = .inl 60 ∧ (j + 17) < gN G := ⟨h.2.2.2.2.2.1, by have := h.2.2.2.2.2.2.2; omega⟩
theorem X5_waiting {G : vG} {j : Nat} (h : isX5 G j) : gt G (j + 18) = .inl 24 ∧ (j + 18) < gN G := ⟨h.2.2.2.2.2.2.1, by have := h.2.2.2.2.2.2.2; omega⟩
def isX6 (G : vG) : Prop := gt G 0 = .inr (6, [some (some 1), some (some 20), none, some (some 39), some (some 46), some (some 49), some (some 50), some (some 53), some (some 57), some (some 58), none, none]) ∧ isX5 G 1 ∧ isX5 G 20 ∧ isX0 G 39 ∧ isX3 G 46 ∧ gt G 49 = .inl 8 ∧ isX2 G 50 ∧ isX4 G 53 ∧ gt G 57 = .inl 7 ∧ gt G 58 = .inl 30 ∧ 58 < gN G
theorem X6_o {G : vG} (h : isX6 G) : gt G 0 = .inr (6, [some (some 1), some (some 20), none, some (some 39), some (some 46), some (some 49), some (some 50), some (some 53), some (some 57), some (some 58), none, none]) ∧ 0 < gN G := ⟨h.1, by have := h.2.2.2.2.2.2.2.2.2.2; omega⟩
theorem X6_now {G : vG} (h : isX6 G) : isX5 G 1 := h.2.1
theorem X6_kept {G : vG} (h : isX6 G) : isX5 G 20 := h.2.2.1
theorem X6_thought {G : vG} (h : isX6 G) : isX0 G 39 := h.2.2.2.1
theorem X6_trial {G : vG} (h : isX6 G) : isX3 G 46 := h.2.2.2.2.1
theorem X6_paces {G : vG} (h : isX6 G) : gt G 49 = .inl 8 ∧ 49 < gN G := ⟨h.2.2.2.2.2.1, by have := h.2.2.2.2.2.2.2.2.2.2; omega⟩
theorem X6_reader {G : vG} (h : isX6 G) : isX2 G 50 := h.2.2.2.2.2.2.1
theorem X6_sheets {G : vG} (h : isX6 G) : isX4 G 53 := h.2.2.2.2.2.2.2.1
theorem X6_errors {G : vG} (h : isX6 G) : gt G 57 = .inl 7 ∧ 57 < gN G := ⟨h.2.2.2.2.2.2.2.2.1, by have := h.2.2.2.2.2.2.2.2.2.2; omega⟩
theorem X6_trace {G : vG} (h : isX6 G) : gt G 58 = .inl 30 ∧ 58 < gN G := ⟨h.2.2.2.2.2.2.2.2.2.1, by have := h.2.2.2.2.2.2.2.2.2.2; omega⟩
def isX7 (G : vG) : Prop := gt G 0 = .inr (7, [some (some 1), some (some 2), some (some 3), none, some (some 4), some (some 5), some (some 6), some (some 7), some (some 8), none, some (some 9), some (some 10), some (some 11), some (some 12), none, none, none, none, none, some (some 13), some (some 14), none, none]) ∧ gt G 1 = .inl 385 ∧ gt G 2 = .inl 385 ∧ gt G 3 = .inl 385 ∧ gt G 4 = .inl 7 ∧ gt G 5 = .inl 4 ∧ gt G 6 = .inl 4 ∧ gt G 7 = .inl 96 ∧ gt G 8 = .inl 100 ∧ gt G 9 = .inl 60 ∧ gt G 10 = .inl 60 ∧ gt G 11 = .inl 3 ∧ gt G 12 = .inl 60 ∧ gt G 13 = .inl 8 ∧ gt G 14 = .inl 30 ∧ 14 < gN G
theorem X7_o {G : vG} (h : isX7 G) : gt G 0 = .inr (7, [some (some 1), some (some 2), some (some 3), none, some (some 4), some (some 5), some (some 6), some (some 7), some (some 8), none, some (some 9), some (some 10), some (some 11), some (some 12), none, none, none, none, none, some (some 13), some (some 14), none, none]) ∧ 0 < gN G := ⟨h.1, by have := h.2.2.2.2.2.2.2.2.2.2.2.2.2.2.2; omega⟩
theorem X7_row {G : vG} (h : isX7 G) : gt G 1 = .inl 385 ∧ 1 < gN G := ⟨h.2.1, by have := h.2.2.2.2.2.2.2.2.2.2.2.2.2.2.2; omega⟩
theorem X7_kept {G : vG} (h : isX7 G) : gt G 2 = .inl 385 ∧ 2 < gN G := ⟨h.2.2.1, by have := h.2.2.2.2.2.2.2.2.2.2.2.2.2.2.2; omega⟩
theorem X7_before {G : vG} (h : isX7 G) : gt G 3 = .inl 385 ∧ 3 < gN G := ⟨h.2.2.2.1, by have := h.2.2.2.2.2.2.2.2.2.2.2.2.2.2.2; omega⟩
theorem X7_errors {G : vG} (h : isX7 G) : gt G 4 = .inl 7 ∧ 4 < gN G := ⟨h.2.2.2.2.1, by have := h.2.2.2.2.2.2.2.2.2.2.2.2.2.2.2; omega⟩
theorem X7_bitsOf {G : vG} (h : isX7 G) : gt G 5 = .inl 4 ∧ 5 < gN G := ⟨h.2.2.2.2.2.1, by have := h.2.2.2.2.2.2.2.2.2.2.2.2.2.2.2; omega⟩
theorem X7_sizeOf {G : vG} (h : isX7 G) : gt G 6 = .inl 4 ∧ 6 < gN G := ⟨h.2.2.2.2.2.2.1, by have := h.2.2.2.2.2.2.2.2.2.2.2.2.2.2.2; omega⟩
theorem X7_cells {G : vG} (h : isX7 G) : gt G 7 = .inl 96 ∧ 7 < gN G := ⟨h.2.2.2.2.2.2.2.1, by have := h.2.2.2.2.2.2.2.2.2.2.2.2.2.2.2; omega⟩
theorem X7_steps {G : vG} (h : isX7 G) : gt G 8 = .inl 100 ∧ 8 < gN G := ⟨h.2.2.2.2.2.2.2.2.1, by have := h.2.2.2.2.2.2.2.2.2.2.2.2.2.2.2; omega⟩
theorem X7_act {G : vG} (h : isX7 G) : gt G 9 = .inl 60 ∧ 9 < gN G := ⟨h.2.2.2.2.2.2.2.2.2.1, by have := h.2.2.2.2.2.2.2.2.2.2.2.2.2.2.2; omega⟩
theorem X7_with {G : vG} (h : isX7 G) : gt G 10 = .inl 60 ∧ 10 < gN G := ⟨h.2.2.2.2.2.2.2.2.2.2.1, by have := h.2.2.2.2.2.2.2.2.2.2.2.2.2.2.2; omega⟩
theorem X7_facts {G : vG} (h : isX7 G) : gt G 11 = .inl 3 ∧ 11 < gN G := ⟨h.2.2.2.2.2.2.2.2.2.2.2.1, by have := h.2.2.2.2.2.2.2.2.2.2.2.2.2.2.2; omega⟩
theorem X7_pile {G : vG} (h : isX7 G) : gt G 12 = .inl 60 ∧ 12 < gN G := ⟨h.2.2.2.2.2.2.2.2.2.2.2.2.1, by have := h.2.2.2.2.2.2.2.2.2.2.2.2.2.2.2; omega⟩
theorem X7_goesBy {G : vG} (h : isX7 G) : gt G 13 = .inl 8 ∧ 13 < gN G := ⟨h.2.2.2.2.2.2.2.2.2.2.2.2.2.1, by have := h.2.2.2.2.2.2.2.2.2.2.2.2.2.2.2; omega⟩
theorem X7_trace {G : vG} (h : isX7 G) : gt G 14 = .inl 30 ∧ 14 < gN G := ⟨h.2.2.2.2.2.2.2.2.2.2.2.2.2.2.1, by have := h.2.2.2.2.2.2.2.2.2.2.2.2.2.2.2; omega⟩
theorem gw_V {own C : String} {idx n : Nat} {y : MethodName} {bytes : ByteArray} {ret : Option FieldType} (h1 : Cond.methodLink own idx y ∈ lw_gd) (h2 : Cond.instanceMethod y ∈ lw_gd) (h3 : Cond.selects C y y ∈ lw_gd) (h4 : Cond.initialized C ∈ lw_gd) (h5 : Cond.code y bytes n ret ∈ lw_gd) : GoodIn lw_gd (wsV own idx C y (Cond.code y bytes n ret :: lw_gd)) := by
  intro w hw
  have h : w ∈ lw_gd := by
    simp only [wsV, List.cons_append, List.nil_append, List.mem_cons] at hw
    rcases hw with rfl | rfl | rfl | rfl | rfl | hw
    · exact h1
    · exact h2
    · exact h3
    · exact h4
    · exact h5
    · exact hw
  exact gd_good w h
theorem gw_S {own : String} {idx n : Nat} {y : MethodName} {bytes : ByteArray} {ret : Option FieldType} (h1 : Cond.methodLink own idx y ∈ lw_gd) (h2 : Cond.static y ∈ lw_gd) (h4 : Cond.initialized y.cls ∈ lw_gd) (h5 : Cond.code y bytes n ret ∈ lw_gd) : GoodIn lw_gd (va_wsS own idx y (Cond.code y bytes n ret :: lw_gd)) := by
  intro w hw
  have h : w ∈ lw_gd := by
    simp only [va_wsS, List.cons_append, List.nil_append, List.mem_cons] at hw
    rcases hw with rfl | rfl | rfl | rfl | hw
    · exact h1
    · exact h2
    · exact h4
    · exact h5
    · exact hw
  exact gd_good w h
/-! call sites -/
abbrev vX6_init : List Cond := Cond.code yX6_init cX6_init 1 none :: lw_gd
abbrev vX6_opens : List Cond := Cond.code yX6_opens cX6_opens 5 (some .int) :: lw_gd
theorem hd_X6_opens : yX6_opens.cls = RX6 ∧ yX6_opens.cls ≠ "java/lang/invoke/MethodHandle" ∧ yX6_opens.cls ≠ "java/lang/invoke/VarHandle" ∧ (parseMethodDescriptor yX6_opens.desc).map (fun d => d.parameters.length) = some 3 := ⟨rfl, by decide +kernel, by decide +kernel, by decide +kernel⟩
abbrev vX6_field : List Cond := Cond.code yX6_field cX6_field 4 (some .int) :: lw_gd
theorem hd_X6_field : yX6_field.cls = RX6 ∧ yX6_field.cls ≠ "java/lang/invoke/MethodHandle" ∧ yX6_field.cls ≠ "java/lang/invoke/VarHandle" ∧ (parseMethodDescriptor yX6_field.desc).map (fun d => d.parameters.length) = some 2 := ⟨rfl, by decide +kernel, by decide +kernel, by decide +kernel⟩
abbrev vX6_far : List Cond := Cond.code yX6_far cX6_far 3 (some .int) :: lw_gd
theorem hd_X6_far : yX6_far.cls = RX6 ∧ yX6_far.cls ≠ "java/lang/invoke/MethodHandle" ∧ yX6_far.cls ≠ "java/lang/invoke/VarHandle" ∧ (parseMethodDescriptor yX6_far.desc).map (fun d => d.parameters.length) = some 2 := ⟨rfl, by decide +kernel, by decide +kernel, by decide +kernel⟩
abbrev vX6_bit : List Cond := Cond.code yX6_bit cX6_bit 4 (some .int) :: lw_gd
theorem hd_X6_bit : yX6_bit.cls = RX6 ∧ yX6_bit.cls ≠ "java/lang/invoke/MethodHandle" ∧ yX6_bit.cls ≠ "java/lang/invoke/VarHandle" ∧ (parseMethodDescriptor yX6_bit.desc).map (fun d => d.parameters.length) = some 3 := ⟨rfl, by decide +kernel, by decide +kernel, by decide +kernel⟩
abbrev vX6_bitIs : List Cond := Cond.code yX6_bitIs cX6_bitIs 4 (some .int) :: lw_gd
theorem hd_X6_bitIs : yX6_bitIs.cls = RX6 ∧ yX6_bitIs.cls ≠ "java/lang/invoke/MethodHandle" ∧ yX6_bitIs.cls ≠ "java/lang/invoke/VarHandle" ∧ (parseMethodDescriptor yX6_bitIs.desc).map (fun d => d.parameters.length) = some 2 := ⟨rfl, by decide +kernel, by decide +kernel, by decide +kernel⟩
abbrev vX6_become : List Cond := Cond.code yX6_become cX6_become 4 (some .int) :: lw_gd
theorem hd_X6_become : yX6_become.cls = RX6 ∧ yX6_become.cls ≠ "java/lang/invoke/MethodHandle" ∧ yX6_become.cls ≠ "java/lang/invoke/VarHandle" ∧ (parseMethodDescriptor yX6_become.desc).map (fun d => d.parameters.length) = some 2 := ⟨rfl, by decide +kernel, by decide +kernel, by decide +kernel⟩
abbrev vX6_as : List Cond := Cond.code yX6_as cX6_as 3 (some .int) :: lw_gd
theorem hd_X6_as : yX6_as.cls = RX6 ∧ yX6_as.cls ≠ "java/lang/invoke/MethodHandle" ∧ yX6_as.cls ≠ "java/lang/invoke/VarHandle" ∧ (parseMethodDescriptor yX6_as.desc).map (fun d => d.parameters.length) = some 2 := ⟨rfl, by decide +kernel, by decide +kernel, by decide +kernel⟩
abbrev vX6_hears : List Cond := Cond.code yX6_hears cX6_hears 4 (some .int) :: lw_gd
theorem hd_X6_hears : yX6_hears.cls = RX6 ∧ yX6_hears.cls ≠ "java/lang/invoke/MethodHandle" ∧ yX6_hears.cls ≠ "java/lang/invoke/VarHandle" ∧ (parseMethodDescriptor yX6_hears.desc).map (fun d => d.parameters.length) = some 2 := ⟨rfl, by decide +kernel, by decide +kernel, by decide +kernel⟩
abbrev vX6_lay : List Cond := Cond.code yX6_lay cX6_lay 4 (some .int) :: lw_gd
theorem hd_X6_lay : yX6_lay.cls = RX6 ∧ yX6_lay.cls ≠ "java/lang/invoke/MethodHandle" ∧ yX6_lay.cls ≠ "java/lang/invoke/VarHandle" ∧ (parseMethodDescriptor yX6_lay.desc).map (fun d => d.parameters.length) = some 2 := ⟨rfl, by decide +kernel, by decide +kernel, by decide +kernel⟩
abbrev vX6_feed : List Cond := Cond.code yX6_feed cX6_feed 5 (some .int) :: lw_gd
theorem hd_X6_feed : yX6_feed.cls = RX6 ∧ yX6_feed.cls ≠ "java/lang/invoke/MethodHandle" ∧ yX6_feed.cls ≠ "java/lang/invoke/VarHandle" ∧ (parseMethodDescriptor yX6_feed.desc).map (fun d => d.parameters.length) = some 2 := ⟨rfl, by decide +kernel, by decide +kernel, by decide +kernel⟩
abbrev vX6_text : List Cond := Cond.code yX6_text cX6_text 4 (some .int) :: lw_gd
theorem hd_X6_text : yX6_text.cls = RX6 ∧ yX6_text.cls ≠ "java/lang/invoke/MethodHandle" ∧ yX6_text.cls ≠ "java/lang/invoke/VarHandle" ∧ (parseMethodDescriptor yX6_text.desc).map (fun d => d.parameters.length) = some 1 := ⟨rfl, by decide +kernel, by decide +kernel, by decide +kernel⟩
abbrev vX6_untell : List Cond := Cond.code yX6_untell cX6_untell 4 (some .int) :: lw_gd
theorem hd_X6_untell : yX6_untell.cls = RX6 ∧ yX6_untell.cls ≠ "java/lang/invoke/MethodHandle" ∧ yX6_untell.cls ≠ "java/lang/invoke/VarHandle" ∧ (parseMethodDescriptor yX6_untell.desc).map (fun d => d.parameters.length) = some 1 := ⟨rfl, by decide +kernel, by decide +kernel, by decide +kernel⟩
abbrev vX6_law : List Cond := Cond.code yX6_law cX6_law 5 (some .int) :: lw_gd
theorem hd_X6_law : yX6_law.cls = RX6 ∧ yX6_law.cls ≠ "java/lang/invoke/MethodHandle" ∧ yX6_law.cls ≠ "java/lang/invoke/VarHandle" ∧ (parseMethodDescriptor yX6_law.desc).map (fun d => d.parameters.length) = some 4 := ⟨rfl, by decide +kernel, by decide +kernel, by decide +kernel⟩
abbrev vX6_days : List Cond := Cond.code yX6_days cX6_days 2 (some .int) :: lw_gd
theorem hd_X6_days : yX6_days.cls = RX6 ∧ yX6_days.cls ≠ "java/lang/invoke/MethodHandle" ∧ yX6_days.cls ≠ "java/lang/invoke/VarHandle" ∧ (parseMethodDescriptor yX6_days.desc).map (fun d => d.parameters.length) = some 1 := ⟨rfl, by decide +kernel, by decide +kernel, by decide +kernel⟩
abbrev vX6_loose : List Cond := Cond.code yX6_loose cX6_loose 3 (some .int) :: lw_gd
theorem hd_X6_loose : yX6_loose.cls = RX6 ∧ yX6_loose.cls ≠ "java/lang/invoke/MethodHandle" ∧ yX6_loose.cls ≠ "java/lang/invoke/VarHandle" ∧ (parseMethodDescriptor yX6_loose.desc).map (fun d => d.parameters.length) = some 1 := ⟨rfl, by decide +kernel, by decide +kernel, by decide +kernel⟩
abbrev vX6_day : List Cond := Cond.code yX6_day cX6_day 3 (some .int) :: lw_gd
theorem hd_X6_day : yX6_day.cls = RX6 ∧ yX6_day.cls ≠ "java/lang/invoke/MethodHandle" ∧ yX6_day.cls ≠ "java/lang/invoke/VarHandle" ∧ (parseMethodDescriptor yX6_day.desc).map (fun d => d.parameters.length) = some 1 := ⟨rfl, by decide +kernel, by decide +kernel, by decide +kernel⟩
abbrev vX6_seed : List Cond := Cond.code yX6_seed cX6_seed 3 (some .int) :: lw_gd
theorem hd_X6_seed : yX6_seed.cls = RX6 ∧ yX6_seed.cls ≠ "java/lang/invoke/MethodHandle" ∧ yX6_seed.cls ≠ "java/lang/invoke/VarHandle" ∧ (parseMethodDescriptor yX6_seed.desc).map (fun d => d.parameters.length) = some 1 := ⟨rfl, by decide +kernel, by decide +kernel, by decide +kernel⟩
abbrev vX6_then : List Cond := Cond.code yX6_then cX6_then 3 (some .int) :: lw_gd
theorem hd_X6_then : yX6_then.cls = RX6 ∧ yX6_then.cls ≠ "java/lang/invoke/MethodHandle" ∧ yX6_then.cls ≠ "java/lang/invoke/VarHandle" ∧ (parseMethodDescriptor yX6_then.desc).map (fun d => d.parameters.length) = some 2 := ⟨rfl, by decide +kernel, by decide +kernel, by decide +kernel⟩
abbrev vX6_soonest : List Cond := Cond.code yX6_soonest cX6_soonest 3 (some .int) :: lw_gd
theorem hd_X6_soonest : yX6_soonest.cls = RX6 ∧ yX6_soonest.cls ≠ "java/lang/invoke/MethodHandle" ∧ yX6_soonest.cls ≠ "java/lang/invoke/VarHandle" ∧ (parseMethodDescriptor yX6_soonest.desc).map (fun d => d.parameters.length) = some 1 := ⟨rfl, by decide +kernel, by decide +kernel, by decide +kernel⟩
abbrev vX6_gets : List Cond := Cond.code yX6_gets cX6_gets 3 (some .int) :: lw_gd
theorem hd_X6_gets : yX6_gets.cls = RX6 ∧ yX6_gets.cls ≠ "java/lang/invoke/MethodHandle" ∧ yX6_gets.cls ≠ "java/lang/invoke/VarHandle" ∧ (parseMethodDescriptor yX6_gets.desc).map (fun d => d.parameters.length) = some 2 := ⟨rfl, by decide +kernel, by decide +kernel, by decide +kernel⟩
abbrev vX6_carry : List Cond := Cond.code yX6_carry cX6_carry 8 (some .int) :: lw_gd
theorem hd_X6_carry : yX6_carry.cls = RX6 ∧ yX6_carry.cls ≠ "java/lang/invoke/MethodHandle" ∧ yX6_carry.cls ≠ "java/lang/invoke/VarHandle" ∧ (parseMethodDescriptor yX6_carry.desc).map (fun d => d.parameters.length) = some 3 := ⟨rfl, by decide +kernel, by decide +kernel, by decide +kernel⟩
abbrev vX6_way : List Cond := Cond.code yX6_way cX6_way 8 (some .int) :: lw_gd
theorem hd_X6_way : yX6_way.cls = RX6 ∧ yX6_way.cls ≠ "java/lang/invoke/MethodHandle" ∧ yX6_way.cls ≠ "java/lang/invoke/VarHandle" ∧ (parseMethodDescriptor yX6_way.desc).map (fun d => d.parameters.length) = some 2 := ⟨rfl, by decide +kernel, by decide +kernel, by decide +kernel⟩
abbrev vX6_odds : List Cond := Cond.code yX6_odds cX6_odds 6 (some .int) :: lw_gd
theorem hd_X6_odds : yX6_odds.cls = RX6 ∧ yX6_odds.cls ≠ "java/lang/invoke/MethodHandle" ∧ yX6_odds.cls ≠ "java/lang/invoke/VarHandle" ∧ (parseMethodDescriptor yX6_odds.desc).map (fun d => d.parameters.length) = some 2 := ⟨rfl, by decide +kernel, by decide +kernel, by decide +kernel⟩
abbrev vX6_whose : List Cond := Cond.code yX6_whose cX6_whose 6 (some .int) :: lw_gd
theorem hd_X6_whose : yX6_whose.cls = RX6 ∧ yX6_whose.cls ≠ "java/lang/invoke/MethodHandle" ∧ yX6_whose.cls ≠ "java/lang/invoke/VarHandle" ∧ (parseMethodDescriptor yX6_whose.desc).map (fun d => d.parameters.length) = some 3 := ⟨rfl, by decide +kernel, by decide +kernel, by decide +kernel⟩
abbrev vX6_voice : List Cond := Cond.code yX6_voice cX6_voice 5 (some .int) :: lw_gd
theorem hd_X6_voice : yX6_voice.cls = RX6 ∧ yX6_voice.cls ≠ "java/lang/invoke/MethodHandle" ∧ yX6_voice.cls ≠ "java/lang/invoke/VarHandle" ∧ (parseMethodDescriptor yX6_voice.desc).map (fun d => d.parameters.length) = some 3 := ⟨rfl, by decide +kernel, by decide +kernel, by decide +kernel⟩
abbrev vX6_body : List Cond := Cond.code yX6_body cX6_body 2 (some .int) :: lw_gd
theorem hd_X6_body : yX6_body.cls = RX6 ∧ yX6_body.cls ≠ "java/lang/invoke/MethodHandle" ∧ yX6_body.cls ≠ "java/lang/invoke/VarHandle" ∧ (parseMethodDescriptor yX6_body.desc).map (fun d => d.parameters.length) = some 1 := ⟨rfl, by decide +kernel, by decide +kernel, by decide +kernel⟩
abbrev vX6_sheet : List Cond := Cond.code yX6_sheet cX6_sheet 5 (some .int) :: lw_gd
theorem hd_X6_sheet : yX6_sheet.cls = RX6 ∧ yX6_sheet.cls ≠ "java/lang/invoke/MethodHandle" ∧ yX6_sheet.cls ≠ "java/lang/invoke/VarHandle" ∧ (parseMethodDescriptor yX6_sheet.desc).map (fun d => d.parameters.length) = some 3 := ⟨rfl, by decide +kernel, by decide +kernel, by decide +kernel⟩
abbrev vX6_put : List Cond := Cond.code yX6_put cX6_put 4 (some .int) :: lw_gd
theorem hd_X6_put : yX6_put.cls = RX6 ∧ yX6_put.cls ≠ "java/lang/invoke/MethodHandle" ∧ yX6_put.cls ≠ "java/lang/invoke/VarHandle" ∧ (parseMethodDescriptor yX6_put.desc).map (fun d => d.parameters.length) = some 3 := ⟨rfl, by decide +kernel, by decide +kernel, by decide +kernel⟩
abbrev vX6_move : List Cond := Cond.code yX6_move cX6_move 6 (some .int) :: lw_gd
theorem hd_X6_move : yX6_move.cls = RX6 ∧ yX6_move.cls ≠ "java/lang/invoke/MethodHandle" ∧ yX6_move.cls ≠ "java/lang/invoke/VarHandle" ∧ (parseMethodDescriptor yX6_move.desc).map (fun d => d.parameters.length) = some 5 := ⟨rfl, by decide +kernel, by decide +kernel, by decide +kernel⟩
abbrev vX6_lays : List Cond := Cond.code yX6_lays cX6_lays 3 (some .int) :: lw_gd
theorem hd_X6_lays : yX6_lays.cls = RX6 ∧ yX6_lays.cls ≠ "java/lang/invoke/MethodHandle" ∧ yX6_lays.cls ≠ "java/lang/invoke/VarHandle" ∧ (parseMethodDescriptor yX6_lays.desc).map (fun d => d.parameters.length) = some 1 := ⟨rfl, by decide +kernel, by decide +kernel, by decide +kernel⟩
abbrev vX6_judge : List Cond := Cond.code yX6_judge cX6_judge 3 (some .int) :: lw_gd
theorem hd_X6_judge : yX6_judge.cls = RX6 ∧ yX6_judge.cls ≠ "java/lang/invoke/MethodHandle" ∧ yX6_judge.cls ≠ "java/lang/invoke/VarHandle" ∧ (parseMethodDescriptor yX6_judge.desc).map (fun d => d.parameters.length) = some 1 := ⟨rfl, by decide +kernel, by decide +kernel, by decide +kernel⟩
abbrev vX6_image : List Cond := Cond.code yX6_image cX6_image 1 (some .int) :: lw_gd
theorem hd_X6_image : yX6_image.cls = RX6 ∧ yX6_image.cls ≠ "java/lang/invoke/MethodHandle" ∧ yX6_image.cls ≠ "java/lang/invoke/VarHandle" ∧ (parseMethodDescriptor yX6_image.desc).map (fun d => d.parameters.length) = some 0 := ⟨rfl, by decide +kernel, by decide +kernel, by decide +kernel⟩
abbrev vX6_restore : List Cond := Cond.code yX6_restore cX6_restore 1 (some .int) :: lw_gd
theorem hd_X6_restore : yX6_restore.cls = RX6 ∧ yX6_restore.cls ≠ "java/lang/invoke/MethodHandle" ∧ yX6_restore.cls ≠ "java/lang/invoke/VarHandle" ∧ (parseMethodDescriptor yX6_restore.desc).map (fun d => d.parameters.length) = some 0 := ⟨rfl, by decide +kernel, by decide +kernel, by decide +kernel⟩
abbrev vX6_tell : List Cond := Cond.code yX6_tell cX6_tell 2 (some .int) :: lw_gd
theorem hd_X6_tell : yX6_tell.cls = RX6 ∧ yX6_tell.cls ≠ "java/lang/invoke/MethodHandle" ∧ yX6_tell.cls ≠ "java/lang/invoke/VarHandle" ∧ (parseMethodDescriptor yX6_tell.desc).map (fun d => d.parameters.length) = some 1 := ⟨rfl, by decide +kernel, by decide +kernel, by decide +kernel⟩
abbrev vX6_check : List Cond := Cond.code yX6_check cX6_check 3 (some .int) :: lw_gd
theorem hd_X6_check : yX6_check.cls = RX6 ∧ yX6_check.cls ≠ "java/lang/invoke/MethodHandle" ∧ yX6_check.cls ≠ "java/lang/invoke/VarHandle" ∧ (parseMethodDescriptor yX6_check.desc).map (fun d => d.parameters.length) = some 0 := ⟨rfl, by decide +kernel, by decide +kernel, by decide +kernel⟩
abbrev vX6_count : List Cond := Cond.code yX6_count cX6_count 2 (some .int) :: lw_gd
theorem hd_X6_count : yX6_count.cls = RX6 ∧ yX6_count.cls ≠ "java/lang/invoke/MethodHandle" ∧ yX6_count.cls ≠ "java/lang/invoke/VarHandle" ∧ (parseMethodDescriptor yX6_count.desc).map (fun d => d.parameters.length) = some 1 := ⟨rfl, by decide +kernel, by decide +kernel, by decide +kernel⟩
abbrev vX6_told : List Cond := Cond.code yX6_told cX6_told 2 (some .int) :: lw_gd
theorem hd_X6_told : yX6_told.cls = RX6 ∧ yX6_told.cls ≠ "java/lang/invoke/MethodHandle" ∧ yX6_told.cls ≠ "java/lang/invoke/VarHandle" ∧ (parseMethodDescriptor yX6_told.desc).map (fun d => d.parameters.length) = some 1 := ⟨rfl, by decide +kernel, by decide +kernel, by decide +kernel⟩
abbrev vX6_error : List Cond := Cond.code yX6_error cX6_error 2 (some .int) :: lw_gd
theorem hd_X6_error : yX6_error.cls = RX6 ∧ yX6_error.cls ≠ "java/lang/invoke/MethodHandle" ∧ yX6_error.cls ≠ "java/lang/invoke/VarHandle" ∧ (parseMethodDescriptor yX6_error.desc).map (fun d => d.parameters.length) = some 1 := ⟨rfl, by decide +kernel, by decide +kernel, by decide +kernel⟩
abbrev vX6_isPlace : List Cond := Cond.code yX6_isPlace cX6_isPlace 1 (some .boolean) :: lw_gd
theorem hd_X6_isPlace : yX6_isPlace.cls = RX6 ∧ yX6_isPlace.cls ≠ "java/lang/invoke/MethodHandle" ∧ yX6_isPlace.cls ≠ "java/lang/invoke/VarHandle" ∧ (parseMethodDescriptor yX6_isPlace.desc).map (fun d => d.parameters.length) = some 1 := ⟨rfl, by decide +kernel, by decide +kernel, by decide +kernel⟩
abbrev vX6_isField : List Cond := Cond.code yX6_isField cX6_isField 1 (some .boolean) :: lw_gd
theorem hd_X6_isField : yX6_isField.cls = RX6 ∧ yX6_isField.cls ≠ "java/lang/invoke/MethodHandle" ∧ yX6_isField.cls ≠ "java/lang/invoke/VarHandle" ∧ (parseMethodDescriptor yX6_isField.desc).map (fun d => d.parameters.length) = some 1 := ⟨rfl, by decide +kernel, by decide +kernel, by decide +kernel⟩
abbrev vX6_isBit : List Cond := Cond.code yX6_isBit cX6_isBit 2 (some .boolean) :: lw_gd
theorem hd_X6_isBit : yX6_isBit.cls = RX6 ∧ yX6_isBit.cls ≠ "java/lang/invoke/MethodHandle" ∧ yX6_isBit.cls ≠ "java/lang/invoke/VarHandle" ∧ (parseMethodDescriptor yX6_isBit.desc).map (fun d => d.parameters.length) = some 1 := ⟨rfl, by decide +kernel, by decide +kernel, by decide +kernel⟩
abbrev vX6_isKindAndM : List Cond := Cond.code yX6_isKindAndM cX6_isKindAndM 1 (some .boolean) :: lw_gd
theorem hd_X6_isKindAndM : yX6_isKindAndM.cls = RX6 ∧ yX6_isKindAndM.cls ≠ "java/lang/invoke/MethodHandle" ∧ yX6_isKindAndM.cls ≠ "java/lang/invoke/VarHandle" ∧ (parseMethodDescriptor yX6_isKindAndM.desc).map (fun d => d.parameters.length) = some 1 := ⟨rfl, by decide +kernel, by decide +kernel, by decide +kernel⟩
abbrev vX6_isUse : List Cond := Cond.code yX6_isUse cX6_isUse 1 (some .boolean) :: lw_gd
theorem hd_X6_isUse : yX6_isUse.cls = RX6 ∧ yX6_isUse.cls ≠ "java/lang/invoke/MethodHandle" ∧ yX6_isUse.cls ≠ "java/lang/invoke/VarHandle" ∧ (parseMethodDescriptor yX6_isUse.desc).map (fun d => d.parameters.length) = some 1 := ⟨rfl, by decide +kernel, by decide +kernel, by decide +kernel⟩
abbrev vX6_isSheet : List Cond := Cond.code yX6_isSheet cX6_isSheet 1 (some .boolean) :: lw_gd
theorem hd_X6_isSheet : yX6_isSheet.cls = RX6 ∧ yX6_isSheet.cls ≠ "java/lang/invoke/MethodHandle" ∧ yX6_isSheet.cls ≠ "java/lang/invoke/VarHandle" ∧ (parseMethodDescriptor yX6_isSheet.desc).map (fun d => d.parameters.length) = some 1 := ⟨rfl, by decide +kernel, by decide +kernel, by decide +kernel⟩
abbrev vX6_isOrIsUnder : List Cond := Cond.code yX6_isOrIsUnder cX6_isOrIsUnder 4 (some .boolean) :: lw_gd
theorem hd_X6_isOrIsUnder : yX6_isOrIsUnder.cls = RX6 ∧ yX6_isOrIsUnder.cls ≠ "java/lang/invoke/MethodHandle" ∧ yX6_isOrIsUnder.cls ≠ "java/lang/invoke/VarHandle" ∧ (parseMethodDescriptor yX6_isOrIsUnder.desc).map (fun d => d.parameters.length) = some 2 := ⟨rfl, by decide +kernel, by decide +kernel, by decide +kernel⟩
abbrev vX6_greatestDivisor : List Cond := Cond.code yX6_greatestDivisor cX6_greatestDivisor 3 (some .int) :: lw_gd
theorem hd_X6_greatestDivisor : yX6_greatestDivisor.cls = RX6 ∧ yX6_greatestDivisor.cls ≠ "java/lang/invoke/MethodHandle" ∧ yX6_greatestDivisor.cls ≠ "java/lang/invoke/VarHandle" ∧ (parseMethodDescriptor yX6_greatestDivisor.desc).map (fun d => d.parameters.length) = some 2 := ⟨rfl, by decide +kernel, by decide +kernel, by decide +kernel⟩
abbrev vX6_lawOf : List Cond := Cond.code yX6_lawOf cX6_lawOf 2 (some (.object "CrumbsHome$Law")) :: lw_gd
theorem hd_X6_lawOf : yX6_lawOf.cls = RX6 ∧ yX6_lawOf.cls ≠ "java/lang/invoke/MethodHandle" ∧ yX6_lawOf.cls ≠ "java/lang/invoke/VarHandle" ∧ (parseMethodDescriptor yX6_lawOf.desc).map (fun d => d.parameters.length) = some 1 := ⟨rfl, by decide +kernel, by decide +kernel, by decide +kernel⟩
abbrev vX6_stepsOf : List Cond := Cond.code yX6_stepsOf cX6_stepsOf 6 (some .int) :: lw_gd
theorem hd_X6_stepsOf : yX6_stepsOf.cls = RX6 ∧ yX6_stepsOf.cls ≠ "java/lang/invoke/MethodHandle" ∧ yX6_stepsOf.cls ≠ "java/lang/invoke/VarHandle" ∧ (parseMethodDescriptor yX6_stepsOf.desc).map (fun d => d.parameters.length) = some 3 := ⟨rfl, by decide +kernel, by decide +kernel, by decide +kernel⟩
abbrev vX6_worthOf : List Cond := Cond.code yX6_worthOf cX6_worthOf 3 (some .int) :: lw_gd
theorem hd_X6_worthOf : yX6_worthOf.cls = RX6 ∧ yX6_worthOf.cls ≠ "java/lang/invoke/MethodHandle" ∧ yX6_worthOf.cls ≠ "java/lang/invoke/VarHandle" ∧ (parseMethodDescriptor yX6_worthOf.desc).map (fun d => d.parameters.length) = some 2 := ⟨rfl, by decide +kernel, by decide +kernel, by decide +kernel⟩
abbrev vX6_warmthOf : List Cond := Cond.code yX6_warmthOf cX6_warmthOf 4 (some .int) :: lw_gd
theorem hd_X6_warmthOf : yX6_warmthOf.cls = RX6 ∧ yX6_warmthOf.cls ≠ "java/lang/invoke/MethodHandle" ∧ yX6_warmthOf.cls ≠ "java/lang/invoke/VarHandle" ∧ (parseMethodDescriptor yX6_warmthOf.desc).map (fun d => d.parameters.length) = some 3 := ⟨rfl, by decide +kernel, by decide +kernel, by decide +kernel⟩
abbrev vX6_passDay : List Cond := Cond.code yX6_passDay cX6_passDay 6 (some .boolean) :: lw_gd
theorem hd_X6_passDay : yX6_passDay.cls = RX6 ∧ yX6_passDay.cls ≠ "java/lang/invoke/MethodHandle" ∧ yX6_passDay.cls ≠ "java/lang/invoke/VarHandle" ∧ (parseMethodDescriptor yX6_passDay.desc).map (fun d => d.parameters.length) = some 2 := ⟨rfl, by decide +kernel, by decide +kernel, by decide +kernel⟩
abbrev vX6_passDays : List Cond := Cond.code yX6_passDays cX6_passDays 6 none :: lw_gd
theorem hd_X6_passDays : yX6_passDays.cls = RX6 ∧ yX6_passDays.cls ≠ "java/lang/invoke/MethodHandle" ∧ yX6_passDays.cls ≠ "java/lang/invoke/VarHandle" ∧ (parseMethodDescriptor yX6_passDays.desc).map (fun d => d.parameters.length) = some 3 := ⟨rfl, by decide +kernel, by decide +kernel, by decide +kernel⟩
abbrev vX6_think : List Cond := Cond.code yX6_think cX6_think 2 none :: lw_gd
theorem hd_X6_think : yX6_think.cls = RX6 ∧ yX6_think.cls ≠ "java/lang/invoke/MethodHandle" ∧ yX6_think.cls ≠ "java/lang/invoke/VarHandle" ∧ (parseMethodDescriptor yX6_think.desc).map (fun d => d.parameters.length) = some 1 := ⟨rfl, by decide +kernel, by decide +kernel, by decide +kernel⟩
abbrev vX6_worthAtHome : List Cond := Cond.code yX6_worthAtHome cX6_worthAtHome 5 (some .int) :: lw_gd
theorem hd_X6_worthAtHome : yX6_worthAtHome.cls = RX6 ∧ yX6_worthAtHome.cls ≠ "java/lang/invoke/MethodHandle" ∧ yX6_worthAtHome.cls ≠ "java/lang/invoke/VarHandle" ∧ (parseMethodDescriptor yX6_worthAtHome.desc).map (fun d => d.parameters.length) = some 2 := ⟨rfl, by decide +kernel, by decide +kernel, by decide +kernel⟩
abbrev vX6_getsWith : List Cond := Cond.code yX6_getsWith cX6_getsWith 5 (some .int) :: lw_gd
theorem hd_X6_getsWith : yX6_getsWith.cls = RX6 ∧ yX6_getsWith.cls ≠ "java/lang/invoke/MethodHandle" ∧ yX6_getsWith.cls ≠ "java/lang/invoke/VarHandle" ∧ (parseMethodDescriptor yX6_getsWith.desc).map (fun d => d.parameters.length) = some 3 := ⟨rfl, by decide +kernel, by decide +kernel, by decide +kernel⟩
abbrev vX6_homeWithWay : List Cond := Cond.code yX6_homeWithWay cX6_homeWithWay 4 (some .int) :: lw_gd
theorem hd_X6_homeWithWay : yX6_homeWithWay.cls = RX6 ∧ yX6_homeWithWay.cls ≠ "java/lang/invoke/MethodHandle" ∧ yX6_homeWithWay.cls ≠ "java/lang/invoke/VarHandle" ∧ (parseMethodDescriptor yX6_homeWithWay.desc).map (fun d => d.parameters.length) = some 3 := ⟨rfl, by decide +kernel, by decide +kernel, by decide +kernel⟩
abbrev vX6_wouldWarmSo : List Cond := Cond.code yX6_wouldWarmSo cX6_wouldWarmSo 5 (some .boolean) :: lw_gd
theorem hd_X6_wouldWarmSo : yX6_wouldWarmSo.cls = RX6 ∧ yX6_wouldWarmSo.cls ≠ "java/lang/invoke/MethodHandle" ∧ yX6_wouldWarmSo.cls ≠ "java/lang/invoke/VarHandle" ∧ (parseMethodDescriptor yX6_wouldWarmSo.desc).map (fun d => d.parameters.length) = some 3 := ⟨rfl, by decide +kernel, by decide +kernel, by decide +kernel⟩
abbrev vX6_say : List Cond := Cond.code yX6_say cX6_say 8 (some .int) :: lw_gd
theorem hd_X6_say : yX6_say.cls = RX6 ∧ yX6_say.cls ≠ "java/lang/invoke/MethodHandle" ∧ yX6_say.cls ≠ "java/lang/invoke/VarHandle" ∧ (parseMethodDescriptor yX6_say.desc).map (fun d => d.parameters.length) = some 5 := ⟨rfl, by decide +kernel, by decide +kernel, by decide +kernel⟩
abbrev vX6_sayBody : List Cond := Cond.code yX6_sayBody cX6_sayBody 8 (some .int) :: lw_gd
theorem hd_X6_sayBody : yX6_sayBody.cls = RX6 ∧ yX6_sayBody.cls ≠ "java/lang/invoke/MethodHandle" ∧ yX6_sayBody.cls ≠ "java/lang/invoke/VarHandle" ∧ (parseMethodDescriptor yX6_sayBody.desc).map (fun d => d.parameters.length) = some 5 := ⟨rfl, by decide +kernel, by decide +kernel, by decide +kernel⟩
abbrev vX6_partsOf : List Cond := Cond.code yX6_partsOf cX6_partsOf 3 (some .int) :: lw_gd
theorem hd_X6_partsOf : yX6_partsOf.cls = RX6 ∧ yX6_partsOf.cls ≠ "java/lang/invoke/MethodHandle" ∧ yX6_partsOf.cls ≠ "java/lang/invoke/VarHandle" ∧ (parseMethodDescriptor yX6_partsOf.desc).map (fun d => d.parameters.length) = some 2 := ⟨rfl, by decide +kernel, by decide +kernel, by decide +kernel⟩
abbrev vX7_init : List Cond := Cond.code yX7_init cX7_init 2 none :: lw_gd
abbrev vX7_error : List Cond := Cond.code yX7_error cX7_error 2 (some .int) :: lw_gd
theorem hd_X7_error : yX7_error.cls = RX7 ∧ yX7_error.cls ≠ "java/lang/invoke/MethodHandle" ∧ yX7_error.cls ≠ "java/lang/invoke/VarHandle" ∧ (parseMethodDescriptor yX7_error.desc).map (fun d => d.parameters.length) = some 1 := ⟨rfl, by decide +kernel, by decide +kernel, by decide +kernel⟩
abbrev vX7_in : List Cond := Cond.code yX7_in cX7_in 3 (some .boolean) :: lw_gd
theorem hd_X7_in : yX7_in.cls = RX7 ∧ yX7_in.cls ≠ "java/lang/invoke/MethodHandle" ∧ yX7_in.cls ≠ "java/lang/invoke/VarHandle" ∧ (parseMethodDescriptor yX7_in.desc).map (fun d => d.parameters.length) = some 3 := ⟨rfl, by decide +kernel, by decide +kernel, by decide +kernel⟩
abbrev vX7_held : List Cond := Cond.code yX7_held cX7_held 3 (some .int) :: lw_gd
theorem hd_X7_held : yX7_held.cls = RX7 ∧ yX7_held.cls ≠ "java/lang/invoke/MethodHandle" ∧ yX7_held.cls ≠ "java/lang/invoke/VarHandle" ∧ (parseMethodDescriptor yX7_held.desc).map (fun d => d.parameters.length) = some 3 := ⟨rfl, by decide +kernel, by decide +kernel, by decide +kernel⟩
abbrev vX7_copyAll : List Cond := Cond.code yX7_copyAll cX7_copyAll 3 none :: lw_gd
theorem hd_X7_copyAll : yX7_copyAll.cls = RX7 ∧ yX7_copyAll.cls ≠ "java/lang/invoke/MethodHandle" ∧ yX7_copyAll.cls ≠ "java/lang/invoke/VarHandle" ∧ (parseMethodDescriptor yX7_copyAll.desc).map (fun d => d.parameters.length) = some 2 := ⟨rfl, by decide +kernel, by decide +kernel, by decide +kernel⟩
abbrev vX7_thinks : List Cond := Cond.code yX7_thinks cX7_thinks 1 none :: lw_gd
theorem hd_X7_thinks : yX7_thinks.cls = RX7 ∧ yX7_thinks.cls ≠ "java/lang/invoke/MethodHandle" ∧ yX7_thinks.cls ≠ "java/lang/invoke/VarHandle" ∧ (parseMethodDescriptor yX7_thinks.desc).map (fun d => d.parameters.length) = some 0 := ⟨rfl, by decide +kernel, by decide +kernel, by decide +kernel⟩
abbrev vX7_putsBack : List Cond := Cond.code yX7_putsBack cX7_putsBack 1 none :: lw_gd
theorem hd_X7_putsBack : yX7_putsBack.cls = RX7 ∧ yX7_putsBack.cls ≠ "java/lang/invoke/MethodHandle" ∧ yX7_putsBack.cls ≠ "java/lang/invoke/VarHandle" ∧ (parseMethodDescriptor yX7_putsBack.desc).map (fun d => d.parameters.length) = some 0 := ⟨rfl, by decide +kernel, by decide +kernel, by decide +kernel⟩
abbrev vX7_bits : List Cond := Cond.code yX7_bits cX7_bits 3 (some .int) :: lw_gd
theorem hd_X7_bits : yX7_bits.cls = RX7 ∧ yX7_bits.cls ≠ "java/lang/invoke/MethodHandle" ∧ yX7_bits.cls ≠ "java/lang/invoke/VarHandle" ∧ (parseMethodDescriptor yX7_bits.desc).map (fun d => d.parameters.length) = some 1 := ⟨rfl, by decide +kernel, by decide +kernel, by decide +kernel⟩
abbrev vX7_isBit : List Cond := Cond.code yX7_isBit cX7_isBit 2 (some .boolean) :: lw_gd
theorem hd_X7_isBit : yX7_isBit.cls = RX7 ∧ yX7_isBit.cls ≠ "java/lang/invoke/MethodHandle" ∧ yX7_isBit.cls ≠ "java/lang/invoke/VarHandle" ∧ (parseMethodDescriptor yX7_isBit.desc).map (fun d => d.parameters.length) = some 1 := ⟨rfl, by decide +kernel, by decide +kernel, by decide +kernel⟩
abbrev vX7_isPlace : List Cond := Cond.code yX7_isPlace cX7_isPlace 1 (some .boolean) :: lw_gd
theorem hd_X7_isPlace : yX7_isPlace.cls = RX7 ∧ yX7_isPlace.cls ≠ "java/lang/invoke/MethodHandle" ∧ yX7_isPlace.cls ≠ "java/lang/invoke/VarHandle" ∧ (parseMethodDescriptor yX7_isPlace.desc).map (fun d => d.parameters.length) = some 1 := ⟨rfl, by decide +kernel, by decide +kernel, by decide +kernel⟩
abbrev vX7_isField : List Cond := Cond.code yX7_isField cX7_isField 1 (some .boolean) :: lw_gd
theorem hd_X7_isField : yX7_isField.cls = RX7 ∧ yX7_isField.cls ≠ "java/lang/invoke/MethodHandle" ∧ yX7_isField.cls ≠ "java/lang/invoke/VarHandle" ∧ (parseMethodDescriptor yX7_isField.desc).map (fun d => d.parameters.length) = some 1 := ⟨rfl, by decide +kernel, by decide +kernel, by decide +kernel⟩
abbrev vX7_becomes : List Cond := Cond.code yX7_becomes cX7_becomes 4 (some .int) :: lw_gd
theorem hd_X7_becomes : yX7_becomes.cls = RX7 ∧ yX7_becomes.cls ≠ "java/lang/invoke/MethodHandle" ∧ yX7_becomes.cls ≠ "java/lang/invoke/VarHandle" ∧ (parseMethodDescriptor yX7_becomes.desc).map (fun d => d.parameters.length) = some 2 := ⟨rfl, by decide +kernel, by decide +kernel, by decide +kernel⟩
abbrev vX7_of : List Cond := Cond.code yX7_of cX7_of 3 (some .int) :: lw_gd
theorem hd_X7_of : yX7_of.cls = RX7 ∧ yX7_of.cls ≠ "java/lang/invoke/MethodHandle" ∧ yX7_of.cls ≠ "java/lang/invoke/VarHandle" ∧ (parseMethodDescriptor yX7_of.desc).map (fun d => d.parameters.length) = some 2 := ⟨rfl, by decide +kernel, by decide +kernel, by decide +kernel⟩
abbrev vX7_lets : List Cond := Cond.code yX7_lets cX7_lets 4 none :: lw_gd
theorem hd_X7_lets : yX7_lets.cls = RX7 ∧ yX7_lets.cls ≠ "java/lang/invoke/MethodHandle" ∧ yX7_lets.cls ≠ "java/lang/invoke/VarHandle" ∧ (parseMethodDescriptor yX7_lets.desc).map (fun d => d.parameters.length) = some 3 := ⟨rfl, by decide +kernel, by decide +kernel, by decide +kernel⟩
abbrev vX7_homeOf : List Cond := Cond.code yX7_homeOf cX7_homeOf 2 (some .int) :: lw_gd
theorem hd_X7_homeOf : yX7_homeOf.cls = RX7 ∧ yX7_homeOf.cls ≠ "java/lang/invoke/MethodHandle" ∧ yX7_homeOf.cls ≠ "java/lang/invoke/VarHandle" ∧ (parseMethodDescriptor yX7_homeOf.desc).map (fun d => d.parameters.length) = some 1 := ⟨rfl, by decide +kernel, by decide +kernel, by decide +kernel⟩
abbrev vX7_isHome : List Cond := Cond.code yX7_isHome cX7_isHome 2 (some .boolean) :: lw_gd
theorem hd_X7_isHome : yX7_isHome.cls = RX7 ∧ yX7_isHome.cls ≠ "java/lang/invoke/MethodHandle" ∧ yX7_isHome.cls ≠ "java/lang/invoke/VarHandle" ∧ (parseMethodDescriptor yX7_isHome.desc).map (fun d => d.parameters.length) = some 1 := ⟨rfl, by decide +kernel, by decide +kernel, by decide +kernel⟩
abbrev vX7_homes : List Cond := Cond.code yX7_homes cX7_homes 3 (some .int) :: lw_gd
theorem hd_X7_homes : yX7_homes.cls = RX7 ∧ yX7_homes.cls ≠ "java/lang/invoke/MethodHandle" ∧ yX7_homes.cls ≠ "java/lang/invoke/VarHandle" ∧ (parseMethodDescriptor yX7_homes.desc).map (fun d => d.parameters.length) = some 0 := ⟨rfl, by decide +kernel, by decide +kernel, by decide +kernel⟩
abbrev vX7_findFrom : List Cond := Cond.code yX7_findFrom cX7_findFrom 7 none :: lw_gd
theorem hd_X7_findFrom : yX7_findFrom.cls = RX7 ∧ yX7_findFrom.cls ≠ "java/lang/invoke/MethodHandle" ∧ yX7_findFrom.cls ≠ "java/lang/invoke/VarHandle" ∧ (parseMethodDescriptor yX7_findFrom.desc).map (fun d => d.parameters.length) = some 1 := ⟨rfl, by decide +kernel, by decide +kernel, by decide +kernel⟩
abbrev vX7_farBy : List Cond := Cond.code yX7_farBy cX7_farBy 4 (some .int) :: lw_gd
theorem hd_X7_farBy : yX7_farBy.cls = RX7 ∧ yX7_farBy.cls ≠ "java/lang/invoke/MethodHandle" ∧ yX7_farBy.cls ≠ "java/lang/invoke/VarHandle" ∧ (parseMethodDescriptor yX7_farBy.desc).map (fun d => d.parameters.length) = some 2 := ⟨rfl, by decide +kernel, by decide +kernel, by decide +kernel⟩
abbrev vX7_farHome : List Cond := Cond.code yX7_farHome cX7_farHome 2 (some .int) :: lw_gd
theorem hd_X7_farHome : yX7_farHome.cls = RX7 ∧ yX7_farHome.cls ≠ "java/lang/invoke/MethodHandle" ∧ yX7_farHome.cls ≠ "java/lang/invoke/VarHandle" ∧ (parseMethodDescriptor yX7_farHome.desc).map (fun d => d.parameters.length) = some 1 := ⟨rfl, by decide +kernel, by decide +kernel, by decide +kernel⟩
abbrev vX7_warmth : List Cond := Cond.code yX7_warmth cX7_warmth 3 (some .int) :: lw_gd
theorem hd_X7_warmth : yX7_warmth.cls = RX7 ∧ yX7_warmth.cls ≠ "java/lang/invoke/MethodHandle" ∧ yX7_warmth.cls ≠ "java/lang/invoke/VarHandle" ∧ (parseMethodDescriptor yX7_warmth.desc).map (fun d => d.parameters.length) = some 1 := ⟨rfl, by decide +kernel, by decide +kernel, by decide +kernel⟩
abbrev vX7_isTogether : List Cond := Cond.code yX7_isTogether cX7_isTogether 4 (some .boolean) :: lw_gd
theorem hd_X7_isTogether : yX7_isTogether.cls = RX7 ∧ yX7_isTogether.cls ≠ "java/lang/invoke/MethodHandle" ∧ yX7_isTogether.cls ≠ "java/lang/invoke/VarHandle" ∧ (parseMethodDescriptor yX7_isTogether.desc).map (fun d => d.parameters.length) = some 1 := ⟨rfl, by decide +kernel, by decide +kernel, by decide +kernel⟩
abbrev vX7_walksBy : List Cond := Cond.code yX7_walksBy cX7_walksBy 5 (some .int) :: lw_gd
theorem hd_X7_walksBy : yX7_walksBy.cls = RX7 ∧ yX7_walksBy.cls ≠ "java/lang/invoke/MethodHandle" ∧ yX7_walksBy.cls ≠ "java/lang/invoke/VarHandle" ∧ (parseMethodDescriptor yX7_walksBy.desc).map (fun d => d.parameters.length) = some 1 := ⟨rfl, by decide +kernel, by decide +kernel, by decide +kernel⟩
abbrev vX7_weighsOf : List Cond := Cond.code yX7_weighsOf cX7_weighsOf 5 (some .int) :: lw_gd
theorem hd_X7_weighsOf : yX7_weighsOf.cls = RX7 ∧ yX7_weighsOf.cls ≠ "java/lang/invoke/MethodHandle" ∧ yX7_weighsOf.cls ≠ "java/lang/invoke/VarHandle" ∧ (parseMethodDescriptor yX7_weighsOf.desc).map (fun d => d.parameters.length) = some 1 := ⟨rfl, by decide +kernel, by decide +kernel, by decide +kernel⟩
abbrev vX7_stepsOf : List Cond := Cond.code yX7_stepsOf cX7_stepsOf 3 (some .int) :: lw_gd
theorem hd_X7_stepsOf : yX7_stepsOf.cls = RX7 ∧ yX7_stepsOf.cls ≠ "java/lang/invoke/MethodHandle" ∧ yX7_stepsOf.cls ≠ "java/lang/invoke/VarHandle" ∧ (parseMethodDescriptor yX7_stepsOf.desc).map (fun d => d.parameters.length) = some 1 := ⟨rfl, by decide +kernel, by decide +kernel, by decide +kernel⟩
abbrev vX7_worthOf : List Cond := Cond.code yX7_worthOf cX7_worthOf 2 (some .int) :: lw_gd
theorem hd_X7_worthOf : yX7_worthOf.cls = RX7 ∧ yX7_worthOf.cls ≠ "java/lang/invoke/MethodHandle" ∧ yX7_worthOf.cls ≠ "java/lang/invoke/VarHandle" ∧ (parseMethodDescriptor yX7_worthOf.desc).map (fun d => d.parameters.length) = some 1 := ⟨rfl, by decide +kernel, by decide +kernel, by decide +kernel⟩
abbrev vX7_opensFrom : List Cond := Cond.code yX7_opensFrom cX7_opensFrom 4 none :: lw_gd
theorem hd_X7_opensFrom : yX7_opensFrom.cls = RX7 ∧ yX7_opensFrom.cls ≠ "java/lang/invoke/MethodHandle" ∧ yX7_opensFrom.cls ≠ "java/lang/invoke/VarHandle" ∧ (parseMethodDescriptor yX7_opensFrom.desc).map (fun d => d.parameters.length) = some 3 := ⟨rfl, by decide +kernel, by decide +kernel, by decide +kernel⟩
abbrev vX7_opens : List Cond := Cond.code yX7_opens cX7_opens 5 (some .int) :: lw_gd
theorem hd_X7_opens : yX7_opens.cls = RX7 ∧ yX7_opens.cls ≠ "java/lang/invoke/MethodHandle" ∧ yX7_opens.cls ≠ "java/lang/invoke/VarHandle" ∧ (parseMethodDescriptor yX7_opens.desc).map (fun d => d.parameters.length) = some 3 := ⟨rfl, by decide +kernel, by decide +kernel, by decide +kernel⟩
abbrev vX7_field : List Cond := Cond.code yX7_field cX7_field 3 (some .int) :: lw_gd
theorem hd_X7_field : yX7_field.cls = RX7 ∧ yX7_field.cls ≠ "java/lang/invoke/MethodHandle" ∧ yX7_field.cls ≠ "java/lang/invoke/VarHandle" ∧ (parseMethodDescriptor yX7_field.desc).map (fun d => d.parameters.length) = some 2 := ⟨rfl, by decide +kernel, by decide +kernel, by decide +kernel⟩
abbrev vX7_far : List Cond := Cond.code yX7_far cX7_far 4 (some .int) :: lw_gd
theorem hd_X7_far : yX7_far.cls = RX7 ∧ yX7_far.cls ≠ "java/lang/invoke/MethodHandle" ∧ yX7_far.cls ≠ "java/lang/invoke/VarHandle" ∧ (parseMethodDescriptor yX7_far.desc).map (fun d => d.parameters.length) = some 2 := ⟨rfl, by decide +kernel, by decide +kernel, by decide +kernel⟩
abbrev vX7_isKm : List Cond := Cond.code yX7_isKm cX7_isKm 1 (some .boolean) :: lw_gd
theorem hd_X7_isKm : yX7_isKm.cls = RX7 ∧ yX7_isKm.cls ≠ "java/lang/invoke/MethodHandle" ∧ yX7_isKm.cls ≠ "java/lang/invoke/VarHandle" ∧ (parseMethodDescriptor yX7_isKm.desc).map (fun d => d.parameters.length) = some 1 := ⟨rfl, by decide +kernel, by decide +kernel, by decide +kernel⟩
abbrev vX7_bit : List Cond := Cond.code yX7_bit cX7_bit 5 (some .int) :: lw_gd
theorem hd_X7_bit : yX7_bit.cls = RX7 ∧ yX7_bit.cls ≠ "java/lang/invoke/MethodHandle" ∧ yX7_bit.cls ≠ "java/lang/invoke/VarHandle" ∧ (parseMethodDescriptor yX7_bit.desc).map (fun d => d.parameters.length) = some 3 := ⟨rfl, by decide +kernel, by decide +kernel, by decide +kernel⟩
abbrev vX7_bitIs : List Cond := Cond.code yX7_bitIs cX7_bitIs 3 (some .int) :: lw_gd
theorem hd_X7_bitIs : yX7_bitIs.cls = RX7 ∧ yX7_bitIs.cls ≠ "java/lang/invoke/MethodHandle" ∧ yX7_bitIs.cls ≠ "java/lang/invoke/VarHandle" ∧ (parseMethodDescriptor yX7_bitIs.desc).map (fun d => d.parameters.length) = some 2 := ⟨rfl, by decide +kernel, by decide +kernel, by decide +kernel⟩
abbrev vX7_become : List Cond := Cond.code yX7_become cX7_become 3 (some .int) :: lw_gd
theorem hd_X7_become : yX7_become.cls = RX7 ∧ yX7_become.cls ≠ "java/lang/invoke/MethodHandle" ∧ yX7_become.cls ≠ "java/lang/invoke/VarHandle" ∧ (parseMethodDescriptor yX7_become.desc).map (fun d => d.parameters.length) = some 2 := ⟨rfl, by decide +kernel, by decide +kernel, by decide +kernel⟩
abbrev vX7_as : List Cond := Cond.code yX7_as cX7_as 5 (some .int) :: lw_gd
theorem hd_X7_as : yX7_as.cls = RX7 ∧ yX7_as.cls ≠ "java/lang/invoke/MethodHandle" ∧ yX7_as.cls ≠ "java/lang/invoke/VarHandle" ∧ (parseMethodDescriptor yX7_as.desc).map (fun d => d.parameters.length) = some 2 := ⟨rfl, by decide +kernel, by decide +kernel, by decide +kernel⟩
abbrev vX7_hears : List Cond := Cond.code yX7_hears cX7_hears 3 (some .int) :: lw_gd
theorem hd_X7_hears : yX7_hears.cls = RX7 ∧ yX7_hears.cls ≠ "java/lang/invoke/MethodHandle" ∧ yX7_hears.cls ≠ "java/lang/invoke/VarHandle" ∧ (parseMethodDescriptor yX7_hears.desc).map (fun d => d.parameters.length) = some 2 := ⟨rfl, by decide +kernel, by decide +kernel, by decide +kernel⟩
abbrev vX7_lay : List Cond := Cond.code yX7_lay cX7_lay 3 (some .int) :: lw_gd
theorem hd_X7_lay : yX7_lay.cls = RX7 ∧ yX7_lay.cls ≠ "java/lang/invoke/MethodHandle" ∧ yX7_lay.cls ≠ "java/lang/invoke/VarHandle" ∧ (parseMethodDescriptor yX7_lay.desc).map (fun d => d.parameters.length) = some 2 := ⟨rfl, by decide +kernel, by decide +kernel, by decide +kernel⟩
abbrev vX7_feed : List Cond := Cond.code yX7_feed cX7_feed 5 (some .int) :: lw_gd
theorem hd_X7_feed : yX7_feed.cls = RX7 ∧ yX7_feed.cls ≠ "java/lang/invoke/MethodHandle" ∧ yX7_feed.cls ≠ "java/lang/invoke/VarHandle" ∧ (parseMethodDescriptor yX7_feed.desc).map (fun d => d.parameters.length) = some 2 := ⟨rfl, by decide +kernel, by decide +kernel, by decide +kernel⟩
abbrev vX7_look : List Cond := Cond.code yX7_look cX7_look 1 (some .int) :: lw_gd
theorem hd_X7_look : yX7_look.cls = RX7 ∧ yX7_look.cls ≠ "java/lang/invoke/MethodHandle" ∧ yX7_look.cls ≠ "java/lang/invoke/VarHandle" ∧ (parseMethodDescriptor yX7_look.desc).map (fun d => d.parameters.length) = some 0 := ⟨rfl, by decide +kernel, by decide +kernel, by decide +kernel⟩
abbrev vX7_laysBy : List Cond := Cond.code yX7_laysBy cX7_laysBy 3 none :: lw_gd
theorem hd_X7_laysBy : yX7_laysBy.cls = RX7 ∧ yX7_laysBy.cls ≠ "java/lang/invoke/MethodHandle" ∧ yX7_laysBy.cls ≠ "java/lang/invoke/VarHandle" ∧ (parseMethodDescriptor yX7_laysBy.desc).map (fun d => d.parameters.length) = some 2 := ⟨rfl, by decide +kernel, by decide +kernel, by decide +kernel⟩
abbrev vX7_nameOf : List Cond := Cond.code yX7_nameOf cX7_nameOf 2 (some .int) :: lw_gd
theorem hd_X7_nameOf : yX7_nameOf.cls = RX7 ∧ yX7_nameOf.cls ≠ "java/lang/invoke/MethodHandle" ∧ yX7_nameOf.cls ≠ "java/lang/invoke/VarHandle" ∧ (parseMethodDescriptor yX7_nameOf.desc).map (fun d => d.parameters.length) = some 1 := ⟨rfl, by decide +kernel, by decide +kernel, by decide +kernel⟩
abbrev vX7_number : List Cond := Cond.code yX7_number cX7_number 3 none :: lw_gd
theorem hd_X7_number : yX7_number.cls = RX7 ∧ yX7_number.cls ≠ "java/lang/invoke/MethodHandle" ∧ yX7_number.cls ≠ "java/lang/invoke/VarHandle" ∧ (parseMethodDescriptor yX7_number.desc).map (fun d => d.parameters.length) = some 0 := ⟨rfl, by decide +kernel, by decide +kernel, by decide +kernel⟩
abbrev vX7_opensBy : List Cond := Cond.code yX7_opensBy cX7_opensBy 2 none :: lw_gd
theorem hd_X7_opensBy : yX7_opensBy.cls = RX7 ∧ yX7_opensBy.cls ≠ "java/lang/invoke/MethodHandle" ∧ yX7_opensBy.cls ≠ "java/lang/invoke/VarHandle" ∧ (parseMethodDescriptor yX7_opensBy.desc).map (fun d => d.parameters.length) = some 1 := ⟨rfl, by decide +kernel, by decide +kernel, by decide +kernel⟩
abbrev vX7_one : List Cond := Cond.code yX7_one cX7_one 3 none :: lw_gd
theorem hd_X7_one : yX7_one.cls = RX7 ∧ yX7_one.cls ≠ "java/lang/invoke/MethodHandle" ∧ yX7_one.cls ≠ "java/lang/invoke/VarHandle" ∧ (parseMethodDescriptor yX7_one.desc).map (fun d => d.parameters.length) = some 0 := ⟨rfl, by decide +kernel, by decide +kernel, by decide +kernel⟩
abbrev vX7_times : List Cond := Cond.code yX7_times cX7_times 2 none :: lw_gd
theorem hd_X7_times : yX7_times.cls = RX7 ∧ yX7_times.cls ≠ "java/lang/invoke/MethodHandle" ∧ yX7_times.cls ≠ "java/lang/invoke/VarHandle" ∧ (parseMethodDescriptor yX7_times.desc).map (fun d => d.parameters.length) = some 0 := ⟨rfl, by decide +kernel, by decide +kernel, by decide +kernel⟩
abbrev vX7_sum : List Cond := Cond.code yX7_sum cX7_sum 2 none :: lw_gd
theorem hd_X7_sum : yX7_sum.cls = RX7 ∧ yX7_sum.cls ≠ "java/lang/invoke/MethodHandle" ∧ yX7_sum.cls ≠ "java/lang/invoke/VarHandle" ∧ (parseMethodDescriptor yX7_sum.desc).map (fun d => d.parameters.length) = some 0 := ⟨rfl, by decide +kernel, by decide +kernel, by decide +kernel⟩
abbrev vX7_compares : List Cond := Cond.code yX7_compares cX7_compares 2 none :: lw_gd
theorem hd_X7_compares : yX7_compares.cls = RX7 ∧ yX7_compares.cls ≠ "java/lang/invoke/MethodHandle" ∧ yX7_compares.cls ≠ "java/lang/invoke/VarHandle" ∧ (parseMethodDescriptor yX7_compares.desc).map (fun d => d.parameters.length) = some 0 := ⟨rfl, by decide +kernel, by decide +kernel, by decide +kernel⟩
abbrev vX7_all : List Cond := Cond.code yX7_all cX7_all 1 none :: lw_gd
theorem hd_X7_all : yX7_all.cls = RX7 ∧ yX7_all.cls ≠ "java/lang/invoke/MethodHandle" ∧ yX7_all.cls ≠ "java/lang/invoke/VarHandle" ∧ (parseMethodDescriptor yX7_all.desc).map (fun d => d.parameters.length) = some 0 := ⟨rfl, by decide +kernel, by decide +kernel, by decide +kernel⟩
abbrev vX7_any : List Cond := Cond.code yX7_any cX7_any 1 none :: lw_gd
theorem hd_X7_any : yX7_any.cls = RX7 ∧ yX7_any.cls ≠ "java/lang/invoke/MethodHandle" ∧ yX7_any.cls ≠ "java/lang/invoke/VarHandle" ∧ (parseMethodDescriptor yX7_any.desc).map (fun d => d.parameters.length) = some 0 := ⟨rfl, by decide +kernel, by decide +kernel, by decide +kernel⟩
abbrev vX7_text : List Cond := Cond.code yX7_text cX7_text 4 (some .int) :: lw_gd
theorem hd_X7_text : yX7_text.cls = RX7 ∧ yX7_text.cls ≠ "java/lang/invoke/MethodHandle" ∧ yX7_text.cls ≠ "java/lang/invoke/VarHandle" ∧ (parseMethodDescriptor yX7_text.desc).map (fun d => d.parameters.length) = some 1 := ⟨rfl, by decide +kernel, by decide +kernel, by decide +kernel⟩
abbrev vX7_untell : List Cond := Cond.code yX7_untell cX7_untell 2 (some .int) :: lw_gd
theorem hd_X7_untell : yX7_untell.cls = RX7 ∧ yX7_untell.cls ≠ "java/lang/invoke/MethodHandle" ∧ yX7_untell.cls ≠ "java/lang/invoke/VarHandle" ∧ (parseMethodDescriptor yX7_untell.desc).map (fun d => d.parameters.length) = some 1 := ⟨rfl, by decide +kernel, by decide +kernel, by decide +kernel⟩
abbrev vX7_twoOf : List Cond := Cond.code yX7_twoOf cX7_twoOf 3 (some .int) :: lw_gd
theorem hd_X7_twoOf : yX7_twoOf.cls = RX7 ∧ yX7_twoOf.cls ≠ "java/lang/invoke/MethodHandle" ∧ yX7_twoOf.cls ≠ "java/lang/invoke/VarHandle" ∧ (parseMethodDescriptor yX7_twoOf.desc).map (fun d => d.parameters.length) = some 3 := ⟨rfl, by decide +kernel, by decide +kernel, by decide +kernel⟩
abbrev vX7_works : List Cond := Cond.code yX7_works cX7_works 5 (some .int) :: lw_gd
theorem hd_X7_works : yX7_works.cls = RX7 ∧ yX7_works.cls ≠ "java/lang/invoke/MethodHandle" ∧ yX7_works.cls ≠ "java/lang/invoke/VarHandle" ∧ (parseMethodDescriptor yX7_works.desc).map (fun d => d.parameters.length) = some 1 := ⟨rfl, by decide +kernel, by decide +kernel, by decide +kernel⟩
abbrev vX7_gives : List Cond := Cond.code yX7_gives cX7_gives 7 (some .int) :: lw_gd
theorem hd_X7_gives : yX7_gives.cls = RX7 ∧ yX7_gives.cls ≠ "java/lang/invoke/MethodHandle" ∧ yX7_gives.cls ≠ "java/lang/invoke/VarHandle" ∧ (parseMethodDescriptor yX7_gives.desc).map (fun d => d.parameters.length) = some 4 := ⟨rfl, by decide +kernel, by decide +kernel, by decide +kernel⟩
abbrev vX7_law : List Cond := Cond.code yX7_law cX7_law 5 (some .int) :: lw_gd
theorem hd_X7_law : yX7_law.cls = RX7 ∧ yX7_law.cls ≠ "java/lang/invoke/MethodHandle" ∧ yX7_law.cls ≠ "java/lang/invoke/VarHandle" ∧ (parseMethodDescriptor yX7_law.desc).map (fun d => d.parameters.length) = some 4 := ⟨rfl, by decide +kernel, by decide +kernel, by decide +kernel⟩
abbrev vX7_nextOf : List Cond := Cond.code yX7_nextOf cX7_nextOf 4 (some .int) :: lw_gd
theorem hd_X7_nextOf : yX7_nextOf.cls = RX7 ∧ yX7_nextOf.cls ≠ "java/lang/invoke/MethodHandle" ∧ yX7_nextOf.cls ≠ "java/lang/invoke/VarHandle" ∧ (parseMethodDescriptor yX7_nextOf.desc).map (fun d => d.parameters.length) = some 2 := ⟨rfl, by decide +kernel, by decide +kernel, by decide +kernel⟩
abbrev vX7_goes : List Cond := Cond.code yX7_goes cX7_goes 3 none :: lw_gd
theorem hd_X7_goes : yX7_goes.cls = RX7 ∧ yX7_goes.cls ≠ "java/lang/invoke/MethodHandle" ∧ yX7_goes.cls ≠ "java/lang/invoke/VarHandle" ∧ (parseMethodDescriptor yX7_goes.desc).map (fun d => d.parameters.length) = some 0 := ⟨rfl, by decide +kernel, by decide +kernel, by decide +kernel⟩
abbrev vX7_goesFor : List Cond := Cond.code yX7_goesFor cX7_goesFor 3 none :: lw_gd
theorem hd_X7_goesFor : yX7_goesFor.cls = RX7 ∧ yX7_goesFor.cls ≠ "java/lang/invoke/MethodHandle" ∧ yX7_goesFor.cls ≠ "java/lang/invoke/VarHandle" ∧ (parseMethodDescriptor yX7_goesFor.desc).map (fun d => d.parameters.length) = some 1 := ⟨rfl, by decide +kernel, by decide +kernel, by decide +kernel⟩
abbrev vX7_days : List Cond := Cond.code yX7_days cX7_days 2 (some .int) :: lw_gd
theorem hd_X7_days : yX7_days.cls = RX7 ∧ yX7_days.cls ≠ "java/lang/invoke/MethodHandle" ∧ yX7_days.cls ≠ "java/lang/invoke/VarHandle" ∧ (parseMethodDescriptor yX7_days.desc).map (fun d => d.parameters.length) = some 1 := ⟨rfl, by decide +kernel, by decide +kernel, by decide +kernel⟩
abbrev vX7_draw : List Cond := Cond.code yX7_draw cX7_draw 1 (some .int) :: lw_gd
theorem hd_X7_draw : yX7_draw.cls = RX7 ∧ yX7_draw.cls ≠ "java/lang/invoke/MethodHandle" ∧ yX7_draw.cls ≠ "java/lang/invoke/VarHandle" ∧ (parseMethodDescriptor yX7_draw.desc).map (fun d => d.parameters.length) = some 0 := ⟨rfl, by decide +kernel, by decide +kernel, by decide +kernel⟩
abbrev vX7_drawn : List Cond := Cond.code yX7_drawn cX7_drawn 2 none :: lw_gd
theorem hd_X7_drawn : yX7_drawn.cls = RX7 ∧ yX7_drawn.cls ≠ "java/lang/invoke/MethodHandle" ∧ yX7_drawn.cls ≠ "java/lang/invoke/VarHandle" ∧ (parseMethodDescriptor yX7_drawn.desc).map (fun d => d.parameters.length) = some 0 := ⟨rfl, by decide +kernel, by decide +kernel, by decide +kernel⟩
abbrev vX7_loose : List Cond := Cond.code yX7_loose cX7_loose 3 (some .int) :: lw_gd
theorem hd_X7_loose : yX7_loose.cls = RX7 ∧ yX7_loose.cls ≠ "java/lang/invoke/MethodHandle" ∧ yX7_loose.cls ≠ "java/lang/invoke/VarHandle" ∧ (parseMethodDescriptor yX7_loose.desc).map (fun d => d.parameters.length) = some 1 := ⟨rfl, by decide +kernel, by decide +kernel, by decide +kernel⟩
abbrev vX7_day : List Cond := Cond.code yX7_day cX7_day 2 (some .int) :: lw_gd
theorem hd_X7_day : yX7_day.cls = RX7 ∧ yX7_day.cls ≠ "java/lang/invoke/MethodHandle" ∧ yX7_day.cls ≠ "java/lang/invoke/VarHandle" ∧ (parseMethodDescriptor yX7_day.desc).map (fun d => d.parameters.length) = some 1 := ⟨rfl, by decide +kernel, by decide +kernel, by decide +kernel⟩
abbrev vX7_seed : List Cond := Cond.code yX7_seed cX7_seed 2 (some .int) :: lw_gd
theorem hd_X7_seed : yX7_seed.cls = RX7 ∧ yX7_seed.cls ≠ "java/lang/invoke/MethodHandle" ∧ yX7_seed.cls ≠ "java/lang/invoke/VarHandle" ∧ (parseMethodDescriptor yX7_seed.desc).map (fun d => d.parameters.length) = some 1 := ⟨rfl, by decide +kernel, by decide +kernel, by decide +kernel⟩
abbrev vX7_then : List Cond := Cond.code yX7_then cX7_then 4 (some .int) :: lw_gd
theorem hd_X7_then : yX7_then.cls = RX7 ∧ yX7_then.cls ≠ "java/lang/invoke/MethodHandle" ∧ yX7_then.cls ≠ "java/lang/invoke/VarHandle" ∧ (parseMethodDescriptor yX7_then.desc).map (fun d => d.parameters.length) = some 2 := ⟨rfl, by decide +kernel, by decide +kernel, by decide +kernel⟩
abbrev vX7_soonest : List Cond := Cond.code yX7_soonest cX7_soonest 3 (some .int) :: lw_gd
theorem hd_X7_soonest : yX7_soonest.cls = RX7 ∧ yX7_soonest.cls ≠ "java/lang/invoke/MethodHandle" ∧ yX7_soonest.cls ≠ "java/lang/invoke/VarHandle" ∧ (parseMethodDescriptor yX7_soonest.desc).map (fun d => d.parameters.length) = some 1 := ⟨rfl, by decide +kernel, by decide +kernel, by decide +kernel⟩
abbrev vX7_gotBy : List Cond := Cond.code yX7_gotBy cX7_gotBy 4 (some .int) :: lw_gd
theorem hd_X7_gotBy : yX7_gotBy.cls = RX7 ∧ yX7_gotBy.cls ≠ "java/lang/invoke/MethodHandle" ∧ yX7_gotBy.cls ≠ "java/lang/invoke/VarHandle" ∧ (parseMethodDescriptor yX7_gotBy.desc).map (fun d => d.parameters.length) = some 1 := ⟨rfl, by decide +kernel, by decide +kernel, by decide +kernel⟩
abbrev vX7_gets : List Cond := Cond.code yX7_gets cX7_gets 4 (some .int) :: lw_gd
theorem hd_X7_gets : yX7_gets.cls = RX7 ∧ yX7_gets.cls ≠ "java/lang/invoke/MethodHandle" ∧ yX7_gets.cls ≠ "java/lang/invoke/VarHandle" ∧ (parseMethodDescriptor yX7_gets.desc).map (fun d => d.parameters.length) = some 2 := ⟨rfl, by decide +kernel, by decide +kernel, by decide +kernel⟩
abbrev vX7_isEnough : List Cond := Cond.code yX7_isEnough cX7_isEnough 6 (some .boolean) :: lw_gd
theorem hd_X7_isEnough : yX7_isEnough.cls = RX7 ∧ yX7_isEnough.cls ≠ "java/lang/invoke/MethodHandle" ∧ yX7_isEnough.cls ≠ "java/lang/invoke/VarHandle" ∧ (parseMethodDescriptor yX7_isEnough.desc).map (fun d => d.parameters.length) = some 4 := ⟨rfl, by decide +kernel, by decide +kernel, by decide +kernel⟩
abbrev vX7_carry : List Cond := Cond.code yX7_carry cX7_carry 7 (some .int) :: lw_gd
theorem hd_X7_carry : yX7_carry.cls = RX7 ∧ yX7_carry.cls ≠ "java/lang/invoke/MethodHandle" ∧ yX7_carry.cls ≠ "java/lang/invoke/VarHandle" ∧ (parseMethodDescriptor yX7_carry.desc).map (fun d => d.parameters.length) = some 3 := ⟨rfl, by decide +kernel, by decide +kernel, by decide +kernel⟩
abbrev vX7_way : List Cond := Cond.code yX7_way cX7_way 9 (some .int) :: lw_gd
theorem hd_X7_way : yX7_way.cls = RX7 ∧ yX7_way.cls ≠ "java/lang/invoke/MethodHandle" ∧ yX7_way.cls ≠ "java/lang/invoke/VarHandle" ∧ (parseMethodDescriptor yX7_way.desc).map (fun d => d.parameters.length) = some 2 := ⟨rfl, by decide +kernel, by decide +kernel, by decide +kernel⟩
abbrev vX7_odds : List Cond := Cond.code yX7_odds cX7_odds 6 (some .int) :: lw_gd
theorem hd_X7_odds : yX7_odds.cls = RX7 ∧ yX7_odds.cls ≠ "java/lang/invoke/MethodHandle" ∧ yX7_odds.cls ≠ "java/lang/invoke/VarHandle" ∧ (parseMethodDescriptor yX7_odds.desc).map (fun d => d.parameters.length) = some 2 := ⟨rfl, by decide +kernel, by decide +kernel, by decide +kernel⟩
abbrev vX7_isSo : List Cond := Cond.code yX7_isSo cX7_isSo 5 (some .boolean) :: lw_gd
theorem hd_X7_isSo : yX7_isSo.cls = RX7 ∧ yX7_isSo.cls ≠ "java/lang/invoke/MethodHandle" ∧ yX7_isSo.cls ≠ "java/lang/invoke/VarHandle" ∧ (parseMethodDescriptor yX7_isSo.desc).map (fun d => d.parameters.length) = some 2 := ⟨rfl, by decide +kernel, by decide +kernel, by decide +kernel⟩
abbrev vX7_whose : List Cond := Cond.code yX7_whose cX7_whose 6 (some .int) :: lw_gd
theorem hd_X7_whose : yX7_whose.cls = RX7 ∧ yX7_whose.cls ≠ "java/lang/invoke/MethodHandle" ∧ yX7_whose.cls ≠ "java/lang/invoke/VarHandle" ∧ (parseMethodDescriptor yX7_whose.desc).map (fun d => d.parameters.length) = some 3 := ⟨rfl, by decide +kernel, by decide +kernel, by decide +kernel⟩
abbrev vX7_begins : List Cond := Cond.code yX7_begins cX7_begins 2 none :: lw_gd
theorem hd_X7_begins : yX7_begins.cls = RX7 ∧ yX7_begins.cls ≠ "java/lang/invoke/MethodHandle" ∧ yX7_begins.cls ≠ "java/lang/invoke/VarHandle" ∧ (parseMethodDescriptor yX7_begins.desc).map (fun d => d.parameters.length) = some 1 := ⟨rfl, by decide +kernel, by decide +kernel, by decide +kernel⟩
abbrev vX7_plainWalks : List Cond := Cond.code yX7_plainWalks cX7_plainWalks 3 (some .int) :: lw_gd
theorem hd_X7_plainWalks : yX7_plainWalks.cls = RX7 ∧ yX7_plainWalks.cls ≠ "java/lang/invoke/MethodHandle" ∧ yX7_plainWalks.cls ≠ "java/lang/invoke/VarHandle" ∧ (parseMethodDescriptor yX7_plainWalks.desc).map (fun d => d.parameters.length) = some 2 := ⟨rfl, by decide +kernel, by decide +kernel, by decide +kernel⟩
abbrev vX7_crustWalks : List Cond := Cond.code yX7_crustWalks cX7_crustWalks 3 (some .int) :: lw_gd
theorem hd_X7_crustWalks : yX7_crustWalks.cls = RX7 ∧ yX7_crustWalks.cls ≠ "java/lang/invoke/MethodHandle" ∧ yX7_crustWalks.cls ≠ "java/lang/invoke/VarHandle" ∧ (parseMethodDescriptor yX7_crustWalks.desc).map (fun d => d.parameters.length) = some 2 := ⟨rfl, by decide +kernel, by decide +kernel, by decide +kernel⟩
abbrev vX7_walks : List Cond := Cond.code yX7_walks cX7_walks 3 (some .int) :: lw_gd
theorem hd_X7_walks : yX7_walks.cls = RX7 ∧ yX7_walks.cls ≠ "java/lang/invoke/MethodHandle" ∧ yX7_walks.cls ≠ "java/lang/invoke/VarHandle" ∧ (parseMethodDescriptor yX7_walks.desc).map (fun d => d.parameters.length) = some 2 := ⟨rfl, by decide +kernel, by decide +kernel, by decide +kernel⟩
abbrev vX7_plainWarms : List Cond := Cond.code yX7_plainWarms cX7_plainWarms 3 (some .int) :: lw_gd
theorem hd_X7_plainWarms : yX7_plainWarms.cls = RX7 ∧ yX7_plainWarms.cls ≠ "java/lang/invoke/MethodHandle" ∧ yX7_plainWarms.cls ≠ "java/lang/invoke/VarHandle" ∧ (parseMethodDescriptor yX7_plainWarms.desc).map (fun d => d.parameters.length) = some 2 := ⟨rfl, by decide +kernel, by decide +kernel, by decide +kernel⟩
abbrev vX7_officeWarms : List Cond := Cond.code yX7_officeWarms cX7_officeWarms 3 (some .int) :: lw_gd
theorem hd_X7_officeWarms : yX7_officeWarms.cls = RX7 ∧ yX7_officeWarms.cls ≠ "java/lang/invoke/MethodHandle" ∧ yX7_officeWarms.cls ≠ "java/lang/invoke/VarHandle" ∧ (parseMethodDescriptor yX7_officeWarms.desc).map (fun d => d.parameters.length) = some 2 := ⟨rfl, by decide +kernel, by decide +kernel, by decide +kernel⟩
abbrev vX7_warms : List Cond := Cond.code yX7_warms cX7_warms 3 (some .int) :: lw_gd
theorem hd_X7_warms : yX7_warms.cls = RX7 ∧ yX7_warms.cls ≠ "java/lang/invoke/MethodHandle" ∧ yX7_warms.cls ≠ "java/lang/invoke/VarHandle" ∧ (parseMethodDescriptor yX7_warms.desc).map (fun d => d.parameters.length) = some 2 := ⟨rfl, by decide +kernel, by decide +kernel, by decide +kernel⟩
abbrev vX7_plainSprouts : List Cond := Cond.code yX7_plainSprouts cX7_plainSprouts 3 (some .int) :: lw_gd
theorem hd_X7_plainSprouts : yX7_plainSprouts.cls = RX7 ∧ yX7_plainSprouts.cls ≠ "java/lang/invoke/MethodHandle" ∧ yX7_plainSprouts.cls ≠ "java/lang/invoke/VarHandle" ∧ (parseMethodDescriptor yX7_plainSprouts.desc).map (fun d => d.parameters.length) = some 2 := ⟨rfl, by decide +kernel, by decide +kernel, by decide +kernel⟩
abbrev vX7_sprouts : List Cond := Cond.code yX7_sprouts cX7_sprouts 3 (some .int) :: lw_gd
theorem hd_X7_sprouts : yX7_sprouts.cls = RX7 ∧ yX7_sprouts.cls ≠ "java/lang/invoke/MethodHandle" ∧ yX7_sprouts.cls ≠ "java/lang/invoke/VarHandle" ∧ (parseMethodDescriptor yX7_sprouts.desc).map (fun d => d.parameters.length) = some 2 := ⟨rfl, by decide +kernel, by decide +kernel, by decide +kernel⟩
abbrev vX7_plainParts : List Cond := Cond.code yX7_plainParts cX7_plainParts 4 (some .int) :: lw_gd
theorem hd_X7_plainParts : yX7_plainParts.cls = RX7 ∧ yX7_plainParts.cls ≠ "java/lang/invoke/MethodHandle" ∧ yX7_plainParts.cls ≠ "java/lang/invoke/VarHandle" ∧ (parseMethodDescriptor yX7_plainParts.desc).map (fun d => d.parameters.length) = some 2 := ⟨rfl, by decide +kernel, by decide +kernel, by decide +kernel⟩
abbrev vX7_partsBy : List Cond := Cond.code yX7_partsBy cX7_partsBy 4 (some .int) :: lw_gd
theorem hd_X7_partsBy : yX7_partsBy.cls = RX7 ∧ yX7_partsBy.cls ≠ "java/lang/invoke/MethodHandle" ∧ yX7_partsBy.cls ≠ "java/lang/invoke/VarHandle" ∧ (parseMethodDescriptor yX7_partsBy.desc).map (fun d => d.parameters.length) = some 2 := ⟨rfl, by decide +kernel, by decide +kernel, by decide +kernel⟩
abbrev vX7_voice : List Cond := Cond.code yX7_voice cX7_voice 5 (some .int) :: lw_gd
theorem hd_X7_voice : yX7_voice.cls = RX7 ∧ yX7_voice.cls ≠ "java/lang/invoke/MethodHandle" ∧ yX7_voice.cls ≠ "java/lang/invoke/VarHandle" ∧ (parseMethodDescriptor yX7_voice.desc).map (fun d => d.parameters.length) = some 3 := ⟨rfl, by decide +kernel, by decide +kernel, by decide +kernel⟩
abbrev vX7_body : List Cond := Cond.code yX7_body cX7_body 2 (some .int) :: lw_gd
theorem hd_X7_body : yX7_body.cls = RX7 ∧ yX7_body.cls ≠ "java/lang/invoke/MethodHandle" ∧ yX7_body.cls ≠ "java/lang/invoke/VarHandle" ∧ (parseMethodDescriptor yX7_body.desc).map (fun d => d.parameters.length) = some 1 := ⟨rfl, by decide +kernel, by decide +kernel, by decide +kernel⟩
abbrev vX7_isSheet : List Cond := Cond.code yX7_isSheet cX7_isSheet 1 (some .boolean) :: lw_gd
theorem hd_X7_isSheet : yX7_isSheet.cls = RX7 ∧ yX7_isSheet.cls ≠ "java/lang/invoke/MethodHandle" ∧ yX7_isSheet.cls ≠ "java/lang/invoke/VarHandle" ∧ (parseMethodDescriptor yX7_isSheet.desc).map (fun d => d.parameters.length) = some 1 := ⟨rfl, by decide +kernel, by decide +kernel, by decide +kernel⟩
abbrev vX7_sheet : List Cond := Cond.code yX7_sheet cX7_sheet 5 (some .int) :: lw_gd
theorem hd_X7_sheet : yX7_sheet.cls = RX7 ∧ yX7_sheet.cls ≠ "java/lang/invoke/MethodHandle" ∧ yX7_sheet.cls ≠ "java/lang/invoke/VarHandle" ∧ (parseMethodDescriptor yX7_sheet.desc).map (fun d => d.parameters.length) = some 3 := ⟨rfl, by decide +kernel, by decide +kernel, by decide +kernel⟩
abbrev vX7_notThere : List Cond := Cond.code yX7_notThere cX7_notThere 2 (some .int) :: lw_gd
theorem hd_X7_notThere : yX7_notThere.cls = RX7 ∧ yX7_notThere.cls ≠ "java/lang/invoke/MethodHandle" ∧ yX7_notThere.cls ≠ "java/lang/invoke/VarHandle" ∧ (parseMethodDescriptor yX7_notThere.desc).map (fun d => d.parameters.length) = some 1 := ⟨rfl, by decide +kernel, by decide +kernel, by decide +kernel⟩
abbrev vX7_put : List Cond := Cond.code yX7_put cX7_put 5 (some .int) :: lw_gd
theorem hd_X7_put : yX7_put.cls = RX7 ∧ yX7_put.cls ≠ "java/lang/invoke/MethodHandle" ∧ yX7_put.cls ≠ "java/lang/invoke/VarHandle" ∧ (parseMethodDescriptor yX7_put.desc).map (fun d => d.parameters.length) = some 3 := ⟨rfl, by decide +kernel, by decide +kernel, by decide +kernel⟩
abbrev vX7_notMoved : List Cond := Cond.code yX7_notMoved cX7_notMoved 7 (some .int) :: lw_gd
theorem hd_X7_notMoved : yX7_notMoved.cls = RX7 ∧ yX7_notMoved.cls ≠ "java/lang/invoke/MethodHandle" ∧ yX7_notMoved.cls ≠ "java/lang/invoke/VarHandle" ∧ (parseMethodDescriptor yX7_notMoved.desc).map (fun d => d.parameters.length) = some 5 := ⟨rfl, by decide +kernel, by decide +kernel, by decide +kernel⟩
abbrev vX7_move : List Cond := Cond.code yX7_move cX7_move 9 (some .int) :: lw_gd
theorem hd_X7_move : yX7_move.cls = RX7 ∧ yX7_move.cls ≠ "java/lang/invoke/MethodHandle" ∧ yX7_move.cls ≠ "java/lang/invoke/VarHandle" ∧ (parseMethodDescriptor yX7_move.desc).map (fun d => d.parameters.length) = some 5 := ⟨rfl, by decide +kernel, by decide +kernel, by decide +kernel⟩
abbrev vX7_lays : List Cond := Cond.code yX7_lays cX7_lays 4 (some .int) :: lw_gd
theorem hd_X7_lays : yX7_lays.cls = RX7 ∧ yX7_lays.cls ≠ "java/lang/invoke/MethodHandle" ∧ yX7_lays.cls ≠ "java/lang/invoke/VarHandle" ∧ (parseMethodDescriptor yX7_lays.desc).map (fun d => d.parameters.length) = some 1 := ⟨rfl, by decide +kernel, by decide +kernel, by decide +kernel⟩
abbrev vX7_judge : List Cond := Cond.code yX7_judge cX7_judge 4 (some .int) :: lw_gd
theorem hd_X7_judge : yX7_judge.cls = RX7 ∧ yX7_judge.cls ≠ "java/lang/invoke/MethodHandle" ∧ yX7_judge.cls ≠ "java/lang/invoke/VarHandle" ∧ (parseMethodDescriptor yX7_judge.desc).map (fun d => d.parameters.length) = some 1 := ⟨rfl, by decide +kernel, by decide +kernel, by decide +kernel⟩
abbrev vX7_image : List Cond := Cond.code yX7_image cX7_image 1 (some .int) :: lw_gd
theorem hd_X7_image : yX7_image.cls = RX7 ∧ yX7_image.cls ≠ "java/lang/invoke/MethodHandle" ∧ yX7_image.cls ≠ "java/lang/invoke/VarHandle" ∧ (parseMethodDescriptor yX7_image.desc).map (fun d => d.parameters.length) = some 0 := ⟨rfl, by decide +kernel, by decide +kernel, by decide +kernel⟩
abbrev vX7_restore : List Cond := Cond.code yX7_restore cX7_restore 1 (some .int) :: lw_gd
theorem hd_X7_restore : yX7_restore.cls = RX7 ∧ yX7_restore.cls ≠ "java/lang/invoke/MethodHandle" ∧ yX7_restore.cls ≠ "java/lang/invoke/VarHandle" ∧ (parseMethodDescriptor yX7_restore.desc).map (fun d => d.parameters.length) = some 0 := ⟨rfl, by decide +kernel, by decide +kernel, by decide +kernel⟩
abbrev vX7_tell : List Cond := Cond.code yX7_tell cX7_tell 2 (some .int) :: lw_gd
theorem hd_X7_tell : yX7_tell.cls = RX7 ∧ yX7_tell.cls ≠ "java/lang/invoke/MethodHandle" ∧ yX7_tell.cls ≠ "java/lang/invoke/VarHandle" ∧ (parseMethodDescriptor yX7_tell.desc).map (fun d => d.parameters.length) = some 1 := ⟨rfl, by decide +kernel, by decide +kernel, by decide +kernel⟩
abbrev vX7_check : List Cond := Cond.code yX7_check cX7_check 3 (some .int) :: lw_gd
theorem hd_X7_check : yX7_check.cls = RX7 ∧ yX7_check.cls ≠ "java/lang/invoke/MethodHandle" ∧ yX7_check.cls ≠ "java/lang/invoke/VarHandle" ∧ (parseMethodDescriptor yX7_check.desc).map (fun d => d.parameters.length) = some 0 := ⟨rfl, by decide +kernel, by decide +kernel, by decide +kernel⟩
abbrev vX7_count : List Cond := Cond.code yX7_count cX7_count 2 (some .int) :: lw_gd
theorem hd_X7_count : yX7_count.cls = RX7 ∧ yX7_count.cls ≠ "java/lang/invoke/MethodHandle" ∧ yX7_count.cls ≠ "java/lang/invoke/VarHandle" ∧ (parseMethodDescriptor yX7_count.desc).map (fun d => d.parameters.length) = some 1 := ⟨rfl, by decide +kernel, by decide +kernel, by decide +kernel⟩
abbrev vX7_told : List Cond := Cond.code yX7_told cX7_told 2 (some .int) :: lw_gd
theorem hd_X7_told : yX7_told.cls = RX7 ∧ yX7_told.cls ≠ "java/lang/invoke/MethodHandle" ∧ yX7_told.cls ≠ "java/lang/invoke/VarHandle" ∧ (parseMethodDescriptor yX7_told.desc).map (fun d => d.parameters.length) = some 1 := ⟨rfl, by decide +kernel, by decide +kernel, by decide +kernel⟩
abbrev vX0_init : List Cond := Cond.code yX0_init cX0_init 2 none :: lw_gd
abbrev vX0_copy : List Cond := Cond.code yX0_copy cX0_copy 2 none :: lw_gd
theorem hd_X0_copy : yX0_copy.cls = RX0 ∧ yX0_copy.cls ≠ "java/lang/invoke/MethodHandle" ∧ yX0_copy.cls ≠ "java/lang/invoke/VarHandle" ∧ (parseMethodDescriptor yX0_copy.desc).map (fun d => d.parameters.length) = some 1 := ⟨rfl, by decide +kernel, by decide +kernel, by decide +kernel⟩
abbrev vX0_grow : List Cond := Cond.code yX0_grow cX0_grow 5 (some .int) :: lw_gd
theorem hd_X0_grow : yX0_grow.cls = RX0 ∧ yX0_grow.cls ≠ "java/lang/invoke/MethodHandle" ∧ yX0_grow.cls ≠ "java/lang/invoke/VarHandle" ∧ (parseMethodDescriptor yX0_grow.desc).map (fun d => d.parameters.length) = some 3 := ⟨rfl, by decide +kernel, by decide +kernel, by decide +kernel⟩
abbrev vX0_goal : List Cond := Cond.code yX0_goal cX0_goal 2 (some .int) :: lw_gd
theorem hd_X0_goal : yX0_goal.cls = RX0 ∧ yX0_goal.cls ≠ "java/lang/invoke/MethodHandle" ∧ yX0_goal.cls ≠ "java/lang/invoke/VarHandle" ∧ (parseMethodDescriptor yX0_goal.desc).map (fun d => d.parameters.length) = some 1 := ⟨rfl, by decide +kernel, by decide +kernel, by decide +kernel⟩
abbrev vX0_isHome : List Cond := Cond.code yX0_isHome cX0_isHome 2 (some .boolean) :: lw_gd
theorem hd_X0_isHome : yX0_isHome.cls = RX0 ∧ yX0_isHome.cls ≠ "java/lang/invoke/MethodHandle" ∧ yX0_isHome.cls ≠ "java/lang/invoke/VarHandle" ∧ (parseMethodDescriptor yX0_isHome.desc).map (fun d => d.parameters.length) = some 1 := ⟨rfl, by decide +kernel, by decide +kernel, by decide +kernel⟩
abbrev vX0_homeSet : List Cond := Cond.code yX0_homeSet cX0_homeSet 3 (some .int) :: lw_gd
theorem hd_X0_homeSet : yX0_homeSet.cls = RX0 ∧ yX0_homeSet.cls ≠ "java/lang/invoke/MethodHandle" ∧ yX0_homeSet.cls ≠ "java/lang/invoke/VarHandle" ∧ (parseMethodDescriptor yX0_homeSet.desc).map (fun d => d.parameters.length) = some 0 := ⟨rfl, by decide +kernel, by decide +kernel, by decide +kernel⟩
abbrev vX0_awaySet : List Cond := Cond.code yX0_awaySet cX0_awaySet 4 (some .int) :: lw_gd
theorem hd_X0_awaySet : yX0_awaySet.cls = RX0 ∧ yX0_awaySet.cls ≠ "java/lang/invoke/MethodHandle" ∧ yX0_awaySet.cls ≠ "java/lang/invoke/VarHandle" ∧ (parseMethodDescriptor yX0_awaySet.desc).map (fun d => d.parameters.length) = some 1 := ⟨rfl, by decide +kernel, by decide +kernel, by decide +kernel⟩
abbrev vX0_hasCompany : List Cond := Cond.code yX0_hasCompany cX0_hasCompany 3 (some .boolean) :: lw_gd
theorem hd_X0_hasCompany : yX0_hasCompany.cls = RX0 ∧ yX0_hasCompany.cls ≠ "java/lang/invoke/MethodHandle" ∧ yX0_hasCompany.cls ≠ "java/lang/invoke/VarHandle" ∧ (parseMethodDescriptor yX0_hasCompany.desc).map (fun d => d.parameters.length) = some 1 := ⟨rfl, by decide +kernel, by decide +kernel, by decide +kernel⟩
abbrev vX0_walks : List Cond := Cond.code yX0_walks cX0_walks 4 (some .int) :: lw_gd
theorem hd_X0_walks : yX0_walks.cls = RX0 ∧ yX0_walks.cls ≠ "java/lang/invoke/MethodHandle" ∧ yX0_walks.cls ≠ "java/lang/invoke/VarHandle" ∧ (parseMethodDescriptor yX0_walks.desc).map (fun d => d.parameters.length) = some 1 := ⟨rfl, by decide +kernel, by decide +kernel, by decide +kernel⟩
abbrev vX0_weighs : List Cond := Cond.code yX0_weighs cX0_weighs 5 (some .int) :: lw_gd
theorem hd_X0_weighs : yX0_weighs.cls = RX0 ∧ yX0_weighs.cls ≠ "java/lang/invoke/MethodHandle" ∧ yX0_weighs.cls ≠ "java/lang/invoke/VarHandle" ∧ (parseMethodDescriptor yX0_weighs.desc).map (fun d => d.parameters.length) = some 1 := ⟨rfl, by decide +kernel, by decide +kernel, by decide +kernel⟩
abbrev vX1_init : List Cond := Cond.code yX1_init cX1_init 3 none :: lw_gd
abbrev vX1_take : List Cond := Cond.code yX1_take cX1_take 3 none :: lw_gd
theorem hd_X1_take : yX1_take.cls = RX1 ∧ yX1_take.cls ≠ "java/lang/invoke/MethodHandle" ∧ yX1_take.cls ≠ "java/lang/invoke/VarHandle" ∧ (parseMethodDescriptor yX1_take.desc).map (fun d => d.parameters.length) = some 2 := ⟨rfl, by decide +kernel, by decide +kernel, by decide +kernel⟩
abbrev vX1_gives : List Cond := Cond.code yX1_gives cX1_gives 5 (some .int) :: lw_gd
theorem hd_X1_gives : yX1_gives.cls = RX1 ∧ yX1_gives.cls ≠ "java/lang/invoke/MethodHandle" ∧ yX1_gives.cls ≠ "java/lang/invoke/VarHandle" ∧ (parseMethodDescriptor yX1_gives.desc).map (fun d => d.parameters.length) = some 3 := ⟨rfl, by decide +kernel, by decide +kernel, by decide +kernel⟩
abbrev vX1_workedOut : List Cond := Cond.code yX1_workedOut cX1_workedOut 7 (some .int) :: lw_gd
theorem hd_X1_workedOut : yX1_workedOut.cls = RX1 ∧ yX1_workedOut.cls ≠ "java/lang/invoke/MethodHandle" ∧ yX1_workedOut.cls ≠ "java/lang/invoke/VarHandle" ∧ (parseMethodDescriptor yX1_workedOut.desc).map (fun d => d.parameters.length) = some 3 := ⟨rfl, by decide +kernel, by decide +kernel, by decide +kernel⟩
abbrev vX1_joined : List Cond := Cond.code yX1_joined cX1_joined 3 (some .int) :: lw_gd
theorem hd_X1_joined : yX1_joined.cls = RX1 ∧ yX1_joined.cls ≠ "java/lang/invoke/MethodHandle" ∧ yX1_joined.cls ≠ "java/lang/invoke/VarHandle" ∧ (parseMethodDescriptor yX1_joined.desc).map (fun d => d.parameters.length) = some 3 := ⟨rfl, by decide +kernel, by decide +kernel, by decide +kernel⟩
abbrev vX2_init : List Cond := Cond.code yX2_init cX2_init 1 none :: lw_gd
abbrev vX2_reads : List Cond := Cond.code yX2_reads cX2_reads 4 (some .int) :: lw_gd
theorem hd_X2_reads : yX2_reads.cls = RX2 ∧ yX2_reads.cls ≠ "java/lang/invoke/MethodHandle" ∧ yX2_reads.cls ≠ "java/lang/invoke/VarHandle" ∧ (parseMethodDescriptor yX2_reads.desc).map (fun d => d.parameters.length) = some 3 := ⟨rfl, by decide +kernel, by decide +kernel, by decide +kernel⟩
abbrev vX2_signsOf : List Cond := Cond.code yX2_signsOf cX2_signsOf 1 (some (.object "java/lang/String")) :: lw_gd
theorem hd_X2_signsOf : yX2_signsOf.cls = RX2 ∧ yX2_signsOf.cls ≠ "java/lang/invoke/MethodHandle" ∧ yX2_signsOf.cls ≠ "java/lang/invoke/VarHandle" ∧ (parseMethodDescriptor yX2_signsOf.desc).map (fun d => d.parameters.length) = some 1 := ⟨rfl, by decide +kernel, by decide +kernel, by decide +kernel⟩
abbrev vX2_readRank : List Cond := Cond.code yX2_readRank cX2_readRank 3 none :: lw_gd
theorem hd_X2_readRank : yX2_readRank.cls = RX2 ∧ yX2_readRank.cls ≠ "java/lang/invoke/MethodHandle" ∧ yX2_readRank.cls ≠ "java/lang/invoke/VarHandle" ∧ (parseMethodDescriptor yX2_readRank.desc).map (fun d => d.parameters.length) = some 2 := ⟨rfl, by decide +kernel, by decide +kernel, by decide +kernel⟩
abbrev vX2_readJoined : List Cond := Cond.code yX2_readJoined cX2_readJoined 7 none :: lw_gd
theorem hd_X2_readJoined : yX2_readJoined.cls = RX2 ∧ yX2_readJoined.cls ≠ "java/lang/invoke/MethodHandle" ∧ yX2_readJoined.cls ≠ "java/lang/invoke/VarHandle" ∧ (parseMethodDescriptor yX2_readJoined.desc).map (fun d => d.parameters.length) = some 2 := ⟨rfl, by decide +kernel, by decide +kernel, by decide +kernel⟩
abbrev vX2_readOne : List Cond := Cond.code yX2_readOne cX2_readOne 2 none :: lw_gd
theorem hd_X2_readOne : yX2_readOne.cls = RX2 ∧ yX2_readOne.cls ≠ "java/lang/invoke/MethodHandle" ∧ yX2_readOne.cls ≠ "java/lang/invoke/VarHandle" ∧ (parseMethodDescriptor yX2_readOne.desc).map (fun d => d.parameters.length) = some 1 := ⟨rfl, by decide +kernel, by decide +kernel, by decide +kernel⟩
abbrev vX2_readOpened : List Cond := Cond.code yX2_readOpened cX2_readOpened 3 none :: lw_gd
theorem hd_X2_readOpened : yX2_readOpened.cls = RX2 ∧ yX2_readOpened.cls ≠ "java/lang/invoke/MethodHandle" ∧ yX2_readOpened.cls ≠ "java/lang/invoke/VarHandle" ∧ (parseMethodDescriptor yX2_readOpened.desc).map (fun d => d.parameters.length) = some 1 := ⟨rfl, by decide +kernel, by decide +kernel, by decide +kernel⟩
abbrev vX2_readNumber : List Cond := Cond.code yX2_readNumber cX2_readNumber 3 none :: lw_gd
theorem hd_X2_readNumber : yX2_readNumber.cls = RX2 ∧ yX2_readNumber.cls ≠ "java/lang/invoke/MethodHandle" ∧ yX2_readNumber.cls ≠ "java/lang/invoke/VarHandle" ∧ (parseMethodDescriptor yX2_readNumber.desc).map (fun d => d.parameters.length) = some 0 := ⟨rfl, by decide +kernel, by decide +kernel, by decide +kernel⟩
abbrev vX2_isNextDigit : List Cond := Cond.code yX2_isNextDigit cX2_isNextDigit 1 (some .boolean) :: lw_gd
theorem hd_X2_isNextDigit : yX2_isNextDigit.cls = RX2 ∧ yX2_isNextDigit.cls ≠ "java/lang/invoke/MethodHandle" ∧ yX2_isNextDigit.cls ≠ "java/lang/invoke/VarHandle" ∧ (parseMethodDescriptor yX2_isNextDigit.desc).map (fun d => d.parameters.length) = some 0 := ⟨rfl, by decide +kernel, by decide +kernel, by decide +kernel⟩
abbrev vX2_isNextOf : List Cond := Cond.code yX2_isNextOf cX2_isNextOf 2 (some .boolean) :: lw_gd
theorem hd_X2_isNextOf : yX2_isNextOf.cls = RX2 ∧ yX2_isNextOf.cls ≠ "java/lang/invoke/MethodHandle" ∧ yX2_isNextOf.cls ≠ "java/lang/invoke/VarHandle" ∧ (parseMethodDescriptor yX2_isNextOf.desc).map (fun d => d.parameters.length) = some 1 := ⟨rfl, by decide +kernel, by decide +kernel, by decide +kernel⟩
abbrev vX2_write : List Cond := Cond.code yX2_write cX2_write 2 none :: lw_gd
theorem hd_X2_write : yX2_write.cls = RX2 ∧ yX2_write.cls ≠ "java/lang/invoke/MethodHandle" ∧ yX2_write.cls ≠ "java/lang/invoke/VarHandle" ∧ (parseMethodDescriptor yX2_write.desc).map (fun d => d.parameters.length) = some 1 := ⟨rfl, by decide +kernel, by decide +kernel, by decide +kernel⟩
abbrev vX3_init : List Cond := Cond.code yX3_init cX3_init 1 none :: lw_gd
abbrev vX3_copy : List Cond := Cond.code yX3_copy cX3_copy 2 none :: lw_gd
theorem hd_X3_copy : yX3_copy.cls = RX3 ∧ yX3_copy.cls ≠ "java/lang/invoke/MethodHandle" ∧ yX3_copy.cls ≠ "java/lang/invoke/VarHandle" ∧ (parseMethodDescriptor yX3_copy.desc).map (fun d => d.parameters.length) = some 1 := ⟨rfl, by decide +kernel, by decide +kernel, by decide +kernel⟩
abbrev vX3_isOpen : List Cond := Cond.code yX3_isOpen cX3_isOpen 3 (some .boolean) :: lw_gd
theorem hd_X3_isOpen : yX3_isOpen.cls = RX3 ∧ yX3_isOpen.cls ≠ "java/lang/invoke/MethodHandle" ∧ yX3_isOpen.cls ≠ "java/lang/invoke/VarHandle" ∧ (parseMethodDescriptor yX3_isOpen.desc).map (fun d => d.parameters.length) = some 2 := ⟨rfl, by decide +kernel, by decide +kernel, by decide +kernel⟩
abbrev vX3_leads : List Cond := Cond.code yX3_leads cX3_leads 3 (some .boolean) :: lw_gd
theorem hd_X3_leads : yX3_leads.cls = RX3 ∧ yX3_leads.cls ≠ "java/lang/invoke/MethodHandle" ∧ yX3_leads.cls ≠ "java/lang/invoke/VarHandle" ∧ (parseMethodDescriptor yX3_leads.desc).map (fun d => d.parameters.length) = some 2 := ⟨rfl, by decide +kernel, by decide +kernel, by decide +kernel⟩
abbrev vX3_between : List Cond := Cond.code yX3_between cX3_between 3 (some .int) :: lw_gd
theorem hd_X3_between : yX3_between.cls = RX3 ∧ yX3_between.cls ≠ "java/lang/invoke/MethodHandle" ∧ yX3_between.cls ≠ "java/lang/invoke/VarHandle" ∧ (parseMethodDescriptor yX3_between.desc).map (fun d => d.parameters.length) = some 2 := ⟨rfl, by decide +kernel, by decide +kernel, by decide +kernel⟩
abbrev vX3_join : List Cond := Cond.code yX3_join cX3_join 3 none :: lw_gd
theorem hd_X3_join : yX3_join.cls = RX3 ∧ yX3_join.cls ≠ "java/lang/invoke/MethodHandle" ∧ yX3_join.cls ≠ "java/lang/invoke/VarHandle" ∧ (parseMethodDescriptor yX3_join.desc).map (fun d => d.parameters.length) = some 2 := ⟨rfl, by decide +kernel, by decide +kernel, by decide +kernel⟩
abbrev vX3_shut : List Cond := Cond.code yX3_shut cX3_shut 3 none :: lw_gd
theorem hd_X3_shut : yX3_shut.cls = RX3 ∧ yX3_shut.cls ≠ "java/lang/invoke/MethodHandle" ∧ yX3_shut.cls ≠ "java/lang/invoke/VarHandle" ∧ (parseMethodDescriptor yX3_shut.desc).map (fun d => d.parameters.length) = some 2 := ⟨rfl, by decide +kernel, by decide +kernel, by decide +kernel⟩
abbrev vX3_measure : List Cond := Cond.code yX3_measure cX3_measure 3 none :: lw_gd
theorem hd_X3_measure : yX3_measure.cls = RX3 ∧ yX3_measure.cls ≠ "java/lang/invoke/MethodHandle" ∧ yX3_measure.cls ≠ "java/lang/invoke/VarHandle" ∧ (parseMethodDescriptor yX3_measure.desc).map (fun d => d.parameters.length) = some 0 := ⟨rfl, by decide +kernel, by decide +kernel, by decide +kernel⟩
abbrev vX3_shorten : List Cond := Cond.code yX3_shorten cX3_shorten 7 none :: lw_gd
theorem hd_X3_shorten : yX3_shorten.cls = RX3 ∧ yX3_shorten.cls ≠ "java/lang/invoke/MethodHandle" ∧ yX3_shorten.cls ≠ "java/lang/invoke/VarHandle" ∧ (parseMethodDescriptor yX3_shorten.desc).map (fun d => d.parameters.length) = some 2 := ⟨rfl, by decide +kernel, by decide +kernel, by decide +kernel⟩
abbrev vX3_walked : List Cond := Cond.code yX3_walked cX3_walked 6 (some .int) :: lw_gd
theorem hd_X3_walked : yX3_walked.cls = RX3 ∧ yX3_walked.cls ≠ "java/lang/invoke/MethodHandle" ∧ yX3_walked.cls ≠ "java/lang/invoke/VarHandle" ∧ (parseMethodDescriptor yX3_walked.desc).map (fun d => d.parameters.length) = some 3 := ⟨rfl, by decide +kernel, by decide +kernel, by decide +kernel⟩
abbrev vX3_nextToward : List Cond := Cond.code yX3_nextToward cX3_nextToward 4 (some .int) :: lw_gd
theorem hd_X3_nextToward : yX3_nextToward.cls = RX3 ∧ yX3_nextToward.cls ≠ "java/lang/invoke/MethodHandle" ∧ yX3_nextToward.cls ≠ "java/lang/invoke/VarHandle" ∧ (parseMethodDescriptor yX3_nextToward.desc).map (fun d => d.parameters.length) = some 2 := ⟨rfl, by decide +kernel, by decide +kernel, by decide +kernel⟩
abbrev vX4_init : List Cond := Cond.code yX4_init cX4_init 1 none :: lw_gd
abbrev vX4_isMissing : List Cond := Cond.code yX4_isMissing cX4_isMissing 2 (some .boolean) :: lw_gd
theorem hd_X4_isMissing : yX4_isMissing.cls = RX4 ∧ yX4_isMissing.cls ≠ "java/lang/invoke/MethodHandle" ∧ yX4_isMissing.cls ≠ "java/lang/invoke/VarHandle" ∧ (parseMethodDescriptor yX4_isMissing.desc).map (fun d => d.parameters.length) = some 1 := ⟨rfl, by decide +kernel, by decide +kernel, by decide +kernel⟩
abbrev vX4_make : List Cond := Cond.code yX4_make cX4_make 5 none :: lw_gd
theorem hd_X4_make : yX4_make.cls = RX4 ∧ yX4_make.cls ≠ "java/lang/invoke/MethodHandle" ∧ yX4_make.cls ≠ "java/lang/invoke/VarHandle" ∧ (parseMethodDescriptor yX4_make.desc).map (fun d => d.parameters.length) = some 3 := ⟨rfl, by decide +kernel, by decide +kernel, by decide +kernel⟩
abbrev vX4_number : List Cond := Cond.code yX4_number cX4_number 3 (some .int) :: lw_gd
theorem hd_X4_number : yX4_number.cls = RX4 ∧ yX4_number.cls ≠ "java/lang/invoke/MethodHandle" ∧ yX4_number.cls ≠ "java/lang/invoke/VarHandle" ∧ (parseMethodDescriptor yX4_number.desc).map (fun d => d.parameters.length) = some 2 := ⟨rfl, by decide +kernel, by decide +kernel, by decide +kernel⟩
abbrev vX4_write : List Cond := Cond.code yX4_write cX4_write 5 none :: lw_gd
theorem hd_X4_write : yX4_write.cls = RX4 ∧ yX4_write.cls ≠ "java/lang/invoke/MethodHandle" ∧ yX4_write.cls ≠ "java/lang/invoke/VarHandle" ∧ (parseMethodDescriptor yX4_write.desc).map (fun d => d.parameters.length) = some 3 := ⟨rfl, by decide +kernel, by decide +kernel, by decide +kernel⟩
abbrev vX4_stands : List Cond := Cond.code yX4_stands cX4_stands 4 (some .boolean) :: lw_gd
theorem hd_X4_stands : yX4_stands.cls = RX4 ∧ yX4_stands.cls ≠ "java/lang/invoke/MethodHandle" ∧ yX4_stands.cls ≠ "java/lang/invoke/VarHandle" ∧ (parseMethodDescriptor yX4_stands.desc).map (fun d => d.parameters.length) = some 3 := ⟨rfl, by decide +kernel, by decide +kernel, by decide +kernel⟩
abbrev vX4_shift : List Cond := Cond.code yX4_shift cX4_shift 6 none :: lw_gd
theorem hd_X4_shift : yX4_shift.cls = RX4 ∧ yX4_shift.cls ≠ "java/lang/invoke/MethodHandle" ∧ yX4_shift.cls ≠ "java/lang/invoke/VarHandle" ∧ (parseMethodDescriptor yX4_shift.desc).map (fun d => d.parameters.length) = some 5 := ⟨rfl, by decide +kernel, by decide +kernel, by decide +kernel⟩
abbrev vX5_init : List Cond := Cond.code yX5_init cX5_init 1 none :: lw_gd
abbrev vX5_copy : List Cond := Cond.code yX5_copy cX5_copy 2 none :: lw_gd
theorem hd_X5_copy : yX5_copy.cls = RX5 ∧ yX5_copy.cls ≠ "java/lang/invoke/MethodHandle" ∧ yX5_copy.cls ≠ "java/lang/invoke/VarHandle" ∧ (parseMethodDescriptor yX5_copy.desc).map (fun d => d.parameters.length) = some 1 := ⟨rfl, by decide +kernel, by decide +kernel, by decide +kernel⟩
abbrev vX5_draw : List Cond := Cond.code yX5_draw cX5_draw 1 (some .int) :: lw_gd
theorem hd_X5_draw : yX5_draw.cls = RX5 ∧ yX5_draw.cls ≠ "java/lang/invoke/MethodHandle" ∧ yX5_draw.cls ≠ "java/lang/invoke/VarHandle" ∧ (parseMethodDescriptor yX5_draw.desc).map (fun d => d.parameters.length) = some 0 := ⟨rfl, by decide +kernel, by decide +kernel, by decide +kernel⟩
abbrev vX5_stir : List Cond := Cond.code yX5_stir cX5_stir 2 none :: lw_gd
theorem hd_X5_stir : yX5_stir.cls = RX5 ∧ yX5_stir.cls ≠ "java/lang/invoke/MethodHandle" ∧ yX5_stir.cls ≠ "java/lang/invoke/VarHandle" ∧ (parseMethodDescriptor yX5_stir.desc).map (fun d => d.parameters.length) = some 0 := ⟨rfl, by decide +kernel, by decide +kernel, by decide +kernel⟩
abbrev vJ6_bitCount_0f7a4 : List Cond := Cond.code yJ6_bitCount_0f7a4 cJ6_bitCount_0f7a4 1 (some .int) :: lw_gd
theorem hd_J6_bitCount_0f7a4 : yJ6_bitCount_0f7a4.cls = RJ6 ∧ yJ6_bitCount_0f7a4.cls ≠ "java/lang/invoke/MethodHandle" ∧ yJ6_bitCount_0f7a4.cls ≠ "java/lang/invoke/VarHandle" ∧ (parseMethodDescriptor yJ6_bitCount_0f7a4.desc).map (fun d => d.parameters.length) = some 1 := ⟨rfl, by decide +kernel, by decide +kernel, by decide +kernel⟩
theorem gk_X6_68 : GoodIn lw_gd (va_wsS RX6 68 yX6_isPlace vX6_isPlace) := gw_S ww_2_26 ww_2_27 ww_1_1 ww_2_28
theorem gk_X6_72 : GoodIn lw_gd (wsV RX6 72 RX6 yX6_error vX6_error) := gw_V ww_2_29 ww_2_31 wp_1_2 ww_1_1 ww_2_32
theorem gk_X6_79 : GoodIn lw_gd (wsV RX6 79 RX3 yX3_isOpen vX3_isOpen) := gw_V ww_2_34 ww_1_42 ww_1_43 ww_1_3 ww_1_44
theorem gk_X6_83 : GoodIn lw_gd (wsV RX6 83 RX3 yX3_join vX3_join) := gw_V ww_2_35 ww_2_36 ww_2_37 ww_1_3 ww_2_38
theorem gk_X6_87 : GoodIn lw_gd (wsV RX6 87 RX3 yX3_shut vX3_shut) := gw_V ww_2_39 ww_2_40 ww_2_41 ww_1_3 ww_2_42
theorem gk_X6_90 : GoodIn lw_gd (va_wsS RX6 90 yX6_isField vX6_isField) := gw_S ww_2_47 ww_2_48 ww_1_1 ww_2_49
theorem gk_X6_99 : GoodIn lw_gd (wsV RX6 99 RX3 yX3_leads vX3_leads) := gw_V ww_2_54 ww_2_55 ww_2_56 ww_1_3 ww_2_57
theorem gk_X6_102 : GoodIn lw_gd (wsV RX6 102 RX3 yX3_between vX3_between) := gw_V ww_2_58 ww_1_50 ww_1_51 ww_1_3 ww_1_52
theorem gk_X6_106 : GoodIn lw_gd (va_wsS RX6 106 yX6_isKindAndM vX6_isKindAndM) := gw_S ww_2_63 ww_2_64 ww_1_1 ww_2_65
theorem gk_X6_112 : GoodIn lw_gd (wsV RX6 112 RX0 yX0_grow vX0_grow) := gw_V ww_2_66 ww_2_67 ww_2_68 ww_1_5 ww_2_69
theorem gk_X6_116 : GoodIn lw_gd (wsV RX6 116 RX6 yX6_isBit vX6_isBit) := gw_V ww_2_74 ww_2_76 wp_1_3 ww_1_1 ww_2_77
theorem gk_X6_134 : GoodIn lw_gd (wsV RX6 134 RX6 yX6_stepsOf vX6_stepsOf) := gw_V ww_2_78 ww_2_80 wp_1_4 ww_1_1 ww_2_81
theorem gk_X6_138 : GoodIn lw_gd (wsV RX6 138 RX6 yX6_worthOf vX6_worthOf) := gw_V ww_2_109 ww_2_111 wp_1_7 ww_1_1 ww_2_112
theorem gk_X6_142 : GoodIn lw_gd (va_wsS RX6 142 yX6_warmthOf vX6_warmthOf) := gw_S ww_2_117 ww_2_118 ww_1_1 ww_2_119
theorem gk_X6_145 : GoodIn lw_gd (va_wsS RX6 145 yX6_isOrIsUnder vX6_isOrIsUnder) := gw_S ww_2_128 ww_2_129 ww_1_1 ww_2_130
theorem gk_X6_154 : GoodIn lw_gd (va_wsS RX6 154 yX6_isUse vX6_isUse) := gw_S ww_2_149 ww_2_150 ww_1_1 ww_2_151
theorem gk_X6_157 : GoodIn lw_gd (wsV RX6 157 RX6 yX6_lawOf vX6_lawOf) := gw_V ww_2_152 ww_2_154 wp_1_8 ww_1_1 ww_2_155
theorem gk_X6_167 : GoodIn lw_gd (wsV RX6 167 RX2 yX2_reads vX2_reads) := gw_V ww_2_156 ww_2_157 ww_2_158 ww_1_7 ww_2_159
theorem gk_X6_177 : GoodIn lw_gd (wsV RX6 177 RX1 yX1_take vX1_take) := gw_V ww_3_47 ww_3_48 ww_3_49 ww_1_6 ww_3_50
theorem gk_X6_184 : GoodIn lw_gd (wsV RX6 184 RX1 yX1_gives vX1_gives) := gw_V ww_2_94 ww_2_95 ww_2_96 ww_1_6 ww_2_97
theorem gk_X6_190 : GoodIn lw_gd (wsV RX6 190 RX6 yX6_passDays vX6_passDays) := gw_V ww_3_64 ww_3_66 wp_2_1 ww_1_1 ww_3_67
theorem gk_X6_194 : GoodIn lw_gd (wsV RX6 194 RX0 yX0_homeSet vX0_homeSet) := gw_V ww_3_85 ww_3_86 ww_3_87 ww_1_5 ww_3_88
theorem gk_X6_198 : GoodIn lw_gd (wsV RX6 198 RX5 yX5_stir vX5_stir) := gw_V ww_3_94 ww_3_95 ww_3_96 ww_1_2 ww_3_97
theorem gk_X6_201 : GoodIn lw_gd (wsV RX6 201 RX6 yX6_passDay vX6_passDay) := gw_V ww_3_68 ww_3_70 wp_2_2 ww_1_1 ww_3_71
theorem gk_X6_208 : GoodIn lw_gd (wsV RX6 208 RX6 yX6_think vX6_think) := gw_V ww_3_115 ww_3_117 wp_2_5 ww_1_1 ww_3_118
theorem gk_X6_212 : GoodIn lw_gd (wsV RX6 212 RX0 yX0_copy vX0_copy) := gw_V ww_3_119 ww_3_120 ww_3_121 ww_1_5 ww_3_122
theorem gk_X6_216 : GoodIn lw_gd (wsV RX6 216 RX0 yX0_isHome vX0_isHome) := gw_V ww_3_72 ww_3_73 ww_3_74 ww_1_5 ww_3_75
theorem gk_X6_219 : GoodIn lw_gd (wsV RX6 219 RX6 yX6_worthAtHome vX6_worthAtHome) := gw_V ww_3_132 ww_3_134 wp_2_6 ww_1_1 ww_3_135
theorem gk_X6_222 : GoodIn lw_gd (wsV RX6 222 RX0 yX0_awaySet vX0_awaySet) := gw_V ww_3_140 ww_3_141 ww_3_142 ww_1_5 ww_3_143
theorem gk_X6_225 : GoodIn lw_gd (wsV RX6 225 RX6 yX6_getsWith vX6_getsWith) := gw_V ww_3_144 ww_3_146 wp_2_7 ww_1_1 ww_3_147
theorem gk_X6_228 : GoodIn lw_gd (va_wsS RX6 228 yJ6_bitCount_0f7a4 vJ6_bitCount_0f7a4) := gw_S ww_3_148 ww_3_149 ww_1_16 ww_3_150
theorem gk_X6_233 : GoodIn lw_gd (wsV RX6 233 RX6 yX6_homeWithWay vX6_homeWithWay) := gw_V ww_3_158 ww_3_160 wp_2_8 ww_1_1 ww_3_161
theorem gk_X6_236 : GoodIn lw_gd (va_wsS RX6 236 yX6_greatestDivisor vX6_greatestDivisor) := gw_S ww_3_171 ww_3_172 ww_1_1 ww_3_173
theorem gk_X6_239 : GoodIn lw_gd (va_wsS RX6 239 yX6_isSheet vX6_isSheet) := gw_S ww_3_179 ww_3_180 ww_1_1 ww_3_181
theorem gk_X6_242 : GoodIn lw_gd (wsV RX6 242 RX4 yX4_isMissing vX4_isMissing) := gw_V ww_3_182 ww_3_183 ww_3_184 ww_1_8 ww_3_185
theorem gk_X6_245 : GoodIn lw_gd (wsV RX6 245 RX6 yX6_wouldWarmSo vX6_wouldWarmSo) := gw_V ww_3_186 ww_3_188 wp_2_9 ww_1_1 ww_3_189
theorem gk_X6_249 : GoodIn lw_gd (wsV RX6 249 RX6 yX6_say vX6_say) := gw_V ww_3_198 ww_3_200 wp_2_10 ww_1_1 ww_3_201
theorem gk_X6_253 : GoodIn lw_gd (wsV RX6 253 RX4 yX4_make vX4_make) := gw_V ww_3_220 ww_3_221 ww_3_222 ww_1_8 ww_3_223
theorem gk_X6_259 : GoodIn lw_gd (wsV RX6 259 RX4 yX4_write vX4_write) := gw_V ww_3_228 ww_3_229 ww_3_230 ww_1_8 ww_3_231
theorem gk_X6_265 : GoodIn lw_gd (wsV RX6 265 RX4 yX4_stands vX4_stands) := gw_V ww_3_236 ww_3_237 ww_3_238 ww_1_8 ww_3_239
theorem gk_X6_268 : GoodIn lw_gd (wsV RX6 268 RX4 yX4_shift vX4_shift) := gw_V ww_4_0 ww_4_1 ww_4_2 ww_1_8 ww_4_3
theorem gk_X6_272 : GoodIn lw_gd (wsV RX6 272 RX4 yX4_number vX4_number) := gw_V ww_3_190 ww_3_191 ww_3_192 ww_1_8 ww_3_193
theorem gk_X6_275 : GoodIn lw_gd (wsV RX6 275 RX5 yX5_copy vX5_copy) := gw_V ww_4_17 ww_4_18 ww_4_19 ww_1_2 ww_4_20
theorem gk_X6_300 : GoodIn lw_gd (wsV RX6 300 RX0 yX0_goal vX0_goal) := gw_V ww_2_82 ww_2_83 ww_2_84 ww_1_5 ww_2_85
theorem gk_X6_303 : GoodIn lw_gd (wsV RX6 303 RX0 yX0_walks vX0_walks) := gw_V ww_2_86 ww_2_87 ww_2_88 ww_1_5 ww_2_89
theorem gk_X6_306 : GoodIn lw_gd (wsV RX6 306 RX0 yX0_weighs vX0_weighs) := gw_V ww_2_113 ww_2_114 ww_2_115 ww_1_5 ww_2_116
theorem gk_X6_309 : GoodIn lw_gd (wsV RX6 309 RX3 yX3_walked vX3_walked) := gw_V ww_3_77 ww_3_78 ww_3_79 ww_1_3 ww_3_80
theorem gk_X6_312 : GoodIn lw_gd (wsV RX6 312 RX3 yX3_copy vX3_copy) := gw_V ww_3_162 ww_3_163 ww_3_164 ww_1_3 ww_3_165
theorem gk_X6_318 : GoodIn lw_gd (wsV RX6 318 RX6 yX6_sayBody vX6_sayBody) := gw_V ww_3_204 ww_3_206 wp_2_11 ww_1_1 ww_3_207
theorem gk_X6_321 : GoodIn lw_gd (wsV RX6 321 RX6 yX6_partsOf vX6_partsOf) := gw_V ww_3_208 ww_3_210 wp_2_12 ww_1_1 ww_3_211
theorem gk_X7_53 : GoodIn lw_gd (va_wsS RX7 53 yX7_copyAll vX7_copyAll) := gw_S ww_5_127 ww_5_128 ww_1_9 ww_5_129
theorem gk_X7_57 : GoodIn lw_gd (va_wsS RX7 57 yX7_in vX7_in) := gw_S ww_4_128 ww_4_129 ww_1_9 ww_4_130
theorem gk_X7_61 : GoodIn lw_gd (wsV RX7 61 RX7 yX7_of vX7_of) := gw_V ww_4_185 ww_4_187 wp_3_4 ww_1_9 ww_4_188
theorem gk_X7_65 : GoodIn lw_gd (wsV RX7 65 RX7 yX7_homeOf vX7_homeOf) := gw_V ww_4_197 ww_4_199 wp_3_7 ww_1_9 ww_4_200
theorem gk_X7_69 : GoodIn lw_gd (wsV RX7 69 RX7 yX7_isHome vX7_isHome) := gw_V ww_5_86 ww_5_88 wp_4_12 ww_1_9 ww_5_89
theorem gk_X7_77 : GoodIn lw_gd (wsV RX7 77 RX7 yX7_findFrom vX7_findFrom) := gw_V ww_4_160 ww_4_162 wp_3_1 ww_1_9 ww_4_163
theorem gk_X7_81 : GoodIn lw_gd (wsV RX7 81 RX7 yX7_farBy vX7_farBy) := gw_V ww_4_156 ww_4_158 wp_3_0 ww_1_9 ww_4_159
theorem gk_X7_84 : GoodIn lw_gd (wsV RX7 84 RX7 yX7_farHome vX7_farHome) := gw_V ww_4_193 ww_4_195 wp_3_6 ww_1_9 ww_4_196
theorem gk_X7_87 : GoodIn lw_gd (wsV RX7 87 RX7 yX7_isTogether vX7_isTogether) := gw_V ww_4_205 ww_4_207 wp_3_9 ww_1_9 ww_4_208
theorem gk_X7_90 : GoodIn lw_gd (wsV RX7 90 RX7 yX7_walksBy vX7_walksBy) := gw_V ww_4_201 ww_4_203 wp_3_8 ww_1_9 ww_4_204
theorem gk_X7_93 : GoodIn lw_gd (wsV RX7 93 RX7 yX7_gives vX7_gives) := gw_V ww_4_209 ww_4_211 wp_3_10 ww_1_9 ww_4_212
theorem gk_X7_97 : GoodIn lw_gd (wsV RX7 97 RX7 yX7_weighsOf vX7_weighsOf) := gw_V ww_4_227 ww_4_229 wp_3_13 ww_1_9 ww_4_230
theorem gk_X7_100 : GoodIn lw_gd (va_wsS RX7 100 yX7_isPlace vX7_isPlace) := gw_S ww_4_125 ww_4_126 ww_1_9 ww_4_127
theorem gk_X7_104 : GoodIn lw_gd (wsV RX7 104 RX7 yX7_error vX7_error) := gw_V ww_4_132 ww_4_134 wp_2_13 ww_1_9 ww_4_135
theorem gk_X7_107 : GoodIn lw_gd (wsV RX7 107 RX7 yX7_opensFrom vX7_opensFrom) := gw_V ww_4_137 ww_4_139 wp_2_14 ww_1_9 ww_4_140
theorem gk_X7_111 : GoodIn lw_gd (va_wsS RX7 111 yX7_isField vX7_isField) := gw_S ww_4_145 ww_4_146 ww_1_9 ww_4_147
theorem gk_X7_114 : GoodIn lw_gd (wsV RX7 114 RX7 yX7_becomes vX7_becomes) := gw_V ww_4_148 ww_4_150 wp_2_15 ww_1_9 ww_4_151
theorem gk_X7_118 : GoodIn lw_gd (va_wsS RX7 118 yX7_isKm vX7_isKm) := gw_S ww_4_169 ww_4_170 ww_1_9 ww_4_171
theorem gk_X7_122 : GoodIn lw_gd (wsV RX7 122 RX7 yX7_lets vX7_lets) := gw_V ww_4_173 ww_4_175 wp_3_2 ww_1_9 ww_4_176
theorem gk_X7_125 : GoodIn lw_gd (wsV RX7 125 RX7 yX7_isBit vX7_isBit) := gw_V ww_4_181 ww_4_183 wp_3_3 ww_1_9 ww_4_184
theorem gk_X7_128 : GoodIn lw_gd (wsV RX7 128 RX7 yX7_stepsOf vX7_stepsOf) := gw_V ww_4_189 ww_4_191 wp_3_5 ww_1_9 ww_4_192
theorem gk_X7_131 : GoodIn lw_gd (wsV RX7 131 RX7 yX7_worthOf vX7_worthOf) := gw_V ww_4_223 ww_4_225 wp_3_12 ww_1_9 ww_4_226
theorem gk_X7_134 : GoodIn lw_gd (wsV RX7 134 RX7 yX7_warmth vX7_warmth) := gw_V ww_4_231 ww_4_233 wp_3_14 ww_1_9 ww_4_234
theorem gk_X7_150 : GoodIn lw_gd (wsV RX7 150 RX7 yX7_look vX7_look) := gw_V ww_5_45 ww_5_47 wp_4_5 ww_1_9 ww_5_48
theorem gk_X7_157 : GoodIn lw_gd (wsV RX7 157 RX7 yX7_laysBy vX7_laysBy) := gw_V ww_5_53 ww_5_55 wp_4_7 ww_1_9 ww_5_56
theorem gk_X7_164 : GoodIn lw_gd (wsV RX7 164 RX7 yX7_one vX7_one) := gw_V ww_5_41 ww_5_43 wp_4_4 ww_1_9 ww_5_44
theorem gk_X7_167 : GoodIn lw_gd (wsV RX7 167 RX7 yX7_any vX7_any) := gw_V ww_5_21 ww_5_23 wp_3_15 ww_1_9 ww_5_24
theorem gk_X7_170 : GoodIn lw_gd (wsV RX7 170 RX7 yX7_nameOf vX7_nameOf) := gw_V ww_5_49 ww_5_51 wp_4_6 ww_1_9 ww_5_52
theorem gk_X7_173 : GoodIn lw_gd (wsV RX7 173 RX7 yX7_opensBy vX7_opensBy) := gw_V ww_5_57 ww_5_59 wp_4_8 ww_1_9 ww_5_60
theorem gk_X7_176 : GoodIn lw_gd (wsV RX7 176 RX7 yX7_number vX7_number) := gw_V ww_5_61 ww_5_63 wp_4_9 ww_1_9 ww_5_64
theorem gk_X7_179 : GoodIn lw_gd (wsV RX7 179 RX7 yX7_times vX7_times) := gw_V ww_5_37 ww_5_39 wp_4_3 ww_1_9 ww_5_40
theorem gk_X7_182 : GoodIn lw_gd (wsV RX7 182 RX7 yX7_sum vX7_sum) := gw_V ww_5_33 ww_5_35 wp_4_2 ww_1_9 ww_5_36
theorem gk_X7_185 : GoodIn lw_gd (wsV RX7 185 RX7 yX7_compares vX7_compares) := gw_V ww_5_29 ww_5_31 wp_4_1 ww_1_9 ww_5_32
theorem gk_X7_188 : GoodIn lw_gd (wsV RX7 188 RX7 yX7_all vX7_all) := gw_V ww_5_25 ww_5_27 wp_4_0 ww_1_9 ww_5_28
theorem gk_X7_191 : GoodIn lw_gd (va_wsS RX7 191 yX7_twoOf vX7_twoOf) := gw_S ww_4_217 ww_4_218 ww_1_9 ww_4_219
theorem gk_X7_195 : GoodIn lw_gd (wsV RX7 195 RX7 yX7_works vX7_works) := gw_V ww_4_213 ww_4_215 wp_3_11 ww_1_9 ww_4_216
theorem gk_X7_198 : GoodIn lw_gd (va_wsS RX7 198 yX7_held vX7_held) := gw_S ww_4_220 ww_4_221 ww_1_9 ww_4_222
theorem gk_X7_201 : GoodIn lw_gd (wsV RX7 201 RX7 yX7_nextOf vX7_nextOf) := gw_V ww_5_90 ww_5_92 wp_4_13 ww_1_9 ww_5_93
theorem gk_X7_204 : GoodIn lw_gd (wsV RX7 204 RX7 yX7_goes vX7_goes) := gw_V ww_5_82 ww_5_84 wp_4_11 ww_1_9 ww_5_85
theorem gk_X7_208 : GoodIn lw_gd (wsV RX7 208 RX7 yX7_goesFor vX7_goesFor) := gw_V ww_5_78 ww_5_80 wp_4_10 ww_1_9 ww_5_81
theorem gk_X7_211 : GoodIn lw_gd (wsV RX7 211 RX7 yX7_homes vX7_homes) := gw_V ww_5_94 ww_5_96 wp_4_14 ww_1_9 ww_5_97
theorem gk_X7_215 : GoodIn lw_gd (wsV RX7 215 RX7 yX7_draw vX7_draw) := gw_V ww_5_106 ww_5_108 wp_5_0 ww_1_9 ww_5_109
theorem gk_X7_218 : GoodIn lw_gd (wsV RX7 218 RX7 yX7_drawn vX7_drawn) := gw_V ww_5_102 ww_5_104 wp_4_15 ww_1_9 ww_5_105
theorem gk_X7_221 : GoodIn lw_gd (wsV RX7 221 RX7 yX7_thinks vX7_thinks) := gw_V ww_5_123 ww_5_125 wp_5_1 ww_1_9 ww_5_126
theorem gk_X7_224 : GoodIn lw_gd (wsV RX7 224 RX7 yX7_putsBack vX7_putsBack) := gw_V ww_5_130 ww_5_132 wp_5_2 ww_1_9 ww_5_133
theorem gk_X7_227 : GoodIn lw_gd (wsV RX7 227 RX7 yX7_gotBy vX7_gotBy) := gw_V ww_5_142 ww_5_144 wp_5_3 ww_1_9 ww_5_145
theorem gk_X7_230 : GoodIn lw_gd (va_wsS RX7 230 yX7_bits vX7_bits) := gw_S ww_5_150 ww_5_151 ww_1_9 ww_5_152
theorem gk_X7_233 : GoodIn lw_gd (wsV RX7 233 RX7 yX7_isEnough vX7_isEnough) := gw_V ww_5_153 ww_5_155 wp_5_4 ww_1_9 ww_5_156
theorem gk_X7_237 : GoodIn lw_gd (va_wsS RX7 237 yX7_isSheet vX7_isSheet) := gw_S ww_5_169 ww_5_170 ww_1_9 ww_5_171
theorem gk_X7_240 : GoodIn lw_gd (wsV RX7 240 RX7 yX7_isSo vX7_isSo) := gw_V ww_5_172 ww_5_174 wp_5_5 ww_1_9 ww_5_175
theorem gk_X7_247 : GoodIn lw_gd (wsV RX7 247 RX7 yX7_begins vX7_begins) := gw_V ww_5_188 ww_5_190 wp_5_8 ww_1_9 ww_5_191
theorem gk_X7_250 : GoodIn lw_gd (wsV RX7 250 RX7 yX7_plainWalks vX7_plainWalks) := gw_V ww_5_192 ww_5_194 wp_5_9 ww_1_9 ww_5_195
theorem gk_X7_253 : GoodIn lw_gd (wsV RX7 253 RX7 yX7_crustWalks vX7_crustWalks) := gw_V ww_5_184 ww_5_186 wp_5_7 ww_1_9 ww_5_187
theorem gk_X7_256 : GoodIn lw_gd (wsV RX7 256 RX7 yX7_walks vX7_walks) := gw_V ww_5_180 ww_5_182 wp_5_6 ww_1_9 ww_5_183
theorem gk_X7_259 : GoodIn lw_gd (wsV RX7 259 RX7 yX7_plainWarms vX7_plainWarms) := gw_V ww_5_204 ww_5_206 wp_5_12 ww_1_9 ww_5_207
theorem gk_X7_262 : GoodIn lw_gd (wsV RX7 262 RX7 yX7_officeWarms vX7_officeWarms) := gw_V ww_5_200 ww_5_202 wp_5_11 ww_1_9 ww_5_203
theorem gk_X7_265 : GoodIn lw_gd (wsV RX7 265 RX7 yX7_warms vX7_warms) := gw_V ww_5_196 ww_5_198 wp_5_10 ww_1_9 ww_5_199
theorem gk_X7_268 : GoodIn lw_gd (wsV RX7 268 RX7 yX7_plainSprouts vX7_plainSprouts) := gw_V ww_5_212 ww_5_214 wp_5_14 ww_1_9 ww_5_215
theorem gk_X7_274 : GoodIn lw_gd (wsV RX7 274 RX7 yX7_plainParts vX7_plainParts) := gw_V ww_5_220 ww_5_222 wp_6_0 ww_1_9 ww_5_223
theorem gk_X7_277 : GoodIn lw_gd (wsV RX7 277 RX7 yX7_sprouts vX7_sprouts) := gw_V ww_5_208 ww_5_210 wp_5_13 ww_1_9 ww_5_211
theorem gk_X7_280 : GoodIn lw_gd (wsV RX7 280 RX7 yX7_partsBy vX7_partsBy) := gw_V ww_5_216 ww_5_218 wp_5_15 ww_1_9 ww_5_219
theorem gk_X7_284 : GoodIn lw_gd (wsV RX7 284 RX7 yX7_notThere vX7_notThere) := gw_V ww_5_237 ww_5_239 wp_6_1 ww_1_9 ww_6_0
theorem gk_X7_287 : GoodIn lw_gd (wsV RX7 287 RX7 yX7_notMoved vX7_notMoved) := gw_V ww_6_5 ww_6_7 wp_6_2 ww_1_9 ww_6_8
theorem gk_X0_43 : GoodIn lw_gd (wsV RX0 43 RX0 yX0_goal vX0_goal) := gw_V ww_3_76 ww_2_83 ww_2_84 ww_1_5 ww_2_85
theorem gk_X0_47 : GoodIn lw_gd (wsV RX0 47 RX0 yX0_isHome vX0_isHome) := gw_V ww_3_89 ww_3_73 ww_3_74 ww_1_5 ww_3_75
theorem gk_X0_51 : GoodIn lw_gd (wsV RX0 51 RX0 yX0_hasCompany vX0_hasCompany) := gw_V ww_2_90 ww_2_92 wp_1_5 ww_1_5 ww_2_93
theorem gk_X1_35 : GoodIn lw_gd (wsV RX1 35 RX1 yX1_workedOut vX1_workedOut) := gw_V ww_2_98 ww_2_100 wp_1_6 ww_1_6 ww_2_101
theorem gk_X1_48 : GoodIn lw_gd (va_wsS RX1 48 yX1_joined vX1_joined) := gw_S ww_2_102 ww_2_103 ww_1_6 ww_2_104
theorem gk_X2_44 : GoodIn lw_gd (wsV RX2 44 RX2 yX2_readRank vX2_readRank) := gw_V ww_2_163 ww_2_165 wp_1_9 ww_1_7 ww_2_166
theorem gk_X2_58 : GoodIn lw_gd (wsV RX2 58 RX2 yX2_readJoined vX2_readJoined) := gw_V ww_2_167 ww_2_169 wp_1_10 ww_1_7 ww_2_170
theorem gk_X2_61 : GoodIn lw_gd (wsV RX2 61 RX2 yX2_readOne vX2_readOne) := gw_V ww_3_29 ww_3_31 wp_1_13 ww_1_7 ww_3_32
theorem gk_X2_65 : GoodIn lw_gd (va_wsS RX2 65 yX2_signsOf vX2_signsOf) := gw_S ww_2_171 ww_2_172 ww_1_7 ww_2_173
theorem gk_X2_69 : GoodIn lw_gd (wsV RX2 69 RX2 yX2_isNextOf vX2_isNextOf) := gw_V ww_2_179 ww_2_181 wp_1_11 ww_1_7 ww_2_182
theorem gk_X2_75 : GoodIn lw_gd (wsV RX2 75 RX2 yX2_write vX2_write) := gw_V ww_3_25 ww_3_27 wp_1_12 ww_1_7 ww_3_28
theorem gk_X2_80 : GoodIn lw_gd (wsV RX2 80 RX2 yX2_readOpened vX2_readOpened) := gw_V ww_3_34 ww_3_36 wp_1_14 ww_1_7 ww_3_37
theorem gk_X2_89 : GoodIn lw_gd (wsV RX2 89 RX2 yX2_isNextDigit vX2_isNextDigit) := gw_V ww_3_39 ww_3_41 wp_1_15 ww_1_7 ww_3_42
theorem gk_X2_93 : GoodIn lw_gd (wsV RX2 93 RX2 yX2_readNumber vX2_readNumber) := gw_V ww_3_43 ww_3_45 wp_2_0 ww_1_7 ww_3_46
theorem gk_X3_18 : GoodIn lw_gd (wsV RX3 18 RX3 yX3_measure vX3_measure) := gw_V ww_1_37 ww_1_39 wp_1_0 ww_1_3 ww_1_40
theorem gk_X3_27 : GoodIn lw_gd (wsV RX3 27 RX3 yX3_shorten vX3_shorten) := gw_V ww_1_45 ww_1_47 wp_1_1 ww_1_3 ww_1_48
theorem gk_X3_31 : GoodIn lw_gd (wsV RX3 31 RX3 yX3_isOpen vX3_isOpen) := gw_V ww_1_41 ww_1_42 ww_1_43 ww_1_3 ww_1_44
theorem gk_X3_35 : GoodIn lw_gd (wsV RX3 35 RX3 yX3_between vX3_between) := gw_V ww_1_49 ww_1_50 ww_1_51 ww_1_3 ww_1_52
theorem gk_X3_44 : GoodIn lw_gd (wsV RX3 44 RX3 yX3_nextToward vX3_nextToward) := gw_V ww_3_81 ww_3_83 wp_2_3 ww_1_3 ww_3_84
theorem gk_X5_58 : GoodIn lw_gd (wsV RX5 58 RX3 yX3_copy vX3_copy) := gw_V ww_4_21 ww_3_163 ww_3_164 ww_1_3 ww_3_165
theorem gk_X5_62 : GoodIn lw_gd (wsV RX5 62 RX0 yX0_copy vX0_copy) := gw_V ww_4_22 ww_3_120 ww_3_121 ww_1_5 ww_3_122
theorem gk_X5_71 : GoodIn lw_gd (wsV RX5 71 RX1 yX1_take vX1_take) := gw_V ww_4_23 ww_3_48 ww_3_49 ww_1_6 ww_3_50
theorem gk_X5_85 : GoodIn lw_gd (wsV RX5 85 RX5 yX5_draw vX5_draw) := gw_V ww_3_98 ww_3_100 wp_2_4 ww_1_2 ww_3_101
theorem gk_L_13 : GoodIn lw_gd (wsV RL 13 RX6 yX6_opens vX6_opens) := gw_V ww_2_22 ww_2_23 ww_2_24 ww_1_1 ww_2_25
theorem gk_L_17 : GoodIn lw_gd (wsV RL 17 RX7 yX7_opens vX7_opens) := gw_V ww_4_121 ww_4_122 ww_4_123 ww_1_9 ww_4_124
theorem gk_L_18 : GoodIn lw_gd (wsV RL 18 RX6 yX6_field vX6_field) := gw_V ww_2_43 ww_2_44 ww_2_45 ww_1_1 ww_2_46
theorem gk_L_22 : GoodIn lw_gd (wsV RL 22 RX7 yX7_field vX7_field) := gw_V ww_4_141 ww_4_142 ww_4_143 ww_1_9 ww_4_144
theorem gk_L_23 : GoodIn lw_gd (wsV RL 23 RX6 yX6_far vX6_far) := gw_V ww_2_50 ww_2_51 ww_2_52 ww_1_1 ww_2_53
theorem gk_L_26 : GoodIn lw_gd (wsV RL 26 RX7 yX7_far vX7_far) := gw_V ww_4_152 ww_4_153 ww_4_154 ww_1_9 ww_4_155
theorem gk_L_27 : GoodIn lw_gd (wsV RL 27 RX6 yX6_bit vX6_bit) := gw_V ww_2_59 ww_2_60 ww_2_61 ww_1_1 ww_2_62
theorem gk_L_30 : GoodIn lw_gd (wsV RL 30 RX7 yX7_bit vX7_bit) := gw_V ww_4_165 ww_4_166 ww_4_167 ww_1_9 ww_4_168
theorem gk_L_31 : GoodIn lw_gd (wsV RL 31 RX6 yX6_bitIs vX6_bitIs) := gw_V ww_2_70 ww_2_71 ww_2_72 ww_1_1 ww_2_73
theorem gk_L_34 : GoodIn lw_gd (wsV RL 34 RX7 yX7_bitIs vX7_bitIs) := gw_V ww_4_177 ww_4_178 ww_4_179 ww_1_9 ww_4_180
theorem gk_L_35 : GoodIn lw_gd (wsV RL 35 RX6 yX6_become vX6_become) := gw_V ww_2_120 ww_2_121 ww_2_122 ww_1_1 ww_2_123
theorem gk_L_38 : GoodIn lw_gd (wsV RL 38 RX7 yX7_become vX7_become) := gw_V ww_4_235 ww_4_236 ww_4_237 ww_1_9 ww_4_238
theorem gk_L_39 : GoodIn lw_gd (wsV RL 39 RX6 yX6_as vX6_as) := gw_V ww_2_124 ww_2_125 ww_2_126 ww_1_1 ww_2_127
theorem gk_L_42 : GoodIn lw_gd (wsV RL 42 RX7 yX7_as vX7_as) := gw_V ww_4_239 ww_5_0 ww_5_1 ww_1_9 ww_5_2
theorem gk_L_43 : GoodIn lw_gd (wsV RL 43 RX6 yX6_hears vX6_hears) := gw_V ww_2_133 ww_2_134 ww_2_135 ww_1_1 ww_2_136
theorem gk_L_46 : GoodIn lw_gd (wsV RL 46 RX7 yX7_hears vX7_hears) := gw_V ww_5_4 ww_5_5 ww_5_6 ww_1_9 ww_5_7
theorem gk_L_47 : GoodIn lw_gd (wsV RL 47 RX6 yX6_lay vX6_lay) := gw_V ww_2_137 ww_2_138 ww_2_139 ww_1_1 ww_2_140
theorem gk_L_50 : GoodIn lw_gd (wsV RL 50 RX7 yX7_lay vX7_lay) := gw_V ww_5_8 ww_5_9 ww_5_10 ww_1_9 ww_5_11
theorem gk_L_53 : GoodIn lw_gd (wsV RL 53 RX6 yX6_feed vX6_feed) := gw_V ww_2_141 ww_2_142 ww_2_143 ww_1_1 ww_2_144
theorem gk_L_57 : GoodIn lw_gd (wsV RL 57 RX7 yX7_feed vX7_feed) := gw_V ww_5_12 ww_5_13 ww_5_14 ww_1_9 ww_5_15
theorem gk_L_58 : GoodIn lw_gd (wsV RL 58 RX6 yX6_text vX6_text) := gw_V ww_2_145 ww_2_146 ww_2_147 ww_1_1 ww_2_148
theorem gk_L_62 : GoodIn lw_gd (wsV RL 62 RX7 yX7_text vX7_text) := gw_V ww_5_17 ww_5_18 ww_5_19 ww_1_9 ww_5_20
theorem gk_L_63 : GoodIn lw_gd (wsV RL 63 RX6 yX6_untell vX6_untell) := gw_V ww_3_52 ww_3_53 ww_3_54 ww_1_1 ww_3_55
theorem gk_L_66 : GoodIn lw_gd (wsV RL 66 RX7 yX7_untell vX7_untell) := gw_V ww_5_65 ww_5_66 ww_5_67 ww_1_9 ww_5_68
theorem gk_L_67 : GoodIn lw_gd (wsV RL 67 RX6 yX6_law vX6_law) := gw_V ww_3_56 ww_3_57 ww_3_58 ww_1_1 ww_3_59
theorem gk_L_71 : GoodIn lw_gd (wsV RL 71 RX7 yX7_law vX7_law) := gw_V ww_5_69 ww_5_70 ww_5_71 ww_1_9 ww_5_72
theorem gk_L_72 : GoodIn lw_gd (wsV RL 72 RX6 yX6_days vX6_days) := gw_V ww_3_60 ww_3_61 ww_3_62 ww_1_1 ww_3_63
theorem gk_L_75 : GoodIn lw_gd (wsV RL 75 RX7 yX7_days vX7_days) := gw_V ww_5_73 ww_5_74 ww_5_75 ww_1_9 ww_5_76
theorem gk_L_76 : GoodIn lw_gd (wsV RL 76 RX6 yX6_loose vX6_loose) := gw_V ww_3_90 ww_3_91 ww_3_92 ww_1_1 ww_3_93
theorem gk_L_79 : GoodIn lw_gd (wsV RL 79 RX7 yX7_loose vX7_loose) := gw_V ww_5_98 ww_5_99 ww_5_100 ww_1_9 ww_5_101
theorem gk_L_80 : GoodIn lw_gd (wsV RL 80 RX6 yX6_day vX6_day) := gw_V ww_3_103 ww_3_104 ww_3_105 ww_1_1 ww_3_106
theorem gk_L_83 : GoodIn lw_gd (wsV RL 83 RX7 yX7_day vX7_day) := gw_V ww_5_111 ww_5_112 ww_5_113 ww_1_9 ww_5_114
theorem gk_L_84 : GoodIn lw_gd (wsV RL 84 RX6 yX6_seed vX6_seed) := gw_V ww_3_107 ww_3_108 ww_3_109 ww_1_1 ww_3_110
theorem gk_L_87 : GoodIn lw_gd (wsV RL 87 RX7 yX7_seed vX7_seed) := gw_V ww_5_115 ww_5_116 ww_5_117 ww_1_9 ww_5_118
theorem gk_L_88 : GoodIn lw_gd (wsV RL 88 RX6 yX6_then vX6_then) := gw_V ww_3_111 ww_3_112 ww_3_113 ww_1_1 ww_3_114
theorem gk_L_91 : GoodIn lw_gd (wsV RL 91 RX7 yX7_then vX7_then) := gw_V ww_5_119 ww_5_120 ww_5_121 ww_1_9 ww_5_122
theorem gk_L_92 : GoodIn lw_gd (wsV RL 92 RX6 yX6_soonest vX6_soonest) := gw_V ww_3_124 ww_3_125 ww_3_126 ww_1_1 ww_3_127
theorem gk_L_95 : GoodIn lw_gd (wsV RL 95 RX7 yX7_soonest vX7_soonest) := gw_V ww_5_134 ww_5_135 ww_5_136 ww_1_9 ww_5_137
theorem gk_L_96 : GoodIn lw_gd (wsV RL 96 RX6 yX6_gets vX6_gets) := gw_V ww_3_128 ww_3_129 ww_3_130 ww_1_1 ww_3_131
theorem gk_L_99 : GoodIn lw_gd (wsV RL 99 RX7 yX7_gets vX7_gets) := gw_V ww_5_138 ww_5_139 ww_5_140 ww_1_9 ww_5_141
theorem gk_L_100 : GoodIn lw_gd (wsV RL 100 RX6 yX6_carry vX6_carry) := gw_V ww_3_136 ww_3_137 ww_3_138 ww_1_1 ww_3_139
theorem gk_L_103 : GoodIn lw_gd (wsV RL 103 RX7 yX7_carry vX7_carry) := gw_V ww_5_146 ww_5_147 ww_5_148 ww_1_9 ww_5_149
theorem gk_L_104 : GoodIn lw_gd (wsV RL 104 RX6 yX6_way vX6_way) := gw_V ww_3_154 ww_3_155 ww_3_156 ww_1_1 ww_3_157
theorem gk_L_107 : GoodIn lw_gd (wsV RL 107 RX7 yX7_way vX7_way) := gw_V ww_5_157 ww_5_158 ww_5_159 ww_1_9 ww_5_160
theorem gk_L_108 : GoodIn lw_gd (wsV RL 108 RX6 yX6_odds vX6_odds) := gw_V ww_3_167 ww_3_168 ww_3_169 ww_1_1 ww_3_170
theorem gk_L_111 : GoodIn lw_gd (wsV RL 111 RX7 yX7_odds vX7_odds) := gw_V ww_5_161 ww_5_162 ww_5_163 ww_1_9 ww_5_164
theorem gk_L_112 : GoodIn lw_gd (wsV RL 112 RX6 yX6_whose vX6_whose) := gw_V ww_3_175 ww_3_176 ww_3_177 ww_1_1 ww_3_178
theorem gk_L_115 : GoodIn lw_gd (wsV RL 115 RX7 yX7_whose vX7_whose) := gw_V ww_5_165 ww_5_166 ww_5_167 ww_1_9 ww_5_168
theorem gk_L_116 : GoodIn lw_gd (wsV RL 116 RX6 yX6_voice vX6_voice) := gw_V ww_3_194 ww_3_195 ww_3_196 ww_1_1 ww_3_197
theorem gk_L_119 : GoodIn lw_gd (wsV RL 119 RX7 yX7_voice vX7_voice) := gw_V ww_5_176 ww_5_177 ww_5_178 ww_1_9 ww_5_179
theorem gk_L_120 : GoodIn lw_gd (wsV RL 120 RX6 yX6_body vX6_body) := gw_V ww_3_212 ww_3_213 ww_3_214 ww_1_1 ww_3_215
theorem gk_L_123 : GoodIn lw_gd (wsV RL 123 RX7 yX7_body vX7_body) := gw_V ww_5_225 ww_5_226 ww_5_227 ww_1_9 ww_5_228
theorem gk_L_124 : GoodIn lw_gd (wsV RL 124 RX6 yX6_sheet vX6_sheet) := gw_V ww_3_216 ww_3_217 ww_3_218 ww_1_1 ww_3_219
theorem gk_L_127 : GoodIn lw_gd (wsV RL 127 RX7 yX7_sheet vX7_sheet) := gw_V ww_5_229 ww_5_230 ww_5_231 ww_1_9 ww_5_232
theorem gk_L_128 : GoodIn lw_gd (wsV RL 128 RX6 yX6_put vX6_put) := gw_V ww_3_224 ww_3_225 ww_3_226 ww_1_1 ww_3_227
theorem gk_L_131 : GoodIn lw_gd (wsV RL 131 RX7 yX7_put vX7_put) := gw_V ww_5_233 ww_5_234 ww_5_235 ww_1_9 ww_5_236
theorem gk_L_132 : GoodIn lw_gd (wsV RL 132 RX6 yX6_move vX6_move) := gw_V ww_3_232 ww_3_233 ww_3_234 ww_1_1 ww_3_235
theorem gk_L_136 : GoodIn lw_gd (wsV RL 136 RX7 yX7_move vX7_move) := gw_V ww_6_1 ww_6_2 ww_6_3 ww_1_9 ww_6_4
theorem gk_L_137 : GoodIn lw_gd (wsV RL 137 RX6 yX6_lays vX6_lays) := gw_V ww_4_5 ww_4_6 ww_4_7 ww_1_1 ww_4_8
theorem gk_L_140 : GoodIn lw_gd (wsV RL 140 RX7 yX7_lays vX7_lays) := gw_V ww_6_9 ww_6_10 ww_6_11 ww_1_9 ww_6_12
theorem gk_L_141 : GoodIn lw_gd (wsV RL 141 RX6 yX6_judge vX6_judge) := gw_V ww_4_9 ww_4_10 ww_4_11 ww_1_1 ww_4_12
theorem gk_L_144 : GoodIn lw_gd (wsV RL 144 RX7 yX7_judge vX7_judge) := gw_V ww_6_13 ww_6_14 ww_6_15 ww_1_9 ww_6_16
theorem gk_L_145 : GoodIn lw_gd (wsV RL 145 RX6 yX6_image vX6_image) := gw_V ww_4_13 ww_4_14 ww_4_15 ww_1_1 ww_4_16
theorem gk_L_149 : GoodIn lw_gd (wsV RL 149 RX7 yX7_image vX7_image) := gw_V ww_6_17 ww_6_18 ww_6_19 ww_1_9 ww_6_20
theorem gk_L_150 : GoodIn lw_gd (wsV RL 150 RX6 yX6_restore vX6_restore) := gw_V ww_4_25 ww_4_26 ww_4_27 ww_1_1 ww_4_28
theorem gk_L_153 : GoodIn lw_gd (wsV RL 153 RX7 yX7_restore vX7_restore) := gw_V ww_6_21 ww_6_22 ww_6_23 ww_1_9 ww_6_24
theorem gk_L_154 : GoodIn lw_gd (wsV RL 154 RX6 yX6_tell vX6_tell) := gw_V ww_4_29 ww_4_30 ww_4_31 ww_1_1 ww_4_32
theorem gk_L_157 : GoodIn lw_gd (wsV RL 157 RX7 yX7_tell vX7_tell) := gw_V ww_6_25 ww_6_26 ww_6_27 ww_1_9 ww_6_28
theorem gk_L_158 : GoodIn lw_gd (wsV RL 158 RX6 yX6_check vX6_check) := gw_V ww_4_33 ww_4_34 ww_4_35 ww_1_1 ww_4_36
theorem gk_L_161 : GoodIn lw_gd (wsV RL 161 RX7 yX7_check vX7_check) := gw_V ww_6_29 ww_6_30 ww_6_31 ww_1_9 ww_6_32
theorem gk_L_162 : GoodIn lw_gd (wsV RL 162 RX6 yX6_count vX6_count) := gw_V ww_4_37 ww_4_38 ww_4_39 ww_1_1 ww_4_40
theorem gk_L_165 : GoodIn lw_gd (wsV RL 165 RX7 yX7_count vX7_count) := gw_V ww_6_33 ww_6_34 ww_6_35 ww_1_9 ww_6_36
theorem gk_L_166 : GoodIn lw_gd (wsV RL 166 RX6 yX6_told vX6_told) := gw_V ww_4_41 ww_4_42 ww_4_43 ww_1_1 ww_4_44
theorem gk_L_169 : GoodIn lw_gd (wsV RL 169 RX7 yX7_told vX7_told) := gw_V ww_6_37 ww_6_38 ww_6_39 ww_1_9 ww_6_40
