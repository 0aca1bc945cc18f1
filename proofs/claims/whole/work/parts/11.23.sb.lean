theorem sm12_d : ∀ i, i < 41 → smKd (1000 + i) = 12 → i = 0 := by decide +kernel
theorem t0_0_d : ∀ r, r < 507 → smKd r = 0 → r + 1 < 507 ∧ smKd (r + 1) = 10 := by decide +kernel
theorem t0_0 {r : Nat} (h : smT 1 r 0) : smT 1 (r + 1) 10 := by
  obtain ⟨h1, h2, h3⟩ := h
  have h2 : r < 507 := Nat.lt_of_lt_of_eq h2 (by decide)
  obtain ⟨a, b⟩ := t0_0_d r h2 h3
  exact ⟨Nat.zero_le _, Nat.lt_of_lt_of_eq a (by decide), b⟩
theorem t0_1_d : ∀ r, r < 507 → smKd r = 0 → r + 2 < 507 ∧ smKd (r + 2) = 4 := by decide +kernel
theorem t0_1 {r : Nat} (h : smT 1 r 0) : smT 1 (r + 2) 4 := by
  obtain ⟨h1, h2, h3⟩ := h
  have h2 : r < 507 := Nat.lt_of_lt_of_eq h2 (by decide)
  obtain ⟨a, b⟩ := t0_1_d r h2 h3
  exact ⟨Nat.zero_le _, Nat.lt_of_lt_of_eq a (by decide), b⟩
theorem t0_2_d : ∀ r, r < 507 → smKd r = 0 → r + 16 < 507 ∧ smKd (r + 16) = 9 := by decide +kernel
theorem t0_2 {r : Nat} (h : smT 1 r 0) : smT 1 (r + 16) 9 := by
  obtain ⟨h1, h2, h3⟩ := h
  have h2 : r < 507 := Nat.lt_of_lt_of_eq h2 (by decide)
  obtain ⟨a, b⟩ := t0_2_d r h2 h3
  exact ⟨Nat.zero_le _, Nat.lt_of_lt_of_eq a (by decide), b⟩
theorem t0_3_d : ∀ r, r < 507 → smKd r = 0 → r + 38 < 507 ∧ smKd (r + 38) = 20 := by decide +kernel
theorem t0_3 {r : Nat} (h : smT 1 r 0) : smT 1 (r + 38) 20 := by
  obtain ⟨h1, h2, h3⟩ := h
  have h2 : r < 507 := Nat.lt_of_lt_of_eq h2 (by decide)
  obtain ⟨a, b⟩ := t0_3_d r h2 h3
  exact ⟨Nat.zero_le _, Nat.lt_of_lt_of_eq a (by decide), b⟩
theorem t0_4_d : ∀ r, r < 507 → smKd r = 0 → r + 39 < 507 ∧ smKd (r + 39) = 20 := by decide +kernel
theorem t0_4 {r : Nat} (h : smT 1 r 0) : smT 1 (r + 39) 20 := by
  obtain ⟨h1, h2, h3⟩ := h
  have h2 : r < 507 := Nat.lt_of_lt_of_eq h2 (by decide)
  obtain ⟨a, b⟩ := t0_4_d r h2 h3
  exact ⟨Nat.zero_le _, Nat.lt_of_lt_of_eq a (by decide), b⟩
theorem t0_5_d : ∀ r, r < 507 → smKd r = 0 → r + 40 < 507 ∧ smKd (r + 40) = 22 := by decide +kernel
theorem t0_5 {r : Nat} (h : smT 1 r 0) : smT 1 (r + 40) 22 := by
  obtain ⟨h1, h2, h3⟩ := h
  have h2 : r < 507 := Nat.lt_of_lt_of_eq h2 (by decide)
  obtain ⟨a, b⟩ := t0_5_d r h2 h3
  exact ⟨Nat.zero_le _, Nat.lt_of_lt_of_eq a (by decide), b⟩
theorem t0_6_d : ∀ r, r < 507 → smKd r = 0 → r + 50 < 507 ∧ smKd (r + 50) = 1 := by decide +kernel
theorem t0_6 {r : Nat} (h : smT 1 r 0) : smT 1 (r + 50) 1 := by
  obtain ⟨h1, h2, h3⟩ := h
  have h2 : r < 507 := Nat.lt_of_lt_of_eq h2 (by decide)
  obtain ⟨a, b⟩ := t0_6_d r h2 h3
  exact ⟨Nat.zero_le _, Nat.lt_of_lt_of_eq a (by decide), b⟩
theorem t0_7_d : ∀ r, r < 507 → smKd r = 0 → r + 56 < 507 ∧ smKd (r + 56) = 20 := by decide +kernel
theorem t0_7 {r : Nat} (h : smT 1 r 0) : smT 1 (r + 56) 20 := by
  obtain ⟨h1, h2, h3⟩ := h
  have h2 : r < 507 := Nat.lt_of_lt_of_eq h2 (by decide)
  obtain ⟨a, b⟩ := t0_7_d r h2 h3
  exact ⟨Nat.zero_le _, Nat.lt_of_lt_of_eq a (by decide), b⟩
theorem t0_8_d : ∀ r, r < 507 → smKd r = 0 → r + 57 < 507 ∧ smKd (r + 57) = 20 := by decide +kernel
theorem t0_8 {r : Nat} (h : smT 1 r 0) : smT 1 (r + 57) 20 := by
  obtain ⟨h1, h2, h3⟩ := h
  have h2 : r < 507 := Nat.lt_of_lt_of_eq h2 (by decide)
  obtain ⟨a, b⟩ := t0_8_d r h2 h3
  exact ⟨Nat.zero_le _, Nat.lt_of_lt_of_eq a (by decide), b⟩
theorem t1_1_d : ∀ r, r < 507 → smKd r = 1 → r + 1 < 507 ∧ smKd (r + 1) = 20 := by decide +kernel
theorem t1_1 {r : Nat} (h : smT 1 r 1) : smT 1 (r + 1) 20 := by
  obtain ⟨h1, h2, h3⟩ := h
  have h2 : r < 507 := Nat.lt_of_lt_of_eq h2 (by decide)
  obtain ⟨a, b⟩ := t1_1_d r h2 h3
  exact ⟨Nat.zero_le _, Nat.lt_of_lt_of_eq a (by decide), b⟩
theorem t1_2_d : ∀ r, r < 507 → smKd r = 1 → r + 2 < 507 ∧ smKd (r + 2) = 20 := by decide +kernel
theorem t1_2 {r : Nat} (h : smT 1 r 1) : smT 1 (r + 2) 20 := by
  obtain ⟨h1, h2, h3⟩ := h
  have h2 : r < 507 := Nat.lt_of_lt_of_eq h2 (by decide)
  obtain ⟨a, b⟩ := t1_2_d r h2 h3
  exact ⟨Nat.zero_le _, Nat.lt_of_lt_of_eq a (by decide), b⟩
theorem t1_3_d : ∀ r, r < 507 → smKd r = 1 → r + 3 < 507 ∧ smKd (r + 3) = 20 := by decide +kernel
theorem t1_3 {r : Nat} (h : smT 1 r 1) : smT 1 (r + 3) 20 := by
  obtain ⟨h1, h2, h3⟩ := h
  have h2 : r < 507 := Nat.lt_of_lt_of_eq h2 (by decide)
  obtain ⟨a, b⟩ := t1_3_d r h2 h3
  exact ⟨Nat.zero_le _, Nat.lt_of_lt_of_eq a (by decide), b⟩
theorem t1_4_d : ∀ r, r < 507 → smKd r = 1 → r + 4 < 507 ∧ smKd (r + 4) = 20 := by decide +kernel
theorem t1_4 {r : Nat} (h : smT 1 r 1) : smT 1 (r + 4) 20 := by
  obtain ⟨h1, h2, h3⟩ := h
  have h2 : r < 507 := Nat.lt_of_lt_of_eq h2 (by decide)
  obtain ⟨a, b⟩ := t1_4_d r h2 h3
  exact ⟨Nat.zero_le _, Nat.lt_of_lt_of_eq a (by decide), b⟩
theorem t1_5_d : ∀ r, r < 507 → smKd r = 1 → r + 5 < 507 ∧ smKd (r + 5) = 21 := by decide +kernel
theorem t1_5 {r : Nat} (h : smT 1 r 1) : smT 1 (r + 5) 21 := by
  obtain ⟨h1, h2, h3⟩ := h
  have h2 : r < 507 := Nat.lt_of_lt_of_eq h2 (by decide)
  obtain ⟨a, b⟩ := t1_5_d r h2 h3
  exact ⟨Nat.zero_le _, Nat.lt_of_lt_of_eq a (by decide), b⟩
theorem t2_0_d : ∀ r, r < 507 → smKd r = 2 → r + 1 < 507 ∧ smKd (r + 1) = 6 := by decide +kernel
theorem t2_0 {r : Nat} (h : smT 1 r 2) : smT 1 (r + 1) 6 := by
  obtain ⟨h1, h2, h3⟩ := h
  have h2 : r < 507 := Nat.lt_of_lt_of_eq h2 (by decide)
  obtain ⟨a, b⟩ := t2_0_d r h2 h3
  exact ⟨Nat.zero_le _, Nat.lt_of_lt_of_eq a (by decide), b⟩
theorem t2_1_d : ∀ r, r < 507 → smKd r = 2 → r + 40 < 507 ∧ smKd (r + 40) = 25 := by decide +kernel
theorem t2_1 {r : Nat} (h : smT 1 r 2) : smT 1 (r + 40) 25 := by
  obtain ⟨h1, h2, h3⟩ := h
  have h2 : r < 507 := Nat.lt_of_lt_of_eq h2 (by decide)
  obtain ⟨a, b⟩ := t2_1_d r h2 h3
  exact ⟨Nat.zero_le _, Nat.lt_of_lt_of_eq a (by decide), b⟩
theorem t2_2_d : ∀ r, r < 507 → smKd r = 2 → r + 53 < 507 ∧ smKd (r + 53) = 20 := by decide +kernel
theorem t2_2 {r : Nat} (h : smT 1 r 2) : smT 1 (r + 53) 20 := by
  obtain ⟨h1, h2, h3⟩ := h
  have h2 : r < 507 := Nat.lt_of_lt_of_eq h2 (by decide)
  obtain ⟨a, b⟩ := t2_2_d r h2 h3
  exact ⟨Nat.zero_le _, Nat.lt_of_lt_of_eq a (by decide), b⟩
theorem t2_3_d : ∀ r, r < 507 → smKd r = 2 → r + 54 < 507 ∧ smKd (r + 54) = 20 := by decide +kernel
theorem t2_3 {r : Nat} (h : smT 1 r 2) : smT 1 (r + 54) 20 := by
  obtain ⟨h1, h2, h3⟩ := h
  have h2 : r < 507 := Nat.lt_of_lt_of_eq h2 (by decide)
  obtain ⟨a, b⟩ := t2_3_d r h2 h3
  exact ⟨Nat.zero_le _, Nat.lt_of_lt_of_eq a (by decide), b⟩
theorem t2_4_d : ∀ r, r < 507 → smKd r = 2 → r + 55 < 507 ∧ smKd (r + 55) = 26 := by decide +kernel
theorem t2_4 {r : Nat} (h : smT 1 r 2) : smT 1 (r + 55) 26 := by
  obtain ⟨h1, h2, h3⟩ := h
  have h2 : r < 507 := Nat.lt_of_lt_of_eq h2 (by decide)
  obtain ⟨a, b⟩ := t2_4_d r h2 h3
  exact ⟨Nat.zero_le _, Nat.lt_of_lt_of_eq a (by decide), b⟩
theorem t2_5_d : ∀ r, r < 507 → smKd r = 2 → r + 346 < 507 ∧ smKd (r + 346) = 21 := by decide +kernel
theorem t2_5 {r : Nat} (h : smT 1 r 2) : smT 1 (r + 346) 21 := by
  obtain ⟨h1, h2, h3⟩ := h
  have h2 : r < 507 := Nat.lt_of_lt_of_eq h2 (by decide)
  obtain ⟨a, b⟩ := t2_5_d r h2 h3
  exact ⟨Nat.zero_le _, Nat.lt_of_lt_of_eq a (by decide), b⟩
theorem t2_8_d : ∀ r, r < 507 → smKd r = 2 → r + 347 < 507 ∧ smKd (r + 347) = 20 := by decide +kernel
theorem t2_8 {r : Nat} (h : smT 1 r 2) : smT 1 (r + 347) 20 := by
  obtain ⟨h1, h2, h3⟩ := h
  have h2 : r < 507 := Nat.lt_of_lt_of_eq h2 (by decide)
  obtain ⟨a, b⟩ := t2_8_d r h2 h3
  exact ⟨Nat.zero_le _, Nat.lt_of_lt_of_eq a (by decide), b⟩
theorem t3_1_d : ∀ r, r < 507 → smKd r = 3 → r + 1 < 507 ∧ smKd (r + 1) = 20 := by decide +kernel
theorem t3_1 {r : Nat} (h : smT 1 r 3) : smT 1 (r + 1) 20 := by
  obtain ⟨h1, h2, h3⟩ := h
  have h2 : r < 507 := Nat.lt_of_lt_of_eq h2 (by decide)
  obtain ⟨a, b⟩ := t3_1_d r h2 h3
  exact ⟨Nat.zero_le _, Nat.lt_of_lt_of_eq a (by decide), b⟩
theorem t3_2_d : ∀ r, r < 507 → smKd r = 3 → r + 2 < 507 ∧ smKd (r + 2) = 20 := by decide +kernel
theorem t3_2 {r : Nat} (h : smT 1 r 3) : smT 1 (r + 2) 20 := by
  obtain ⟨h1, h2, h3⟩ := h
  have h2 : r < 507 := Nat.lt_of_lt_of_eq h2 (by decide)
  obtain ⟨a, b⟩ := t3_2_d r h2 h3
  exact ⟨Nat.zero_le _, Nat.lt_of_lt_of_eq a (by decide), b⟩
theorem t3_4_d : ∀ r, r < 507 → smKd r = 3 → r + 3 < 507 ∧ smKd (r + 3) = 20 := by decide +kernel
theorem t3_4 {r : Nat} (h : smT 1 r 3) : smT 1 (r + 3) 20 := by
  obtain ⟨h1, h2, h3⟩ := h
  have h2 : r < 507 := Nat.lt_of_lt_of_eq h2 (by decide)
  obtain ⟨a, b⟩ := t3_4_d r h2 h3
  exact ⟨Nat.zero_le _, Nat.lt_of_lt_of_eq a (by decide), b⟩
theorem t3_5_d : ∀ r, r < 507 → smKd r = 3 → r + 4 < 507 ∧ smKd (r + 4) = 20 := by decide +kernel
theorem t3_5 {r : Nat} (h : smT 1 r 3) : smT 1 (r + 4) 20 := by
  obtain ⟨h1, h2, h3⟩ := h
  have h2 : r < 507 := Nat.lt_of_lt_of_eq h2 (by decide)
  obtain ⟨a, b⟩ := t3_5_d r h2 h3
  exact ⟨Nat.zero_le _, Nat.lt_of_lt_of_eq a (by decide), b⟩
theorem t3_6_d : ∀ r, r < 507 → smKd r = 3 → r + 5 < 507 ∧ smKd (r + 5) = 20 := by decide +kernel
theorem t3_6 {r : Nat} (h : smT 1 r 3) : smT 1 (r + 5) 20 := by
  obtain ⟨h1, h2, h3⟩ := h
  have h2 : r < 507 := Nat.lt_of_lt_of_eq h2 (by decide)
  obtain ⟨a, b⟩ := t3_6_d r h2 h3
  exact ⟨Nat.zero_le _, Nat.lt_of_lt_of_eq a (by decide), b⟩
theorem t4_1_d : ∀ r, r < 507 → smKd r = 4 → r + 1 < 507 ∧ smKd (r + 1) = 20 := by decide +kernel
theorem t4_1 {r : Nat} (h : smT 1 r 4) : smT 1 (r + 1) 20 := by
  obtain ⟨h1, h2, h3⟩ := h
  have h2 : r < 507 := Nat.lt_of_lt_of_eq h2 (by decide)
  obtain ⟨a, b⟩ := t4_1_d r h2 h3
  exact ⟨Nat.zero_le _, Nat.lt_of_lt_of_eq a (by decide), b⟩
theorem t4_2_d : ∀ r, r < 507 → smKd r = 4 → r + 2 < 507 ∧ smKd (r + 2) = 20 := by decide +kernel
theorem t4_2 {r : Nat} (h : smT 1 r 4) : smT 1 (r + 2) 20 := by
  obtain ⟨h1, h2, h3⟩ := h
  have h2 : r < 507 := Nat.lt_of_lt_of_eq h2 (by decide)
  obtain ⟨a, b⟩ := t4_2_d r h2 h3
  exact ⟨Nat.zero_le _, Nat.lt_of_lt_of_eq a (by decide), b⟩
theorem t4_3_d : ∀ r, r < 507 → smKd r = 4 → r + 3 < 507 ∧ smKd (r + 3) = 22 := by decide +kernel
theorem t4_3 {r : Nat} (h : smT 1 r 4) : smT 1 (r + 3) 22 := by
  obtain ⟨h1, h2, h3⟩ := h
  have h2 : r < 507 := Nat.lt_of_lt_of_eq h2 (by decide)
  obtain ⟨a, b⟩ := t4_3_d r h2 h3
  exact ⟨Nat.zero_le _, Nat.lt_of_lt_of_eq a (by decide), b⟩
theorem t5_1_d : ∀ r, r < 507 → smKd r = 5 → r + 1 < 507 ∧ smKd (r + 1) = 20 := by decide +kernel
theorem t5_1 {r : Nat} (h : smT 1 r 5) : smT 1 (r + 1) 20 := by
  obtain ⟨h1, h2, h3⟩ := h
  have h2 : r < 507 := Nat.lt_of_lt_of_eq h2 (by decide)
  obtain ⟨a, b⟩ := t5_1_d r h2 h3
  exact ⟨Nat.zero_le _, Nat.lt_of_lt_of_eq a (by decide), b⟩
theorem t5_2_d : ∀ r, r < 507 → smKd r = 5 → r + 2 < 507 ∧ smKd (r + 2) = 20 := by decide +kernel
theorem t5_2 {r : Nat} (h : smT 1 r 5) : smT 1 (r + 2) 20 := by
  obtain ⟨h1, h2, h3⟩ := h
  have h2 : r < 507 := Nat.lt_of_lt_of_eq h2 (by decide)
  obtain ⟨a, b⟩ := t5_2_d r h2 h3
  exact ⟨Nat.zero_le _, Nat.lt_of_lt_of_eq a (by decide), b⟩
theorem t5_3_d : ∀ r, r < 507 → smKd r = 5 → r + 3 < 507 ∧ smKd (r + 3) = 20 := by decide +kernel
theorem t5_3 {r : Nat} (h : smT 1 r 5) : smT 1 (r + 3) 20 := by
  obtain ⟨h1, h2, h3⟩ := h
  have h2 : r < 507 := Nat.lt_of_lt_of_eq h2 (by decide)
  obtain ⟨a, b⟩ := t5_3_d r h2 h3
  exact ⟨Nat.zero_le _, Nat.lt_of_lt_of_eq a (by decide), b⟩
theorem t6_3_d : ∀ r, r < 507 → smKd r = 6 → r + 1 < 507 ∧ smKd (r + 1) = 22 := by decide +kernel
theorem t6_3 {r : Nat} (h : smT 1 r 6) : smT 1 (r + 1) 22 := by
  obtain ⟨h1, h2, h3⟩ := h
  have h2 : r < 507 := Nat.lt_of_lt_of_eq h2 (by decide)
  obtain ⟨a, b⟩ := t6_3_d r h2 h3
  exact ⟨Nat.zero_le _, Nat.lt_of_lt_of_eq a (by decide), b⟩
theorem t6_4_d : ∀ r, r < 507 → smKd r = 6 → r + 38 < 507 ∧ smKd (r + 38) = 20 := by decide +kernel
theorem t6_4 {r : Nat} (h : smT 1 r 6) : smT 1 (r + 38) 20 := by
  obtain ⟨h1, h2, h3⟩ := h
  have h2 : r < 507 := Nat.lt_of_lt_of_eq h2 (by decide)
  obtain ⟨a, b⟩ := t6_4_d r h2 h3
  exact ⟨Nat.zero_le _, Nat.lt_of_lt_of_eq a (by decide), b⟩
theorem t7_5_d : ∀ r, r < 507 → smKd r = 7 → r + 1 < 507 ∧ smKd (r + 1) = 20 := by decide +kernel
theorem t7_5 {r : Nat} (h : smT 1 r 7) : smT 1 (r + 1) 20 := by
  obtain ⟨h1, h2, h3⟩ := h
  have h2 : r < 507 := Nat.lt_of_lt_of_eq h2 (by decide)
  obtain ⟨a, b⟩ := t7_5_d r h2 h3
  exact ⟨Nat.zero_le _, Nat.lt_of_lt_of_eq a (by decide), b⟩
theorem t7_6_d : ∀ r, r < 507 → smKd r = 7 → r + 2 < 507 ∧ smKd (r + 2) = 20 := by decide +kernel
theorem t7_6 {r : Nat} (h : smT 1 r 7) : smT 1 (r + 2) 20 := by
  obtain ⟨h1, h2, h3⟩ := h
  have h2 : r < 507 := Nat.lt_of_lt_of_eq h2 (by decide)
  obtain ⟨a, b⟩ := t7_6_d r h2 h3
  exact ⟨Nat.zero_le _, Nat.lt_of_lt_of_eq a (by decide), b⟩
theorem t8_1_d : ∀ r, r < 507 → smKd r = 8 → r + 1 < 507 ∧ smKd (r + 1) = 5 := by decide +kernel
theorem t8_1 {r : Nat} (h : smT 1 r 8) : smT 1 (r + 1) 5 := by
  obtain ⟨h1, h2, h3⟩ := h
  have h2 : r < 507 := Nat.lt_of_lt_of_eq h2 (by decide)
  obtain ⟨a, b⟩ := t8_1_d r h2 h3
  exact ⟨Nat.zero_le _, Nat.lt_of_lt_of_eq a (by decide), b⟩
theorem t8_2_d : ∀ r, r < 507 → smKd r = 8 → r + 5 < 507 ∧ smKd (r + 5) = 10 := by decide +kernel
theorem t8_2 {r : Nat} (h : smT 1 r 8) : smT 1 (r + 5) 10 := by
  obtain ⟨h1, h2, h3⟩ := h
  have h2 : r < 507 := Nat.lt_of_lt_of_eq h2 (by decide)
  obtain ⟨a, b⟩ := t8_2_d r h2 h3
  exact ⟨Nat.zero_le _, Nat.lt_of_lt_of_eq a (by decide), b⟩
theorem t8_3_d : ∀ r, r < 507 → smKd r = 8 → r + 6 < 507 ∧ smKd (r + 6) = 4 := by decide +kernel
theorem t8_3 {r : Nat} (h : smT 1 r 8) : smT 1 (r + 6) 4 := by
  obtain ⟨h1, h2, h3⟩ := h
  have h2 : r < 507 := Nat.lt_of_lt_of_eq h2 (by decide)
  obtain ⟨a, b⟩ := t8_3_d r h2 h3
  exact ⟨Nat.zero_le _, Nat.lt_of_lt_of_eq a (by decide), b⟩
theorem t9_2_d : ∀ r, r < 507 → smKd r = 9 → r + 1 < 507 ∧ smKd (r + 1) = 22 := by decide +kernel
theorem t9_2 {r : Nat} (h : smT 1 r 9) : smT 1 (r + 1) 22 := by
  obtain ⟨h1, h2, h3⟩ := h
  have h2 : r < 507 := Nat.lt_of_lt_of_eq h2 (by decide)
  obtain ⟨a, b⟩ := t9_2_d r h2 h3
  exact ⟨Nat.zero_le _, Nat.lt_of_lt_of_eq a (by decide), b⟩
theorem t9_3_d : ∀ r, r < 507 → smKd r = 9 → r + 11 < 507 ∧ smKd (r + 11) = 22 := by decide +kernel
theorem t9_3 {r : Nat} (h : smT 1 r 9) : smT 1 (r + 11) 22 := by
  obtain ⟨h1, h2, h3⟩ := h
  have h2 : r < 507 := Nat.lt_of_lt_of_eq h2 (by decide)
  obtain ⟨a, b⟩ := t9_3_d r h2 h3
  exact ⟨Nat.zero_le _, Nat.lt_of_lt_of_eq a (by decide), b⟩
theorem t9_4_d : ∀ r, r < 507 → smKd r = 9 → r + 21 < 507 ∧ smKd (r + 21) = 20 := by decide +kernel
theorem t9_4 {r : Nat} (h : smT 1 r 9) : smT 1 (r + 21) 20 := by
  obtain ⟨h1, h2, h3⟩ := h
  have h2 : r < 507 := Nat.lt_of_lt_of_eq h2 (by decide)
  obtain ⟨a, b⟩ := t9_4_d r h2 h3
  exact ⟨Nat.zero_le _, Nat.lt_of_lt_of_eq a (by decide), b⟩
theorem t11_0_d : ∀ r, r < 507 → smKd r = 11 → r + 1 < 507 ∧ smKd (r + 1) = 7 := by decide +kernel
theorem t11_0 {r : Nat} (h : smT 1 r 11) : smT 1 (r + 1) 7 := by
  obtain ⟨h1, h2, h3⟩ := h
  have h2 : r < 507 := Nat.lt_of_lt_of_eq h2 (by decide)
  obtain ⟨a, b⟩ := t11_0_d r h2 h3
  exact ⟨Nat.zero_le _, Nat.lt_of_lt_of_eq a (by decide), b⟩
theorem t11_1_d : ∀ r, r < 507 → smKd r = 11 → r + 4 < 507 ∧ smKd (r + 4) = 23 := by decide +kernel
theorem t11_1 {r : Nat} (h : smT 1 r 11) : smT 1 (r + 4) 23 := by
  obtain ⟨h1, h2, h3⟩ := h
  have h2 : r < 507 := Nat.lt_of_lt_of_eq h2 (by decide)
  obtain ⟨a, b⟩ := t11_1_d r h2 h3
  exact ⟨Nat.zero_le _, Nat.lt_of_lt_of_eq a (by decide), b⟩
theorem t11_2_d : ∀ r, r < 507 → smKd r = 11 → r + 11 < 507 ∧ smKd (r + 11) = 21 := by decide +kernel
theorem t11_2 {r : Nat} (h : smT 1 r 11) : smT 1 (r + 11) 21 := by
  obtain ⟨h1, h2, h3⟩ := h
  have h2 : r < 507 := Nat.lt_of_lt_of_eq h2 (by decide)
  obtain ⟨a, b⟩ := t11_2_d r h2 h3
  exact ⟨Nat.zero_le _, Nat.lt_of_lt_of_eq a (by decide), b⟩
theorem t11_3_d : ∀ r, r < 507 → smKd r = 11 → r + 12 < 507 ∧ smKd (r + 12) = 24 := by decide +kernel
theorem t11_3 {r : Nat} (h : smT 1 r 11) : smT 1 (r + 12) 24 := by
  obtain ⟨h1, h2, h3⟩ := h
  have h2 : r < 507 := Nat.lt_of_lt_of_eq h2 (by decide)
  obtain ⟨a, b⟩ := t11_3_d r h2 h3
  exact ⟨Nat.zero_le _, Nat.lt_of_lt_of_eq a (by decide), b⟩
theorem t11_4_d : ∀ r, r < 507 → smKd r = 11 → r + 93 < 507 ∧ smKd (r + 93) = 2 := by decide +kernel
theorem t11_4 {r : Nat} (h : smT 1 r 11) : smT 1 (r + 93) 2 := by
  obtain ⟨h1, h2, h3⟩ := h
  have h2 : r < 507 := Nat.lt_of_lt_of_eq h2 (by decide)
  obtain ⟨a, b⟩ := t11_4_d r h2 h3
  exact ⟨Nat.zero_le _, Nat.lt_of_lt_of_eq a (by decide), b⟩
theorem t11_5_d : ∀ r, r < 507 → smKd r = 11 → r + 441 < 507 ∧ smKd (r + 441) = 0 := by decide +kernel
theorem t11_5 {r : Nat} (h : smT 1 r 11) : smT 1 (r + 441) 0 := by
  obtain ⟨h1, h2, h3⟩ := h
  have h2 : r < 507 := Nat.lt_of_lt_of_eq h2 (by decide)
  obtain ⟨a, b⟩ := t11_5_d r h2 h3
  exact ⟨Nat.zero_le _, Nat.lt_of_lt_of_eq a (by decide), b⟩
theorem t11_6_d : ∀ r, r < 507 → smKd r = 11 → r + 499 < 507 ∧ smKd (r + 499) = 10 := by decide +kernel
theorem t11_6 {r : Nat} (h : smT 1 r 11) : smT 1 (r + 499) 10 := by
  obtain ⟨h1, h2, h3⟩ := h
  have h2 : r < 507 := Nat.lt_of_lt_of_eq h2 (by decide)
  obtain ⟨a, b⟩ := t11_6_d r h2 h3
  exact ⟨Nat.zero_le _, Nat.lt_of_lt_of_eq a (by decide), b⟩
theorem t11_7_d : ∀ r, r < 507 → smKd r = 11 → r + 500 < 507 ∧ smKd (r + 500) = 5 := by decide +kernel
theorem t11_7 {r : Nat} (h : smT 1 r 11) : smT 1 (r + 500) 5 := by
  obtain ⟨h1, h2, h3⟩ := h
  have h2 : r < 507 := Nat.lt_of_lt_of_eq h2 (by decide)
  obtain ⟨a, b⟩ := t11_7_d r h2 h3
  exact ⟨Nat.zero_le _, Nat.lt_of_lt_of_eq a (by decide), b⟩
theorem t11_8_d : ∀ r, r < 507 → smKd r = 11 → r + 504 < 507 ∧ smKd (r + 504) = 20 := by decide +kernel
theorem t11_8 {r : Nat} (h : smT 1 r 11) : smT 1 (r + 504) 20 := by
  obtain ⟨h1, h2, h3⟩ := h
  have h2 : r < 507 := Nat.lt_of_lt_of_eq h2 (by decide)
  obtain ⟨a, b⟩ := t11_8_d r h2 h3
  exact ⟨Nat.zero_le _, Nat.lt_of_lt_of_eq a (by decide), b⟩
theorem t11_9_d : ∀ r, r < 507 → smKd r = 11 → r + 505 < 507 ∧ smKd (r + 505) = 20 := by decide +kernel
theorem t11_9 {r : Nat} (h : smT 1 r 11) : smT 1 (r + 505) 20 := by
  obtain ⟨h1, h2, h3⟩ := h
  have h2 : r < 507 := Nat.lt_of_lt_of_eq h2 (by decide)
  obtain ⟨a, b⟩ := t11_9_d r h2 h3
  exact ⟨Nat.zero_le _, Nat.lt_of_lt_of_eq a (by decide), b⟩
theorem t11_10_d : ∀ r, r < 507 → smKd r = 11 → r + 506 < 507 ∧ smKd (r + 506) = 20 := by decide +kernel
theorem t11_10 {r : Nat} (h : smT 1 r 11) : smT 1 (r + 506) 20 := by
  obtain ⟨h1, h2, h3⟩ := h
  have h2 : r < 507 := Nat.lt_of_lt_of_eq h2 (by decide)
  obtain ⟨a, b⟩ := t11_10_d r h2 h3
  exact ⟨Nat.zero_le _, Nat.lt_of_lt_of_eq a (by decide), b⟩
theorem t12_5 {r : Nat} (h : smT 2 r 12) : smT 2 (r + 1) 20 := by
  obtain ⟨h1, h2, h3⟩ := h
  have h1 : 1000 ≤ r := h1
  have h2 : r < 1000 + 41 := h2
  obtain ⟨i, hi⟩ : ∃ i, r = 1000 + i := ⟨r - 1000, by omega⟩
  subst hi
  have hi : i < 41 := by omega
  have key := sm12_d i hi h3
  subst key
  exact ⟨by decide, by decide, by decide +kernel⟩
theorem t12_6 {r : Nat} (h : smT 2 r 12) : smT 2 (r + 2) 20 := by
  obtain ⟨h1, h2, h3⟩ := h
  have h1 : 1000 ≤ r := h1
  have h2 : r < 1000 + 41 := h2
  obtain ⟨i, hi⟩ : ∃ i, r = 1000 + i := ⟨r - 1000, by omega⟩
  subst hi
  have hi : i < 41 := by omega
  have key := sm12_d i hi h3
  subst key
  exact ⟨by decide, by decide, by decide +kernel⟩
theorem t12_7 {r : Nat} (h : smT 2 r 12) : smT 2 (r + 3) 20 := by
  obtain ⟨h1, h2, h3⟩ := h
  have h1 : 1000 ≤ r := h1
  have h2 : r < 1000 + 41 := h2
  obtain ⟨i, hi⟩ : ∃ i, r = 1000 + i := ⟨r - 1000, by omega⟩
  subst hi
  have hi : i < 41 := by omega
  have key := sm12_d i hi h3
  subst key
  exact ⟨by decide, by decide, by decide +kernel⟩
theorem t12_8 {r : Nat} (h : smT 2 r 12) : smT 2 (r + 4) 20 := by
  obtain ⟨h1, h2, h3⟩ := h
  have h1 : 1000 ≤ r := h1
  have h2 : r < 1000 + 41 := h2
  obtain ⟨i, hi⟩ : ∃ i, r = 1000 + i := ⟨r - 1000, by omega⟩
  subst hi
  have hi : i < 41 := by omega
  have key := sm12_d i hi h3
  subst key
  exact ⟨by decide, by decide, by decide +kernel⟩
theorem t12_9 {r : Nat} (h : smT 2 r 12) : smT 2 (r + 5) 20 := by
  obtain ⟨h1, h2, h3⟩ := h
  have h1 : 1000 ≤ r := h1
  have h2 : r < 1000 + 41 := h2
  obtain ⟨i, hi⟩ : ∃ i, r = 1000 + i := ⟨r - 1000, by omega⟩
  subst hi
  have hi : i < 41 := by omega
  have key := sm12_d i hi h3
  subst key
  exact ⟨by decide, by decide, by decide +kernel⟩
theorem t12_10 {r : Nat} (h : smT 2 r 12) : smT 2 (r + 6) 20 := by
  obtain ⟨h1, h2, h3⟩ := h
  have h1 : 1000 ≤ r := h1
  have h2 : r < 1000 + 41 := h2
  obtain ⟨i, hi⟩ : ∃ i, r = 1000 + i := ⟨r - 1000, by omega⟩
  subst hi
  have hi : i < 41 := by omega
  have key := sm12_d i hi h3
  subst key
  exact ⟨by decide, by decide, by decide +kernel⟩
theorem t12_11 {r : Nat} (h : smT 2 r 12) : smT 2 (r + 7) 20 := by
  obtain ⟨h1, h2, h3⟩ := h
  have h1 : 1000 ≤ r := h1
  have h2 : r < 1000 + 41 := h2
  obtain ⟨i, hi⟩ : ∃ i, r = 1000 + i := ⟨r - 1000, by omega⟩
  subst hi
  have hi : i < 41 := by omega
  have key := sm12_d i hi h3
  subst key
  exact ⟨by decide, by decide, by decide +kernel⟩
theorem t12_12 {r : Nat} (h : smT 2 r 12) : smT 2 (r + 8) 20 := by
  obtain ⟨h1, h2, h3⟩ := h
  have h1 : 1000 ≤ r := h1
  have h2 : r < 1000 + 41 := h2
  obtain ⟨i, hi⟩ : ∃ i, r = 1000 + i := ⟨r - 1000, by omega⟩
  subst hi
  have hi : i < 41 := by omega
  have key := sm12_d i hi h3
  subst key
  exact ⟨by decide, by decide, by decide +kernel⟩
theorem t12_13 {r : Nat} (h : smT 2 r 12) : smT 2 (r + 9) 20 := by
  obtain ⟨h1, h2, h3⟩ := h
  have h1 : 1000 ≤ r := h1
  have h2 : r < 1000 + 41 := h2
  obtain ⟨i, hi⟩ : ∃ i, r = 1000 + i := ⟨r - 1000, by omega⟩
  subst hi
  have hi : i < 41 := by omega
  have key := sm12_d i hi h3
  subst key
  exact ⟨by decide, by decide, by decide +kernel⟩
theorem t12_14 {r : Nat} (h : smT 2 r 12) : smT 2 (r + 10) 20 := by
  obtain ⟨h1, h2, h3⟩ := h
  have h1 : 1000 ≤ r := h1
  have h2 : r < 1000 + 41 := h2
  obtain ⟨i, hi⟩ : ∃ i, r = 1000 + i := ⟨r - 1000, by omega⟩
  subst hi
  have hi : i < 41 := by omega
  have key := sm12_d i hi h3
  subst key
  exact ⟨by decide, by decide, by decide +kernel⟩
theorem t12_15 {r : Nat} (h : smT 2 r 12) : smT 2 (r + 11) 20 := by
  obtain ⟨h1, h2, h3⟩ := h
  have h1 : 1000 ≤ r := h1
  have h2 : r < 1000 + 41 := h2
  obtain ⟨i, hi⟩ : ∃ i, r = 1000 + i := ⟨r - 1000, by omega⟩
  subst hi
  have hi : i < 41 := by omega
  have key := sm12_d i hi h3
  subst key
  exact ⟨by decide, by decide, by decide +kernel⟩
theorem t12_16 {r : Nat} (h : smT 2 r 12) : smT 2 (r + 12) 20 := by
  obtain ⟨h1, h2, h3⟩ := h
  have h1 : 1000 ≤ r := h1
  have h2 : r < 1000 + 41 := h2
  obtain ⟨i, hi⟩ : ∃ i, r = 1000 + i := ⟨r - 1000, by omega⟩
  subst hi
  have hi : i < 41 := by omega
  have key := sm12_d i hi h3
  subst key
  exact ⟨by decide, by decide, by decide +kernel⟩
theorem t12_17 {r : Nat} (h : smT 2 r 12) : smT 2 (r + 13) 20 := by
  obtain ⟨h1, h2, h3⟩ := h
  have h1 : 1000 ≤ r := h1
  have h2 : r < 1000 + 41 := h2
  obtain ⟨i, hi⟩ : ∃ i, r = 1000 + i := ⟨r - 1000, by omega⟩
  subst hi
  have hi : i < 41 := by omega
  have key := sm12_d i hi h3
  subst key
  exact ⟨by decide, by decide, by decide +kernel⟩
theorem t12_18 {r : Nat} (h : smT 2 r 12) : smT 2 (r + 14) 21 := by
  obtain ⟨h1, h2, h3⟩ := h
  have h1 : 1000 ≤ r := h1
  have h2 : r < 1000 + 41 := h2
  obtain ⟨i, hi⟩ : ∃ i, r = 1000 + i := ⟨r - 1000, by omega⟩
  subst hi
  have hi : i < 41 := by omega
  have key := sm12_d i hi h3
  subst key
  exact ⟨by decide, by decide, by decide +kernel⟩
theorem t12_19 {r : Nat} (h : smT 2 r 12) : smT 2 (r + 15) 20 := by
  obtain ⟨h1, h2, h3⟩ := h
  have h1 : 1000 ≤ r := h1
  have h2 : r < 1000 + 41 := h2
  obtain ⟨i, hi⟩ : ∃ i, r = 1000 + i := ⟨r - 1000, by omega⟩
  subst hi
  have hi : i < 41 := by omega
  have key := sm12_d i hi h3
  subst key
  exact ⟨by decide, by decide, by decide +kernel⟩
theorem t12_20 {r : Nat} (h : smT 2 r 12) : smT 2 (r + 16) 20 := by
  obtain ⟨h1, h2, h3⟩ := h
  have h1 : 1000 ≤ r := h1
  have h2 : r < 1000 + 41 := h2
  obtain ⟨i, hi⟩ : ∃ i, r = 1000 + i := ⟨r - 1000, by omega⟩
  subst hi
  have hi : i < 41 := by omega
  have key := sm12_d i hi h3
  subst key
  exact ⟨by decide, by decide, by decide +kernel⟩
theorem t12_21 {r : Nat} (h : smT 2 r 12) : smT 2 (r + 17) 20 := by
  obtain ⟨h1, h2, h3⟩ := h
  have h1 : 1000 ≤ r := h1
  have h2 : r < 1000 + 41 := h2
  obtain ⟨i, hi⟩ : ∃ i, r = 1000 + i := ⟨r - 1000, by omega⟩
  subst hi
  have hi : i < 41 := by omega
  have key := sm12_d i hi h3
  subst key
  exact ⟨by decide, by decide, by decide +kernel⟩
theorem t12_22 {r : Nat} (h : smT 2 r 12) : smT 2 (r + 18) 20 := by
  obtain ⟨h1, h2, h3⟩ := h
  have h1 : 1000 ≤ r := h1
  have h2 : r < 1000 + 41 := h2
  obtain ⟨i, hi⟩ : ∃ i, r = 1000 + i := ⟨r - 1000, by omega⟩
  subst hi
  have hi : i < 41 := by omega
  have key := sm12_d i hi h3
  subst key
  exact ⟨by decide, by decide, by decide +kernel⟩
theorem t12_23 {r : Nat} (h : smT 2 r 12) : smT 2 (r + 19) 20 := by
  obtain ⟨h1, h2, h3⟩ := h
  have h1 : 1000 ≤ r := h1
  have h2 : r < 1000 + 41 := h2
  obtain ⟨i, hi⟩ : ∃ i, r = 1000 + i := ⟨r - 1000, by omega⟩
  subst hi
  have hi : i < 41 := by omega
  have key := sm12_d i hi h3
  subst key
  exact ⟨by decide, by decide, by decide +kernel⟩
theorem t12_24 {r : Nat} (h : smT 2 r 12) : smT 2 (r + 20) 20 := by
  obtain ⟨h1, h2, h3⟩ := h
  have h1 : 1000 ≤ r := h1
  have h2 : r < 1000 + 41 := h2
  obtain ⟨i, hi⟩ : ∃ i, r = 1000 + i := ⟨r - 1000, by omega⟩
  subst hi
  have hi : i < 41 := by omega
  have key := sm12_d i hi h3
  subst key
  exact ⟨by decide, by decide, by decide +kernel⟩
theorem t12_25 {r : Nat} (h : smT 2 r 12) : smT 2 (r + 21) 20 := by
  obtain ⟨h1, h2, h3⟩ := h
  have h1 : 1000 ≤ r := h1
  have h2 : r < 1000 + 41 := h2
  obtain ⟨i, hi⟩ : ∃ i, r = 1000 + i := ⟨r - 1000, by omega⟩
  subst hi
  have hi : i < 41 := by omega
  have key := sm12_d i hi h3
  subst key
  exact ⟨by decide, by decide, by decide +kernel⟩
theorem t12_30 {r : Nat} (h : smT 2 r 12) : smT 2 (r + 22) 20 := by
  obtain ⟨h1, h2, h3⟩ := h
  have h1 : 1000 ≤ r := h1
  have h2 : r < 1000 + 41 := h2
  obtain ⟨i, hi⟩ : ∃ i, r = 1000 + i := ⟨r - 1000, by omega⟩
  subst hi
  have hi : i < 41 := by omega
  have key := sm12_d i hi h3
  subst key
  exact ⟨by decide, by decide, by decide +kernel⟩
theorem t12_31 {r : Nat} (h : smT 2 r 12) : smT 2 (r + 23) 20 := by
  obtain ⟨h1, h2, h3⟩ := h
  have h1 : 1000 ≤ r := h1
  have h2 : r < 1000 + 41 := h2
  obtain ⟨i, hi⟩ : ∃ i, r = 1000 + i := ⟨r - 1000, by omega⟩
  subst hi
  have hi : i < 41 := by omega
  have key := sm12_d i hi h3
  subst key
  exact ⟨by decide, by decide, by decide +kernel⟩
theorem t12_32 {r : Nat} (h : smT 2 r 12) : smT 2 (r + 24) 20 := by
  obtain ⟨h1, h2, h3⟩ := h
  have h1 : 1000 ≤ r := h1
  have h2 : r < 1000 + 41 := h2
  obtain ⟨i, hi⟩ : ∃ i, r = 1000 + i := ⟨r - 1000, by omega⟩
  subst hi
  have hi : i < 41 := by omega
  have key := sm12_d i hi h3
  subst key
  exact ⟨by decide, by decide, by decide +kernel⟩
theorem t12_33 {r : Nat} (h : smT 2 r 12) : smT 2 (r + 25) 20 := by
  obtain ⟨h1, h2, h3⟩ := h
  have h1 : 1000 ≤ r := h1
  have h2 : r < 1000 + 41 := h2
  obtain ⟨i, hi⟩ : ∃ i, r = 1000 + i := ⟨r - 1000, by omega⟩
  subst hi
  have hi : i < 41 := by omega
  have key := sm12_d i hi h3
  subst key
  exact ⟨by decide, by decide, by decide +kernel⟩
theorem t12_35 {r : Nat} (h : smT 2 r 12) : smT 2 (r + 26) 20 := by
  obtain ⟨h1, h2, h3⟩ := h
  have h1 : 1000 ≤ r := h1
  have h2 : r < 1000 + 41 := h2
  obtain ⟨i, hi⟩ : ∃ i, r = 1000 + i := ⟨r - 1000, by omega⟩
  subst hi
  have hi : i < 41 := by omega
  have key := sm12_d i hi h3
  subst key
  exact ⟨by decide, by decide, by decide +kernel⟩
theorem t12_36 {r : Nat} (h : smT 2 r 12) : smT 2 (r + 27) 20 := by
  obtain ⟨h1, h2, h3⟩ := h
  have h1 : 1000 ≤ r := h1
  have h2 : r < 1000 + 41 := h2
  obtain ⟨i, hi⟩ : ∃ i, r = 1000 + i := ⟨r - 1000, by omega⟩
  subst hi
  have hi : i < 41 := by omega
  have key := sm12_d i hi h3
  subst key
  exact ⟨by decide, by decide, by decide +kernel⟩
theorem t12_37 {r : Nat} (h : smT 2 r 12) : smT 2 (r + 28) 20 := by
  obtain ⟨h1, h2, h3⟩ := h
  have h1 : 1000 ≤ r := h1
  have h2 : r < 1000 + 41 := h2
  obtain ⟨i, hi⟩ : ∃ i, r = 1000 + i := ⟨r - 1000, by omega⟩
  subst hi
  have hi : i < 41 := by omega
  have key := sm12_d i hi h3
  subst key
  exact ⟨by decide, by decide, by decide +kernel⟩
theorem t12_39 {r : Nat} (h : smT 2 r 12) : smT 2 (r + 29) 20 := by
  obtain ⟨h1, h2, h3⟩ := h
  have h1 : 1000 ≤ r := h1
  have h2 : r < 1000 + 41 := h2
  obtain ⟨i, hi⟩ : ∃ i, r = 1000 + i := ⟨r - 1000, by omega⟩
  subst hi
  have hi : i < 41 := by omega
  have key := sm12_d i hi h3
  subst key
  exact ⟨by decide, by decide, by decide +kernel⟩
theorem t12_40 {r : Nat} (h : smT 2 r 12) : smT 2 (r + 30) 20 := by
  obtain ⟨h1, h2, h3⟩ := h
  have h1 : 1000 ≤ r := h1
  have h2 : r < 1000 + 41 := h2
  obtain ⟨i, hi⟩ : ∃ i, r = 1000 + i := ⟨r - 1000, by omega⟩
  subst hi
  have hi : i < 41 := by omega
  have key := sm12_d i hi h3
  subst key
  exact ⟨by decide, by decide, by decide +kernel⟩
theorem t12_41 {r : Nat} (h : smT 2 r 12) : smT 2 (r + 31) 20 := by
  obtain ⟨h1, h2, h3⟩ := h
  have h1 : 1000 ≤ r := h1
  have h2 : r < 1000 + 41 := h2
  obtain ⟨i, hi⟩ : ∃ i, r = 1000 + i := ⟨r - 1000, by omega⟩
  subst hi
  have hi : i < 41 := by omega
  have key := sm12_d i hi h3
  subst key
  exact ⟨by decide, by decide, by decide +kernel⟩
theorem t12_42 {r : Nat} (h : smT 2 r 12) : smT 2 (r + 32) 20 := by
  obtain ⟨h1, h2, h3⟩ := h
  have h1 : 1000 ≤ r := h1
  have h2 : r < 1000 + 41 := h2
  obtain ⟨i, hi⟩ : ∃ i, r = 1000 + i := ⟨r - 1000, by omega⟩
  subst hi
  have hi : i < 41 := by omega
  have key := sm12_d i hi h3
  subst key
  exact ⟨by decide, by decide, by decide +kernel⟩
theorem t12_44 {r : Nat} (h : smT 2 r 12) : smT 2 (r + 33) 20 := by
  obtain ⟨h1, h2, h3⟩ := h
  have h1 : 1000 ≤ r := h1
  have h2 : r < 1000 + 41 := h2
  obtain ⟨i, hi⟩ : ∃ i, r = 1000 + i := ⟨r - 1000, by omega⟩
  subst hi
  have hi : i < 41 := by omega
  have key := sm12_d i hi h3
  subst key
  exact ⟨by decide, by decide, by decide +kernel⟩
theorem t12_45 {r : Nat} (h : smT 2 r 12) : smT 2 (r + 34) 20 := by
  obtain ⟨h1, h2, h3⟩ := h
  have h1 : 1000 ≤ r := h1
  have h2 : r < 1000 + 41 := h2
  obtain ⟨i, hi⟩ : ∃ i, r = 1000 + i := ⟨r - 1000, by omega⟩
  subst hi
  have hi : i < 41 := by omega
  have key := sm12_d i hi h3
  subst key
  exact ⟨by decide, by decide, by decide +kernel⟩
theorem t12_47 {r : Nat} (h : smT 2 r 12) : smT 2 (r + 35) 20 := by
  obtain ⟨h1, h2, h3⟩ := h
  have h1 : 1000 ≤ r := h1
  have h2 : r < 1000 + 41 := h2
  obtain ⟨i, hi⟩ : ∃ i, r = 1000 + i := ⟨r - 1000, by omega⟩
  subst hi
  have hi : i < 41 := by omega
  have key := sm12_d i hi h3
  subst key
  exact ⟨by decide, by decide, by decide +kernel⟩
theorem t12_48 {r : Nat} (h : smT 2 r 12) : smT 2 (r + 36) 20 := by
  obtain ⟨h1, h2, h3⟩ := h
  have h1 : 1000 ≤ r := h1
  have h2 : r < 1000 + 41 := h2
  obtain ⟨i, hi⟩ : ∃ i, r = 1000 + i := ⟨r - 1000, by omega⟩
  subst hi
  have hi : i < 41 := by omega
  have key := sm12_d i hi h3
  subst key
  exact ⟨by decide, by decide, by decide +kernel⟩
theorem t12_49 {r : Nat} (h : smT 2 r 12) : smT 2 (r + 37) 20 := by
  obtain ⟨h1, h2, h3⟩ := h
  have h1 : 1000 ≤ r := h1
  have h2 : r < 1000 + 41 := h2
  obtain ⟨i, hi⟩ : ∃ i, r = 1000 + i := ⟨r - 1000, by omega⟩
  subst hi
  have hi : i < 41 := by omega
  have key := sm12_d i hi h3
  subst key
  exact ⟨by decide, by decide, by decide +kernel⟩
theorem t12_50 {r : Nat} (h : smT 2 r 12) : smT 2 (r + 38) 20 := by
  obtain ⟨h1, h2, h3⟩ := h
  have h1 : 1000 ≤ r := h1
  have h2 : r < 1000 + 41 := h2
  obtain ⟨i, hi⟩ : ∃ i, r = 1000 + i := ⟨r - 1000, by omega⟩
  subst hi
  have hi : i < 41 := by omega
  have key := sm12_d i hi h3
  subst key
  exact ⟨by decide, by decide, by decide +kernel⟩
theorem t12_51 {r : Nat} (h : smT 2 r 12) : smT 2 (r + 39) 20 := by
  obtain ⟨h1, h2, h3⟩ := h
  have h1 : 1000 ≤ r := h1
  have h2 : r < 1000 + 41 := h2
  obtain ⟨i, hi⟩ : ∃ i, r = 1000 + i := ⟨r - 1000, by omega⟩
  subst hi
  have hi : i < 41 := by omega
  have key := sm12_d i hi h3
  subst key
  exact ⟨by decide, by decide, by decide +kernel⟩
theorem t12_53 {r : Nat} (h : smT 2 r 12) : smT 2 (r + 40) 20 := by
  obtain ⟨h1, h2, h3⟩ := h
  have h1 : 1000 ≤ r := h1
  have h2 : r < 1000 + 41 := h2
  obtain ⟨i, hi⟩ : ∃ i, r = 1000 + i := ⟨r - 1000, by omega⟩
  subst hi
  have hi : i < 41 := by omega
  have key := sm12_d i hi h3
  subst key
  exact ⟨by decide, by decide, by decide +kernel⟩
theorem te22_d : ∀ r, r < 507 → smKd r = 22 → ∀ j, j < smLn r → r + 1 + j < 507 ∧ smKd (r + 1 + j) = 20 := by decide +kernel
theorem te22 {r : Nat} (h : smT 1 r 22) {i : Int32} (hi : ¬ (i < 0 ∨ smLn r ≤ i.toNatClampNeg)) : smT 1 (r + 1 + i.toNatClampNeg) 20 := by
  obtain ⟨h1, h2, h3⟩ := h
  have h2 : r < 507 := Nat.lt_of_lt_of_eq h2 (by decide)
  obtain ⟨a, b⟩ := te22_d r h2 h3 i.toNatClampNeg (Nat.not_le.mp fun q => hi (Or.inr q))
  exact ⟨Nat.zero_le _, Nat.lt_of_lt_of_eq a (by decide), b⟩
theorem te23_d : ∀ r, r < 507 → smKd r = 23 → ∀ j, j < smLn r → r + 1 + 3 * j < 507 ∧ smKd (r + 1 + 3 * j) = 7 := by decide +kernel
theorem te23 {r : Nat} (h : smT 1 r 23) {i : Int32} (hi : ¬ (i < 0 ∨ smLn r ≤ i.toNatClampNeg)) : smT 1 (r + 1 + 3 * i.toNatClampNeg) 7 := by
  obtain ⟨h1, h2, h3⟩ := h
  have h2 : r < 507 := Nat.lt_of_lt_of_eq h2 (by decide)
  obtain ⟨a, b⟩ := te23_d r h2 h3 i.toNatClampNeg (Nat.not_le.mp fun q => hi (Or.inr q))
  exact ⟨Nat.zero_le _, Nat.lt_of_lt_of_eq a (by decide), b⟩
theorem te24_d : ∀ r, r < 507 → smKd r = 24 → ∀ j, j < smLn r → r + 1 + 20 * j < 507 ∧ smKd (r + 1 + 20 * j) = 8 := by decide +kernel
theorem te24 {r : Nat} (h : smT 1 r 24) {i : Int32} (hi : ¬ (i < 0 ∨ smLn r ≤ i.toNatClampNeg)) : smT 1 (r + 1 + 20 * i.toNatClampNeg) 8 := by
  obtain ⟨h1, h2, h3⟩ := h
  have h2 : r < 507 := Nat.lt_of_lt_of_eq h2 (by decide)
  obtain ⟨a, b⟩ := te24_d r h2 h3 i.toNatClampNeg (Nat.not_le.mp fun q => hi (Or.inr q))
  exact ⟨Nat.zero_le _, Nat.lt_of_lt_of_eq a (by decide), b⟩
theorem te25_d : ∀ r, r < 507 → smKd r = 25 → ∀ j, j < smLn r → r + 1 + 6 * j < 507 ∧ smKd (r + 1 + 6 * j) = 3 := by decide +kernel
theorem te25 {r : Nat} (h : smT 1 r 25) {i : Int32} (hi : ¬ (i < 0 ∨ smLn r ≤ i.toNatClampNeg)) : smT 1 (r + 1 + 6 * i.toNatClampNeg) 3 := by
  obtain ⟨h1, h2, h3⟩ := h
  have h2 : r < 507 := Nat.lt_of_lt_of_eq h2 (by decide)
  obtain ⟨a, b⟩ := te25_d r h2 h3 i.toNatClampNeg (Nat.not_le.mp fun q => hi (Or.inr q))
  exact ⟨Nat.zero_le _, Nat.lt_of_lt_of_eq a (by decide), b⟩
theorem te26_d : ∀ r, r < 507 → smKd r = 26 → ∀ j, j < smLn r → r + 1 + 58 * j < 507 ∧ smKd (r + 1 + 58 * j) = 0 := by decide +kernel
theorem te26 {r : Nat} (h : smT 1 r 26) {i : Int32} (hi : ¬ (i < 0 ∨ smLn r ≤ i.toNatClampNeg)) : smT 1 (r + 1 + 58 * i.toNatClampNeg) 0 := by
  obtain ⟨h1, h2, h3⟩ := h
  have h2 : r < 507 := Nat.lt_of_lt_of_eq h2 (by decide)
  obtain ⟨a, b⟩ := te26_d r h2 h3 i.toNatClampNeg (Nat.not_le.mp fun q => hi (Or.inr q))
  exact ⟨Nat.zero_le _, Nat.lt_of_lt_of_eq a (by decide), b⟩
