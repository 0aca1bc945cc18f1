/-! the lengths of the rows, by the class of their object -/
theorem l0_3_d : ∀ r, r < 507 → smKd r = 0 → smLn (r + 38) = 9 := by decide +kernel
theorem l0_3 {r : Nat} (h : smT 1 r 0) : smLn (r + 38) = 9 := l0_3_d r (Nat.lt_of_lt_of_eq h.2.1 (by decide)) h.2.2
theorem l0_4_d : ∀ r, r < 507 → smKd r = 0 → smLn (r + 39) = 9 := by decide +kernel
theorem l0_4 {r : Nat} (h : smT 1 r 0) : smLn (r + 39) = 9 := l0_4_d r (Nat.lt_of_lt_of_eq h.2.1 (by decide)) h.2.2
theorem l0_5_d : ∀ r, r < 507 → smKd r = 0 → smLn (r + 40) = 9 := by decide +kernel
theorem l0_5 {r : Nat} (h : smT 1 r 0) : smLn (r + 40) = 9 := l0_5_d r (Nat.lt_of_lt_of_eq h.2.1 (by decide)) h.2.2
theorem l0_5r_d : ∀ r, r < 507 → smKd r = 0 → ∀ j, j < 9 → smLn (r + 40 + 1 + j) = 9 := by decide +kernel
theorem l0_5r {r j : Nat} (h : smT 1 r 0) (hj : j < 9) : smLn (r + 40 + 1 + j) = 9 := l0_5r_d r (Nat.lt_of_lt_of_eq h.2.1 (by decide)) h.2.2 j hj
theorem l0_7_d : ∀ r, r < 507 → smKd r = 0 → smLn (r + 56) = 9 := by decide +kernel
theorem l0_7 {r : Nat} (h : smT 1 r 0) : smLn (r + 56) = 9 := l0_7_d r (Nat.lt_of_lt_of_eq h.2.1 (by decide)) h.2.2
theorem l0_8_d : ∀ r, r < 507 → smKd r = 0 → smLn (r + 57) = 9 := by decide +kernel
theorem l0_8 {r : Nat} (h : smT 1 r 0) : smLn (r + 57) = 9 := l0_8_d r (Nat.lt_of_lt_of_eq h.2.1 (by decide)) h.2.2
theorem l1_1_d : ∀ r, r < 507 → smKd r = 1 → smLn (r + 1) = 19 := by decide +kernel
theorem l1_1 {r : Nat} (h : smT 1 r 1) : smLn (r + 1) = 19 := l1_1_d r (Nat.lt_of_lt_of_eq h.2.1 (by decide)) h.2.2
theorem l1_2_d : ∀ r, r < 507 → smKd r = 1 → smLn (r + 2) = 19 := by decide +kernel
theorem l1_2 {r : Nat} (h : smT 1 r 1) : smLn (r + 2) = 19 := l1_2_d r (Nat.lt_of_lt_of_eq h.2.1 (by decide)) h.2.2
theorem l1_3_d : ∀ r, r < 507 → smKd r = 1 → smLn (r + 3) = 19 := by decide +kernel
theorem l1_3 {r : Nat} (h : smT 1 r 1) : smLn (r + 3) = 19 := l1_3_d r (Nat.lt_of_lt_of_eq h.2.1 (by decide)) h.2.2
theorem l1_4_d : ∀ r, r < 507 → smKd r = 1 → smLn (r + 4) = 19 := by decide +kernel
theorem l1_4 {r : Nat} (h : smT 1 r 1) : smLn (r + 4) = 19 := l1_4_d r (Nat.lt_of_lt_of_eq h.2.1 (by decide)) h.2.2
theorem l1_5_d : ∀ r, r < 507 → smKd r = 1 → smLn (r + 5) = 19 := by decide +kernel
theorem l1_5 {r : Nat} (h : smT 1 r 1) : smLn (r + 5) = 19 := l1_5_d r (Nat.lt_of_lt_of_eq h.2.1 (by decide)) h.2.2
theorem l2_1_d : ∀ r, r < 507 → smKd r = 2 → smLn (r + 40) = 2 := by decide +kernel
theorem l2_1 {r : Nat} (h : smT 1 r 2) : smLn (r + 40) = 2 := l2_1_d r (Nat.lt_of_lt_of_eq h.2.1 (by decide)) h.2.2
theorem l2_2_d : ∀ r, r < 507 → smKd r = 2 → smLn (r + 53) = 9 := by decide +kernel
theorem l2_2 {r : Nat} (h : smT 1 r 2) : smLn (r + 53) = 9 := l2_2_d r (Nat.lt_of_lt_of_eq h.2.1 (by decide)) h.2.2
theorem l2_3_d : ∀ r, r < 507 → smKd r = 2 → smLn (r + 54) = 9 := by decide +kernel
theorem l2_3 {r : Nat} (h : smT 1 r 2) : smLn (r + 54) = 9 := l2_3_d r (Nat.lt_of_lt_of_eq h.2.1 (by decide)) h.2.2
theorem l2_4_d : ∀ r, r < 507 → smKd r = 2 → smLn (r + 55) = 5 := by decide +kernel
theorem l2_4 {r : Nat} (h : smT 1 r 2) : smLn (r + 55) = 5 := l2_4_d r (Nat.lt_of_lt_of_eq h.2.1 (by decide)) h.2.2
theorem l2_5_d : ∀ r, r < 507 → smKd r = 2 → smLn (r + 346) = 5 := by decide +kernel
theorem l2_5 {r : Nat} (h : smT 1 r 2) : smLn (r + 346) = 5 := l2_5_d r (Nat.lt_of_lt_of_eq h.2.1 (by decide)) h.2.2
theorem l2_8_d : ∀ r, r < 507 → smKd r = 2 → smLn (r + 347) = 9 := by decide +kernel
theorem l2_8 {r : Nat} (h : smT 1 r 2) : smLn (r + 347) = 9 := l2_8_d r (Nat.lt_of_lt_of_eq h.2.1 (by decide)) h.2.2
theorem l3_1_d : ∀ r, r < 507 → smKd r = 3 → smLn (r + 1) = 10 := by decide +kernel
theorem l3_1 {r : Nat} (h : smT 1 r 3) : smLn (r + 1) = 10 := l3_1_d r (Nat.lt_of_lt_of_eq h.2.1 (by decide)) h.2.2
theorem l3_2_d : ∀ r, r < 507 → smKd r = 3 → smLn (r + 2) = 9 := by decide +kernel
theorem l3_2 {r : Nat} (h : smT 1 r 3) : smLn (r + 2) = 9 := l3_2_d r (Nat.lt_of_lt_of_eq h.2.1 (by decide)) h.2.2
theorem l3_4_d : ∀ r, r < 507 → smKd r = 3 → smLn (r + 3) = 18 := by decide +kernel
theorem l3_4 {r : Nat} (h : smT 1 r 3) : smLn (r + 3) = 18 := l3_4_d r (Nat.lt_of_lt_of_eq h.2.1 (by decide)) h.2.2
theorem l3_5_d : ∀ r, r < 507 → smKd r = 3 → smLn (r + 4) = 10 := by decide +kernel
theorem l3_5 {r : Nat} (h : smT 1 r 3) : smLn (r + 4) = 10 := l3_5_d r (Nat.lt_of_lt_of_eq h.2.1 (by decide)) h.2.2
theorem l3_6_d : ∀ r, r < 507 → smKd r = 3 → smLn (r + 5) = 10 := by decide +kernel
theorem l3_6 {r : Nat} (h : smT 1 r 3) : smLn (r + 5) = 10 := l3_6_d r (Nat.lt_of_lt_of_eq h.2.1 (by decide)) h.2.2
theorem l4_1_d : ∀ r, r < 507 → smKd r = 4 → smLn (r + 1) = 10 := by decide +kernel
theorem l4_1 {r : Nat} (h : smT 1 r 4) : smLn (r + 1) = 10 := l4_1_d r (Nat.lt_of_lt_of_eq h.2.1 (by decide)) h.2.2
theorem l4_2_d : ∀ r, r < 507 → smKd r = 4 → smLn (r + 2) = 10 := by decide +kernel
theorem l4_2 {r : Nat} (h : smT 1 r 4) : smLn (r + 2) = 10 := l4_2_d r (Nat.lt_of_lt_of_eq h.2.1 (by decide)) h.2.2
theorem l4_3_d : ∀ r, r < 507 → smKd r = 4 → smLn (r + 3) = 10 := by decide +kernel
theorem l4_3 {r : Nat} (h : smT 1 r 4) : smLn (r + 3) = 10 := l4_3_d r (Nat.lt_of_lt_of_eq h.2.1 (by decide)) h.2.2
theorem l4_3r_d : ∀ r, r < 507 → smKd r = 4 → ∀ j, j < 10 → smLn (r + 3 + 1 + j) = 9 := by decide +kernel
theorem l4_3r {r j : Nat} (h : smT 1 r 4) (hj : j < 10) : smLn (r + 3 + 1 + j) = 9 := l4_3r_d r (Nat.lt_of_lt_of_eq h.2.1 (by decide)) h.2.2 j hj
theorem l6_3_d : ∀ r, r < 507 → smKd r = 6 → smLn (r + 1) = 36 := by decide +kernel
theorem l6_3 {r : Nat} (h : smT 1 r 6) : smLn (r + 1) = 36 := l6_3_d r (Nat.lt_of_lt_of_eq h.2.1 (by decide)) h.2.2
theorem l6_3r_d : ∀ r, r < 507 → smKd r = 6 → ∀ j, j < 36 → smLn (r + 1 + 1 + j) = 9 := by decide +kernel
theorem l6_3r {r j : Nat} (h : smT 1 r 6) (hj : j < 36) : smLn (r + 1 + 1 + j) = 9 := l6_3r_d r (Nat.lt_of_lt_of_eq h.2.1 (by decide)) h.2.2 j hj
theorem l6_4_d : ∀ r, r < 507 → smKd r = 6 → smLn (r + 38) = 9 := by decide +kernel
theorem l6_4 {r : Nat} (h : smT 1 r 6) : smLn (r + 38) = 9 := l6_4_d r (Nat.lt_of_lt_of_eq h.2.1 (by decide)) h.2.2
theorem l7_5_d : ∀ r, r < 507 → smKd r = 7 → smLn (r + 1) = 9 := by decide +kernel
theorem l7_5 {r : Nat} (h : smT 1 r 7) : smLn (r + 1) = 9 := l7_5_d r (Nat.lt_of_lt_of_eq h.2.1 (by decide)) h.2.2
theorem l7_6_d : ∀ r, r < 507 → smKd r = 7 → smLn (r + 2) = 9 := by decide +kernel
theorem l7_6 {r : Nat} (h : smT 1 r 7) : smLn (r + 2) = 9 := l7_6_d r (Nat.lt_of_lt_of_eq h.2.1 (by decide)) h.2.2
theorem l9_2_d : ∀ r, r < 507 → smKd r = 9 → smLn (r + 1) = 9 := by decide +kernel
theorem l9_2 {r : Nat} (h : smT 1 r 9) : smLn (r + 1) = 9 := l9_2_d r (Nat.lt_of_lt_of_eq h.2.1 (by decide)) h.2.2
theorem l9_2r_d : ∀ r, r < 507 → smKd r = 9 → ∀ j, j < 9 → smLn (r + 1 + 1 + j) = 9 := by decide +kernel
theorem l9_2r {r j : Nat} (h : smT 1 r 9) (hj : j < 9) : smLn (r + 1 + 1 + j) = 9 := l9_2r_d r (Nat.lt_of_lt_of_eq h.2.1 (by decide)) h.2.2 j hj
theorem l9_3_d : ∀ r, r < 507 → smKd r = 9 → smLn (r + 11) = 9 := by decide +kernel
theorem l9_3 {r : Nat} (h : smT 1 r 9) : smLn (r + 11) = 9 := l9_3_d r (Nat.lt_of_lt_of_eq h.2.1 (by decide)) h.2.2
theorem l9_3r_d : ∀ r, r < 507 → smKd r = 9 → ∀ j, j < 9 → smLn (r + 11 + 1 + j) = 9 := by decide +kernel
theorem l9_3r {r j : Nat} (h : smT 1 r 9) (hj : j < 9) : smLn (r + 11 + 1 + j) = 9 := l9_3r_d r (Nat.lt_of_lt_of_eq h.2.1 (by decide)) h.2.2 j hj
theorem l9_4_d : ∀ r, r < 507 → smKd r = 9 → smLn (r + 21) = 9 := by decide +kernel
theorem l9_4 {r : Nat} (h : smT 1 r 9) : smLn (r + 21) = 9 := l9_4_d r (Nat.lt_of_lt_of_eq h.2.1 (by decide)) h.2.2
theorem l11_1_d : ∀ r, r < 507 → smKd r = 11 → smLn (r + 4) = 2 := by decide +kernel
theorem l11_1 {r : Nat} (h : smT 1 r 11) : smLn (r + 4) = 2 := l11_1_d r (Nat.lt_of_lt_of_eq h.2.1 (by decide)) h.2.2
theorem l11_2_d : ∀ r, r < 507 → smKd r = 11 → smLn (r + 11) = 2 := by decide +kernel
theorem l11_2 {r : Nat} (h : smT 1 r 11) : smLn (r + 11) = 2 := l11_2_d r (Nat.lt_of_lt_of_eq h.2.1 (by decide)) h.2.2
theorem l11_3_d : ∀ r, r < 507 → smKd r = 11 → smLn (r + 12) = 4 := by decide +kernel
theorem l11_3 {r : Nat} (h : smT 1 r 11) : smLn (r + 12) = 4 := l11_3_d r (Nat.lt_of_lt_of_eq h.2.1 (by decide)) h.2.2
theorem l11_8_d : ∀ r, r < 507 → smKd r = 11 → smLn (r + 504) = 9 := by decide +kernel
theorem l11_8 {r : Nat} (h : smT 1 r 11) : smLn (r + 504) = 9 := l11_8_d r (Nat.lt_of_lt_of_eq h.2.1 (by decide)) h.2.2
theorem l11_9_d : ∀ r, r < 507 → smKd r = 11 → smLn (r + 505) = 9 := by decide +kernel
theorem l11_9 {r : Nat} (h : smT 1 r 11) : smLn (r + 505) = 9 := l11_9_d r (Nat.lt_of_lt_of_eq h.2.1 (by decide)) h.2.2
theorem l11_10_d : ∀ r, r < 507 → smKd r = 11 → smLn (r + 506) = 9 := by decide +kernel
theorem l11_10 {r : Nat} (h : smT 1 r 11) : smLn (r + 506) = 9 := l11_10_d r (Nat.lt_of_lt_of_eq h.2.1 (by decide)) h.2.2
theorem l12_5 : smLn (1000 + 1) = 18 := by decide +kernel
theorem l12_6 : smLn (1000 + 2) = 4 := by decide +kernel
theorem l12_7 : smLn (1000 + 3) = 4 := by decide +kernel
theorem l12_8 : smLn (1000 + 4) = 32 := by decide +kernel
theorem l12_9 : smLn (1000 + 5) = 32 := by decide +kernel
theorem l12_10 : smLn (1000 + 6) = 32 := by decide +kernel
theorem l12_11 : smLn (1000 + 7) = 4 := by decide +kernel
theorem l12_12 : smLn (1000 + 8) = 4 := by decide +kernel
theorem l12_13 : smLn (1000 + 9) = 4 := by decide +kernel
theorem l12_14 : smLn (1000 + 10) = 40 := by decide +kernel
theorem l12_15 : smLn (1000 + 11) = 40 := by decide +kernel
theorem l12_16 : smLn (1000 + 12) = 360 := by decide +kernel
theorem l12_17 : smLn (1000 + 13) = 46 := by decide +kernel
theorem l12_18 : smLn (1000 + 14) = 2 := by decide +kernel
theorem l12_19 : smLn (1000 + 15) = 441 := by decide +kernel
theorem l12_20 : smLn (1000 + 16) = 81 := by decide +kernel
theorem l12_21 : smLn (1000 + 17) = 81 := by decide +kernel
theorem l12_22 : smLn (1000 + 18) = 81 := by decide +kernel
theorem l12_23 : smLn (1000 + 19) = 81 := by decide +kernel
theorem l12_24 : smLn (1000 + 20) = 9 := by decide +kernel
theorem l12_25 : smLn (1000 + 21) = 9 := by decide +kernel
theorem l12_30 : smLn (1000 + 22) = 9 := by decide +kernel
theorem l12_31 : smLn (1000 + 23) = 9 := by decide +kernel
theorem l12_32 : smLn (1000 + 24) = 162 := by decide +kernel
theorem l12_33 : smLn (1000 + 25) = 9 := by decide +kernel
theorem l12_35 : smLn (1000 + 26) = 10 := by decide +kernel
theorem l12_36 : smLn (1000 + 27) = 10 := by decide +kernel
theorem l12_37 : smLn (1000 + 28) = 90 := by decide +kernel
theorem l12_39 : smLn (1000 + 29) = 20 := by decide +kernel
theorem l12_40 : smLn (1000 + 30) = 20 := by decide +kernel
theorem l12_41 : smLn (1000 + 31) = 9 := by decide +kernel
theorem l12_42 : smLn (1000 + 32) = 10 := by decide +kernel
theorem l12_44 : smLn (1000 + 33) = 10 := by decide +kernel
theorem l12_45 : smLn (1000 + 34) = 10 := by decide +kernel
theorem l12_47 : smLn (1000 + 35) = 9 := by decide +kernel
theorem l12_48 : smLn (1000 + 36) = 9 := by decide +kernel
theorem l12_49 : smLn (1000 + 37) = 40 := by decide +kernel
theorem l12_50 : smLn (1000 + 38) = 40 := by decide +kernel
theorem l12_51 : smLn (1000 + 39) = 40 := by decide +kernel
theorem l12_53 : smLn (1000 + 40) = 9 := by decide +kernel
