/-! taking the noughts away -/
def sel (C : Nat → Int32) : Nat → Nat × (Nat → Nat)
  | 0 => (0, fun j => j)
  | k + 1 => if C k = 0 then sel C k else ((sel C k).1 + 1, up1 (sel C k).2 (sel C k).1 k)
theorem sel_z {C : Nat → Int32} {k : Nat} (h : C k = 0) : sel C (k + 1) = sel C k := by simp only [sel]; rw [if_pos h]
theorem sel_s {C : Nat → Int32} {k : Nat} (h : ¬ C k = 0) : sel C (k + 1) = ((sel C k).1 + 1, up1 (sel C k).2 (sel C k).1 k) := by
  show (if C k = 0 then sel C k else ((sel C k).1 + 1, up1 (sel C k).2 (sel C k).1 k)) = _
  rw [if_neg h]
theorem sel_cong {C D : Nat → Int32} : ∀ {n : Nat}, (∀ k, k < n → C k = D k) → sel C n = sel D n
  | 0, _ => rfl
  | n + 1, h => by
    have ih := sel_cong (n := n) (fun k hk => h k (by omega))
    by_cases c : C n = 0
    · rw [sel_z c, sel_z (by rw [← h n (by omega)]; exact c), ih]
    · rw [sel_s c, sel_s (by rw [← h n (by omega)]; exact c), ih]
theorem sel_ok {C : Nat → Int32} : ∀ (n : Nat), (sel C n).1 ≤ n ∧ (∀ j, j < (sel C n).1 → (sel C n).2 j < n ∧ ¬ C ((sel C n).2 j) = 0) ∧ ∀ i j, i < j → j < (sel C n).1 → (sel C n).2 i < (sel C n).2 j
  | 0 => ⟨Nat.le_refl 0, fun j hj => absurd hj (Nat.not_lt_zero j), fun i j _ hj => absurd hj (Nat.not_lt_zero j)⟩
  | n + 1 => by
    obtain ⟨h1, h2, h3⟩ := sel_ok (C := C) n
    by_cases c : C n = 0
    · rw [sel_z c]
      exact ⟨by omega, fun j hj => ⟨by have := (h2 j hj).1; omega, (h2 j hj).2⟩, h3⟩
    · rw [sel_s c]
      refine ⟨by show _ + 1 ≤ _; omega, fun j hj => ?_, fun i j hij hj => ?_⟩
      · have hj : j < (sel C n).1 + 1 := hj
        show up1 _ _ _ j < _ ∧ ¬ C (up1 _ _ _ j) = 0
        by_cases e : j = (sel C n).1
        · rw [e, up1_s]; exact ⟨by omega, c⟩
        · rw [up1_n e]; exact ⟨by have := (h2 j (by omega)).1; omega, (h2 j (by omega)).2⟩
      · have hj : j < (sel C n).1 + 1 := hj
        show up1 _ _ _ i < up1 _ _ _ j
        rw [up1_n (show i ≠ (sel C n).1 by omega)]
        by_cases e : j = (sel C n).1
        · rw [e, up1_s]; exact (h2 i (by omega)).1
        · rw [up1_n e]; exact h3 i j hij (by omega)
theorem sel_all {C : Nat → Int32} : ∀ {n : Nat}, (∀ k, k < n → ¬ C k = 0) → (sel C n).1 = n ∧ ∀ j, j < n → (sel C n).2 j = j
  | 0, _ => ⟨rfl, fun j hj => absurd hj (Nat.not_lt_zero j)⟩
  | n + 1, h => by
    obtain ⟨h1, h2⟩ := sel_all (C := C) (n := n) (fun k hk => h k (by omega))
    rw [sel_s (h n (by omega))]
    refine ⟨by show _ + 1 = _; rw [h1], fun j hj => ?_⟩
    show up1 _ _ _ j = j
    rw [h1]
    by_cases e : j = n
    · rw [e, up1_s]
    · rw [up1_n e]; exact h2 j (by omega)
theorem m_takeZeros {q n L : Nat} {M : smM} (l1 : smLn (q + 1) = L) (l2 : smLn (q + 2) = L) (l3 : smLn (q + 3) = L) (hn : n ≤ L) (hL : L < 1000) (h0 : M q 0 = nI n) : ∃ M', m_X5_takeZerosAway q M = some M' ∧ M' q 0 = nI (sel (M (q + 1)) n).1 ∧ (∀ j, j < (sel (M (q + 1)) n).1 → M' (q + 1) j = M (q + 1) ((sel (M (q + 1)) n).2 j) ∧ M' (q + 2) j = M (q + 2) ((sel (M (q + 1)) n).2 j) ∧ M' (q + 3) j = M (q + 3) ((sel (M (q + 1)) n).2 j)) ∧ ∀ r, (r < q ∨ q + 4 ≤ r) → M' r = M r := by
  unfold m_X5_takeZerosAway
  refine lp_post (ρ := smM) n (fun k s => ∃ M' : smM, s = (nI (sel (M (q + 1)) k).1, nI k, M') ∧ (∀ r, (r ≤ q ∨ q + 4 ≤ r) → M' r = M r) ∧ (∀ j, j < (sel (M (q + 1)) k).1 → M' (q + 1) j = M (q + 1) ((sel (M (q + 1)) k).2 j) ∧ M' (q + 2) j = M (q + 2) ((sel (M (q + 1)) k).2 j) ∧ M' (q + 3) j = M (q + 3) ((sel (M (q + 1)) k).2 j)) ∧ ∀ j, k ≤ j → M' (q + 1) j = M (q + 1) j ∧ M' (q + 2) j = M (q + 2) j ∧ M' (q + 3) j = M (q + 3) j) (fun e => ∃ M', e = some M' ∧ M' q 0 = nI (sel (M (q + 1)) n).1 ∧ (∀ j, j < (sel (M (q + 1)) n).1 → M' (q + 1) j = M (q + 1) ((sel (M (q + 1)) n).2 j) ∧ M' (q + 2) j = M (q + 2) ((sel (M (q + 1)) n).2 j) ∧ M' (q + 3) j = M (q + 3) ((sel (M (q + 1)) n).2 j)) ∧ ∀ r, (r < q ∨ q + 4 ≤ r) → M' r = M r) ⟨M, rfl, fun _ _ => rfl, fun j hj => absurd hj (Nat.not_lt_zero j), fun _ _ => ⟨rfl, rfl, rfl⟩⟩ (by omega) ?_
  rintro k s hk ⟨M', rfl, g1, g2, g3⟩
  have hle := (sel_ok (C := M (q + 1)) k).1
  by_cases e : k = n
  · right
    subst e
    refine ⟨_, ⟨smS M' q 0 (nI (sel (M (q + 1)) k).1), rfl, smS_at, fun j hj => ?_, fun r hr => ?_⟩, fun rc => ?_⟩
    · rw [smS_o (by omega), smS_o (by omega), smS_o (by omega)]; exact g2 j hj
    · rw [smS_o (by omega)]; exact g1 r (by omega)
    · show m_X5_takeZerosAway_b4 q rc (nI (sel (M (q + 1)) k).1) (nI k) M' = _
      unfold m_X5_takeZerosAway_b4
      rw [g1 q (by omega), h0, if_pos ((nI_le_iff (by omega) (by omega)).mpr (Nat.le_refl k)), smB_e]
  · left
    obtain ⟨c1, c2, c3⟩ := g3 k (Nat.le_refl k)
    have hnle : ¬ nI n ≤ nI k := fun q => by rw [nI_le_iff (by omega) (by omega)] at q; omega
    have ck : ∀ {ρ : Type} (T : Option ρ), (if nI k < 0 ∨ L ≤ k then none else T) = T := fun T => if_ck2 (by omega) (by omega) T
    have cl : ∀ {ρ : Type} (T : Option ρ), (if nI (sel (M (q + 1)) k).1 < 0 ∨ L ≤ (sel (M (q + 1)) k).1 then none else T) = T := fun T => if_ck2 (by omega) (by omega) T
    by_cases z : M (q + 1) k = 0
    · refine ⟨(nI (sel (M (q + 1)) (k + 1)).1, nI (k + 1), M'), by omega, ⟨M', rfl, g1, by rw [sel_z z]; exact g2, fun j hj => g3 j (by omega)⟩, fun rc => ?_⟩
      show m_X5_takeZerosAway_b4 q rc (nI (sel (M (q + 1)) k).1) (nI k) M' = _
      unfold m_X5_takeZerosAway_b4
      rw [g1 q (by omega), h0, if_neg hnle, cl_nI (n := k) (by omega), l1, ck, c1, if_pos z, nI_add_1, sel_z z]
    · refine ⟨(nI (sel (M (q + 1)) (k + 1)).1, nI (k + 1), smS (smS (smS M' (q + 1) (sel (M (q + 1)) k).1 (M (q + 1) k)) (q + 2) (sel (M (q + 1)) k).1 (M (q + 2) k)) (q + 3) (sel (M (q + 1)) k).1 (M (q + 3) k)), by omega, ⟨_, rfl, fun r hr => ?_, fun j hj => ?_, fun j hj => ?_⟩, fun rc => ?_⟩
      · rw [smS_o (by omega), smS_o (by omega), smS_o (by omega)]; exact g1 r hr
      · rw [sel_s z] at hj ⊢
        have hj : j < (sel (M (q + 1)) k).1 + 1 := hj
        show smS _ _ _ _ _ j = M (q + 1) (up1 _ _ _ j) ∧ smS _ _ _ _ _ j = M (q + 2) (up1 _ _ _ j) ∧ smS _ _ _ _ _ j = M (q + 3) (up1 _ _ _ j)
        by_cases ej : j = (sel (M (q + 1)) k).1
        · subst ej
          rw [up1_s]
          exact ⟨by rw [smS_o (by omega), smS_o (by omega), smS_at], by rw [smS_o (by omega), smS_at], smS_at⟩
        · rw [up1_n ej]
          obtain ⟨d1, d2, d3⟩ := g2 j (by omega)
          exact ⟨by rw [smS_o (by omega), smS_o (by omega), smS_ne ej]; exact d1, by rw [smS_o (by omega), smS_ne ej, smS_o (by omega)]; exact d2, by rw [smS_ne ej, smS_o (by omega), smS_o (by omega)]; exact d3⟩
      · obtain ⟨d1, d2, d3⟩ := g3 j (by omega)
        exact ⟨by rw [smS_o (by omega), smS_o (by omega), smS_ne (by omega)]; exact d1, by rw [smS_o (by omega), smS_ne (by omega), smS_o (by omega)]; exact d2, by rw [smS_ne (by omega), smS_o (by omega), smS_o (by omega)]; exact d3⟩
      · show m_X5_takeZerosAway_b4 q rc (nI (sel (M (q + 1)) k).1) (nI k) M' = _
        unfold m_X5_takeZerosAway_b4
        rw [g1 q (by omega), h0, if_neg hnle, cl_nI (n := k) (by omega), cl_nI (n := (sel (M (q + 1)) k).1) (by omega), l1, l2, l3, ck, c1, if_neg z, ck, cl, smB_e, ck, cl, smB_e, ck, cl, smB_e, smS_o (show q + 2 ≠ q + 1 by omega), c2, smS_o (show q + 3 ≠ q + 2 by omega), smS_o (show q + 3 ≠ q + 1 by omega), c3, nI_add_1, nI_add_1, sel_s z]
theorem m12_drops {s n : Nat} {M : smM} (hs : s < 4) (hn : n ≤ 8) (h0 : M 1003 s = nI n) : ∃ M', m_X12_dropsNoughts 1000 (nI s) M = some M' ∧ M' 1003 s = nI (sel (fun k => M 1004 (8 * s + k)) n).1 ∧ (∀ j, j < (sel (fun k => M 1004 (8 * s + k)) n).1 → M' 1004 (8 * s + j) = M 1004 (8 * s + (sel (fun k => M 1004 (8 * s + k)) n).2 j) ∧ M' 1005 (8 * s + j) = M 1005 (8 * s + (sel (fun k => M 1004 (8 * s + k)) n).2 j) ∧ M' 1006 (8 * s + j) = M 1006 (8 * s + (sel (fun k => M 1004 (8 * s + k)) n).2 j)) ∧ (∀ r, (r < 1003 ∨ 1006 < r) → M' r = M r) ∧ (∀ j, j ≠ s → M' 1003 j = M 1003 j) ∧ ∀ j, (j < 8 * s ∨ 8 * s + 8 ≤ j) → M' 1004 j = M 1004 j ∧ M' 1005 j = M 1005 j ∧ M' 1006 j = M 1006 j := by
  generalize hC : (fun k => M 1004 (8 * s + k)) = C
  have hC' : ∀ k, M 1004 (8 * s + k) = C k := fun k => by rw [← hC]
  have e8 : (8 : Int32) * nI s = nI (8 * s) := by rw [show (8 : Int32) = nI 8 from rfl, jI_nI, jI_nI, jI_nI, jI_mul]; congr 1
  unfold m_X12_dropsNoughts
  rw [e8]
  refine lp_post (ρ := smM) n (fun k w => ∃ M' : smM, w = (nI (sel C k).1, nI (8 * s + k), M') ∧ (∀ r, (r ≤ 1003 ∨ 1006 < r) → M' r = M r) ∧ (∀ j, j < (sel C k).1 → M' 1004 (8 * s + j) = M 1004 (8 * s + (sel C k).2 j) ∧ M' 1005 (8 * s + j) = M 1005 (8 * s + (sel C k).2 j) ∧ M' 1006 (8 * s + j) = M 1006 (8 * s + (sel C k).2 j)) ∧ ∀ j, (j < 8 * s ∨ 8 * s + k ≤ j) → M' 1004 j = M 1004 j ∧ M' 1005 j = M 1005 j ∧ M' 1006 j = M 1006 j) (fun e => ∃ M', e = some M' ∧ M' 1003 s = nI (sel C n).1 ∧ (∀ j, j < (sel C n).1 → M' 1004 (8 * s + j) = M 1004 (8 * s + (sel C n).2 j) ∧ M' 1005 (8 * s + j) = M 1005 (8 * s + (sel C n).2 j) ∧ M' 1006 (8 * s + j) = M 1006 (8 * s + (sel C n).2 j)) ∧ (∀ r, (r < 1003 ∨ 1006 < r) → M' r = M r) ∧ (∀ j, j ≠ s → M' 1003 j = M 1003 j) ∧ ∀ j, (j < 8 * s ∨ 8 * s + 8 ≤ j) → M' 1004 j = M 1004 j ∧ M' 1005 j = M 1005 j ∧ M' 1006 j = M 1006 j) ⟨M, rfl, fun _ _ => rfl, fun j hj => absurd hj (Nat.not_lt_zero j), fun _ _ => ⟨rfl, rfl, rfl⟩⟩ (by omega) ?_
  rintro k w hk ⟨M', rfl, g1, g2, g3⟩
  have hle := (sel_ok (C := C) k).1
  have en : nI (8 * s) + nI n = nI (8 * s + n) := nI_ad _ _
  have ck4 : ∀ {ρ : Type} (T : Option ρ), (if nI s < 0 ∨ 4 ≤ s then none else T) = T := fun T => if_ck2 (by omega) (by omega) T
  by_cases e : k = n
  · right
    subst e
    refine ⟨_, ⟨smS M' 1003 s (nI (sel C k).1), rfl, smS_at, fun j hj => ?_, fun r hr => ?_, fun j hj => ?_, fun j hj => ?_⟩, fun rc => ?_⟩
    · rw [smS_o (by omega), smS_o (by omega), smS_o (by omega)]; exact g2 j hj
    · rw [smS_o (by omega)]; exact g1 r (by omega)
    · rw [smS_ne hj, g1 1003 (by omega)]
    · rw [smS_o (by omega), smS_o (by omega), smS_o (by omega)]; exact g3 j (by omega)
    · show m_X12_dropsNoughts_b7 1000 (nI s) rc (nI (sel C k).1) (nI (8 * s + k)) M' = _
      unfold m_X12_dropsNoughts_b7
      rw [cl_nI (n := s) (by omega), show smLn (1000 + 3) = 4 from g_1003, ck4, g1 (1000 + 3) (by omega), show M (1000 + 3) s = nI k from h0, e8, en, if_pos ((nI_le_iff (by omega) (by omega)).mpr (Nat.le_refl _)), ck4, smB_e]
  · left
    obtain ⟨c1, c2, c3⟩ := g3 (8 * s + k) (by omega)
    have hnle : ¬ nI (8 * s + n) ≤ nI (8 * s + k) := fun q => by rw [nI_le_iff (by omega) (by omega)] at q; omega
    have ck : ∀ {ρ : Type} (T : Option ρ), (if nI (8 * s + k) < 0 ∨ 32 ≤ 8 * s + k then none else T) = T := fun T => if_ck2 (by omega) (by omega) T
    have cl : ∀ {ρ : Type} (T : Option ρ), (if nI (8 * s + (sel C k).1) < 0 ∨ 32 ≤ 8 * s + (sel C k).1 then none else T) = T := fun T => if_ck2 (by omega) (by omega) T
    have el : nI (8 * s) + nI (sel C k).1 = nI (8 * s + (sel C k).1) := nI_ad _ _
    by_cases z : C k = 0
    · refine ⟨(nI (sel C (k + 1)).1, nI (8 * s + (k + 1)), M'), by omega, ⟨M', rfl, g1, by rw [sel_z z]; exact g2, fun j hj => g3 j (by omega)⟩, fun rc => ?_⟩
      show m_X12_dropsNoughts_b7 1000 (nI s) rc (nI (sel C k).1) (nI (8 * s + k)) M' = _
      unfold m_X12_dropsNoughts_b7
      rw [cl_nI (n := s) (by omega), show smLn (1000 + 3) = 4 from g_1003, ck4, g1 (1000 + 3) (by omega), show M (1000 + 3) s = nI n from h0, e8, en, if_neg hnle, cl_nI (n := 8 * s + k) (by omega), show smLn (1000 + 4) = 32 from g_1004, ck, show M' (1000 + 4) (8 * s + k) = _ from c1, hC', if_pos z, nI_add_1, sel_z z]
      rfl
    · refine ⟨(nI (sel C (k + 1)).1, nI (8 * s + (k + 1)), smS (smS (smS M' 1004 (8 * s + (sel C k).1) (M 1004 (8 * s + k))) 1005 (8 * s + (sel C k).1) (M 1005 (8 * s + k))) 1006 (8 * s + (sel C k).1) (M 1006 (8 * s + k))), by omega, ⟨_, rfl, fun r hr => ?_, fun j hj => ?_, fun j hj => ?_⟩, fun rc => ?_⟩
      · rw [smS_o (by omega), smS_o (by omega), smS_o (by omega)]; exact g1 r hr
      · rw [sel_s z] at hj ⊢
        have hj : j < (sel C k).1 + 1 := hj
        show smS _ _ _ _ _ _ = M 1004 (8 * s + up1 _ _ _ j) ∧ smS _ _ _ _ _ _ = M 1005 (8 * s + up1 _ _ _ j) ∧ smS _ _ _ _ _ _ = M 1006 (8 * s + up1 _ _ _ j)
        by_cases ej : j = (sel C k).1
        · rw [ej, up1_s]
          exact ⟨by rw [smS_o (by omega), smS_o (by omega), smS_at], by rw [smS_o (by omega), smS_at], smS_at⟩
        · rw [up1_n ej]
          obtain ⟨d1, d2, d3⟩ := g2 j (by omega)
          exact ⟨by rw [smS_o (by omega), smS_o (by omega), smS_ne (by omega)]; exact d1, by rw [smS_o (by omega), smS_ne (by omega), smS_o (by omega)]; exact d2, by rw [smS_ne (by omega), smS_o (by omega), smS_o (by omega)]; exact d3⟩
      · obtain ⟨d1, d2, d3⟩ := g3 j (by omega)
        exact ⟨by rw [smS_o (by omega), smS_o (by omega), smS_ne (by omega)]; exact d1, by rw [smS_o (by omega), smS_ne (by omega), smS_o (by omega)]; exact d2, by rw [smS_ne (by omega), smS_o (by omega), smS_o (by omega)]; exact d3⟩
      · show m_X12_dropsNoughts_b7 1000 (nI s) rc (nI (sel C k).1) (nI (8 * s + k)) M' = _
        unfold m_X12_dropsNoughts_b7
        rw [cl_nI (n := s) (by omega), show smLn (1000 + 3) = 4 from g_1003, ck4, g1 (1000 + 3) (by omega), show M (1000 + 3) s = nI n from h0, e8, en, if_neg hnle, el, cl_nI (n := 8 * s + k) (by omega), cl_nI (n := 8 * s + (sel C k).1) (by omega), show smLn (1000 + 4) = 32 from g_1004, show smLn (1000 + 5) = 32 from g_1005, show smLn (1000 + 6) = 32 from g_1006, ck, show M' (1000 + 4) (8 * s + k) = C k from c1.trans (hC' k), if_neg z, ck, cl, smB_e, ck, cl, smB_e, ck, cl, smB_e, smS_o (show 1000 + 5 ≠ 1000 + 4 by omega), show M' (1000 + 5) (8 * s + k) = _ from c2, smS_o (show 1000 + 6 ≠ 1000 + 5 by omega), smS_o (show 1000 + 6 ≠ 1000 + 4 by omega), show M' (1000 + 6) (8 * s + k) = _ from c3, nI_add_1, nI_add_1, sel_s z, hC']
        rfl
