/-! images -/
theorem m_setCopy {t s p A B u v : Nat} [NeZero p] {F G : Nat → Nat → Fin p} {M : smM} (ht : smT 1 t 7) (hs : smT 1 s 7) (hd : t + 3 ≤ s ∨ s + 3 ≤ t) (h : SET M s p A B u v F G) : ∃ M', m_X7_copyFrom t s M = some M' ∧ SET M' t p A B u v F G ∧ ∀ r, (r < t ∨ t + 3 ≤ r) → M' r = M r := by
  obtain ⟨h0, h1, h2, h3, h4, h5, h6⟩ := h
  have hne : s ≠ t := by omega
  unfold m_X7_copyFrom
  rw [smB_e, smB_e, smB_e, smB_e, smB_e]
  simp only [smS_o hne]
  rw [h0, h1, h2, h3, h4]
  generalize hM : smS (smS (smS (smS (smS M t 0 (nI p)) t 1 (nI A)) t 2 (nI B)) t 3 (nI u)) t 4 (nI v) = M5
  have f5 : ∀ r, r ≠ t → M5 r = M r := fun r hr => by rw [← hM, smS_o hr, smS_o hr, smS_o hr, smS_o hr, smS_o hr]
  have v0 : M5 t 0 = nI p := by rw [← hM, smS_ne (by omega), smS_ne (by omega), smS_ne (by omega), smS_ne (by omega), smS_at]
  have v1 : M5 t 1 = nI A := by rw [← hM, smS_ne (by omega), smS_ne (by omega), smS_ne (by omega), smS_at]
  have v2 : M5 t 2 = nI B := by rw [← hM, smS_ne (by omega), smS_ne (by omega), smS_at]
  have v3 : M5 t 3 = nI u := by rw [← hM, smS_ne (by omega), smS_at]
  have v4 : M5 t 4 = nI v := by rw [← hM, smS_at]
  refine lp_post (ρ := smM) 9 (fun k q => ∃ M' : smM, q = (nI k, M') ∧ (∀ r, r ≠ t + 1 → r ≠ t + 2 → M' r = M5 r) ∧ ∀ j, j < k → M' (t + 1) j = M (s + 1) j ∧ M' (t + 2) j = M (s + 2) j) (fun e => ∃ M', e = some M' ∧ SET M' t p A B u v F G ∧ ∀ r, (r < t ∨ t + 3 ≤ r) → M' r = M r) ⟨M5, rfl, fun _ _ _ => rfl, fun j hj => absurd hj (Nat.not_lt_zero j)⟩ (by omega) ?_
  rintro k q hk ⟨M', rfl, g1, g2⟩
  by_cases e9 : k = 9
  · right
    subst e9
    refine ⟨_, ⟨M', rfl, ⟨?_, ?_, ?_, ?_, ?_, fun k l hk hl => ?_, fun k l hk hl => ?_⟩, fun r hr => ?_⟩, fun rc => ?_⟩
    · rw [g1 t (by omega) (by omega)]; exact v0
    · rw [g1 t (by omega) (by omega)]; exact v1
    · rw [g1 t (by omega) (by omega)]; exact v2
    · rw [g1 t (by omega) (by omega)]; exact v3
    · rw [g1 t (by omega) (by omega)]; exact v4
    · rw [(g2 (3 * l + k) (by omega)).1]; exact h5 k l hk hl
    · rw [(g2 (3 * l + k) (by omega)).2]; exact h6 k l hk hl
    · rw [g1 r (by omega) (by omega), f5 r (by omega)]
    · show m_X7_copyFrom_b42 t s rc (nI 9) M' = some M'
      unfold m_X7_copyFrom_b42
      rw [if_pos (by decide)]
  · left
    refine ⟨(nI (k + 1), smS (smS M' (t + 1) k (M (s + 1) k)) (t + 2) k (M (s + 2) k)), by omega, ⟨_, rfl, fun r h1 h2 => by rw [smS_o h2, smS_o h1]; exact g1 r h1 h2, fun j hj => ?_⟩, fun rc => ?_⟩
    · rw [smS_o (show t + 1 ≠ t + 2 by omega)]
      by_cases ej : j = k
      · subst ej
        exact ⟨smS_at, smS_at⟩
      · rw [smS_ne ej, smS_ne ej, smS_o (show t + 2 ≠ t + 1 by omega)]
        exact g2 j (by omega)
    · show m_X7_copyFrom_b42 t s rc (nI k) M' = _
      unfold m_X7_copyFrom_b42
      have ck : ∀ {ρ : Type} (T : Option ρ), (if nI k < 0 ∨ 9 ≤ k then none else T) = T := fun T => if_ck2 (by omega) (by omega) T
      rw [if_neg (fun q => by rw [show (9 : Int32) = nI 9 from rfl, nI_le_iff (by omega) (by omega)] at q; omega), cl_nI (n := k) (by omega)]
      simp only [l7_5 ht, l7_6 ht, l7_5 hs, l7_6 hs, smB, ck]
      rw [nI_add_1, smS_o (show s + 2 ≠ t + 1 by omega), g1 (s + 1) (by omega) (by omega), g1 (s + 2) (by omega) (by omega), f5 (s + 1) (by omega), f5 (s + 2) (by omega)]
theorem ix_23 {i k : Nat} : (23 : Int32) * nI i + nI k = nI (23 * i + k) := by
  rw [show (23 : Int32) = nI 23 from rfl, jI_nI, jI_nI, jI_nI, jI_nI, jI_mul, jI_add]; congr 1
theorem ix_23' {i : Nat} : (23 : Int32) * nI i = nI (23 * i) := by
  rw [show (23 : Int32) = nI 23 from rfl, jI_nI, jI_nI, jI_nI, jI_mul]; congr 1
theorem nI_ad (i k : Nat) : nI i + nI k = nI (i + k) := by rw [jI_nI, jI_nI, jI_nI, jI_add]; congr 1
theorem m12_image {i p A B u v : Nat} [NeZero p] {F G : Nat → Nat → Fin p} {M : smM} (hi : i < 2) (h : SET2 M p A B u v F G) : ∃ M', m_X12_image 1000 (nI i) M = some (nI A * nI B, M') ∧ IM2 M' i p A B u v F G ∧ M' 1014 i = 1 ∧ (∀ r, r ≠ 1013 → r ≠ 1014 → M' r = M r) ∧ (∀ k, (k < 23 * i ∨ 23 * i + 23 ≤ k) → M' 1013 k = M 1013 k) ∧ ∀ k, k ≠ i → M' 1014 k = M 1014 k := by
  obtain ⟨h0, h1, h2, h3, h4, h5, h6⟩ := h
  unfold m_X12_image
  have cin : (0 : Int32) ≤ nI i ∧ nI i ≤ 1 := ⟨nI_0le (by omega), (nI_le_iff (b := 1) (by omega) (by omega)).mpr (by omega)⟩
  rw [show (0 : Int64) = (0 : Int32).toInt64 from rfl, show (1 : Int64) = (1 : Int32).toInt64 from rfl, m12_in, Option.bind_some, b01_t cin, if_1, ix_23']
  rw [show nI (23 * i) + 1 = nI (23 * i + 1) from nI_ad _ 1, show nI (23 * i) + 2 = nI (23 * i + 2) from nI_ad _ 2, show nI (23 * i) + 3 = nI (23 * i + 3) from nI_ad _ 3, show nI (23 * i) + 4 = nI (23 * i + 4) from nI_ad _ 4]
  rw [cl_nI (n := 23 * i) (by omega), cl_nI (n := 23 * i + 1) (by omega), cl_nI (n := 23 * i + 2) (by omega), cl_nI (n := 23 * i + 3) (by omega), cl_nI (n := 23 * i + 4) (by omega), show smLn (1000 + 13) = 46 from g_1013]
  rw [if_ck2 (by omega) (by omega), smB_e, if_ck2 (by omega) (by omega), smB_e, if_ck2 (by omega) (by omega), smB_e, if_ck2 (by omega) (by omega), smB_e, if_ck2 (by omega) (by omega), smB_e]
  have n13 : (1000 : Nat) ≠ 1000 + 13 := by omega
  simp only [smS_o n13]
  rw [h0, h1, h2, h3, h4]
  generalize hM : smS (smS (smS (smS (smS M (1000 + 13) (23 * i) (nI p)) (1000 + 13) (23 * i + 1) (nI A)) (1000 + 13) (23 * i + 2) (nI B)) (1000 + 13) (23 * i + 3) (nI u)) (1000 + 13) (23 * i + 4) (nI v) = M5
  have f5 : ∀ r, r ≠ 1013 → M5 r = M r := fun r hr => by rw [← hM, smS_o (by omega), smS_o (by omega), smS_o (by omega), smS_o (by omega), smS_o (by omega)]
  have f6 : ∀ k, (k < 23 * i ∨ 23 * i + 5 ≤ k) → M5 1013 k = M 1013 k := fun k hk => by rw [← hM, smS_get (by omega), smS_get (by omega), smS_get (by omega), smS_get (by omega), smS_get (by omega)]
  have v0 : M5 1013 (23 * i) = nI p := by rw [← hM, smS_get (by omega), smS_get (by omega), smS_get (by omega), smS_get (by omega)]; exact smS_at
  have v1 : M5 1013 (23 * i + 1) = nI A := by rw [← hM, smS_get (by omega), smS_get (by omega), smS_get (by omega)]; exact smS_at
  have v2 : M5 1013 (23 * i + 2) = nI B := by rw [← hM, smS_get (by omega), smS_get (by omega)]; exact smS_at
  have v3 : M5 1013 (23 * i + 3) = nI u := by rw [← hM, smS_get (by omega)]; exact smS_at
  have v4 : M5 1013 (23 * i + 4) = nI v := by rw [← hM]; exact smS_at
  refine lp_post (ρ := Int32 × smM) 18 (fun k q => ∃ M' : smM, q = (nI k, M') ∧ (∀ r, r ≠ 1013 → M' r = M5 r) ∧ (∀ j, (j < 23 * i + 5 ∨ 23 * i + 23 ≤ j) → M' 1013 j = M5 1013 j) ∧ ∀ j, j < k → M' 1013 (23 * i + 5 + j) = M 1001 j) (fun e => ∃ M', e = some (nI A * nI B, M') ∧ IM2 M' i p A B u v F G ∧ M' 1014 i = 1 ∧ (∀ r, r ≠ 1013 → r ≠ 1014 → M' r = M r) ∧ (∀ k, (k < 23 * i ∨ 23 * i + 23 ≤ k) → M' 1013 k = M 1013 k) ∧ ∀ k, k ≠ i → M' 1014 k = M 1014 k) ⟨M5, rfl, fun _ _ => rfl, fun _ _ => rfl, fun j hj => absurd hj (Nat.not_lt_zero j)⟩ (by omega) ?_
  rintro k q hk ⟨M', rfl, g1, g2, g3⟩
  by_cases e9 : k = 18
  · right
    subst e9
    refine ⟨_, ⟨smS M' 1014 i 1, rfl, ⟨?_, ?_, ?_, ?_, ?_, fun k l hk hl => ?_, fun k l hk hl => ?_⟩, smS_at, fun r hr1 hr2 => ?_, fun k hk => ?_, fun k hk => ?_⟩, fun rc => ?_⟩
    · rw [smS_o (by omega), g2 _ (by omega)]; exact v0
    · rw [smS_o (by omega), g2 _ (by omega)]; exact v1
    · rw [smS_o (by omega), g2 _ (by omega)]; exact v2
    · rw [smS_o (by omega), g2 _ (by omega)]; exact v3
    · rw [smS_o (by omega), g2 _ (by omega)]; exact v4
    · rw [smS_o (by omega), g3 _ (by omega)]; exact h5 k l hk hl
    · rw [smS_o (by omega), g3 _ (by omega)]; exact h6 k l hk hl
    · rw [smS_o hr2, g1 r hr1, f5 r hr1]
    · rw [smS_o (by omega), g2 _ (by omega), f6 _ (by omega)]
    · rw [smS_ne hk, g1 _ (by omega), f5 _ (by omega)]
    · show m_X12_image_b77 1000 (nI i) (nI (23 * i)) rc (nI 18) M' = _
      unfold m_X12_image_b77 m_X12_dimension
      rw [if_pos (by decide), cl_nI (n := i) (by omega), show smLn (1000 + 14) = 2 from g_1014, if_ck2 (by omega) (by omega), smB_e, Option.bind_some, smS_o (by omega), g1 1000 (by omega), f5 1000 (by omega), h1, h2]
  · left
    refine ⟨(nI (k + 1), smS M' 1013 (23 * i + 5 + k) (M 1001 k)), by omega, ⟨_, rfl, fun r h1 => by rw [smS_o h1]; exact g1 r h1, fun j hj => by rw [smS_ne (by omega)]; exact g2 j hj, fun j hj => ?_⟩, fun rc => ?_⟩
    · by_cases ej : j = k
      · subst ej
        exact smS_at
      · rw [smS_ne (by omega)]
        exact g3 j (by omega)
    · show m_X12_image_b77 1000 (nI i) (nI (23 * i)) rc (nI k) M' = _
      unfold m_X12_image_b77
      rw [if_neg (fun q => by rw [show (18 : Int32) = nI 18 from rfl, nI_le_iff (by omega) (by omega)] at q; omega), cl_nI (n := k) (by omega), show nI (23 * i) + 5 = nI (23 * i + 5) from nI_ad _ 5, nI_ad, cl_nI (n := 23 * i + 5 + k) (by omega)]
      rw [show smLn (1000 + 1) = 18 from g_1001, if_ck2 (by omega) (by omega), show smLn (1000 + 13) = 46 from g_1013, if_ck2 (by omega) (by omega), smB_e, nI_add_1, g1 (1000 + 1) (by omega), f5 (1000 + 1) (by omega)]
theorem t7_d : smT 1 1 7 ∧ ∀ i, i < 2 → smT 1 (5 + 3 * i) 7 := by
  refine ⟨⟨by decide, by decide, by decide +kernel⟩, fun i hi => ?_⟩
  rcases (show i = 0 ∨ i = 1 by omega) with rfl | rfl
  · exact ⟨by decide, by decide, by decide +kernel⟩
  · exact ⟨by decide, by decide, by decide +kernel⟩
theorem op_image : Op_image Rel := by
  intro M1 M2 h x
  have hr := h
  obtain ⟨p, ne, A, B, u, v, F, G, hpar, hs1, hs2, hca, hsl, him⟩ := h
  by_cases c : (0 : Int32) ≤ x ∧ x ≤ 1
  · obtain ⟨i, hi, rfl⟩ := rngI (h := 1) (by omega) c.1 c.2
    obtain ⟨M2', e2, g1, g2, g3, g4, g5⟩ := m12_image (i := i) (by omega) hs2
    obtain ⟨M1', e1, k1, k2⟩ := m_setCopy (t := 5 + 3 * i) (s := 1) (t7_d.2 i (by omega)) t7_d.1 (by omega) hs1
    have e : m_X11_image 0 (nI i) M1 = some (nI A * nI B, smS M1' 11 i 1) := by
      unfold m_X11_image m_X7_dimension
      simp only [Nat.zero_add, Nat.reduceAdd]
      rw [m_isWithin, Option.bind_some, b01_t c, if_1, cl_nI (n := i) (by omega), g_4, g_11, if_ck2 (by omega) (by omega), e1, Option.bind_some, if_ck2 (by omega) (by omega), smB_e, Option.bind_some, smS_o (by omega), k2 1 (by omega), hs1.2.1, hs1.2.2.1]
    refine ⟨_, _, _, e, e2, p, ne, A, B, u, v, F, G, hpar, hs1.fr (fun r h1 h2 => by rw [smS_o (by omega), k2 r (by omega)]), hs2.fr (fun k hk => by rw [g3 _ (by omega) (by omega)]) (by rw [g3 _ (by omega) (by omega)]), hca.fr hpar.2.1.2 hpar.2.2.1.2 (fun r h1 h2 => by rw [smS_o (by omega), k2 r (by omega)]), fun s hs => (hsl s hs).fr (fun r h1 h2 => by rw [smS_o (by omega), k2 r (by omega)]) (SAME2.of s (fun r h1 h2 => g3 r (by omega) (by omega))), fun j hj => ?_⟩
    by_cases ej : j = i
    · subst ej
      exact Or.inr ⟨smS_at, g2, p, ne, A, B, u, v, F, G, hpar, k1.fr (fun r h1 h2 => by rw [smS_o (by omega)]), g1⟩
    · exact (him j hj).fr (by rw [smS_ne ej, k2 11 (by omega)]) (fun r h1 h2 => by rw [smS_o (by omega), k2 r (by omega)]) (g5 j ej) (fun k h1 h2 => g4 k (by omega))
  · have e : m_X11_image 0 x M1 = some (-1, M1) := by
      unfold m_X11_image
      rw [m_isWithin, Option.bind_some, b01_f c, if_0]
    have e2 : m_X12_image 1000 x M2 = some (-1, M2) := by
      unfold m_X12_image
      rw [show (0 : Int64) = (0 : Int32).toInt64 from rfl, show (1 : Int64) = (1 : Int32).toInt64 from rfl, m12_in, Option.bind_some, b01_f c, if_0]
    exact ⟨_, _, _, e, e2, hr⟩
