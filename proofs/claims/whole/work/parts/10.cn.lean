/-! the calls stair, place -/
theorem op_stair : Op_stair Rel := by
  intro M1 M2 h x k y
  have hr := h
  obtain ⟨p, ne, A, B, u, v, F, G, hpar, hs1, hs2, hca, hsl, him⟩ := h
  have h9 := AB9 hpar
  have hAB : 1 ≤ A * B := Nat.mul_le_mul hpar.2.1.1 hpar.2.2.1.1
  by_cases c : (0 : Int32) ≤ x ∧ x ≤ 4
  · by_cases d : (0 : Int32) ≤ k ∧ k ≤ nI (A * B - 1)
    · by_cases e : (0 : Int32) ≤ y ∧ y ≤ 1
      · obtain ⟨o, o4, rfl⟩ := rngI (h := 4) (by omega) c.1 c.2
        obtain ⟨s, s2, rfl⟩ := rngI (h := A * B - 1) (by omega) d.1 d.2
        obtain ⟨w, w2, rfl⟩ := rngI (h := 1) (by omega) e.1 e.2
        obtain ⟨M1', M2', D, sx, sy, nm, mx, my, tl, a1, a2, a3, a4, ⟨b1, b2, b3, b4, b5⟩, a6, a7⟩ := both_base hpar hs1 hs2 hca o4
        have hrel := rel_both hpar hs1 hs2 hsl him a6 a3 a7
        have hbt := tb_o (o := o) (by omega)
        have hD := b1.2.2.1.1
        have e1 : m_X11_stair 0 (nI o) (nI s) (nI w) M1 = if nI w = (0 : Int32) then some (nI (sx s), M1') else some (nI (sy s), M1') := by
          unfold m_X11_stair
          rw [m_isOrder, Option.bind_some, b01_t c, if_1, m_isStair hpar hs1, Option.bind_some, b01_t d, if_1, m_isUnknown, Option.bind_some, b01_t e, if_1, a1, smB2_e, cl_nI (n := s) (by omega), l0_3 hbt, l0_4 hbt, if_ck2 (by omega) (by omega), if_ck2 (by omega) (by omega), (b1.2.2.2.1 s (by omega)).1, (b1.2.2.2.1 s (by omega)).2.1]
        have e2 : m_X12_stair 1000 (nI o) (nI s) (nI w) M2 = if nI w = (0 : Int32) then some (nI (sx s), M2') else some (nI (sy s), M2') := by
          unfold m_X12_stair m_X12_dimension
          rw [m12_isOrder, Option.bind_some, b01_t c, if_1, Option.bind_some, hs2.2.1, hs2.2.2.1, dim1 hpar.2.1.1 hpar.2.2.1.1, show (0 : Int64) = (0 : Int32).toInt64 from rfl, show (1 : Int64) = (1 : Int32).toInt64 from rfl, m12_in, Option.bind_some, b01_t d, if_1, m12_in, Option.bind_some, b01_t e, if_1, a2, Option.bind_some, cl_nI (n := s) (by omega), g_22.1, g_22.2.1, if_ck2 (by omega) (by omega), if_ck2 (by omega) (by omega), show M2' (1000 + 22) s = _ from (b4 s (by omega)).1, show M2' (1000 + 23) s = _ from (b4 s (by omega)).2]
        by_cases q : nI w = (0 : Int32)
        · rw [if_pos q] at e1 e2
          exact ⟨_, _, _, e1, e2, hrel⟩
        · rw [if_neg q] at e1 e2
          exact ⟨_, _, _, e1, e2, hrel⟩
      · have e1 : m_X11_stair 0 x k y M1 = some (-1, M1) := by
          unfold m_X11_stair
          rw [m_isOrder, Option.bind_some, b01_t c, if_1, m_isStair hpar hs1, Option.bind_some, b01_t d, if_1, m_isUnknown, Option.bind_some, b01_f e, if_0]
        have e2 : m_X12_stair 1000 x k y M2 = some (-1, M2) := by
          unfold m_X12_stair m_X12_dimension
          rw [m12_isOrder, Option.bind_some, b01_t c, if_1, Option.bind_some, hs2.2.1, hs2.2.2.1, dim1 hpar.2.1.1 hpar.2.2.1.1, show (0 : Int64) = (0 : Int32).toInt64 from rfl, show (1 : Int64) = (1 : Int32).toInt64 from rfl, m12_in, Option.bind_some, b01_t d, if_1, m12_in, Option.bind_some, b01_f e, if_0]
        exact ⟨_, _, _, e1, e2, hr⟩
    · have e1 : m_X11_stair 0 x k y M1 = some (-1, M1) := by
        unfold m_X11_stair
        rw [m_isOrder, Option.bind_some, b01_t c, if_1, m_isStair hpar hs1, Option.bind_some, b01_f d, if_0]
      have e2 : m_X12_stair 1000 x k y M2 = some (-1, M2) := by
        unfold m_X12_stair m_X12_dimension
        rw [m12_isOrder, Option.bind_some, b01_t c, if_1, Option.bind_some, hs2.2.1, hs2.2.2.1, dim1 hpar.2.1.1 hpar.2.2.1.1, show (0 : Int64) = (0 : Int32).toInt64 from rfl, m12_in, Option.bind_some, b01_f d, if_0]
      exact ⟨_, _, _, e1, e2, hr⟩
  · have e1 : m_X11_stair 0 x k y M1 = some (-1, M1) := by
      unfold m_X11_stair
      rw [m_isOrder, Option.bind_some, b01_f c, if_0]
    have e2 : m_X12_stair 1000 x k y M2 = some (-1, M2) := by
      unfold m_X12_stair
      rw [m12_isOrder, Option.bind_some, b01_f c, if_0]
    exact ⟨_, _, _, e1, e2, hr⟩
theorem m_stairAt {b n i j : Nat} {x y : Nat → Nat} {M : smM} (hg : smT 1 b 0) (hn : n ≤ 9) (h0 : M (b + 16) 0 = nI n) (h : ∀ k, k < n → M (b + 38) k = nI (x k) ∧ M (b + 39) k = nI (y k)) (hb : ∀ k, k < n → x k < 1000 ∧ y k < 1000) (hi : i < 2147483648) (hj : j < 2147483648) : (∃ k, k < n ∧ x k = i ∧ y k = j ∧ (∀ l, l < k → ¬ (x l = i ∧ y l = j)) ∧ m_X0_stairAt b (nI i) (nI j) M = some (nI k)) ∨ ((∀ l, l < n → ¬ (x l = i ∧ y l = j)) ∧ m_X0_stairAt b (nI i) (nI j) M = some (-4)) := by
  unfold m_X0_stairAt
  refine lp_pst n (fun k s => s = nI k ∧ ∀ l, l < k → ¬ (x l = i ∧ y l = j)) (fun e => (∃ k, k < n ∧ x k = i ∧ y k = j ∧ (∀ l, l < k → ¬ (x l = i ∧ y l = j)) ∧ e = some (nI k)) ∨ ((∀ l, l < n → ¬ (x l = i ∧ y l = j)) ∧ e = some (-4))) ⟨rfl, fun l hl => by omega⟩ (by omega) ?_
  rintro k s hk ⟨rfl, z⟩ rc
  unfold m_X0_stairAt_b2
  rw [h0]
  by_cases e : k = n
  · right
    right
    subst e
    rw [if_pos (Int32.le_refl _)]
    exact ⟨z, rfl⟩
  · obtain ⟨b1, b2⟩ := h k (by omega)
    obtain ⟨b3, b4⟩ := hb k (by omega)
    rw [if_neg (fun w => by rw [nI_le_iff (by omega) (by omega)] at w; omega), cl_nI (n := k) (by omega), l0_3 hg, l0_4 hg, if_ck2 (by omega) (by omega), if_ck2 (by omega) (by omega), b1, b2, nI_add_1]
    have nx : ¬ (x k = i ∧ y k = j) → ∃ s', k < n ∧ (s' = nI (k + 1) ∧ ∀ l, l < k + 1 → ¬ (x l = i ∧ y l = j)) ∧ rc (nI (k + 1)) = rc s' := fun q => ⟨_, by omega, ⟨rfl, fun l hl => by
      by_cases q2 : l = k
      · rw [q2]; exact q
      · exact z l (by omega)⟩, rfl⟩
    by_cases c1 : x k = i
    · rw [if_pos (by rw [c1])]
      by_cases c2 : y k = j
      · right
        left
        rw [if_pos (by rw [c2])]
        exact ⟨k, by omega, c1, c2, z, rfl⟩
      · left
        rw [if_neg (fun w => c2 ((nI_inj (by omega) (by omega)).mp w))]
        exact nx (fun q => c2 q.2)
    · left
      rw [if_neg (fun w => c1 ((nI_inj (by omega) (by omega)).mp w))]
      exact nx (fun q => c1 q.1)
theorem m12_placel {n i j : Nat} {x y : Nat → Nat} {M : smM} (hn : n ≤ 9) (h0 : M 1000 29 = nI n) (h : ∀ k, k < n → M 1022 k = nI (x k) ∧ M 1023 k = nI (y k)) (hb : ∀ k, k < n → x k < 1000 ∧ y k < 1000) (hi : i < 2147483648) (hj : j < 2147483648) : (∃ k, k < n ∧ x k = i ∧ y k = j ∧ (∀ l, l < k → ¬ (x l = i ∧ y l = j)) ∧ smLp (fun rc q => m_X12_place_b26 1000 (nI i) (nI j) M rc q) smF (0 : Int32) = some (nI k, M)) ∨ ((∀ l, l < n → ¬ (x l = i ∧ y l = j)) ∧ smLp (fun rc q => m_X12_place_b26 1000 (nI i) (nI j) M rc q) smF (0 : Int32) = some (-4, M)) := by
  refine lp_pst n (fun k s => s = nI k ∧ ∀ l, l < k → ¬ (x l = i ∧ y l = j)) (fun e => (∃ k, k < n ∧ x k = i ∧ y k = j ∧ (∀ l, l < k → ¬ (x l = i ∧ y l = j)) ∧ e = some (nI k, M)) ∨ ((∀ l, l < n → ¬ (x l = i ∧ y l = j)) ∧ e = some (-4, M))) ⟨rfl, fun l hl => by omega⟩ (by omega) ?_
  rintro k s hk ⟨rfl, z⟩ rc
  unfold m_X12_place_b26
  rw [h0]
  by_cases e : k = n
  · right
    right
    subst e
    rw [if_pos (Int32.le_refl _)]
    exact ⟨z, rfl⟩
  · obtain ⟨b1, b2⟩ := h k (by omega)
    obtain ⟨b3, b4⟩ := hb k (by omega)
    rw [if_neg (fun w => by rw [nI_le_iff (by omega) (by omega)] at w; omega), cl_nI (n := k) (by omega), g_22.1, g_22.2.1, if_ck2 (by omega) (by omega), if_ck2 (by omega) (by omega), show M (1000 + 22) k = _ from b1, show M (1000 + 23) k = _ from b2, nI_add_1]
    have nx : ¬ (x k = i ∧ y k = j) → ∃ s', k < n ∧ (s' = nI (k + 1) ∧ ∀ l, l < k + 1 → ¬ (x l = i ∧ y l = j)) ∧ rc (nI (k + 1)) = rc s' := fun q => ⟨_, by omega, ⟨rfl, fun l hl => by
      by_cases q2 : l = k
      · rw [q2]; exact q
      · exact z l (by omega)⟩, rfl⟩
    by_cases c1 : x k = i
    · rw [if_pos (by rw [c1])]
      by_cases c2 : y k = j
      · right
        left
        rw [if_pos (by rw [c2])]
        exact ⟨k, by omega, c1, c2, z, rfl⟩
      · left
        rw [if_neg (fun w => c2 ((nI_inj (by omega) (by omega)).mp w))]
        exact nx (fun q => c2 q.2)
    · left
      rw [if_neg (fun w => c1 ((nI_inj (by omega) (by omega)).mp w))]
      exact nx (fun q => c1 q.1)
theorem op_place : Op_place Rel := by
  intro M1 M2 h x i j
  have hr := h
  obtain ⟨p, ne, A, B, u, v, F, G, hpar, hs1, hs2, hca, hsl, him⟩ := h
  have h9 := AB9 hpar
  by_cases c : (0 : Int32) ≤ x ∧ x ≤ 4
  · by_cases ci : i < 0
    · have e1 : m_X11_place 0 x i j M1 = some (-1, M1) := by
        unfold m_X11_place
        rw [m_isOrder, Option.bind_some, b01_t c, if_1, if_pos ci]
      have e2 : m_X12_place 1000 x i j M2 = some (-1, M2) := by
        unfold m_X12_place
        rw [m12_isOrder, Option.bind_some, b01_t c, if_1, if_pos ci]
      exact ⟨_, _, _, e1, e2, hr⟩
    · by_cases cj : (0 : Int32) ≤ j
      · obtain ⟨o, o4, rfl⟩ := rngI (h := 4) (by omega) c.1 c.2
        obtain ⟨i', hi', rfl⟩ := nat_of (x := i) (by rw [Int32.lt_iff_toInt_lt] at ci; rw [Int32.le_iff_toInt_le]; omega)
        obtain ⟨j', hj', rfl⟩ := nat_of (x := j) cj
        obtain ⟨M1', M2', D, sx, sy, nm, mx, my, tl, a1, a2, a3, a4, ⟨b1, b2, b3, b4, b5⟩, a6, a7⟩ := both_base hpar hs1 hs2 hca o4
        have hrel := rel_both hpar hs1 hs2 hsl him a6 a3 a7
        have hbt := tb_o (o := o) (by omega)
        have hD := b1.2.2.1.1
        have hb : ∀ k, k < D → sx k < 1000 ∧ sy k < 1000 := fun k hk => by have := (b1.2.2.2.1 k hk).2.2.1; omega
        have e1 : m_X11_place 0 (nI o) (nI i') (nI j') M1 = Option.bind (m_X0_stairAt (149 + 58 * o) (nI i') (nI j') M1') fun v24 => some (v24, M1') := by
          unfold m_X11_place
          rw [m_isOrder, Option.bind_some, b01_t c, if_1, if_neg ci, if_pos cj, a1, smB2_e]
        have e2 : m_X12_place 1000 (nI o) (nI i') (nI j') M2 = smLp (fun rc q => m_X12_place_b26 1000 (nI i') (nI j') M2' rc q) smF (0 : Int32) := by
          unfold m_X12_place
          rw [m12_isOrder, Option.bind_some, b01_t c, if_1, if_neg ci, if_pos cj, a2, Option.bind_some]
        rcases m_stairAt (i := i') (j := j') hbt (by omega) b1.2.2.1.2 (fun k hk => ⟨(b1.2.2.2.1 k hk).1, (b1.2.2.2.1 k hk).2.1⟩) hb hi' hj' with ⟨k, k1, k2, k3, k4, k5⟩ | ⟨k1, k2⟩
        · rcases m12_placel (i := i') (j := j') (by omega) b3 b4 hb hi' hj' with ⟨l, l1, l2, l3, l4, l5⟩ | ⟨l1, l2⟩
          · have : k = l := b1.2.2.2.2.1.2.1.inj k1 l1 (by omega) (by omega)
            subst this
            rw [k5, Option.bind_some] at e1
            rw [l5] at e2
            exact ⟨_, _, _, e1, e2, hrel⟩
          · exact absurd ⟨k2, k3⟩ (l1 k k1)
        · rcases m12_placel (i := i') (j := j') (by omega) b3 b4 hb hi' hj' with ⟨l, l1, l2, l3, l4, l5⟩ | ⟨l1, l2⟩
          · exact absurd ⟨l2, l3⟩ (k1 l l1)
          · rw [k2, Option.bind_some] at e1
            rw [l2] at e2
            exact ⟨_, _, _, e1, e2, hrel⟩
      · have e1 : m_X11_place 0 x i j M1 = some (-1, M1) := by
          unfold m_X11_place
          rw [m_isOrder, Option.bind_some, b01_t c, if_1, if_neg ci, if_neg cj]
        have e2 : m_X12_place 1000 x i j M2 = some (-1, M2) := by
          unfold m_X12_place
          rw [m12_isOrder, Option.bind_some, b01_t c, if_1, if_neg ci, if_neg cj]
        exact ⟨_, _, _, e1, e2, hr⟩
  · have e1 : m_X11_place 0 x i j M1 = some (-1, M1) := by
      unfold m_X11_place
      rw [m_isOrder, Option.bind_some, b01_f c, if_0]
    have e2 : m_X12_place 1000 x i j M2 = some (-1, M2) := by
      unfold m_X12_place
      rw [m12_isOrder, Option.bind_some, b01_f c, if_0]
    exact ⟨_, _, _, e1, e2, hr⟩
