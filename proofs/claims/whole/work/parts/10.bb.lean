/-! the simple calls -/
theorem if_1 {ρ : Type} (a b : ρ) : (if (1 : Int32) = 0 then a else b) = b := if_neg (by decide)
theorem if_0 {ρ : Type} (a b : ρ) : (if (0 : Int32) = 0 then a else b) = a := if_pos rfl
theorem n_00 : nI 0 = (0 : Int32) := rfl
theorem n_10 : ¬ nI 1 = (0 : Int32) := by decide
theorem n_20 : ¬ nI 2 = (0 : Int32) := by decide
theorem n_12 : ¬ nI 1 = (2 : Int32) := by decide
theorem n_22 : nI 2 = (2 : Int32) := rfl
theorem smS_get {M : smM} {r k a j : Nat} {v : Int32} (h : a ≠ r ∨ j ≠ k) : smS M r k v a j = M a j := by
  by_cases c : a = r
  · subst c
    exact smS_ne (by omega)
  · rw [smS_o c]
theorem SAME2.st {M M' : smM} {r k : Nat} {v : Int32} {s : Nat} (h : SAME2 M M' s) (g1 : r ≤ 1003 ∨ 1007 ≤ r ∧ r ≤ 1009 → k ≠ s) (g2 : 1004 ≤ r ∧ r ≤ 1006 → k < 8 * s ∨ 8 * s + 8 ≤ k) (g3 : 1010 ≤ r ∧ r ≤ 1011 → k < 10 * s ∨ 10 * s + 10 ≤ k) (g4 : r = 1012 → k < 90 * s ∨ 90 * s + 90 ≤ k) : SAME2 M (smS M' r k v) s := by
  obtain ⟨b1, b2, b3, ⟨b41, b42, b43⟩, b5, b6⟩ := h
  refine ⟨(smS_get (by omega)).trans b1, (smS_get (by omega)).trans b2, fun j hj => ⟨(smS_get (by omega)).trans (b3 j hj).1, (smS_get (by omega)).trans (b3 j hj).2.1, (smS_get (by omega)).trans (b3 j hj).2.2⟩, ⟨(smS_get (by omega)).trans b41, (smS_get (by omega)).trans b42, (smS_get (by omega)).trans b43⟩, fun j hj => ⟨(smS_get (by omega)).trans (b5 j hj).1, (smS_get (by omega)).trans (b5 j hj).2⟩, fun j hj => (smS_get (by omega)).trans (b6 j hj)⟩
theorem SAME2.rf (M : smM) (s : Nat) : SAME2 M M s := SAME2.of s (fun _ _ _ => rfl)
theorem rel_slot {M1 M2 M1' M2' : smM} {p : Nat} {ne : NeZero p} {A B u v : Nat} {F G : Nat → Nat → Fin p} (hpar : PARAM p A B u v) (hs1 : SET M1 1 p A B u v F G) (hs2 : SET2 M2 p A B u v F G) (hca : CA M1 A B u v F G) (hsl : ∀ s, s < 4 → SLOT M1 M2 s p) (him : ∀ i, i < 2 → IMG M1 M2 i) {s : Nat} (e1 : ∀ r, r < 441 → (r < 13 + 20 * s ∨ 33 + 20 * s ≤ r) → M1' r = M1 r) (hs : s < 4) (e20 : ∀ k, k < 5 → M2' 1000 k = M2 1000 k) (e21 : M2' 1001 = M2 1001) (e23 : M2' 1013 = M2 1013) (e24 : M2' 1014 = M2 1014) (e25 : ∀ t, t < 4 → t ≠ s → SAME2 M2 M2' t) (hnew : SLOT M1' M2' s p) : Rel M1' M2' := by
  refine ⟨p, ne, A, B, u, v, F, G, hpar, hs1.fr (fun r h1 h2 => e1 r (by omega) (by omega)), hs2.fr e20 e21, hca.fr hpar.2.1.2 hpar.2.2.1.2 (fun r h1 h2 => e1 r (by omega) (by omega)), fun t ht => ?_, fun i hi => ?_⟩
  · by_cases c : t = s
    · rw [c]; exact hnew
    · exact (hsl t ht).fr (fun r h1 h2 => e1 r (by omega) (by omega)) (e25 t ht c)
  · exact (him i hi).fr (by rw [e1 11 (by omega) (by omega)]) (fun r h1 h2 => e1 r (by omega) (by omega)) (by rw [e24]) (fun k _ _ => by rw [e23])
theorem op_poly : Op_poly Rel := by
  intro M1 M2 h x
  have hr := h
  obtain ⟨p, ne, A, B, u, v, F, G, hpar, hs1, hs2, hca, hsl, him⟩ := h
  unfold m_X11_poly m_X12_poly
  rw [m_isSlot, m12_isSlot, Option.bind_some, Option.bind_some]
  by_cases c : (0 : Int32) ≤ x ∧ x ≤ 3
  · obtain ⟨s, s3, rfl⟩ := rngI (h := 3) (by omega) c.1 c.2
    obtain ⟨a1, a2, κ, a3, a4, a5⟩ := hsl s (by omega)
    have ck : ∀ {ρ : Type} (T : Option ρ), (if nI s < 0 ∨ 4 ≤ s then none else T) = T := fun T => if_ck2 (by omega) (by omega) T
    rw [b01_t c, cl_nI (n := s) (by omega)]
    simp only [if_1]
    unfold m_X5_empty
    simp only [Nat.zero_add, Nat.reduceAdd, g_12, g_1002, g_1003, smB, Option.bind_some, ck]
    rw [a3, a4]
    refine ⟨_, _, _, rfl, rfl, rel_slot hpar hs1 hs2 hca hsl him (s := s) (fun r h1 h2 => by rw [smS_o (by omega), smS_o (by omega)]) (by omega) (fun k hk => by rw [smS_o (by omega), smS_o (by omega)]) (by rw [smS_o (by omega), smS_o (by omega)]) (by rw [smS_o (by omega), smS_o (by omega)]) (by rw [smS_o (by omega), smS_o (by omega)]) (fun t ht hne => ((SAME2.rf M2 t).st (by omega) (by omega) (by omega) (by omega)).st (by omega) (by omega) (by omega) (by omega)) ⟨⟨0, by omega, ?_⟩, ?_, 1, smS_at, ?_, Or.inr (Or.inl ⟨rfl, 0, fun _ => 0, fun _ => 0, fun _ => 0, by omega, ⟨fun k hk => absurd hk (Nat.not_lt_zero k), fun k l _ hk => absurd hk (Nat.not_lt_zero l)⟩, ⟨?_, fun k hk => absurd hk (Nat.not_lt_zero k)⟩, ?_, fun k hk => absurd hk (Nat.not_lt_zero k)⟩)⟩⟩
    · rw [smS_o (by omega), smS_at]; rfl
    · rw [smS_o (by omega), smS_o (by omega)]; exact a2
    · rw [smS_o (by omega), smS_at]; rfl
    · rw [smS_o (by omega), smS_at]; rfl
    · rw [smS_at]; rfl
  · rw [b01_f c]; simp only [if_0]
    exact ⟨_, _, _, rfl, rfl, hr⟩
theorem op_drop : Op_drop Rel := by
  intro M1 M2 h x
  have hr := h
  obtain ⟨p, ne, A, B, u, v, F, G, hpar, hs1, hs2, hca, hsl, him⟩ := h
  unfold m_X11_drop m_X12_drop
  rw [m_isSlot, m12_isSlot, Option.bind_some, Option.bind_some]
  by_cases c : (0 : Int32) ≤ x ∧ x ≤ 3
  · obtain ⟨s, s3, rfl⟩ := rngI (h := 3) (by omega) c.1 c.2
    obtain ⟨a1, a2, κ, a3, a4, a5⟩ := hsl s (by omega)
    have ck : ∀ {ρ : Type} (T : Option ρ), (if nI s < 0 ∨ 4 ≤ s then none else T) = T := fun T => if_ck2 (by omega) (by omega) T
    rw [b01_t c, cl_nI (n := s) (by omega)]
    simp only [if_1]
    simp only [Nat.zero_add, Nat.reduceAdd, g_12, g_1002, g_1003, smB, ck]
    rw [a3, a4]
    refine ⟨_, _, _, rfl, rfl, rel_slot hpar hs1 hs2 hca hsl him (s := s) (fun r h1 h2 => by rw [smS_o (by omega)]) (by omega) (fun k hk => by rw [smS_o (by omega)]) (by rw [smS_o (by omega)]) (by rw [smS_o (by omega)]) (by rw [smS_o (by omega)]) (fun t ht hne => (SAME2.rf M2 t).st (by omega) (by omega) (by omega) (by omega)) ⟨?_, ?_, 0, smS_at, smS_at, Or.inl rfl⟩⟩
    · rw [smS_o (by omega)]; exact a1
    · rw [smS_o (by omega)]; exact a2
  · rw [b01_f c]; simp only [if_0]
    exact ⟨_, _, _, rfl, rfl, hr⟩
theorem op_size : Op_size Rel := by
  intro M1 M2 h x
  have hr := h
  obtain ⟨p, ne, A, B, u, v, F, G, hpar, hs1, hs2, hca, hsl, him⟩ := h
  unfold m_X11_size m_X12_size
  rw [m_isSlot, m12_isSlot, Option.bind_some, Option.bind_some]
  by_cases c : (0 : Int32) ≤ x ∧ x ≤ 3
  · obtain ⟨s, s3, rfl⟩ := rngI (h := 3) (by omega) c.1 c.2
    obtain ⟨a1, a2, κ, a3, a4, a5⟩ := hsl s (by omega)
    have ck : ∀ {ρ : Type} (T : Option ρ), (if nI s < 0 ∨ 4 ≤ s then none else T) = T := fun T => if_ck2 (by omega) (by omega) T
    rw [b01_t c, cl_nI (n := s) (by omega)]
    simp only [if_1]
    simp only [Nat.zero_add, Nat.reduceAdd, g_12, g_1002, g_1003, smB, ck]
    rw [a3, a4]
    rcases a5 with rfl | ⟨rfl, n, cc, xx, yy, c1, c2, c3, c4, c5⟩ | ⟨rfl, ne', o, u', v', nm, D, mx, my, tl, c1, c2, c3, c4, c5, c6⟩
    · simp only [if_pos n_00]
      exact ⟨_, rfl, rfl, hr⟩
    · simp only [if_neg n_10, if_neg n_12]
      rw [c3.1, c4]
      exact ⟨_, rfl, rfl, hr⟩
    · simp only [if_neg n_20, if_pos n_22]
      rw [c3.2.1, c4.1]
      exact ⟨_, rfl, rfl, hr⟩
  · rw [b01_f c]; simp only [if_0]
    exact ⟨_, rfl, rfl, hr⟩
/-! what a slot wants -/
theorem m_wants {M1 M2 : smM} {s κ w : Nat} (hs : s < 4) (a3 : M1 (13 + 20 * s) 0 = nI κ) (a4 : M2 1002 s = nI κ) (hκ : κ ≤ 2) (hw : w ≤ 2) (hw1 : 1 ≤ w) : m_X8_findWanting (13 + 20 * s) (nI w) M1 = some (if κ = w then 0 else if κ = 0 then -11 else -12) ∧ m_X12_lacks 1000 (nI s) (nI w) M2 = some (if κ = w then 0 else if κ = 0 then -11 else -12) := by
  have ck : ∀ {ρ : Type} (T : Option ρ), (if nI s < 0 ∨ 4 ≤ s then none else T) = T := fun T => if_ck2 (by omega) (by omega) T
  unfold m_X8_findWanting m_X12_lacks
  rw [cl_nI (n := s) (by omega)]
  simp only [Nat.reduceAdd, g_1002, ck]
  rw [a3, a4]
  by_cases c : κ = 0
  · subst c
    simp only [if_pos n_00]
    rw [if_neg (show ¬ 0 = w by omega)]
    exact ⟨rfl, rfl⟩
  · have e0 : ¬ nI κ = 0 := z_nI (by omega) (by omega)
    simp only [if_neg e0, if_neg c]
    by_cases d : κ = w
    · subst d
      simp only [if_true]
      exact ⟨trivial, trivial⟩
    · have e1 : ¬ nI κ = nI w := fun q => d ((nI_inj (by omega) (by omega)).mp q)
      simp only [if_neg e1, if_neg d]
      exact ⟨trivial, trivial⟩
theorem op_term : Op_term Rel := by
  intro M1 M2 h x k w
  have hr := h
  obtain ⟨p, ne, A, B, u, v, F, G, hpar, hs1, hs2, hca, hsl, him⟩ := h
  unfold m_X11_term m_X12_term
  rw [m_isSlot, m12_isSlot, Option.bind_some, Option.bind_some]
  by_cases c : (0 : Int32) ≤ x ∧ x ≤ 3
  · obtain ⟨s, s3, rfl⟩ := rngI (h := 3) (by omega) c.1 c.2
    obtain ⟨a1, a2, κ, a3, a4, a5⟩ := hsl s (by omega)
    have hκ : κ ≤ 2 := by rcases a5 with q | ⟨q, -⟩ | ⟨q, -⟩ <;> omega
    obtain ⟨w1, w2⟩ := m_wants (w := 1) (by omega) a3 a4 hκ (by omega) (by omega)
    have ck : ∀ {ρ : Type} (T : Option ρ), (if nI s < 0 ∨ 4 ≤ s then none else T) = T := fun T => if_ck2 (by omega) (by omega) T
    rw [b01_t c, cl_nI (n := s) (by omega)]
    simp only [if_1]
    by_cases hk0 : k < 0
    · simp only [if_pos hk0]; exact ⟨_, rfl, rfl, hr⟩
    · simp only [if_neg hk0]
      rw [m_isWithin, show (0 : Int64) = (0 : Int32).toInt64 from rfl, show (2 : Int64) = (2 : Int32).toInt64 from rfl, m12_in, Option.bind_some, Option.bind_some]
      by_cases cw : (0 : Int32) ≤ w ∧ w ≤ 2
      · rw [b01_t cw]
        simp only [if_1, Nat.zero_add, Nat.reduceAdd, g_12, g_1003, g_1004, g_1005, g_1006, ck]
        rw [show m_X8_findWanting (13 + 20 * s) 1 M1 = _ from w1, show m_X12_lacks 1000 (nI s) 1 M2 = _ from w2, Option.bind_some, Option.bind_some]
        obtain ⟨j, hj, rfl⟩ := nat_of (x := k) (by rw [Int32.lt_iff_toInt_lt] at hk0; rw [Int32.le_iff_toInt_le]; omega)
        rcases a5 with rfl | ⟨rfl, n, cc, xx, yy, c1, c2, c3, c4, c5⟩ | ⟨rfl, ne', o, u', v', nm, D, mx, my, tl, c1, c2, c3, c4, c5, c6⟩
        · exact ⟨_, rfl, rfl, hr⟩
        · obtain ⟨g1, g2, g3⟩ := g_pl s (by omega)
          simp only [if_true, if_pos (show (0 : Int32) ≤ 0 by decide)]
          rw [c3.1, c4]
          by_cases cj : j < n
          · obtain ⟨f1, f2, f3⟩ := c3.2 j cj
            obtain ⟨f4, f5, f6⟩ := c5 j cj
            have e8 : (8 : Int32) * nI s + nI j = nI (8 * s + j) := by
              rw [show (8 : Int32) = nI 8 from rfl, jI_nI, jI_nI, jI_nI, jI_nI, jI_mul, jI_add]; congr 1
            have cj' : nI j < nI n := (nI_lt_iff (by omega) (by omega)).mpr cj
            have ck1 : ∀ {ρ : Type} (T : Option ρ), (if nI j < 0 ∨ 8 ≤ j then none else T) = T := fun T => if_ck2 (by omega) (by omega) T
            have ck2 : ∀ {ρ : Type} (T : Option ρ), (if nI (8 * s + j) < 0 ∨ 32 ≤ 8 * s + j then none else T) = T := fun T => if_ck2 (by omega) (by omega) T
            rw [g1, g2, g3, e8, cl_nI (n := j) (by omega), cl_nI (n := 8 * s + j) (by omega)]
            simp only [if_pos cj', ck1, ck2]
            rw [f1, f2, f3, f4, f5, f6]
            by_cases w0 : w = 0
            · simp only [if_pos w0]; exact ⟨_, rfl, rfl, hr⟩
            · by_cases w1 : w = 1
              · simp only [if_neg w0, if_pos w1]; exact ⟨_, rfl, rfl, hr⟩
              · simp only [if_neg w0, if_neg w1]; exact ⟨_, rfl, rfl, hr⟩
          · have e : ¬ nI j < nI n := fun q => cj ((nI_lt_iff (by omega) (by omega)).mp q)
            simp only [if_neg e]
            exact ⟨_, rfl, rfl, hr⟩
        · exact ⟨_, rfl, rfl, hr⟩
      · rw [b01_f cw]; simp only [if_0]; exact ⟨_, rfl, rfl, hr⟩
  · rw [b01_f c]; simp only [if_0]
    exact ⟨_, rfl, rfl, hr⟩
theorem op_kept : Op_kept Rel := by
  intro M1 M2 h x w
  have hr := h
  obtain ⟨p, ne, A, B, u, v, F, G, hpar, hs1, hs2, hca, hsl, him⟩ := h
  unfold m_X11_kept m_X12_kept
  rw [m_isSlot, m12_isSlot, Option.bind_some, Option.bind_some]
  by_cases c : (0 : Int32) ≤ x ∧ x ≤ 3
  · obtain ⟨s, s3, rfl⟩ := rngI (h := 3) (by omega) c.1 c.2
    obtain ⟨a1, a2, κ, a3, a4, a5⟩ := hsl s (by omega)
    have hκ : κ ≤ 2 := by rcases a5 with q | ⟨q, -⟩ | ⟨q, -⟩ <;> omega
    obtain ⟨w1, w2⟩ := m_wants (w := 2) (by omega) a3 a4 hκ (by omega) (by omega)
    have ck : ∀ {ρ : Type} (T : Option ρ), (if nI s < 0 ∨ 4 ≤ s then none else T) = T := fun T => if_ck2 (by omega) (by omega) T
    rw [b01_t c, cl_nI (n := s) (by omega)]
    simp only [if_1]
    rw [m_isWithin, show (0 : Int64) = (0 : Int32).toInt64 from rfl, show (1 : Int64) = (1 : Int32).toInt64 from rfl, m12_in, Option.bind_some, Option.bind_some]
    by_cases cw : (0 : Int32) ≤ w ∧ w ≤ 1
    · rw [b01_t cw]
      simp only [if_1, Nat.zero_add, Nat.reduceAdd, g_12, g_1007, g_1008, g_1009, ck]
      rw [show m_X8_findWanting (13 + 20 * s) 2 M1 = _ from w1, show m_X12_lacks 1000 (nI s) 2 M2 = _ from w2, Option.bind_some, Option.bind_some]
      rcases a5 with rfl | ⟨rfl, n, cc, xx, yy, c1, c2, c3, c4, c5⟩ | ⟨rfl, ne', o, u', v', nm, D, mx, my, tl, c1, c2, c3, c4, c5, c6⟩
      · exact ⟨_, rfl, rfl, hr⟩
      · exact ⟨_, rfl, rfl, hr⟩
      · simp only [if_true, if_pos (show (0 : Int32) ≤ 0 by decide)]
        rw [c2.1, c2.2.1, c2.2.2, c4.2.1, c4.2.2.1, c4.2.2.2]
        by_cases w0 : w = 0
        · simp only [if_pos w0]; exact ⟨_, rfl, rfl, hr⟩
        · simp only [if_neg w0]; exact ⟨_, rfl, rfl, hr⟩
    · rw [b01_f cw]; simp only [if_0]; exact ⟨_, rfl, rfl, hr⟩
  · rw [b01_f c]; simp only [if_0]
    exact ⟨_, rfl, rfl, hr⟩
theorem op_weights : Op_weights Rel := by
  intro M1 M2 h x y
  have hr := h
  obtain ⟨p, ne, A, B, u, v, F, G, hpar, hs1, hs2, hca, hsl, him⟩ := h
  unfold m_X11_weights m_X12_weights
  rw [m_isWithin, show (1 : Int64) = (1 : Int32).toInt64 from rfl, show (9 : Int64) = (9 : Int32).toInt64 from rfl, m12_in, Option.bind_some, Option.bind_some]
  by_cases c : (1 : Int32) ≤ x ∧ x ≤ 9
  · rw [b01_t c]
    simp only [if_1]
    rw [m_isWithin, m12_in, Option.bind_some, Option.bind_some]
    by_cases d : (1 : Int32) ≤ y ∧ y ≤ 9
    · rw [b01_t d]
      unfold m_X2_forget
      simp only [if_1, Nat.zero_add, Nat.reduceAdd, smB, Option.bind_some]
      obtain ⟨x', hx9, rfl⟩ := rngI (h := 9) (x := x) (by omega) (by rw [Int32.le_iff_toInt_le] at *; have e : (1 : Int32).toInt = 1 := rfl; have e0 : (0 : Int32).toInt = 0 := rfl; rw [e] at c; rw [e0]; omega) c.2
      obtain ⟨y', hy9, rfl⟩ := rngI (h := 9) (x := y) (by omega) (by rw [Int32.le_iff_toInt_le] at *; have e : (1 : Int32).toInt = 1 := rfl; have e0 : (0 : Int32).toInt = 0 := rfl; rw [e] at d; rw [e0]; omega) d.2
      have hx1 : 1 ≤ x' := (nI_le_iff (a := 1) (by omega) (by omega)).mp c.1
      have hy1 : 1 ≤ y' := (nI_le_iff (a := 1) (by omega) (by omega)).mp d.1
      obtain ⟨q0, q1, q2, q3, q4, q5, q6⟩ := hs1
      obtain ⟨t0, t1, t2, t3, t4, t5, t6⟩ := hs2
      rw [q3, q4, t3, t4]
      refine ⟨_, _, _, rfl, rfl, p, ne, A, B, x', y', F, G, ⟨hpar.1, hpar.2.1, hpar.2.2.1, ⟨hx1, hx9⟩, ⟨hy1, hy9⟩⟩, ⟨?_, ?_, ?_, ?_, ?_, ?_, ?_⟩, ⟨?_, ?_, ?_, ?_, ?_, ?_, ?_⟩, CA.forget, fun s hs => (hsl s hs).fr (fun r h1 h2 => by rw [smS_o (by omega), smS_o (by omega), smS_o (by omega)]) (SAME2.of s (fun r h1 h2 => by rw [smS_o (by omega), smS_o (by omega)])), fun i hi => (him i hi).fr (by rw [smS_o (by omega), smS_o (by omega), smS_o (by omega)]) (fun r h1 h2 => by rw [smS_o (by omega), smS_o (by omega), smS_o (by omega)]) (by rw [smS_o (by omega), smS_o (by omega)]) (fun k _ _ => by rw [smS_o (by omega), smS_o (by omega)])⟩
      · rw [smS_o (by omega), smS_ne (by omega), smS_ne (by omega)]; exact q0
      · rw [smS_o (by omega), smS_ne (by omega), smS_ne (by omega)]; exact q1
      · rw [smS_o (by omega), smS_ne (by omega), smS_ne (by omega)]; exact q2
      · rw [smS_o (by omega), smS_ne (by omega), smS_at]
      · rw [smS_o (by omega), smS_at]
      · rw [smS_o (by omega), smS_o (by omega), smS_o (by omega)]; exact q5
      · rw [smS_o (by omega), smS_o (by omega), smS_o (by omega)]; exact q6
      · rw [smS_ne (by omega), smS_ne (by omega)]; exact t0
      · rw [smS_ne (by omega), smS_ne (by omega)]; exact t1
      · rw [smS_ne (by omega), smS_ne (by omega)]; exact t2
      · rw [smS_ne (by omega), smS_at]
      · rw [smS_at]
      · rw [smS_o (by omega), smS_o (by omega)]; exact t5
      · rw [smS_o (by omega), smS_o (by omega)]; exact t6
    · rw [b01_f d]; simp only [if_0]; exact ⟨_, _, _, rfl, rfl, hr⟩
  · rw [b01_f c]; simp only [if_0]; exact ⟨_, _, _, rfl, rfl, hr⟩
