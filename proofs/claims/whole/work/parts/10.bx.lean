/-! the call add, whole -/
theorem op_add : Op_add Rel := by
  intro M1 M2 h x cc i j
  have hr := h
  obtain ⟨p, ne, A, B, u, v, F, G, hpar, hs1, hs2, hca, hsl, him⟩ := h
  have hp := (Pr_rng p hpar.1).1
  have hp2 := (Pr_rng p hpar.1).2
  have ep : nI p - 1 = nI (p - 1) := by
    rw [show (1 : Int32) = nI 1 from rfl, jI_nI, jI_nI, jI_nI, jI_sub]; congr 1; omega
  by_cases c : (0 : Int32) ≤ x ∧ x ≤ 3
  · obtain ⟨s, s3, rfl⟩ := rngI (h := 3) (by omega) c.1 c.2
    have ck4 : ∀ {ρ : Type} (T : Option ρ), (if nI s < 0 ∨ 4 ≤ s then none else T) = T := fun T => if_ck2 (by omega) (by omega) T
    by_cases d : (0 : Int32) ≤ cc ∧ cc ≤ nI (p - 1)
    · obtain ⟨c0, hc0, rfl⟩ := rngI (h := p - 1) (by omega) d.1 d.2
      by_cases ci : i < 0
      · have e1 : m_X11_add 0 (nI s) (nI c0) i j M1 = some (-1, M1) := by
          unfold m_X11_add m_X11_isNumber
          rw [m_isSlot, Option.bind_some, b01_t c, if_1, show M1 (0 + 1) 0 = nI p from hs1.1, ep, m_isWithin, Option.bind_some, Option.bind_some, smZ_b01, b01_t d, if_1, if_pos ci]
        have e2 : m_X12_add 1000 (nI s) (nI c0) i j M2 = some (-1, M2) := by
          unfold m_X12_add
          rw [m12_isSlot, Option.bind_some, b01_t c, if_1, hs2.1, ep, show (0 : Int64) = (0 : Int32).toInt64 from rfl, m12_in, Option.bind_some, b01_t d, if_1, if_pos ci]
        exact ⟨_, _, _, e1, e2, hr⟩
      · by_cases cj : (0 : Int32) ≤ j
        · obtain ⟨i', hi', rfl⟩ := nat_of (x := i) (by rw [Int32.lt_iff_toInt_lt] at ci; rw [Int32.le_iff_toInt_le]; omega)
          obtain ⟨j', hj', rfl⟩ := nat_of (x := j) cj
          obtain ⟨a1, a2, κ, a3, a4, a5⟩ := hsl s (by omega)
          have hκ : κ ≤ 2 := by rcases a5 with q | ⟨q, -⟩ | ⟨q, -⟩ <;> omega
          obtain ⟨w1, w2⟩ := m_wants (w := 1) (by omega) a3 a4 hκ (by omega) (by omega)
          have e1 : m_X11_add 0 (nI s) (nI c0) (nI i') (nI j') M1 = Option.bind (m_X8_findWanting (13 + 20 * s) 1 M1) fun v33 => if v33 = 0 then (Option.bind (m_X5_copyFrom 500 (13 + 20 * s + 1) M1) fun M59 => Option.bind (m_X5_bring 500 (nI c0) (nI i') (nI j') (M59 1 0) M59) fun M77 => smB2 (m_X11_settle 0 (nI s) M77) fun v82 M82 => some (v82, M82)) else some (v33, M1) := by
            unfold m_X11_add m_X11_isNumber
            rw [m_isSlot, Option.bind_some, b01_t c, if_1, show M1 (0 + 1) 0 = nI p from hs1.1, ep, m_isWithin, Option.bind_some, Option.bind_some, smZ_b01, b01_t d, if_1, if_neg ci, if_pos cj, cl_nI (n := s) (by omega), show smLn (0 + 12) = 4 from g_12, ck4]
            simp only [ck4, Nat.zero_add, Nat.reduceAdd]
          have e2 : m_X12_add 1000 (nI s) (nI c0) (nI i') (nI j') M2 = Option.bind (m_X12_lacks 1000 (nI s) 1 M2) fun v37 => if (0 : Int32) ≤ v37 then (Option.bind (m_X12_takes 1000 (nI s) M2) fun M52 => Option.bind (m_X12_comes 1000 (nI c0) (nI i') (nI j') M52) fun M60 => smB2 (m_X12_gives 1000 (nI s) M60) fun v65 M65 => some (v65, M65)) else some (v37, M2) := by
            unfold m_X12_add
            rw [m12_isSlot, Option.bind_some, b01_t c, if_1, hs2.1, ep, show (0 : Int64) = (0 : Int32).toInt64 from rfl, m12_in, Option.bind_some, b01_t d, if_1, if_neg ci, if_pos cj]
          rw [show m_X8_findWanting (13 + 20 * s) 1 M1 = _ from w1, Option.bind_some] at e1
          rw [show m_X12_lacks 1000 (nI s) 1 M2 = _ from w2, Option.bind_some] at e2
          rcases a5 with rfl | ⟨rfl, n, cl, xl, yl, c1, c2, c3, c4, c5⟩ | ⟨rfl, c6⟩
          · rw [if_neg (by decide), if_pos rfl, if_neg (by decide)] at e1
            rw [if_neg (by decide), if_pos rfl, if_neg (by decide)] at e2
            exact ⟨_, _, _, e1, e2, hr⟩
          · obtain ⟨l1, l2, l3⟩ := g_500
            obtain ⟨p1, p2, p3⟩ := g_pl s (by omega)
            obtain ⟨Ma, f1, f2, f3⟩ := m_polCopy (t := 500) (q := 13 + 20 * s + 1) p1 p2 p3 l1 l2 l3 c1 (by omega) (by omega) (by omega) (by omega) c3
            obtain ⟨Mb, n1, k1, x1, y1, g1, g2, g3, g4, g5, g6⟩ := m_bring (c0 := c0) (i := i') (j := j') l1 l2 l3 (show n < 16 by omega) (by omega) hp hp2 f2 (REP.fl c2 n (Nat.le_refl n)) c2 (by omega) hi' hj'
            obtain ⟨Mt, n2, k2, x2, y2, t1, t2, t3, t4, t5, t6⟩ := m12_takes (s := s) (by omega) c1 hp hp2 hs2.1 c2 c4 c5
            obtain ⟨Mu, n3, k3, x3, y3, u1, u2, u3, u4, u5, u6⟩ := m12_comes (c0 := c0) (i := i') (j := j') (show n2 < 40 by omega) hp hp2 (by rw [t6.1 0 (by omega)]; exact hs2.1) t2 t3 t4 (by omega) hi' hj'
            obtain ⟨r, M1', M2', z1, z2, z3⟩ := settle_add (p := p) (M1b := Mb) (M2b := Mu) hr (fun p' ne' A' B' u' v' F' G' h' hq => (nI_inj (by omega) (by omega)).mp (h'.1.symm.trans hs1.1)) (by omega) a3 a4 (fun r q => by rw [g6 r (by omega), f3 r (by omega)]) ⟨fun k q => (u6.1 k q).trans (t6.1 k q), fun r q1 q2 q3 q4 => (u6.2 r q1 q2 q3 q4).trans (t6.2 r q1 q2 q3 q4)⟩ g2 g3 g4 (by omega) u2 u3 u4 hp2 (by omega)
            rw [if_pos rfl, if_0, f1, Option.bind_some, f3 1 (by omega), hs1.1, g1, Option.bind_some, z1, smB2_e] at e1
            rw [if_pos rfl, if_pos (by decide), t1, Option.bind_some, u1, Option.bind_some, z2, smB2_e] at e2
            exact ⟨_, _, _, e1, e2, z3⟩
          · rw [if_neg (by decide), if_neg (by decide), if_neg (by decide)] at e1
            rw [if_neg (by decide), if_neg (by decide), if_neg (by decide)] at e2
            exact ⟨_, _, _, e1, e2, hr⟩
        · have e1 : m_X11_add 0 (nI s) (nI c0) i j M1 = some (-1, M1) := by
            unfold m_X11_add m_X11_isNumber
            rw [m_isSlot, Option.bind_some, b01_t c, if_1, show M1 (0 + 1) 0 = nI p from hs1.1, ep, m_isWithin, Option.bind_some, Option.bind_some, smZ_b01, b01_t d, if_1, if_neg ci, if_neg cj]
          have e2 : m_X12_add 1000 (nI s) (nI c0) i j M2 = some (-1, M2) := by
            unfold m_X12_add
            rw [m12_isSlot, Option.bind_some, b01_t c, if_1, hs2.1, ep, show (0 : Int64) = (0 : Int32).toInt64 from rfl, m12_in, Option.bind_some, b01_t d, if_1, if_neg ci, if_neg cj]
          exact ⟨_, _, _, e1, e2, hr⟩
    · have e1 : m_X11_add 0 (nI s) cc i j M1 = some (-1, M1) := by
        unfold m_X11_add m_X11_isNumber
        rw [m_isSlot, Option.bind_some, b01_t c, if_1, show M1 (0 + 1) 0 = nI p from hs1.1, ep, m_isWithin, Option.bind_some, Option.bind_some, smZ_b01, b01_f d, if_0]
      have e2 : m_X12_add 1000 (nI s) cc i j M2 = some (-1, M2) := by
        unfold m_X12_add
        rw [m12_isSlot, Option.bind_some, b01_t c, if_1, hs2.1, ep, show (0 : Int64) = (0 : Int32).toInt64 from rfl, m12_in, Option.bind_some, b01_f d, if_0]
      exact ⟨_, _, _, e1, e2, hr⟩
  · have e1 : m_X11_add 0 x cc i j M1 = some (-1, M1) := by
      unfold m_X11_add
      rw [m_isSlot, Option.bind_some, b01_f c, if_0]
    have e2 : m_X12_add 1000 x cc i j M2 = some (-1, M2) := by
      unfold m_X12_add
      rw [m12_isSlot, Option.bind_some, b01_f c, if_0]
    exact ⟨_, _, _, e1, e2, hr⟩
