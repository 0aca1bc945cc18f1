/-! the call leads -/
theorem rel_fr {M1 M2 M1' M2' : smM} (h : Rel M1 M2) (e1 : ∀ r, r < 441 → M1' r = M1 r) (e2 : ∀ k, k < 5 → M2' 1000 k = M2 1000 k) (e3 : ∀ r, 1001 ≤ r → r ≤ 1014 → M2' r = M2 r) : Rel M1' M2' := by
  obtain ⟨p, ne, A, B, u, v, F, G, hpar, hs1, hs2, hca, hsl, him⟩ := h
  refine ⟨p, ne, A, B, u, v, F, G, hpar, hs1.fr (fun r h1 h2 => e1 r (by omega)), hs2.fr e2 (e3 _ (by omega) (by omega)), hca.fr hpar.2.1.2 hpar.2.2.1.2 (fun r h1 h2 => e1 r (by omega)), fun s hs => (hsl s hs).fr (fun r h1 h2 => e1 r (by omega)) (SAME2.of s (fun r h1 h2 => e3 r (by omega) (by omega))), fun i hi => (him i hi).fr (by rw [e1 _ (by omega)]) (fun r h1 h2 => e1 r (by omega)) (by rw [e3 _ (by omega) (by omega)]) (fun k _ _ => by rw [e3 _ (by omega) (by omega)])⟩
theorem op_leads : Op_leads Rel := by
  intro M1 M2 h x y
  have hr := h
  obtain ⟨p, ne, A, B, u, v, F, G, hpar, hs1, hs2, hca, hsl, him⟩ := h
  obtain ⟨-, -, -, ⟨hu1, hu9⟩, hv1, hv9⟩ := hpar
  by_cases c : (0 : Int32) ≤ x ∧ x ≤ 3
  · obtain ⟨s, s3, rfl⟩ := rngI (h := 3) (by omega) c.1 c.2
    obtain ⟨a1, a2, κ, a3, a4, a5⟩ := hsl s (by omega)
    have hκ : κ ≤ 2 := by rcases a5 with q | ⟨q, -⟩ | ⟨q, -⟩ <;> omega
    obtain ⟨w1, w2⟩ := m_wants (w := 1) (by omega) a3 a4 hκ (by omega) (by omega)
    have ck4 : ∀ {ρ : Type} (T : Option ρ), (if nI s < 0 ∨ 4 ≤ s then none else T) = T := fun T => if_ck2 (by omega) (by omega) T
    by_cases d : (0 : Int32) ≤ y ∧ y ≤ 4
    · obtain ⟨o, ho, rfl⟩ := rngI (h := 4) (by omega) d.1 d.2
      generalize hA : smS (smS (smS M1 499 0 (nI o)) 499 1 (nI u)) 499 2 (nI v) = M1a
      generalize hB : smS (smS (smS M2 1000 26 (nI o)) 1000 27 (nI u)) 1000 28 (nI v) = M2a
      have fA : ∀ r, r ≠ 499 → M1a r = M1 r := fun r q => by rw [← hA, smS_o q, smS_o q, smS_o q]
      have fB : ∀ r, r ≠ 1000 → M2a r = M2 r := fun r q => by rw [← hB, smS_o q, smS_o q, smS_o q]
      have fB0 : ∀ k, k < 5 → M2a 1000 k = M2 1000 k := fun k q => by rw [← hB, smS_ne (by omega), smS_ne (by omega), smS_ne (by omega)]
      have hrel : Rel M1a M2a := rel_fr hr (fun r q => fA r (by omega)) fB0 (fun r q _ => fB r (by omega))
      have hrel2 : Rel M1 M2a := rel_fr hr (fun r q => rfl) fB0 (fun r q _ => fB r (by omega))
      have e1 : m_X11_leads 0 (nI s) (nI o) M1 = Option.bind (m_X8_findWanting (13 + 20 * s) 1 M1) fun v23 => if v23 = 0 then (if M1 (13 + 20 * s + 1) 0 = 0 then some (-4, M1) else Option.bind (m_X5_canCompare (13 + 20 * s + 1) 499 M1a) fun v83 => if v83 = 0 then some (-13, M1a) else Option.bind (m_X5_greatestIn (13 + 20 * s + 1) 499 M1a) fun v95 => some (v95, M1a)) else some (v23, M1) := by
        unfold m_X11_leads m_X10_become
        rw [m_isSlot, Option.bind_some, b01_t c, if_1, m_isOrder, Option.bind_some, b01_t d, if_1, cl_nI (n := s) (by omega), show smLn (0 + 12) = 4 from g_12, ck4]
        simp only [ck4, Nat.zero_add, Nat.reduceAdd, smB, Option.bind_some]
        rw [hs1.2.2.2.1, hs1.2.2.2.2.1, hA]
      have e2 : m_X12_leads 1000 (nI s) (nI o) M2 = Option.bind (m_X12_lacks 1000 (nI s) 1 M2) fun v20 => if (0 : Int32) ≤ v20 then smLp (fun rc q => m_X12_leads_b58 1000 (nI s) (nI o) M2a rc q.1 q.2) smF ((-4 : Int32), (0 : Int32)) else some (v20, M2) := by
        unfold m_X12_leads
        rw [m12_isSlot, Option.bind_some, b01_t c, if_1, m12_isOrder, Option.bind_some, b01_t d, if_1]
        rw [show m_X12_lacks 1000 (nI s) 1 M2 = _ from w2, Option.bind_some, Option.bind_some, smB_e, smB_e, smB_e, smS_ne (show 3 ≠ 26 by omega), smS_ne (show 4 ≠ 27 by omega), smS_ne (show 4 ≠ 26 by omega), hs2.2.2.2.1, hs2.2.2.2.2.1, hB]
      rw [show m_X8_findWanting (13 + 20 * s) 1 M1 = _ from w1, Option.bind_some] at e1
      rw [show m_X12_lacks 1000 (nI s) 1 M2 = _ from w2, Option.bind_some] at e2
      rcases a5 with rfl | ⟨rfl, n, cc, xx, yy, c1, c2, c3, c4, c5⟩ | ⟨rfl, c6⟩
      · rw [if_neg (by decide), if_pos rfl, if_neg (by decide)] at e1
        rw [if_neg (by decide), if_pos rfl, if_neg (by decide)] at e2
        exact ⟨_, _, _, e1, e2, hr⟩
      · obtain ⟨p1, p2, p3⟩ := g_pl s (by omega)
        have hb : ∀ k, k < n → xx k < 2147483648 ∧ yy k < 2147483648 := fun k hk => ⟨(c2.1 k hk).2.2.1, (c2.1 k hk).2.2.2⟩
        rw [if_pos rfl, if_0, c3.1] at e1
        rw [if_pos rfl, if_pos (by decide)] at e2
        have hl := m12_leadl (M := M2a) (s := s) (n := n) (o := o) (u := u) (v := v) (c := cc) (x := xx) (y := yy) (by omega) c1 (by rw [fB _ (by omega)]; exact c4) (fun k hk => by rw [fB _ (by omega), fB _ (by omega), fB _ (by omega)]; exact c5 k hk) hb ho hu9 hv9 (by rw [fB0 3 (by omega)]; exact hs2.2.2.2.1) (by rw [fB0 4 (by omega)]; exact hs2.2.2.2.2.1) (by rw [← hB, smS_ne (by omega), smS_ne (by omega), smS_at]) (by rw [← hB, smS_ne (by omega), smS_at]) (by rw [← hB, smS_at])
        have hPO : PO M1a (13 + 20 * s + 1) n cc xx yy := by
          unfold PO
          rw [fA _ (by omega), fA _ (by omega), fA _ (by omega), fA _ (by omega)]; exact c3
        have q0 : M1a 499 0 = nI o := by rw [← hA, smS_ne (by omega), smS_ne (by omega), smS_at]
        have q1 : M1a 499 1 = nI u := by rw [← hA, smS_ne (by omega), smS_at]
        have q2 : M1a 499 2 = nI v := by rw [← hA, smS_at]
        have hcmp := m_canCompare (a := 499) p2 p3 (by omega) (by omega) hPO hb ho hu9 hv9 q0 q1 q2
        by_cases n0 : n = 0
        · subst n0
          rw [if_pos n_00] at e1
          rw [(hl.1 (fun k hk => absurd hk (Nat.not_lt_zero k))).1 rfl] at e2
          exact ⟨_, _, _, e1, e2, hrel2⟩
        · rw [if_neg (z_nI (by omega) (by omega))] at e1
          by_cases ok : ∀ k, k < n → wt o u v (xx k) (yy k) < 2147483648
          · obtain ⟨g, f1, f2⟩ := (hl.1 (fun k hk => (ky1_wt ho (hb k hk).1 (hb k hk).2).mpr (ok k hk))).2 (by omega)
            obtain ⟨g', f3, f4⟩ := m_greatestIn (a := 499) p2 p3 (by omega) (by omega) (by omega) hPO hb ho hu9 hv9 hv1 q0 q1 q2
            rw [hcmp.1 ok, Option.bind_some, if_1, f3, Option.bind_some, ← MXI.one (ky_ok ho hu1 hv1) c2.2 f2 f4] at e1
            rw [f1] at e2
            exact ⟨_, _, _, e1, e2, hrel⟩
          · rw [hcmp.2 ok, Option.bind_some, if_0] at e1
            rw [hl.2 (fun q => ok (fun k hk => (ky1_wt ho (hb k hk).1 (hb k hk).2).mp (q k hk)))] at e2
            exact ⟨_, _, _, e1, e2, hrel⟩
      · rw [if_neg (by decide), if_neg (by decide), if_neg (by decide)] at e1
        rw [if_neg (by decide), if_neg (by decide), if_neg (by decide)] at e2
        exact ⟨_, _, _, e1, e2, hr⟩
    · have e1 : m_X11_leads 0 (nI s) y M1 = some (-1, M1) := by
        unfold m_X11_leads
        rw [m_isSlot, Option.bind_some, b01_t c, if_1, m_isOrder, Option.bind_some, b01_f d, if_0]
      have e2 : m_X12_leads 1000 (nI s) y M2 = some (-1, M2) := by
        unfold m_X12_leads
        rw [m12_isSlot, Option.bind_some, b01_t c, if_1, m12_isOrder, Option.bind_some, b01_f d, if_0]
      exact ⟨_, _, _, e1, e2, hr⟩
  · have e1 : m_X11_leads 0 x y M1 = some (-1, M1) := by
      unfold m_X11_leads
      rw [m_isSlot, Option.bind_some, b01_f c, if_0]
    have e2 : m_X12_leads 1000 x y M2 = some (-1, M2) := by
      unfold m_X12_leads
      rw [m12_isSlot, Option.bind_some, b01_f c, if_0]
    exact ⟨_, _, _, e1, e2, hr⟩
