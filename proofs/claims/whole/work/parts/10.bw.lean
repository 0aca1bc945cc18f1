/-! the call add -/
theorem g_500 : smLn (500 + 1) = 16 ∧ smLn (500 + 2) = 16 ∧ smLn (500 + 3) = 16 := by decide +kernel
theorem settle_add {M1 M2 M1b M2b : smM} {s p n1 n2 : Nat} {f : Nat → Nat → Nat} {c1 x1 y1 c2 x2 y2 : Nat → Nat} (hr : Rel M1 M2) (hpp : ∀ (p' : Nat) (_ : NeZero p') (A B u v : Nat) (F G : Nat → Nat → Fin p'), SET M1 1 p' A B u v F G → p' ≤ 97 → p' = p) (hs : s < 4) (hk : M1 (13 + 20 * s) 0 = nI 1) (hk2 : M2 1002 s = nI 1) (f1 : ∀ r, (r < 500 ∨ 504 ≤ r) → M1b r = M1 r) (f2 : FR2 M2 M2b) (h1 : PO M1b 500 n1 c1 x1 y1) (r1 : REP f n1 c1 x1 y1) (q1 : PF p n1 c1 x1 y1) (b1 : n1 ≤ 16) (h2 : PO2 M2b n2 c2 x2 y2) (r2 : REP f n2 c2 x2 y2) (q2 : ∀ k, k < n2 → c2 k < p ∧ x2 k < 2147483648 ∧ y2 k < 2147483648) (hp97 : p ≤ 97) (b2 : n2 ≤ 40) : ∃ (r : Int32) (M1' M2' : smM), m_X11_settle 0 (nI s) M1b = some (r, M1') ∧ m_X12_gives 1000 (nI s) M2b = some (r, M2') ∧ Rel M1' M2' := by
  obtain ⟨z1, z2⟩ := r2.nz (fun k hk => by have := (q2 k hk).1; omega)
  obtain ⟨en, ee⟩ := r1.one z1 (fun k hk => by have := (q1.1 k hk).1; omega) z2
  have hg := m12_gives (s := s) hs b2 h2
  have ck4 : ∀ {ρ : Type} (T : Option ρ), (if nI s < 0 ∨ 4 ≤ s then none else T) = T := fun T => if_ck2 (by omega) (by omega) T
  have hrel : Rel M1b M2b := rel_fr hr (fun r q => f1 r (by omega)) (fun k q => f2.1 k (by omega)) (fun r q1 q2 => f2.2 r (by omega) (by omega) (by omega) (by omega))
  by_cases c8 : n1 ≤ 8
  · obtain ⟨M2', e2, d1, d2, d3, d4, d5⟩ := hg.1 (by omega)
    obtain ⟨l1, l2, l3⟩ := g_500
    obtain ⟨p1, p2, p3⟩ := g_pl s hs
    obtain ⟨M1', e1, k1, k2⟩ := m_polCopy (t := 13 + 20 * s + 1) (q := 500) l1 l2 l3 p1 p2 p3 b1 c8 (by omega) (by omega) (by omega) h1
    have e : m_X11_settle 0 (nI s) M1b = some (nI n1, M1') := by
      unfold m_X11_settle
      rw [show M1b (0 + 500) 0 = nI n1 from h1.1, if_pos (show nI n1 ≤ 8 from (nI_le_iff (b := 8) (by omega) (by omega)).mpr c8), cl_nI (n := s) (by omega), show smLn (0 + 12) = 4 from g_12, ck4, show 0 + 12 + 1 + 20 * s + 1 = 13 + 20 * s + 1 by omega, show m_X5_copyFrom (13 + 20 * s + 1) (0 + 500) M1b = some M1' from e1, Option.bind_some, k2 (0 + 500) (by omega), show M1b (0 + 500) 0 = nI n1 from h1.1]
    rw [← en] at e2 d1 d2
    obtain ⟨p', ne, A, B, u, v, F, G, hpar, hs1, hs2, hca, hsl, him⟩ := hrel
    have hpe : p' = p := hpp p' ne A B u v F G (hs1.fr (fun r h1 h2 => (f1 r (by omega)).symm)) (Pr_rng p' hpar.1).2
    subst hpe
    obtain ⟨a1, a2, -⟩ := hsl s hs
    refine ⟨_, _, _, e, e2, rel_slot hpar hs1 hs2 hca hsl him (s := s) (fun r q1 q2 => k2 r (by omega)) hs (fun k _ => by rw [d3 1000 (by omega)]) (d3 _ (by omega)) (d3 _ (by omega)) (d3 _ (by omega)) (fun t ht hne => ?_) ⟨⟨n1, c8, k1.1⟩, ?_, 1, ?_, ?_, Or.inr (Or.inl ⟨rfl, n1, c1, x1, y1, c8, q1, k1, d1, fun k hk => ?_⟩)⟩⟩
    · refine ⟨by rw [d3 1002 (by omega)], d4 t hne, fun k hk => d5 (8 * t + k) (by omega), ?_, fun k hk => ?_, fun k hk => ?_⟩
      · rw [d3 1007 (by omega), d3 1008 (by omega), d3 1009 (by omega)]; exact ⟨rfl, rfl, rfl⟩
      · rw [d3 1010 (by omega), d3 1011 (by omega)]; exact ⟨rfl, rfl⟩
      · rw [d3 1012 (by omega)]
    · rw [k2 _ (by omega)]; exact a2
    · rw [k2 _ (by omega), f1 _ (by omega)]; exact hk
    · rw [d3 1002 (by omega), f2.2 1002 (by omega) (by omega) (by omega) (by omega)]; exact hk2
    · obtain ⟨w1, w2, w3⟩ := d2 k hk
      obtain ⟨v1, v2, v3⟩ := ee k hk
      exact ⟨w1.trans (by rw [v1]), w2.trans (by rw [v2]), w3.trans (by rw [v3])⟩
  · have e2 := hg.2 (by omega)
    have e : m_X11_settle 0 (nI s) M1b = some (-3, M1b) := by
      unfold m_X11_settle
      rw [show M1b (0 + 500) 0 = nI n1 from h1.1, if_neg (fun w => by rw [show (8 : Int32) = nI 8 from rfl, nI_le_iff (by omega) (by omega)] at w; omega)]
    exact ⟨_, _, _, e, e2, hrel⟩
