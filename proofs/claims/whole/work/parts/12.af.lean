/-! the call count -/
theorem m_isPlain {M : smM} {D nm : Nat} {sx : Nat → Nat} (hD : D ≤ 9) (h16 : M 165 0 = nI D) (h2 : M 151 0 = nI nm) (hn : nm ≤ 10) (hx : ∀ k, k < D → M 187 k = nI (sx k)) (hb : ∀ k, k < D → sx k < 1000) : ((nm = 2 ∧ ∀ k, k < D → sx k = 0) → m_X2_isPlain 93 M = some 1) ∧ (¬ (nm = 2 ∧ ∀ k, k < D → sx k = 0) → m_X2_isPlain 93 M = some 0) := by
  obtain ⟨l1, l2, l3, -⟩ := g_le
  have l38 : smLn 187 = 9 := by decide +kernel
  unfold m_X2_isPlain
  refine lp_pst D (fun k s => s = nI k ∧ ∀ l, l < k → sx l = 0) (fun e => ((nm = 2 ∧ ∀ k, k < D → sx k = 0) → e = some 1) ∧ (¬ (nm = 2 ∧ ∀ k, k < D → sx k = 0) → e = some 0)) ⟨rfl, fun l hl => by omega⟩ (by omega) ?_
  rintro k s hk ⟨rfl, z⟩ rc
  unfold m_X2_isPlain_b2
  rw [c0_cl, show smLn (93 + 55) = 5 from l3, ck_0 (by omega), show M (93 + 55 + 1 + 58 * 0 + 16) 0 = nI D from h16]
  by_cases e : k = D
  · right
    subst e
    rw [if_pos (Int32.le_refl _), ck_0 (by omega), show M (93 + 55 + 1 + 58 * 0 + 2) 0 = nI nm from h2]
    by_cases q : nm = 2
    · rw [if_pos (show nI nm = (2 : Int32) by rw [q]; rfl)]
      exact ⟨fun _ => rfl, fun w => absurd ⟨q, z⟩ w⟩
    · rw [if_neg (show ¬ nI nm = (2 : Int32) from fun w => q ((nI_inj (b := 2) (by omega) (by omega)).mp w))]
      exact ⟨fun w => absurd w.1 q, fun _ => rfl⟩
  · have b := hb k (by omega)
    rw [if_neg (fun w => by rw [nI_le_iff (by omega) (by omega)] at w; omega), ck_0 (by omega), cl_nI (n := k) (by omega), show smLn (93 + 55 + 1 + 58 * 0 + 38) = 9 from l38, if_ck2 (by omega) (by omega), show M (93 + 55 + 1 + 58 * 0 + 38) k = _ from hx k (by omega), nI_add_1]
    by_cases q : sx k = 0
    · left
      rw [if_pos (show nI (sx k) = (0 : Int32) by rw [q]; rfl)]
      refine ⟨_, by omega, ⟨rfl, fun l hl => ?_⟩, rfl⟩
      by_cases w : l = k
      · rw [w]; exact q
      · exact z l (by omega)
    · right
      rw [if_neg (show ¬ nI (sx k) = (0 : Int32) from fun w => q ((nI_inj (b := 0) (by omega) (by omega)).mp w))]
      exact ⟨fun w => absurd (w.2 k (by omega)) q, fun _ => rfl⟩
theorem plain_iff {u v D : Nat} {sx sy : Nat → Nat} (hD : 1 ≤ D) (h : BRise (ky1 0 u v) (ky2 0) D sx sy) (hs : ∀ k, k < D → sx k + sy k ≤ k) : (∀ k, k < D → sx k = 0) ↔ (sx (D - 1) = 0 ∧ sy (D - 1) = D - 1) := by
  have ol : ∀ i j a b, olt (ky1 0 u v) (ky2 0) i j a b ↔ (i < a ∨ i = a ∧ j < b) := fun i j a b => by
    unfold olt ky1 ky2
    simp
  constructor
  · intro z
    refine ⟨z (D - 1) (by omega), ?_⟩
    have key : ∀ k, k < D → k ≤ sy k := by
      intro k
      induction k with
      | zero => exact fun _ => Nat.zero_le _
      | succ k ih =>
        intro hk
        have a := ih (by omega)
        have b := h k (k + 1) (by omega) hk
        rw [ol, z k (by omega), z (k + 1) hk] at b
        omega
    have a := key (D - 1) (by omega)
    have b := hs (D - 1) (by omega)
    omega
  · intro z k hk
    by_cases e : k = D - 1
    · rw [e]; exact z.1
    · have b := h k (D - 1) (by omega) (by omega)
      rw [ol] at b
      omega
theorem plain2 {M2 : smM} {p A B u v : Nat} [NeZero p] {F G : Nat → Nat → Fin p} {M1 : smM} (hpar : PARAM p A B u v) (hS : SET2 M2 p A B u v F G) (hC : CU M1 A B u v F G) : ∃ (M' : smM) (r : Int32), m_X2_isPlain 93 M1 = some r ∧ m_X12_isPlain 1000 M2 = some (r, M') ∧ (r = 0 ∨ r = 1) ∧ FRL M2 M' := by
  have h9 := AB9 hpar
  have hAB : 1 ≤ A * B := Nat.mul_le_mul hpar.2.1.1 hpar.2.2.1.1
  obtain ⟨hp, hp2⟩ := Pr_rng p hpar.1
  rcases hC.2.2.2.1 0 (by omega) with w | ⟨-, D, sx, sy, nm, mx, my, tl, hb⟩
  · rw [hC.2.2.1.1] at w; exact absurd w (by decide)
  · obtain ⟨M', D', sx', sy', nm', mx', my', tl', b1, b2, b3⟩ := m12_walks (o := 0) (u := u) (v := v) (M := M2) hpar.1 hpar.2.1.1 hpar.2.2.1.1 hpar.2.1.2 hpar.2.2.1.2 (by omega) hpar.2.2.2.1.1 hpar.2.2.2.1.2 hpar.2.2.2.2.1 hpar.2.2.2.2.2 hS
    obtain ⟨c1, c2, c3, c4, c5⟩ := both_of hp hb b2
    have hD := hb.2.2.1.1
    have sb : ∀ k, k < D → sx k + sy k ≤ k := fun k hk => (hb.2.2.2.1 k hk).2.2.1
    have cl := m_isPlain (M := M1) (D := D) (nm := nm) (sx := sx) (by omega) hb.2.2.1.2 hb.2.1.2.1 hb.2.1.1 (fun k hk => (hb.2.2.2.1 k hk).1) (fun k hk => by have := sb k hk; omega)
    have pi := plain_iff (by omega) hb.2.2.2.2.1.2.1 sb
    have hn10 := hb.2.1.1
    have e2 : m_X12_isPlain 1000 M2 = if nI nm = (2 : Int32) then (if nI (sx (D - 1)) = (0 : Int32) then (if nI (sy (D - 1)) = nI (D - 1) then (some ((1 : Int32), M')) else (some ((0 : Int32), M'))) else (some ((0 : Int32), M'))) else (some ((0 : Int32), M')) := by
      unfold m_X12_isPlain
      rw [hS.2.2.2.1, hS.2.2.2.2.1, show m_X12_walks 1000 0 (nI u) (nI v) M2 = some M' from b1, Option.bind_some, c2.2.1, c3, sub1 (by omega), cl_nI (n := D - 1) (by omega), g_22.1, g_22.2.1, if_ck2 (by omega) (by omega), if_ck2 (by omega) (by omega), show M' (1000 + 22) (D - 1) = _ from (c4 (D - 1) (by omega)).1, show M' (1000 + 23) (D - 1) = _ from (c4 (D - 1) (by omega)).2]
    have s1 := sb (D - 1) (by omega)
    by_cases q : nm = 2 ∧ ∀ k, k < D → sx k = 0
    · obtain ⟨q1, q2⟩ := pi.mp q.2
      rw [if_pos (show nI nm = (2 : Int32) by rw [q.1]; rfl), if_pos (show nI (sx (D - 1)) = (0 : Int32) by rw [q1]; rfl), if_pos (by rw [q2])] at e2
      exact ⟨M', 1, cl.1 q, e2, Or.inr rfl, b3.l⟩
    · refine ⟨M', 0, cl.2 q, ?_, Or.inl rfl, b3.l⟩
      rw [e2]
      by_cases q1 : nm = 2
      · rw [if_pos (show nI nm = (2 : Int32) by rw [q1]; rfl)]
        by_cases q2 : sx (D - 1) = 0
        · rw [if_pos (show nI (sx (D - 1)) = (0 : Int32) by rw [q2]; rfl), if_neg (fun w => q ⟨q1, pi.mpr ⟨q2, (nI_inj (by omega) (by omega)).mp w⟩⟩)]
        · rw [if_neg (show ¬ nI (sx (D - 1)) = (0 : Int32) from fun w => q2 ((nI_inj (b := 0) (by omega) (by omega)).mp w))]
      · rw [if_neg (show ¬ nI nm = (2 : Int32) from fun w => q1 ((nI_inj (b := 2) (by omega) (by omega)).mp w))]
theorem f0_eq {p h : Nat} [NeZero p] {c c' : Nat → Fin p} (e : ∀ k, k ≤ h → c k = c' k) : f0P h c = f0P h c' ∧ g0P h c = g0P h c' := by
  constructor
  · funext k
    unfold f0P
    by_cases q : k ≤ h
    · rw [if_pos q, if_pos q, e k q]
    · rw [if_neg q, if_neg q]
  · funext k
    unfold g0P
    by_cases q : k < h
    · rw [if_pos q, if_pos q, e (k + 1) (by omega)]
    · rw [if_neg q, if_neg q]
theorem m_rad {M : smM} {p A B u v : Nat} [NeZero p] {F G : Nat → Nat → Fin p} (hpar : PARAM p A B u v) (hC : CU M A B u v F G) : ∃ (M' : smM) (h0 h1 : Nat) (c0 c1 : Nat → Fin p), m_X2_isRadical 93 M = some ((if euf 10 h0 (f0P h0 c0) (g0P h0 c0) = 0 then (if euf 10 h1 (f0P h1 c1) (g0P h1 c1) = 0 then 1 else 0) else 0), M') ∧ LPZ (ZL A B F G 0) h0 c0 ∧ LPZ (ZL A B F G 1) h1 c1 ∧ CU M' A B u v F G ∧ ∀ r, (r < 93 ∨ 440 ≤ r) → M' r = M r := by
  obtain ⟨h0, c0, x1, x2, x3, x4, x5⟩ := (hC.lst (w := 0) (by omega)).lp
  obtain ⟨h1, c1, y1, y2, y3, y4, y5⟩ := (hC.lst (w := 1) (by omega)).lp
  obtain ⟨k1, -, -, k4, k5⟩ := g_ln 0 (by omega)
  obtain ⟨j1, -, -, j4, j5⟩ := g_ln 1 (by omega)
  obtain ⟨Ma, a1, a2⟩ := m_noTwice (q := 134) (M := M) hpar.1 k1 k4 k5 x1 x2 x3 x4
  obtain ⟨Mb, b1, b2⟩ := m_noTwice (q := 140) (M := Ma) hpar.1 j1 j4 j5 y1 (by rw [a2 140 (by omega) (by omega)]; exact y2) (by rw [a2 140 (by omega) (by omega)]; exact y3) (fun k hk => by rw [a2 (140 + 1) (by omega) (by omega)]; exact y4 k hk)
  have ca : CU Ma A B u v F G := hC.fr hpar.2.1.2 hpar.2.2.1.2 (fun r _ _ _ h4 h5 => a2 r (by omega) (by omega))
  have cb : CU Mb A B u v F G := ca.fr hpar.2.1.2 hpar.2.2.1.2 (fun r _ _ _ h4 h5 => b2 r (by omega) (by omega))
  have e0 : m_X2_isRadical 93 M = smB2 (m_X3_hasNoFactorTwice 134 M) fun v6 M6 => if v6 = (0 : Int32) then (some ((0 : Int32), M6)) else (smB2 (m_X3_hasNoFactorTwice 140 M6) fun v18 M18 => if v18 = (0 : Int32) then (some ((0 : Int32), M18)) else (some ((1 : Int32), M18))) := by
    unfold m_X2_isRadical
    simp only [c0_cl, c1_cl, Nat.reduceAdd, Nat.reduceMul, show smLn 133 = 2 from g_le.2.2.2.1, ck_0 (show 0 < 2 by decide), ck_1 (show 1 < 2 by decide)]
  rw [a1, smB2_e] at e0
  by_cases q : euf 10 h0 (f0P h0 c0) (g0P h0 c0) = 0
  · rw [if_pos q, if_1, b1, smB2_e] at e0
    refine ⟨Mb, h0, h1, c0, c1, ?_, x5, y5, cb, fun r hr => by rw [b2 r (by omega) (by omega), a2 r (by omega) (by omega)]⟩
    rw [if_pos q]
    by_cases q2 : euf 10 h1 (f0P h1 c1) (g0P h1 c1) = 0
    · rw [if_pos q2, if_1] at e0
      rw [if_pos q2]; exact e0
    · rw [if_neg q2, if_0] at e0
      rw [if_neg q2]; exact e0
  · rw [if_neg q, if_0] at e0
    refine ⟨Ma, h0, h1, c0, c1, ?_, x5, y5, ca, fun r hr => a2 r (by omega) (by omega)⟩
    rw [if_neg q]; exact e0
theorem op_count : Op_count Rel := by
  intro M1 M2 h x
  have hr := h
  obtain ⟨p, ne, A, B, u, v, F, G, hpar, hs1, hs2, hca, hsl, him⟩ := h
  obtain ⟨hp, hp2⟩ := Pr_rng p hpar.1
  have hks : ∀ s, s < 4 → M1 (13 + 20 * s) 0 = M2 1002 s := fun s hs => by
    obtain ⟨-, -, κ, a3, a4, -⟩ := hsl s hs
    rw [a3, a4]
  unfold m_X11_count m_X12_count
  by_cases c0 : x = 0
  · rw [if_pos c0, if_pos c0]
    exact ⟨nI p, M1, M2, by rw [show M1 (0 + 1) 0 = nI p from hs1.1], by rw [hs2.1], hr⟩
  rw [if_neg c0, if_neg c0]
  by_cases c1 : x = 1
  · rw [if_pos c1, if_pos c1]
    exact ⟨nI A, M1, M2, by rw [show M1 (0 + 1) 1 = nI A from hs1.2.1], by rw [hs2.2.1], hr⟩
  rw [if_neg c1, if_neg c1]
  by_cases c2 : x = 2
  · rw [if_pos c2, if_pos c2]
    exact ⟨nI B, M1, M2, by rw [show M1 (0 + 1) 2 = nI B from hs1.2.2.1], by rw [hs2.2.2.1], hr⟩
  rw [if_neg c2, if_neg c2]
  by_cases c3 : x = 3
  · rw [if_pos c3, if_pos c3]
    refine ⟨nI A * nI B, M1, M2, ?_, ?_, hr⟩
    · unfold m_X7_dimension
      rw [Option.bind_some, show M1 (0 + 1) 1 = nI A from hs1.2.1, show M1 (0 + 1) 2 = nI B from hs1.2.2.1]
    · unfold m_X12_dimension
      rw [Option.bind_some, hs2.2.1, hs2.2.2.1]
  rw [if_neg c3, if_neg c3]
  by_cases c4 : x = 4
  · rw [if_pos c4, if_pos c4]
    exact ⟨nI u, M1, M2, by rw [show M1 (0 + 1) 3 = nI u from hs1.2.2.2.1], by rw [hs2.2.2.2.1], hr⟩
  rw [if_neg c4, if_neg c4]
  by_cases c5 : x = 5
  · rw [if_pos c5, if_pos c5]
    exact ⟨nI v, M1, M2, by rw [show M1 (0 + 1) 4 = nI v from hs1.2.2.2.2.1], by rw [hs2.2.2.2.2.1], hr⟩
  rw [if_neg c5, if_neg c5]
  by_cases c6 : x = 6
  · rw [if_pos c6, if_pos c6]
    obtain ⟨Ma, a1, a2, a3⟩ := m_current hpar hs1 hca
    obtain ⟨M2', r, b1, b2, b3, b4⟩ := plain2 hpar hs2 a2
    have hrel := rel_l hpar hs1 hs2 hsl him (fun r hr => a3 r (by omega)) a2 b4
    rw [a1, smB2_e, b1, Option.bind_some, b2, smB2_e]
    rcases b3 with rfl | rfl
    · rw [(m_ans Ma).2, Option.bind_some, if_0]
      exact ⟨_, _, _, rfl, rfl, hrel⟩
    · rw [(m_ans Ma).1, Option.bind_some, if_1]
      exact ⟨_, _, _, rfl, rfl, hrel⟩
  rw [if_neg c6, if_neg c6]
  by_cases c7 : x = 7
  · rw [if_pos c7, if_pos c7]
    obtain ⟨Ma, a1, a2, a3⟩ := m_current hpar hs1 hca
    obtain ⟨Mb, h0, h1, d0, d1, b1, b2, b3, b4, b5⟩ := m_rad hpar a2
    obtain ⟨Mc, k0, e0, f1, f2, f3⟩ := m12_hasTwice (w := 0) hpar hs2 (by omega)
    obtain ⟨Md, k1, e1, g1, g2, g3⟩ := m12_hasTwice (w := 1) hpar (hs2.fl f3) (by omega)
    obtain ⟨en0, ec0⟩ := b2.eq hp f2
    obtain ⟨en1, ec1⟩ := b3.eq hp g2
    subst en0
    subst en1
    rw [← (f0_eq ec0).1, ← (f0_eq ec0).2] at f1
    rw [← (f0_eq ec1).1, ← (f0_eq ec1).2] at g1
    have rl1 := rel_l hpar hs1 hs2 hsl him (fun r hr => (b5 r (by omega)).trans (a3 r (by omega))) b4 f3
    have rl2 := rel_l hpar hs1 hs2 hsl him (fun r hr => (b5 r (by omega)).trans (a3 r (by omega))) b4 (f3.trans g3)
    rw [a1, smB2_e, b1, smB2_e, show m_X12_hasTwice 1000 0 M2 = _ from f1, smB2_e, show m_X12_hasTwice 1000 1 Mc = _ from g1, smB2_e]
    by_cases q : euf 10 h0 (f0P h0 d0) (g0P h0 d0) = 0
    · rw [if_pos q, if_pos q, if_0]
      by_cases q2 : euf 10 h1 (f0P h1 d1) (g0P h1 d1) = 0
      · rw [if_pos q2, if_pos q2, (m_ans Mb).1, Option.bind_some, if_0]
        exact ⟨_, _, _, rfl, rfl, rl2⟩
      · rw [if_neg q2, if_neg q2, (m_ans Mb).2, Option.bind_some, if_1]
        exact ⟨_, _, _, rfl, rfl, rl2⟩
    · rw [if_neg q, if_neg q, (m_ans Mb).2, Option.bind_some, if_1]
      exact ⟨_, _, _, rfl, rfl, rl1⟩
  rw [if_neg c7, if_neg c7]
  by_cases c8 : x = 8
  · rw [if_pos c8, if_pos c8]
    obtain ⟨Ma, a1, a2, a3⟩ := m_current hpar hs1 hca
    obtain ⟨Mb, n, rx, ry, b1, b2, b3, b4, b5, b6⟩ := m_countRoots hpar (hs1.fr (fun r _ _ => a3 r (by omega))) a2
    obtain ⟨Mc, n', rx', ry', d1, d2, d3, d4⟩ := m12_findsRoots hpar hs2
    obtain ⟨en, -⟩ := b4.eq d4
    subst en
    have hrel := rel_l hpar hs1 hs2 hsl him (fun r hr => (b6 r (by omega) (by omega) (by omega)).trans (a3 r (by omega))) b2 d2.fl
    rw [a1, smB2_e, show m_X2_countRoots 93 (0 + 1) Ma = _ from b1, smB2_e, d1, Option.bind_some, d2.1]
    exact ⟨_, _, _, rfl, rfl, hrel⟩
  rw [if_neg c8, if_neg c8]
  by_cases c9 : x = 9
  · rw [if_pos c9, if_pos c9, (m_countSlots (w := 1) hks).1, (m_countSlots (w := 1) hks).2, Option.bind_some, Option.bind_some]
    exact ⟨_, _, _, rfl, rfl, hr⟩
  rw [if_neg c9, if_neg c9]
  by_cases c10 : x = 10
  · rw [if_pos c10, if_pos c10, (m_countSlots (w := 2) hks).1, (m_countSlots (w := 2) hks).2, Option.bind_some, Option.bind_some]
    exact ⟨_, _, _, rfl, rfl, hr⟩
  rw [if_neg c10, if_neg c10]
  exact ⟨_, _, _, rfl, rfl, hr⟩
