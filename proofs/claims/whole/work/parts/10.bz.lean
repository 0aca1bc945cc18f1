/-! the call plus -/
theorem n_11 : nI 1 = (1 : Int32) := rfl
theorem n_21 : ¬ nI 2 = (1 : Int32) := by decide
theorem m12_plusl {s t n n0 p d : Nat} {g : Nat → Nat → Nat} {c0 x0 y0 c x y : Nat → Nat} {M : smM} (ht : t < 4) (hn : n ≤ 8) (hn0 : n0 ≤ 8) (hp : 2 ≤ p) (hp2 : p ≤ 97) (hd : d < p) (hp0 : M 1000 0 = nI p) (h : PO2 M n0 c0 x0 y0) (hR : REP g n0 c0 x0 y0) (hP : ∀ k, k < n0 → c0 k < p ∧ x0 k < 2147483648 ∧ y0 k < 2147483648) (hP' : PF p n c x y) (h0 : M 1003 t = nI n) (h' : ∀ k, k < n → M 1004 (8 * t + k) = nI (c k) ∧ M 1005 (8 * t + k) = nI (x k) ∧ M 1006 (8 * t + k) = nI (y k)) : ∃ (M' : smM) (n' : Nat) (c' x' y' : Nat → Nat), smLp (fun rc q => m_X12_plus_b87 1000 (nI s) (nI t) (nI d) rc q.1 q.2) smF (nI (8 * t), M) = (smB2 (m_X12_gives 1000 (nI s) M') fun v143 M143 => some (v143, M143)) ∧ PO2 M' n' c' x' y' ∧ REP (fl2 p g d c x y n) n' c' x' y' ∧ (∀ k, k < n' → c' k < p ∧ x' k < 2147483648 ∧ y' k < 2147483648) ∧ n' ≤ n0 + n ∧ FR2 M M' := by
  refine lp_post (ρ := Int32 × smM) n (fun k w => ∃ (M' : smM) (n' : Nat) (c' x' y' : Nat → Nat), w = (nI (8 * t + k), M') ∧ PO2 M' n' c' x' y' ∧ REP (fl2 p g d c x y k) n' c' x' y' ∧ (∀ k, k < n' → c' k < p ∧ x' k < 2147483648 ∧ y' k < 2147483648) ∧ n' ≤ n0 + k ∧ FR2 M M') (fun e => ∃ (M' : smM) (n' : Nat) (c' x' y' : Nat → Nat), e = (smB2 (m_X12_gives 1000 (nI s) M') fun v143 M143 => some (v143, M143)) ∧ PO2 M' n' c' x' y' ∧ REP (fl2 p g d c x y n) n' c' x' y' ∧ (∀ k, k < n' → c' k < p ∧ x' k < 2147483648 ∧ y' k < 2147483648) ∧ n' ≤ n0 + n ∧ FR2 M M') ⟨M, n0, c0, x0, y0, rfl, h, hR, hP, Nat.le_refl _, fun _ _ => rfl, fun _ _ _ _ _ => rfl⟩ (by omega) ?_
  rintro k w hk ⟨M', n', c', x', y', rfl, g1, g2, g3, g4, g5⟩
  have ck4 : ∀ {ρ : Type} (T : Option ρ), (if nI t < 0 ∨ 4 ≤ t then none else T) = T := fun T => if_ck2 (by omega) (by omega) T
  have e8 : (8 : Int32) * nI t + nI n = nI (8 * t + n) := by
    rw [show (8 : Int32) = nI 8 from rfl, jI_nI, jI_nI, jI_nI, jI_nI, jI_mul, jI_add]; congr 1
  have r3 : M' 1003 = M 1003 := g5.2 _ (by omega) (by omega) (by omega) (by omega)
  have r4 : M' 1004 = M 1004 := g5.2 _ (by omega) (by omega) (by omega) (by omega)
  have r5 : M' 1005 = M 1005 := g5.2 _ (by omega) (by omega) (by omega) (by omega)
  have r6 : M' 1006 = M 1006 := g5.2 _ (by omega) (by omega) (by omega) (by omega)
  by_cases e : k = n
  · right
    subst e
    refine ⟨_, ⟨M', n', c', x', y', rfl, g1, g2, g3, g4, g5⟩, fun rc => ?_⟩
    show m_X12_plus_b87 1000 (nI s) (nI t) (nI d) rc (nI (8 * t + k)) M' = _
    unfold m_X12_plus_b87
    rw [cl_nI (n := t) (by omega), show smLn (1000 + 3) = 4 from g_1003, ck4, show M' (1000 + 3) t = nI k from (congrFun r3 t).trans h0, e8, if_pos (Int32.le_refl _)]
  · left
    obtain ⟨p1, p2, p3⟩ := h' k (by omega)
    obtain ⟨b1, b2, b3, b4⟩ := hP'.1 k (by omega)
    have hm : c k * d ≤ 97 * 97 := Nat.mul_le_mul (by omega) (by omega)
    have em : nI d * nI (c k) = nI (c k * d) := by rw [jI_nI, jI_nI, jI_nI, jI_mul, Int.mul_comm]; congr 1
    have ck : ∀ {ρ : Type} (T : Option ρ), (if nI (8 * t + k) < 0 ∨ 32 ≤ 8 * t + k then none else T) = T := fun T => if_ck2 (by omega) (by omega) T
    have hp0' : M' 1000 0 = nI p := (g5.1 0 (by omega)).trans hp0
    obtain ⟨M2, n2, c2, x2, y2, d1, d2, d3, d4, d5, d6⟩ := m12_comes (c0 := c k * d % p) (i := x k) (j := y k) (show n' < 40 by omega) hp hp2 hp0' g1 g2 g3 (Nat.mod_lt _ (by omega)) b3 b4
    refine ⟨(nI (8 * t + (k + 1)), M2), by omega, ⟨M2, n2, c2, x2, y2, rfl, d2, d3, d4, by omega, fun k q => (d6.1 k q).trans (g5.1 k q), fun r q1 q2 q3 q4 => (d6.2 r q1 q2 q3 q4).trans (g5.2 r q1 q2 q3 q4)⟩, fun rc => ?_⟩
    show m_X12_plus_b87 1000 (nI s) (nI t) (nI d) rc (nI (8 * t + k)) M' = _
    unfold m_X12_plus_b87
    rw [cl_nI (n := t) (by omega), show smLn (1000 + 3) = 4 from g_1003, ck4, show M' (1000 + 3) t = nI n from (congrFun r3 t).trans h0, e8, if_neg (fun w => by rw [nI_le_iff (by omega) (by omega)] at w; omega), cl_nI (n := 8 * t + k) (by omega), show smLn (1000 + 4) = 32 from g_1004, ck, hp0', if_neg (nI_ne0 (by omega) (by omega)), show smLn (1000 + 5) = 32 from g_1005, ck, show smLn (1000 + 6) = 32 from g_1006, ck, show M' (1000 + 4) (8 * t + k) = nI (c k) from (congrFun r4 _).trans p1, show M' (1000 + 5) (8 * t + k) = nI (x k) from (congrFun r5 _).trans p2, show M' (1000 + 6) (8 * t + k) = nI (y k) from (congrFun r6 _).trans p3, em, rem_nI (by omega) (by omega) (by omega), d1, Option.bind_some, nI_add_1]
    rfl
theorem op_plus : Op_plus Rel := by
  intro M1 M2 h x y cc
  have hr := h
  obtain ⟨p, ne, A, B, u, v, F, G, hpar, hs1, hs2, hca, hsl, him⟩ := h
  have hp := (Pr_rng p hpar.1).1
  have hp2 := (Pr_rng p hpar.1).2
  have ep : nI p - 1 = nI (p - 1) := by
    rw [show (1 : Int32) = nI 1 from rfl, jI_nI, jI_nI, jI_nI, jI_sub]; congr 1; omega
  by_cases c : (0 : Int32) ≤ x ∧ x ≤ 3
  · obtain ⟨s, s3, rfl⟩ := rngI (h := 3) (by omega) c.1 c.2
    have ck4 : ∀ {ρ : Type} (T : Option ρ), (if nI s < 0 ∨ 4 ≤ s then none else T) = T := fun T => if_ck2 (by omega) (by omega) T
    by_cases ct : (0 : Int32) ≤ y ∧ y ≤ 3
    · obtain ⟨t, t3, rfl⟩ := rngI (h := 3) (by omega) ct.1 ct.2
      have ck4t : ∀ {ρ : Type} (T : Option ρ), (if nI t < 0 ∨ 4 ≤ t then none else T) = T := fun T => if_ck2 (by omega) (by omega) T
      by_cases d : (0 : Int32) ≤ cc ∧ cc ≤ nI (p - 1)
      · obtain ⟨c0, hc0, rfl⟩ := rngI (h := p - 1) (by omega) d.1 d.2
        obtain ⟨a1, a2, κ, a3, a4, a5⟩ := hsl s (by omega)
        obtain ⟨b1, b2, κ', b3, b4, b5⟩ := hsl t (by omega)
        have e8 : (8 : Int32) * nI t = nI (8 * t) := by
          rw [show (8 : Int32) = nI 8 from rfl, jI_nI, jI_nI, jI_nI, jI_mul]; congr 1
        have e1 : m_X11_plus 0 (nI s) (nI t) (nI c0) M1 = if nI κ = 0 then some (-11, M1) else if nI κ' = 0 then some (-11, M1) else if nI κ = 1 then (if nI κ' = 1 then (Option.bind (m_X5_copyFrom 500 (13 + 20 * s + 1) M1) fun M93 => Option.bind (m_X5_bringAll 500 (13 + 20 * t + 1) (nI c0) (M93 1 0) M93) fun M117 => smB2 (m_X11_settle 0 (nI s) M117) fun v122 M122 => some (v122, M122)) else some (-12, M1)) else some (-12, M1) := by
          unfold m_X11_plus m_X11_isNumber
          rw [m_isSlot, Option.bind_some, b01_t c, if_1, m_isSlot, Option.bind_some, b01_t ct, if_1, show M1 (0 + 1) 0 = nI p from hs1.1, ep, m_isWithin, Option.bind_some, Option.bind_some, smZ_b01, b01_t d, if_1, cl_nI (n := s) (by omega), cl_nI (n := t) (by omega), show smLn (0 + 12) = 4 from g_12, ck4]
          simp only [ck4, ck4t, Nat.zero_add, Nat.reduceAdd]
          rw [a3, b3]
        have e2 : m_X12_plus 1000 (nI s) (nI t) (nI c0) M2 = if nI κ = 0 then some (-11, M2) else if nI κ' = 0 then some (-11, M2) else if nI κ = 1 then (if nI κ' = 1 then (Option.bind (m_X12_takes 1000 (nI s) M2) fun M78 => smLp (fun rc q => m_X12_plus_b87 1000 (nI s) (nI t) (nI c0) rc q.1 q.2) smF (nI (8 * t), M78)) else some (-12, M2)) else some (-12, M2) := by
          unfold m_X12_plus
          rw [m12_isSlot, Option.bind_some, b01_t c, if_1, m12_isSlot, Option.bind_some, b01_t ct, if_1, hs2.1, ep, show (0 : Int64) = (0 : Int32).toInt64 from rfl, m12_in, Option.bind_some, b01_t d, if_1, cl_nI (n := s) (by omega), cl_nI (n := t) (by omega), show smLn (1000 + 2) = 4 from g_1002, ck4, ck4, ck4t, ck4t, e8, show M2 (1000 + 2) s = nI κ from a4, show M2 (1000 + 2) t = nI κ' from b4]
        by_cases z1 : κ = 0
        · subst z1
          rw [if_pos n_00] at e1 e2
          exact ⟨_, _, _, e1, e2, hr⟩
        have z1' : ¬ nI κ = 0 := nI_ne0 (by omega) (by rcases a5 with q | ⟨q, -⟩ | ⟨q, -⟩ <;> omega)
        rw [if_neg z1'] at e1 e2
        by_cases z2 : κ' = 0
        · subst z2
          rw [if_pos n_00] at e1 e2
          exact ⟨_, _, _, e1, e2, hr⟩
        have z2' : ¬ nI κ' = 0 := nI_ne0 (by omega) (by rcases b5 with q | ⟨q, -⟩ | ⟨q, -⟩ <;> omega)
        rw [if_neg z2'] at e1 e2
        rcases a5 with q | ⟨rfl, n, cl, xl, yl, c1, c2, c3, c4, c5⟩ | ⟨rfl, -⟩
        · exact absurd q z1
        · rcases b5 with q | ⟨rfl, n', cl', xl', yl', c1', c2', c3', c4', c5'⟩ | ⟨rfl, -⟩
          · exact absurd q z2
          · rw [if_pos n_11, if_pos n_11] at e1 e2
            obtain ⟨l1, l2, l3⟩ := g_500
            obtain ⟨p1, p2, p3⟩ := g_pl s (by omega)
            obtain ⟨q1, q2, q3⟩ := g_pl t (by omega)
            obtain ⟨Ma, f1, f2, f3⟩ := m_polCopy (t := 500) (q := 13 + 20 * s + 1) p1 p2 p3 l1 l2 l3 c1 (by omega) (by omega) (by omega) (by omega) c3
            have c3a : PO Ma (13 + 20 * t + 1) n' cl' xl' yl' := by
              unfold PO
              rw [f3 _ (by omega), f3 (13 + 20 * t + 1 + 1) (by omega), f3 (13 + 20 * t + 1 + 2) (by omega), f3 (13 + 20 * t + 1 + 3) (by omega)]; exact c3'
            obtain ⟨Mb, n1, k1, x1, y1, g1, g2, g3, g4, g5, g6⟩ := m_bringAll (d := c0) q1 q2 q3 c1' (by omega) (by omega) (by omega) hp hp2 (by omega) f2 (REP.fl c2 n (Nat.le_refl n)) c2 c3a c2'
            obtain ⟨Mt, n2, k2, x2, y2, t1, t2, t3', t4, t5, t6⟩ := m12_takes (s := s) (by omega) c1 hp hp2 hs2.1 c2 c4 c5
            have r3 : Mt 1003 = M2 1003 := t6.2 _ (by omega) (by omega) (by omega) (by omega)
            have r4 : Mt 1004 = M2 1004 := t6.2 _ (by omega) (by omega) (by omega) (by omega)
            have r5 : Mt 1005 = M2 1005 := t6.2 _ (by omega) (by omega) (by omega) (by omega)
            have r6 : Mt 1006 = M2 1006 := t6.2 _ (by omega) (by omega) (by omega) (by omega)
            obtain ⟨Mu, n3, k3, x3, y3, u1, u2, u3, u4, u5, u6⟩ := m12_plusl (s := s) (t := t) (d := c0) (by omega) c1' (show n2 ≤ 8 by omega) hp hp2 (by omega) (by rw [t6.1 0 (by omega)]; exact hs2.1) t2 t3' t4 c2' (by rw [r3]; exact c4') (fun k hk => by rw [r4, r5, r6]; exact c5' k hk)
            obtain ⟨r, M1', M2', z1, z2, z3⟩ := settle_add (p := p) (M1b := Mb) (M2b := Mu) hr (fun p' ne' A' B' u' v' F' G' h' hq => (nI_inj (by omega) (by omega)).mp (h'.1.symm.trans hs1.1)) (by omega) a3 a4 (fun r q => by rw [g6 r (by omega), f3 r (by omega)]) ⟨fun k q => (u6.1 k q).trans (t6.1 k q), fun r q1 q2 q3 q4 => (u6.2 r q1 q2 q3 q4).trans (t6.2 r q1 q2 q3 q4)⟩ g2 g3 g4 (by omega) u2 u3 u4 hp2 (by omega)
            rw [f1, Option.bind_some, f3 1 (by omega), hs1.1, g1, Option.bind_some, z1, smB2_e] at e1
            rw [t1, Option.bind_some, u1, z2, smB2_e] at e2
            exact ⟨_, _, _, e1, e2, z3⟩
          · rw [if_pos n_11, if_neg n_21] at e1 e2
            exact ⟨_, _, _, e1, e2, hr⟩
        · rw [if_neg n_21] at e1 e2
          exact ⟨_, _, _, e1, e2, hr⟩
      · have e1 : m_X11_plus 0 (nI s) (nI t) cc M1 = some (-1, M1) := by
          unfold m_X11_plus m_X11_isNumber
          rw [m_isSlot, Option.bind_some, b01_t c, if_1, m_isSlot, Option.bind_some, b01_t ct, if_1, show M1 (0 + 1) 0 = nI p from hs1.1, ep, m_isWithin, Option.bind_some, Option.bind_some, smZ_b01, b01_f d, if_0]
        have e2 : m_X12_plus 1000 (nI s) (nI t) cc M2 = some (-1, M2) := by
          unfold m_X12_plus
          rw [m12_isSlot, Option.bind_some, b01_t c, if_1, m12_isSlot, Option.bind_some, b01_t ct, if_1, hs2.1, ep, show (0 : Int64) = (0 : Int32).toInt64 from rfl, m12_in, Option.bind_some, b01_f d, if_0]
        exact ⟨_, _, _, e1, e2, hr⟩
    · have e1 : m_X11_plus 0 (nI s) y cc M1 = some (-1, M1) := by
        unfold m_X11_plus
        rw [m_isSlot, Option.bind_some, b01_t c, if_1, m_isSlot, Option.bind_some, b01_f ct, if_0]
      have e2 : m_X12_plus 1000 (nI s) y cc M2 = some (-1, M2) := by
        unfold m_X12_plus
        rw [m12_isSlot, Option.bind_some, b01_t c, if_1, m12_isSlot, Option.bind_some, b01_f ct, if_0]
      exact ⟨_, _, _, e1, e2, hr⟩
  · have e1 : m_X11_plus 0 x y cc M1 = some (-1, M1) := by
      unfold m_X11_plus
      rw [m_isSlot, Option.bind_some, b01_f c, if_0]
    have e2 : m_X12_plus 1000 x y cc M2 = some (-1, M2) := by
      unfold m_X12_plus
      rw [m12_isSlot, Option.bind_some, b01_f c, if_0]
    exact ⟨_, _, _, e1, e2, hr⟩
