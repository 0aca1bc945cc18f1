/-! what the class keeps is brought up to date -/
theorem c0_cl : ((0 : Int32)).toNatClampNeg = 0 := rfl
theorem c1_cl : ((1 : Int32)).toNatClampNeg = 1 := rfl
theorem ck_0 {ρ : Type} {L : Nat} (h : 0 < L) (T : Option ρ) : (if (0 : Int32) < 0 ∨ L ≤ 0 then none else T) = T := if_neg (by rintro (q | q); exact absurd q (by decide); omega)
theorem ck_1 {ρ : Type} {L : Nat} (h : 1 < L) (T : Option ρ) : (if (1 : Int32) < 0 ∨ L ≤ 1 then none else T) = T := if_neg (by rintro (q | q); exact absurd q (by decide); omega)
def CU (M : smM) {p : Nat} [NeZero p] (A B u v : Nat) (F G : Nat → Nat → Fin p) : Prop := M 93 6 = 1 ∧ QF M 94 p A B F G ∧ (M 439 0 = 1 ∧ M 439 1 = 1) ∧ (∀ o, o < 5 → M 439 o = 0 ∨ (M 439 o = 1 ∧ ∃ (D : Nat) (sx sy : Nat → Nat) (nm : Nat) (mx my : Nat → Nat) (tl : Nat → Nat → Fin p), BASE M (149 + 58 * o) A B F G o u v D sx sy nm mx my tl)) ∧ LST M 134 p (fun k d => Nn A B F G k 0 d) ∧ LST M 140 p (fun k d => Nn A B F G 0 k d) ∧ (M 93 7 = -1 ∨ ∃ (n : Nat) (rx ry : Nat → Nat), n ≤ 9 ∧ M 93 7 = nI n ∧ RTS A B F G n rx ry ∧ ∀ k, k < n → M 146 k = nI (rx k) ∧ M 147 k = nI (ry k))
theorem LST.fr2 {M M' : smM} {q p : Nat} [NeZero p] {Z : Nat → Nat → Fin p} (h : LST M q p Z) (e : M' q = M q) (e1 : M' (q + 1) = M (q + 1)) : LST M' q p Z := by
  obtain ⟨n, c, h1, h2, h3, h4, h5⟩ := h
  refine ⟨n, c, h1, ?_, ?_, fun k hk => ?_, h5⟩
  · rw [e]; exact h2
  · rw [e]; exact h3
  · rw [e1]; exact h4 k hk
theorem CU.fr {M M' : smM} {p : Nat} [NeZero p] {A B u v : Nat} {F G : Nat → Nat → Fin p} (h : CU M A B u v F G) (hA : A ≤ 3) (hB : B ≤ 3) (e : ∀ r, 93 ≤ r → r < 440 → r ≠ 132 → (r < 136 ∨ 140 ≤ r) → (r < 142 ∨ 146 ≤ r) → M' r = M r) : CU M' A B u v F G := by
  obtain ⟨h1, h2, h3, h4, h5, h6, h7⟩ := h
  refine ⟨?_, h2.fr hA hB (fun r a b => e r (by omega) (by omega) (by omega) (by omega) (by omega)), ?_, fun o ho => ?_, h5.fr2 (e _ (by omega) (by omega) (by omega) (by omega) (by omega)) (e _ (by omega) (by omega) (by omega) (by omega) (by omega)), h6.fr2 (e _ (by omega) (by omega) (by omega) (by omega) (by omega)) (e _ (by omega) (by omega) (by omega) (by omega) (by omega)), ?_⟩
  · rw [e 93 (by omega) (by omega) (by omega) (by omega) (by omega)]; exact h1
  · rw [e 439 (by omega) (by omega) (by omega) (by omega) (by omega)]; exact h3
  · rw [e 439 (by omega) (by omega) (by omega) (by omega) (by omega)]
    refine (h4 o ho).imp id ?_
    rintro ⟨a, D, sx, sy, nm, mx, my, tl, b⟩
    exact ⟨a, D, sx, sy, nm, mx, my, tl, b.fr (fun r a b => e r (by omega) (by omega) (by omega) (by omega) (by omega))⟩
  · rw [e 93 (by omega) (by omega) (by omega) (by omega) (by omega), e 146 (by omega) (by omega) (by omega) (by omega) (by omega), e 147 (by omega) (by omega) (by omega) (by omega) (by omega)]; exact h7
theorem CU.ca {M : smM} {p : Nat} [NeZero p] {A B u v : Nat} {F G : Nat → Nat → Fin p} (h : CU M A B u v F G) : CA M A B u v F G := Or.inr h
theorem rel_ca {M1 M2 M1' M2' : smM} {p : Nat} {ne : NeZero p} {A B u v : Nat} {F G : Nat → Nat → Fin p} (hpar : PARAM p A B u v) (hs1 : SET M1 1 p A B u v F G) (hs2 : SET2 M2 p A B u v F G) (hsl : ∀ s, s < 4 → SLOT M1 M2 s p) (him : ∀ i, i < 2 → IMG M1 M2 i) (e1 : ∀ r, r < 93 → M1' r = M1 r) (hca : CA M1' A B u v F G) (e2 : ∀ k, k < 5 → M2' 1000 k = M2 1000 k) (e3 : ∀ r, 1001 ≤ r → r ≤ 1014 → M2' r = M2 r) : Rel M1' M2' :=
  ⟨p, ne, A, B, u, v, F, G, hpar, hs1.fr (fun r h1 h2 => e1 r (by omega)), hs2.fr e2 (e3 _ (by omega) (by omega)), hca, fun s hs => (hsl s hs).fr (fun r h1 h2 => e1 r (by omega)) (SAME2.of s (fun r h1 h2 => e3 r (by omega) (by omega))), fun i hi => (him i hi).fr (by rw [e1 _ (by omega)]) (fun r h1 h2 => e1 r (by omega)) (by rw [e3 _ (by omega) (by omega)]) (fun k _ _ => by rw [e3 _ (by omega) (by omega)])⟩
theorem m_readFrom {q g p h nm : Nat} [NeZero p] {mx my : Nat → Nat} {tl : Nat → Nat → Fin p} {M : smM} (l1 : smLn (q + 1) = 10) (l2 : smLn (g + 3) = 10) (l3 : smLn (g + 3 + 1 + 0) = 9) (hq : q + 6 ≤ g) (h9 : h ≤ 9) (hm : MB M g p nm mx my tl) (h0 : 0 < nm) : ∃ M', m_X3_readFrom q g (nI h) (nI p) M = some M' ∧ M' q 0 = nI h ∧ M' q 3 = nI p ∧ (∀ k, k < h → M' (q + 1) k = nI (tl 0 k).val) ∧ M' (q + 1) h = 1 ∧ ∀ r, r ≠ q → r ≠ q + 1 → M' r = M r := by
  generalize hM : smS (smS M q 3 (nI p)) q 0 (nI h) = Ma
  have a0 : Ma q 0 = nI h := by rw [← hM, smS_at]
  have a3 : Ma q 3 = nI p := by rw [← hM, smS_ne (by omega), smS_at]
  have ao : ∀ r, r ≠ q → Ma r = M r := fun r hr => by rw [← hM, smS_o hr, smS_o hr]
  refine ⟨smS (fil Ma (q + 1) (fun k => nI (tl 0 k).val) h) (q + 1) h 1, ?_, ?_, ?_, fun k hk => ?_, smS_at, fun r h1 h2 => ?_⟩
  · unfold m_X3_readFrom
    rw [smB_e, smB_e, if_neg (fun w => by rw [show (9 : Int32) = nI 9 from rfl, nI_lt_iff (by omega) (by omega)] at w; omega), hM]
    refine lp_cnt h (fun k => (nI k, fil Ma (q + 1) (fun k => nI (tl 0 k).val) k)) (by rw [fil_0]; rfl) (by omega) (fun k hk rc => ?_) (fun rc => ?_)
    · unfold m_X3_readFrom_b18
      simp only []
      rw [fil_o (show q ≠ q + 1 by omega), a0, if_neg (by rw [nI_le_iff (by omega) (by omega)]; omega), c0_cl, l2, ck_0 (by omega), l3, cl_nI (by omega), if_ck2 (by omega) (by omega), l1, if_ck2 (by omega) (by omega), smB_e, fil_o (show g + 3 + 1 + 0 ≠ q + 1 by omega), ao _ (by omega), (hm.2.2 0 h0).2.2.1 k (by omega), fil_s Ma (q + 1) k (fun k => nI (tl 0 k).val), nI_add_1]
    · unfold m_X3_readFrom_b18
      simp only []
      rw [fil_o (show q ≠ q + 1 by omega), a0, if_pos (Int32.le_refl _), cl_nI (by omega), l1, if_ck2 (by omega) (by omega), smB_e]
  · rw [smS_o (by omega), fil_o (by omega), a0]
  · rw [smS_o (by omega), fil_o (by omega), a3]
  · rw [smS_ne (by omega), fil_in hk]
  · rw [smS_o h2, fil_o h2, ao r h1]
theorem g_le : smLn (134 + 1) = 10 ∧ smLn (140 + 1) = 10 ∧ smLn 148 = 5 ∧ smLn 133 = 2 ∧ smLn 439 = 5 ∧ smLn 210 = 10 ∧ smLn 153 = 10 ∧ smLn (209 + 3) = 10 ∧ smLn (209 + 3 + 1 + 0) = 9 ∧ smLn (151 + 3) = 10 ∧ smLn (151 + 3 + 1 + 0) = 9 := by decide +kernel
theorem tq_94 : smT 1 94 6 := ⟨by decide, by decide, by decide +kernel⟩
theorem tb_k : ∀ o, o < 5 → smKd (149 + 58 * o) = 0 := by decide +kernel
theorem tb_o {o : Nat} (h : o < 5) : smT 1 (149 + 58 * o) 0 := ⟨by show 0 ≤ _; omega, by show _ < 0 + 507; omega, tb_k o h⟩
theorem m_upEnd (M : smM) (rc : (Int32 × smM) → Option smM) : m_X2_bringUpToDate_b18 93 1 rc (nI 5) M = Option.bind (m_X0_walk 149 94 0 (M 1 3) (M 1 4) M) fun M64 => Option.bind (m_X0_walk 207 94 1 (M64 1 3) (M64 1 4) M64) fun M86 => Option.bind (m_X3_readFrom 134 209 (M86 210 0) (M86 1 0) M86) fun M122 => Option.bind (m_X3_readFrom 140 151 (M122 153 0) (M122 1 0) M122) fun M158 => some (smS (smS M158 93 7 (-1)) 93 6 1) := by
  obtain ⟨l1, l2, l3, l4, l5, l6, l7, -⟩ := g_le
  unfold m_X2_bringUpToDate_b18
  rw [if_pos (show (5 : Int32) ≤ nI 5 from Int32.le_refl _)]
  simp only [c0_cl, c1_cl, Nat.reduceAdd, Nat.reduceMul, l3, l4, l6, l7, ck_0 (show 0 < 5 by decide), ck_1 (show 1 < 5 by decide), ck_0 (show 0 < 10 by decide), ck_0 (show 0 < 2 by decide), ck_1 (show 1 < 2 by decide), smB_e]
theorem lst_of {q p h D : Nat} [NeZero p] {M : smM} {Z : Nat → Nat → Fin p} {V : Nat → Nat → Fin p} {t : Nat → Fin p} (h9 : h ≤ 9) (hD : h ≤ D) (m0 : M q 0 = nI h) (m3 : M q 3 = nI p) (m1 : ∀ k, k < h → M (q + 1) k = nI (t k).val) (m2 : M (q + 1) h = 1) (hp : 2 ≤ p) (hV : ∀ k, k < h → V k = Z k) (hmem : ∀ d, Z h d + su (fun k => t k * V k d) D = 0) (ht : ∀ k, h ≤ k → t k = 0) (hind : ∀ c : Nat → Fin p, (∀ d, su (fun k => c k * V k d) D = 0) → ∀ k, k < D → c k = 0) : LST M q p Z := by
  refine ⟨h, fun k => if k < h then t k else 1, h9, m0, m3, fun k hk => ?_, ?_, fun d => ?_, fun e he k hk => ?_⟩
  · by_cases q : k < h
    · simp only [if_pos q]; exact m1 k q
    · have : k = h := by omega
      subst this
      simp only [if_neg q]
      rw [m2]
      have : (1 : Fin p).val = 1 := by
        show 1 % p = 1
        exact Nat.mod_eq_of_lt (by omega)
      rw [this]; rfl
  · simp only [if_neg (Nat.lt_irrefl h)]
  · show su (fun k => (if k < h then t k else 1) * Z k d) h + (if h < h then t h else 1) * Z h d = 0
    rw [if_neg (Nat.lt_irrefl h), r_1m]
    have e1 : su (fun k => (if k < h then t k else 1) * Z k d) h = su (fun k => t k * V k d) h := su_cong (fun k hk => by rw [if_pos hk, hV k hk])
    have e2 := su_ext (fun k => t k * V k d) hD
    have e3 : su (fun k => if k < h then t k * V k d else 0) D = su (fun k => t k * V k d) D := su_cong (fun k _ => by
      by_cases q : k < h
      · rw [if_pos q]
      · rw [if_neg q, ht k (by omega), r_0m])
    rw [e1, ← e2, e3]
    have := hmem d
    grind
  · have := hind (fun k => if k < h then e k else 0) (fun d => by
      have e2 := su_ext (fun k => e k * V k d) hD
      have e3 : su (fun k => (if k < h then e k else 0) * V k d) D = su (fun k => if k < h then e k * V k d else 0) D := su_cong (fun k _ => by
        by_cases q : k < h
        · rw [if_pos q, if_pos q]
        · rw [if_neg q, if_neg q, r_0m])
      rw [e3, e2, su_cong (g := fun k => e k * Z k d) (fun k hk => by rw [hV k hk])]
      exact he d) k (by omega)
    simp only [if_pos hk] at this
    exact this
theorem m_up {M : smM} {p A B u v : Nat} [NeZero p] {F G : Nat → Nat → Fin p} (hpar : PARAM p A B u v) (hS : SET M 1 p A B u v F G) (hca : CA M A B u v F G) : ∃ M', m_X2_bringUpToDate 93 1 M = some M' ∧ CU M' A B u v F G ∧ ∀ r, (r < 93 ∨ 440 ≤ r) → M' r = M r := by
  rcases hca with h | h
  · obtain ⟨hpr, ⟨hA, hA3⟩, ⟨hB, hB3⟩, ⟨hu, hu9⟩, hv, hv9⟩ := hpar
    obtain ⟨hp, hp2⟩ := Pr_rng p hpr
    have h01 : (0 : Fin p) ≠ 1 := fp_01 hp
    obtain ⟨l1, l2, l3, l4, l5, l6, l7, l8, l9, l10, l11⟩ := g_le
    obtain ⟨Ma, a1, a2, a3⟩ := m_build (q := 94) (t := 1) tq_94 t7_d.1 (by omega) hp hp2 hA hB hA3 hB3 hS
    generalize hb : fil Ma 439 (fun k => if k < 2 then (1 : Int32) else 0) 5 = Mb
    have bo : ∀ r, r ≠ 439 → Mb r = Ma r := fun r hr => by rw [← hb]; exact fil_o hr
    have b9 : ∀ k, k < 5 → Mb 439 k = if k < 2 then (1 : Int32) else 0 := fun k hk => by rw [← hb]; exact fil_in hk
    have q0 : QF Mb 94 p A B F G := a2.fr hA3 hB3 (fun r _ _ => bo r (by omega))
    have s0 : SET Mb 1 p A B u v F G := hS.fr (fun r _ _ => (bo r (by omega)).trans (a3 r (by omega)))
    obtain ⟨Mc, D0, sx0, sy0, nm0, mx0, my0, tl0, c1, c2, c3⟩ := m_walk (b := 149) (q := 94) (o := 0) (M := Mb) (tb_o (o := 0) (by omega)) tq_94 (by omega) hpr hA hB hA3 hB3 (by omega) hu hu9 hv hv9 q0
    have q1 : QF Mc 94 p A B F G := q0.fr hA3 hB3 (fun r _ _ => c3 r (by omega) (by omega))
    have s1 : SET Mc 1 p A B u v F G := s0.fr (fun r _ _ => c3 r (by omega) (by omega))
    obtain ⟨Md, D1, sx1, sy1, nm1, mx1, my1, tl1, d1, d2, d3⟩ := m_walk (b := 207) (q := 94) (o := 1) (M := Mc) (tb_o (o := 1) (by omega)) tq_94 (by omega) hpr hA hB hA3 hB3 (by omega) hu hu9 hv hv9 q1
    have s2 : SET Md 1 p A B u v F G := s1.fr (fun r _ _ => d3 r (by omega) (by omega))
    have e0 : BASE Md 149 A B F G 0 u v D0 sx0 sy0 nm0 mx0 my0 tl0 := c2.fr (fun r _ _ => d3 r (by omega) (by omega))
    have hD9 : A * B ≤ 9 := Nat.mul_le_mul hA3 hB3
    obtain ⟨hx, x1, x2, x3, x4, x5, x6, x7⟩ := first_x h01 hu hv hA hB d2.2.2.2.2.1 d2.2.2.2.2.2.1
    obtain ⟨hy, y1, y2, y3, y4, y5, y6, y7⟩ := first_y h01 hu hv hA hB c2.2.2.2.2.1 c2.2.2.2.2.2.1
    have eD1 := d2.2.2.1.1
    have eD0 := c2.2.2.1.1
    obtain ⟨Me, f1, f2, f3, f4, f5, f6⟩ := m_readFrom (q := 134) (g := 209) (h := hx) l1 l8 l9 (by omega) (by omega) d2.2.1 x4
    have mb0 : MB Me 151 p nm0 mx0 my0 tl0 := e0.2.1.fr (fun r _ _ => f6 r (by omega) (by omega))
    obtain ⟨Mf, g1, g2, g3, g4, g5, g6⟩ := m_readFrom (q := 140) (g := 151) (h := hy) l2 l10 l11 (by omega) (by omega) mb0 y4
    have fin : ∀ r, r ≠ 93 → r ≠ 134 → r ≠ 135 → r ≠ 140 → r ≠ 141 → smS (smS Mf 93 7 (-1)) 93 6 1 r = Md r := fun r w1 w2 w3 w4 w5 => by
      rw [smS_o w1, smS_o w1, g6 r w4 w5, f6 r w2 w3]
    refine ⟨smS (smS Mf 93 7 (-1)) 93 6 1, ?_, ⟨smS_at, q1.fr hA3 hB3 (fun r _ _ => (fin r (by omega) (by omega) (by omega) (by omega) (by omega)).trans (d3 r (by omega) (by omega))), ?_, fun o ho => ?_, ?_, ?_, ?_⟩, fun r hr => ?_⟩
    · unfold m_X2_bringUpToDate
      rw [if_pos h, show m_X6_build (93 + 1) 1 M = some Ma from a1, Option.bind_some]
      refine lp_cnt 5 (fun k => (nI k, fil Ma 439 (fun k => if k < 2 then (1 : Int32) else 0) k)) (by rw [fil_0]; rfl) (by omega) (fun k hk rc => ?_) (fun rc => ?_)
      · unfold m_X2_bringUpToDate_b18
        simp only []
        rw [if_neg (show ¬ (5 : Int32) ≤ nI k from fun w => by rw [show (5 : Int32) = nI 5 from rfl, nI_le_iff (by omega) (by omega)] at w; omega), cl_nI (by omega), show smLn (93 + 346) = 5 from l5, if_ck2 hk (by omega), if_ck2 hk (by omega), smB_e, smB_e]
        have es := fil_s Ma 439 k (fun k => if k < 2 then (1 : Int32) else 0)
        by_cases w : k < 2
        · rw [if_neg (show ¬ (2 : Int32) ≤ nI k from fun w2 => by rw [show (2 : Int32) = nI 2 from rfl, nI_le_iff (by omega) (by omega)] at w2; omega)]
          simp only [if_pos w] at es
          rw [show 93 + 346 = 439 from rfl, es, nI_add_1]
        · rw [if_pos (show (2 : Int32) ≤ nI k from (nI_le_iff (a := 2) (by omega) (by omega)).mpr (by omega))]
          simp only [if_neg w] at es
          rw [show 93 + 346 = 439 from rfl, es, nI_add_1]
      · show m_X2_bringUpToDate_b18 93 1 rc (nI 5) (fil Ma 439 (fun k => if k < 2 then (1 : Int32) else 0) 5) = _
        rw [hb, m_upEnd, s0.2.2.2.1, s0.2.2.2.2.1, show m_X0_walk 149 94 0 (nI u) (nI v) Mb = some Mc from c1, Option.bind_some, s1.2.2.2.1, s1.2.2.2.2.1, show m_X0_walk 207 94 1 (nI u) (nI v) Mc = some Md from d1, Option.bind_some, s2.1, show Md 210 0 = nI hx from x5 ▸ (d2.2.1.2.2 0 x4).1, f1, Option.bind_some, show Me 153 0 = nI hy from y5 ▸ (mb0.2.2 0 y4).2.1, f6 1 (by omega) (by omega), s2.1, g1, Option.bind_some]
    · rw [fin 439 (by omega) (by omega) (by omega) (by omega) (by omega), d3 439 (by omega) (by omega), c3 439 (by omega) (by omega), b9 0 (by omega), b9 1 (by omega)]
      exact ⟨rfl, rfl⟩
    · rw [fin 439 (by omega) (by omega) (by omega) (by omega) (by omega), d3 439 (by omega) (by omega), c3 439 (by omega) (by omega), b9 o ho]
      by_cases w : o < 2
      · right
        refine ⟨if_pos w, ?_⟩
        rcases Nat.eq_zero_or_pos o with w2 | w2
        · subst w2
          exact ⟨D0, sx0, sy0, nm0, mx0, my0, tl0, e0.fr (fun r _ _ => fin r (by omega) (by omega) (by omega) (by omega) (by omega))⟩
        · have w3 : o = 1 := by omega
          subst w3
          exact ⟨D1, sx1, sy1, nm1, mx1, my1, tl1, d2.fr (fun r _ _ => fin r (by omega) (by omega) (by omega) (by omega) (by omega))⟩
      · exact Or.inl (if_neg w)
    · refine lst_of (h := hx) (D := D1) (V := fun k d => Nn A B F G (sx1 k) (sy1 k) d) (t := tl1 0) (by omega) x2 ?_ ?_ (fun k hk => ?_) ?_ hp (fun k hk => ?_) (fun d => ?_) x7 d2.2.2.2.2.1.1
      · rw [smS_o (by omega), smS_o (by omega), g6 _ (by omega) (by omega)]; exact f2
      · rw [smS_o (by omega), smS_o (by omega), g6 _ (by omega) (by omega)]; exact f3
      · rw [smS_o (by omega), smS_o (by omega), g6 _ (by omega) (by omega)]; exact f4 k hk
      · rw [smS_o (by omega), smS_o (by omega), g6 _ (by omega) (by omega)]; exact f5
      · funext d
        show Nn A B F G (sx1 k) (sy1 k) d = Nn A B F G k 0 d
        rw [(x3 k hk).1, (x3 k hk).2]
      · have := d2.2.2.2.2.2.1.2.2.2.1 0 x4 d
        rw [x5, x6] at this
        exact this
    · refine lst_of (h := hy) (D := D0) (V := fun k d => Nn A B F G (sx0 k) (sy0 k) d) (t := tl0 0) (by omega) y2 ?_ ?_ (fun k hk => ?_) ?_ hp (fun k hk => ?_) (fun d => ?_) y7 c2.2.2.2.2.1.1
      · rw [smS_o (by omega), smS_o (by omega)]; exact g2
      · rw [smS_o (by omega), smS_o (by omega)]; exact g3
      · rw [smS_o (by omega), smS_o (by omega)]; exact g4 k hk
      · rw [smS_o (by omega), smS_o (by omega)]; exact g5
      · funext d
        show Nn A B F G (sx0 k) (sy0 k) d = Nn A B F G 0 k d
        rw [(y3 k hk).1, (y3 k hk).2]
      · have := c2.2.2.2.2.2.1.2.2.2.1 0 y4 d
        rw [y5, y6] at this
        exact this
    · left
      rw [smS_ne (by omega), smS_at]
    · rw [fin r (by omega) (by omega) (by omega) (by omega) (by omega), d3 r (by omega) (by omega), c3 r (by omega) (by omega), bo r (by omega), a3 r (by omega)]
  · refine ⟨M, ?_, h, fun _ _ => rfl⟩
    unfold m_X2_bringUpToDate
    rw [h.1, if_1]
theorem m_baseOf {M : smM} {p A B u v o : Nat} [NeZero p] {F G : Nat → Nat → Fin p} (hpar : PARAM p A B u v) (hS : SET M 1 p A B u v F G) (h : CU M A B u v F G) (ho : o ≤ 4) : ∃ (M' : smM) (D : Nat) (sx sy : Nat → Nat) (nm : Nat) (mx my : Nat → Nat) (tl : Nat → Nat → Fin p), m_X2_baseOf 93 (nI o) 1 M = some (149 + 58 * o, M') ∧ CU M' A B u v F G ∧ M' 439 o = 1 ∧ BASE M' (149 + 58 * o) A B F G o u v D sx sy nm mx my tl ∧ ∀ r, (r < 93 ∨ 440 ≤ r) → M' r = M r := by
  obtain ⟨l1, l2, l3, l4, l5, -⟩ := g_le
  have hc : (0 : Int32) ≤ nI o ∧ nI o ≤ 4 := ⟨nI_0le (by omega), (nI_le_iff (b := 4) (by omega) (by omega)).mpr ho⟩
  rcases h.2.2.2.1 o (by omega) with w | ⟨w, D, sx, sy, nm, mx, my, tl, hb⟩
  · obtain ⟨hpr, ⟨hA, hA3⟩, ⟨hB, hB3⟩, ⟨hu, hu9⟩, hv, hv9⟩ := hpar
    have ho2 : 2 ≤ o := by
      rcases Nat.lt_or_ge o 2 with q | q
      · exfalso
        have : o = 0 ∨ o = 1 := by omega
        rcases this with q | q
        · subst q; rw [h.2.2.1.1] at w; exact absurd w (by decide)
        · subst q; rw [h.2.2.1.2] at w; exact absurd w (by decide)
      · exact q
    obtain ⟨Ma, D, sx, sy, nm, mx, my, tl, a1, a2, a3⟩ := m_walk (b := 149 + 58 * o) (q := 94) (o := o) (M := M) (tb_o (by omega)) tq_94 (by omega) hpr hA hB hA3 hB3 ho hu hu9 hv hv9 h.2.1
    have fr : ∀ r, r ≠ 439 → smS Ma 439 o 1 r = Ma r := fun r hr => smS_o hr
    obtain ⟨h1, h2, h3, h4, h5, h6, h7⟩ := h
    refine ⟨smS Ma 439 o 1, D, sx, sy, nm, mx, my, tl, ?_, ⟨?_, h2.fr hA3 hB3 (fun r _ _ => (fr r (by omega)).trans (a3 r (by omega) (by omega))), ?_, fun o' ho' => ?_, h5.fr2 ((fr _ (by omega)).trans (a3 _ (by omega) (by omega))) ((fr _ (by omega)).trans (a3 _ (by omega) (by omega))), h6.fr2 ((fr _ (by omega)).trans (a3 _ (by omega) (by omega))) ((fr _ (by omega)).trans (a3 _ (by omega) (by omega))), ?_⟩, smS_at, a2.fr (fun r _ _ => fr r (by omega)), fun r hr => (fr r (by omega)).trans (a3 r (by omega) (by omega))⟩
    · unfold m_X2_baseOf
      rw [m_isOrder, Option.bind_some, b01_t hc, if_1, cl_nI (by omega), show smLn (93 + 346) = 5 from l5, if_ck2 (by omega) (by omega), show M (93 + 346) o = 0 from w, if_0, show smLn (93 + 55) = 5 from l3, if_ck2 (by omega) (by omega), hS.2.2.2.1, hS.2.2.2.2.1, show m_X0_walk (93 + 55 + 1 + 58 * o) (93 + 1) (nI o) (nI u) (nI v) M = some Ma from a1, Option.bind_some, if_ck2 (by omega) (by omega), smB_e, if_ck2 (by omega) (by omega)]
    · rw [fr 93 (by omega), a3 93 (by omega) (by omega)]; exact h1
    · rw [smS_ne (by omega), smS_ne (by omega), a3 439 (by omega) (by omega)]; exact h3
    · by_cases e : o' = o
      · subst e
        exact Or.inr ⟨smS_at, D, sx, sy, nm, mx, my, tl, a2.fr (fun r _ _ => fr r (by omega))⟩
      · rw [smS_ne e, a3 439 (by omega) (by omega)]
        refine (h4 o' ho').imp id ?_
        rintro ⟨a, D, sx, sy, nm, mx, my, tl, b⟩
        exact ⟨a, D, sx, sy, nm, mx, my, tl, b.fr (fun r _ _ => (fr r (by omega)).trans (a3 r (by omega) (by omega)))⟩
    · rw [fr 93 (by omega), a3 93 (by omega) (by omega), fr 146 (by omega), a3 146 (by omega) (by omega), fr 147 (by omega), a3 147 (by omega) (by omega)]; exact h7
  · refine ⟨M, D, sx, sy, nm, mx, my, tl, ?_, h, w, hb, fun _ _ => rfl⟩
    unfold m_X2_baseOf
    rw [m_isOrder, Option.bind_some, b01_t hc, if_1, cl_nI (by omega), show smLn (93 + 346) = 5 from l5, if_ck2 (by omega) (by omega), show M (93 + 346) o = 1 from w, if_1, show smLn (93 + 55) = 5 from l3, if_ck2 (by omega) (by omega)]
theorem m_baseIn {M : smM} {p A B u v o : Nat} [NeZero p] {F G : Nat → Nat → Fin p} (hpar : PARAM p A B u v) (hS : SET M 1 p A B u v F G) (h : CA M A B u v F G) (ho : o ≤ 4) : ∃ (M' : smM) (D : Nat) (sx sy : Nat → Nat) (nm : Nat) (mx my : Nat → Nat) (tl : Nat → Nat → Fin p), m_X11_baseIn 0 (nI o) M = some (149 + 58 * o, M') ∧ CU M' A B u v F G ∧ M' 439 o = 1 ∧ BASE M' (149 + 58 * o) A B F G o u v D sx sy nm mx my tl ∧ ∀ r, (r < 93 ∨ 440 ≤ r) → M' r = M r := by
  obtain ⟨Ma, a1, a2, a3⟩ := m_up hpar hS h
  obtain ⟨M', D, sx, sy, nm, mx, my, tl, b1, b2, b3, b4, b5⟩ := m_baseOf hpar (hS.fr (fun r _ _ => a3 r (by omega))) a2 ho
  refine ⟨M', D, sx, sy, nm, mx, my, tl, ?_, b2, b3, b4, fun r hr => (b5 r hr).trans (a3 r hr)⟩
  unfold m_X11_baseIn
  rw [show m_X2_bringUpToDate (0 + 93) (0 + 1) M = some Ma from a1, Option.bind_some, show m_X2_baseOf (0 + 93) (nI o) (0 + 1) Ma = _ from b1, smB2_e]
/-- asked again, nothing changes -/
theorem m_baseIn2 {M : smM} {p A B u v o : Nat} [NeZero p] {F G : Nat → Nat → Fin p} (h : CU M A B u v F G) (h1 : M 439 o = 1) (ho : o ≤ 4) : m_X11_baseIn 0 (nI o) M = some (149 + 58 * o, M) := by
  obtain ⟨l1, l2, l3, l4, l5, -⟩ := g_le
  have hc : (0 : Int32) ≤ nI o ∧ nI o ≤ 4 := ⟨nI_0le (by omega), (nI_le_iff (b := 4) (by omega) (by omega)).mpr ho⟩
  unfold m_X11_baseIn m_X2_bringUpToDate m_X2_baseOf
  rw [show M (0 + 93) 6 = 1 from h.1, if_1, Option.bind_some, m_isOrder, Option.bind_some, b01_t hc, if_1, cl_nI (by omega), show smLn (0 + 93 + 346) = 5 from l5, if_ck2 (by omega) (by omega), show M (0 + 93 + 346) o = 1 from h1, if_1, show smLn (0 + 93 + 55) = 5 from l3, if_ck2 (by omega) (by omega), smB2_e]
