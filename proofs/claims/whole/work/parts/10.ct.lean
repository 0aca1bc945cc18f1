/-! the calls normal, table -/
theorem j64 {z : Int} (h1 : -2147483648 ≤ z) (h2 : z < 2147483648) : (jI z).toInt64 = kI z := by
  rw [← Int64.toInt_inj, Int32.toInt_toInt64, jI_t h1 h2, kI_t (by omega) (by omega)]
theorem m12_negm {p : Nat} [NeZero p] (hp : 2 ≤ p) (hp2 : p ≤ 97) (x : Fin p) {M : smM} (h0 : M 1000 0 = nI p) : m_X12_mod 1000 (-(nI (-x).val)).toInt64 M = some (nI x.val) := by
  have h := (-x).isLt
  rw [jI_nI, jI_neg, j64 (by omega) (by omega), m12_mod hp hp2 h0 (by omega) (by omega), fz_negv]
  congr 3
  grind
/-- the numbers of a normal form are one -/
theorem nf_one {p : Nat} [NeZero p] {A B : Nat} {F G : Nat → Nat → Fin p} {D : Nat} {sx sy sx' sy' : Nat → Nat} {k1 k2 : Nat → Nat → Nat} (hb : BSt k1 k2 (Nn A B F G) D sx sy) (es : ∀ k, k < D → sx k = sx' k ∧ sy k = sy' k) {ρ σ ρ' σ' : Nat → Nat → Fin p} {π π' : Nat → Nat} (h : Ech (fun k d => Nn A B F G (sx k) (sy k) d) ρ σ π D) (h' : Ech (fun k d => Nn A B F G (sx' k) (sy' k) d) ρ' σ' π' D) {v : Nat → Fin p} (z : ∀ d, red ρ π D v d = 0) (z' : ∀ d, red ρ' π' D v d = 0) {s : Nat} (hs : s < D) : shr ρ σ π D v s = shr ρ' σ' π' D v s := by
  refine hb.1.one (c := shr ρ σ π D v) (c' := shr ρ' σ' π' D v) (fun d => ?_) hs
  have a := h.tell z d
  have b := h'.tell z' d
  have e : comb (Nn A B F G) sx sy D (shr ρ' σ' π' D v) d = comb (Nn A B F G) sx' sy' D (shr ρ' σ' π' D v) d := comb_cong es (fun _ _ => rfl) d
  rw [e]
  exact a.symm.trans b
theorem red_su0 {p : Nat} [NeZero p] {A B : Nat} {F G : Nat → Nat → Fin p} {D : Nat} {ρ : Nat → Nat → Fin p} {π : Nat → Nat} (hz : ∀ i j d, red ρ π D (Nn A B F G i j) d = 0) (n : Nat) (c : Nat → Fin p) (x y : Nat → Nat) (d : Nat) : red ρ π D (fun d => su (fun k => c k * Nn A B F G (x k) (y k) d) n) d = 0 := by
  rw [red_su ρ π D c (fun k d => Nn A B F G (x k) (y k) d) d n]
  exact su_zero' (fun k _ => by
    have := hz (x k) (y k) d
    show c k * red ρ π D (fun d => Nn A B F G (x k) (y k) d) d = 0
    rw [show (fun d => Nn A B F G (x k) (y k) d) = Nn A B F G (x k) (y k) from rfl, this, r_m0])
theorem t9_o {o : Nat} (ho : o < 5) : smT 1 (149 + 58 * o + 16) 9 := (tb (tb_o ho)).2.1
/-- the normal form of what lies in row a, by the class -/
theorem m_nf {M : smM} {p A B u v o : Nat} [NeZero p] {F G : Nat → Nat → Fin p} (hpar : PARAM p A B u v) (ho : o ≤ 4) {D : Nat} {sx sy : Nat → Nat} {nm : Nat} {mx my : Nat → Nat} {tl : Nat → Nat → Fin p} (hc : CU M A B u v F G) (hb : BASE M (149 + 58 * o) A B F G o u v D sx sy nm mx my tl) {a : Nat} (ha : a = 504 ∨ a = 505) {w : Nat → Fin p} (hw : ∀ d, d < 9 → M a d = nI (w d).val) : ∃ (M' : smM) (ρ σ : Nat → Nat → Fin p) (π : Nat → Nat), m_X9_express (149 + 58 * o + 16) a 506 M = some M' ∧ (∀ d, d < 9 → M' 506 d = nI (shr ρ σ π D w d).val) ∧ CU M' A B u v F G ∧ Ech (fun k d => Nn A B F G (sx k) (sy k) d) ρ σ π D ∧ (∀ i j d, red ρ π D (Nn A B F G i j) d = 0) ∧ ∀ r, r ≠ a → r ≠ 506 → M' r = M r := by
  obtain ⟨hp, hp2⟩ := Pr_rng p hpar.1
  obtain ⟨g1, g2, g3, g4⟩ := g_347
  obtain ⟨ρ, σ, π, c1, c2, c3⟩ := hb.2.2.2.2.2.2
  have la : smLn a = 9 := by
    rcases ha with e | e
    · rw [e]; exact g2
    · rw [e]; exact g3
  have e := m_express (a := a) (b := 506) (t9_o (o := o) (by omega)) hp hp2 c1 la g4 (by omega) (by omega) (by omega) hw
  refine ⟨_, ρ, σ, π, e, fun d hd => fil_in hd, hc.fr hpar.2.1.2 hpar.2.2.1.2 (fun r h1 h2 _ _ _ => ?_), c2, c3, fun r h1 h2 => ?_⟩
  · rw [fil_o (by omega), fil_o (by omega)]
  · rw [fil_o h2, fil_o h1]
/-- the normal form of the form at hand, by the reference -/
theorem m12_nf {M : smM} {p A B : Nat} [NeZero p] {F G : Nat → Nat → Fin p} (hp : 2 ≤ p) (hp2 : p ≤ 97) (h0 : M 1000 0 = nI p) {D : Nat} {sx sy : Nat → Nat} (hn : NF2 M A B F G D sx sy) {w : Nat → Fin p} (hw : ∀ d, d < 9 → M 1020 d = nI (w d).val) (hz : ∀ (ρ : Nat → Nat → Fin p) (π : Nat → Nat), (∀ i j d, red ρ π D (Nn A B F G i j) d = 0) → ∀ d, red ρ π D w d = 0) : ∃ (M' : smM) (ρ σ : Nat → Nat → Fin p) (π : Nat → Nat) (sx' sy' : Nat → Nat), m_X12_isLeft 1000 M = some (-4, M') ∧ (∀ d, d < 9 → M' 1031 d = nI (- shr ρ σ π D w d).val) ∧ (∀ k, k < D → sx k = sx' k ∧ sy k = sy' k) ∧ Ech (fun k d => Nn A B F G (sx' k) (sy' k) d) ρ σ π D ∧ (∀ d, red ρ π D w d = 0) ∧ ∀ r, r ≠ 1020 → r ≠ 1031 → M' r = M r := by
  obtain ⟨⟨ρ, σ, π, sx', sy', c0, c1, c2, c3⟩, -⟩ := hn
  obtain ⟨q, M', a1, a2, a3, a4⟩ := m12_isLeft (v := w) hp hp2 h0 c1 hw
  have z := hz ρ π c3
  rcases a3 with ⟨-, rfl⟩ | ⟨k, k1, -, k3⟩
  · exact ⟨M', ρ, σ, π, sx', sy', a1, fun d hd => (a2 d hd).2, c0, c2, z, a4⟩
  · exact absurd (z k) k3
theorem BASE.f2 {M M1 : smM} {b p : Nat} [NeZero p] {A B : Nat} {F G : Nat → Nat → Fin p} {o u v D : Nat} {sx sy : Nat → Nat} {nm : Nat} {mx my : Nat → Nat} {tl : Nat → Nat → Fin p} (h : BASE M b A B F G o u v D sx sy nm mx my tl) (hb : 149 ≤ b) (hb2 : b ≤ 381) (e : ∀ r, 93 ≤ r → r < 440 → r ≠ 132 → (r < 136 ∨ 140 ≤ r) → (r < 142 ∨ 146 ≤ r) → M1 r = M r) : BASE M1 b A B F G o u v D sx sy nm mx my tl := h.fr (fun r _ _ => e r (by omega) (by omega) (by omega) (by omega) (by omega))
theorem NF2.fr {M M' : smM} {p A B : Nat} [NeZero p] {F G : Nat → Nat → Fin p} {D : Nat} {sx sy : Nat → Nat} (h : NF2 M A B F G D sx sy) (e0 : M' 1000 29 = M 1000 29) (e : ∀ r, r = 1016 ∨ r = 1017 ∨ r = 1024 ∨ r = 1025 → M' r = M r) : NF2 M' A B F G D sx sy := by
  obtain ⟨⟨ρ, σ, π, sx', sy', c0, c1, c2, c3⟩, t⟩ := h
  exact ⟨⟨ρ, σ, π, sx', sy', c0, ⟨c1.1, e0.trans c1.2.1, fun r hr => by rw [e 1024 (by omega), e 1025 (by omega)]; exact c1.2.2 r hr⟩, c2, c3⟩, t.fr (e _ (by omega)) (e _ (by omega))⟩
theorem op_normal : Op_normal Rel := by
  intro M1 M2 h x i j y
  have hr := h
  obtain ⟨p, ne, A, B, u, v, F, G, hpar, hs1, hs2, hca, hsl, him⟩ := h
  have h9 := AB9 hpar
  obtain ⟨hp, hp2⟩ := Pr_rng p hpar.1
  have hAB : 1 ≤ A * B := Nat.mul_le_mul hpar.2.1.1 hpar.2.2.1.1
  by_cases c : (0 : Int32) ≤ x ∧ x ≤ 4
  · by_cases ci : i < 0
    · have e1 : m_X11_normal 0 x i j y M1 = some (-1, M1) := by
        unfold m_X11_normal
        rw [m_isOrder, Option.bind_some, b01_t c, if_1, if_pos ci]
      have e2 : m_X12_normal 1000 x i j y M2 = some (-1, M2) := by
        unfold m_X12_normal
        rw [m12_isOrder, Option.bind_some, b01_t c, if_1, if_pos ci]
      exact ⟨_, _, _, e1, e2, hr⟩
    · by_cases cj : j < 0
      · have e1 : m_X11_normal 0 x i j y M1 = some (-1, M1) := by
          unfold m_X11_normal
          rw [m_isOrder, Option.bind_some, b01_t c, if_1, if_neg ci, if_pos cj]
        have e2 : m_X12_normal 1000 x i j y M2 = some (-1, M2) := by
          unfold m_X12_normal
          rw [m12_isOrder, Option.bind_some, b01_t c, if_1, if_neg ci, if_pos cj]
        exact ⟨_, _, _, e1, e2, hr⟩
      · by_cases d : (0 : Int32) ≤ y ∧ y ≤ nI (A * B - 1)
        · obtain ⟨o, o4, rfl⟩ := rngI (h := 4) (by omega) c.1 c.2
          obtain ⟨s, s2, rfl⟩ := rngI (h := A * B - 1) (by omega) d.1 d.2
          obtain ⟨i', hi', rfl⟩ := nat_of (x := i) (by rw [Int32.lt_iff_toInt_lt] at ci; rw [Int32.le_iff_toInt_le]; omega)
          obtain ⟨j', hj', rfl⟩ := nat_of (x := j) (by rw [Int32.lt_iff_toInt_lt] at cj; rw [Int32.le_iff_toInt_le]; omega)
          obtain ⟨Ma, a1, a2, a3⟩ := m_current hpar hs1 hca
          obtain ⟨Mb, b1, b2, b3, b4⟩ := m_vector (i := i') (j := j') hpar a2 hi' hj'
          have hsb : SET Mb 1 p A B u v F G := hs1.fr (fun r _ _ => (b4 r (by omega) (by omega)).trans (a3 r (by omega)))
          obtain ⟨Mc, M2', D, sx, sy, nm, mx, my, tl, c1, c2, c3, c4, ⟨f1, f2, f3, f4, f5⟩, c6, c7⟩ := both_base (M1 := Mb) (M2 := M2) hpar hsb hs2 b2.ca o4
          obtain ⟨Md, ρ, σ, π, g1, g2, g3, g4, g5, g6⟩ := m_nf (a := 504) (w := Nn A B F G i' j') hpar o4 c3 f1 (Or.inl rfl) (fun d hd => by rw [c6 504 (by omega)]; exact b3 d hd)
          have hs2' : SET2 M2' p A B u v F G := hs2.fl c7.l
          obtain ⟨Me, k1, k2, k3⟩ := m12_formOf (i := i') (j := j') (M := M2') hp hp2 hpar.2.1.1 hpar.2.2.1.1 hpar.2.1.2 hpar.2.2.1.2 hs2' f5.2 hi' hj'
          obtain ⟨Mf, ρ', σ', π', sx', sy', l1, l2, l3, l4, l5, l6⟩ := m12_nf (w := Nn A B F G i' j') (M := Me) hp hp2 (by rw [k3 1000 (by omega) (by omega) (by omega) (by omega)]; exact hs2'.1) (f5.fr (by rw [k3 1000 (by omega) (by omega) (by omega) (by omega)]) (fun r hr => k3 r (by omega) (by omega) (by omega) (by omega))) k2 (fun ρ π h d => h i' j' d)
          have hsD : s < D := by rw [f1.2.2.1.1]; omega
          have eq := nf_one f1.2.2.2.2.1 l3 g4 l4 (v := Nn A B F G i' j') (fun d => g5 i' j' d) l5 hsD
          have e1 : m_X11_normal 0 (nI o) (nI i') (nI j') (nI s) M1 = some (nI (shr ρ σ π D (Nn A B F G i' j') s).val, Md) := by
            unfold m_X11_normal
            rw [m_isOrder, Option.bind_some, b01_t c, if_1, if_neg ci, if_neg cj, m_isStair hpar hs1, Option.bind_some, b01_t d, if_1, a1, smB2_e, show m_X2_vectorOfTerm 93 (nI i') (nI j') (0 + 504) Ma = some Mb from b1, Option.bind_some, c1, smB2_e, show m_X9_express (149 + 58 * o + 16) (0 + 504) (0 + 506) Mc = some Md from g1, Option.bind_some, cl_nI (n := s) (by omega), show smLn (0 + 506) = 9 from g_347.2.2.2, if_ck2 (by omega) (by omega), show Md (0 + 506) s = _ from g2 s (by omega)]
          have e2 : m_X12_normal 1000 (nI o) (nI i') (nI j') (nI s) M2 = some (nI (shr ρ' σ' π' D (Nn A B F G i' j') s).val, Mf) := by
            unfold m_X12_normal m_X12_dimension
            rw [m12_isOrder, Option.bind_some, b01_t c, if_1, if_neg ci, if_neg cj, Option.bind_some, hs2.2.1, hs2.2.2.1, dim1 hpar.2.1.1 hpar.2.2.1.1, show (0 : Int64) = (0 : Int32).toInt64 from rfl, m12_in, Option.bind_some, b01_t d, if_1, c2, Option.bind_some, k1, Option.bind_some, l1, smB2_e, if_pos rfl, cl_nI (n := s) (by omega), g_22.2.2.2.2.2.2.2.2.2, if_ck2 (by omega) (by omega), show Mf (1000 + 31) s = _ from l2 s (by omega), m12_negm hp hp2 _ (by rw [l6 1000 (by omega) (by omega), k3 1000 (by omega) (by omega) (by omega) (by omega)]; exact hs2'.1), Option.bind_some]
          rw [← eq] at e2
          refine ⟨_, _, _, e1, e2, rel_l hpar hs1 hs2 hsl him (fun r hr => ?_) g3 (c7.l.trans ⟨fun k _ => by rw [l6 1000 (by omega) (by omega), k3 1000 (by omega) (by omega) (by omega) (by omega)], fun r h1 h2 => by rw [l6 r (by omega) (by omega), k3 r (by omega) (by omega) (by omega) (by omega)]⟩)⟩
          rw [g6 r (by omega) (by omega), c6 r (by omega), b4 r (by omega) (by omega), a3 r (by omega)]
        · have e1 : m_X11_normal 0 x i j y M1 = some (-1, M1) := by
            unfold m_X11_normal
            rw [m_isOrder, Option.bind_some, b01_t c, if_1, if_neg ci, if_neg cj, m_isStair hpar hs1, Option.bind_some, b01_f d, if_0]
          have e2 : m_X12_normal 1000 x i j y M2 = some (-1, M2) := by
            unfold m_X12_normal m_X12_dimension
            rw [m12_isOrder, Option.bind_some, b01_t c, if_1, if_neg ci, if_neg cj, Option.bind_some, hs2.2.1, hs2.2.2.1, dim1 hpar.2.1.1 hpar.2.2.1.1, show (0 : Int64) = (0 : Int32).toInt64 from rfl, m12_in, Option.bind_some, b01_f d, if_0]
          exact ⟨_, _, _, e1, e2, hr⟩
  · have e1 : m_X11_normal 0 x i j y M1 = some (-1, M1) := by
      unfold m_X11_normal
      rw [m_isOrder, Option.bind_some, b01_f c, if_0]
    have e2 : m_X12_normal 1000 x i j y M2 = some (-1, M2) := by
      unfold m_X12_normal
      rw [m12_isOrder, Option.bind_some, b01_f c, if_0]
    exact ⟨_, _, _, e1, e2, hr⟩
theorem op_table : Op_table Rel := by
  intro M1 M2 h x z r y
  have hr := h
  obtain ⟨p, ne, A, B, u, v, F, G, hpar, hs1, hs2, hca, hsl, him⟩ := h
  have h9 := AB9 hpar
  obtain ⟨hp, hp2⟩ := Pr_rng p hpar.1
  have hAB : 1 ≤ A * B := Nat.mul_le_mul hpar.2.1.1 hpar.2.2.1.1
  by_cases c : (0 : Int32) ≤ x ∧ x ≤ 4
  · by_cases cz : (0 : Int32) ≤ z ∧ z ≤ 1
    · by_cases cr : (0 : Int32) ≤ r ∧ r ≤ nI (A * B - 1)
      · by_cases d : (0 : Int32) ≤ y ∧ y ≤ nI (A * B - 1)
        · obtain ⟨o, o4, rfl⟩ := rngI (h := 4) (by omega) c.1 c.2
          obtain ⟨w, w1, rfl⟩ := rngI (h := 1) (by omega) cz.1 cz.2
          obtain ⟨t, t2, rfl⟩ := rngI (h := A * B - 1) (by omega) cr.1 cr.2
          obtain ⟨s, s2, rfl⟩ := rngI (h := A * B - 1) (by omega) d.1 d.2
          obtain ⟨Mc, M2', D, sx, sy, nm, mx, my, tl, c1, c2, c3, c4, ⟨f1, f2, f3, f4, f5⟩, c6, c7⟩ := both_base hpar hs1 hs2 hca o4
          have hD := f1.2.2.1.1
          have hbt := tb_o (o := o) (by omega)
          have htD : t < D := by omega
          have hsD : s < D := by omega
          obtain ⟨q1, q2, q3, q4⟩ := f1.2.2.2.1 t htD
          -- the term
          have T : ∃ i j, i = sx t + (if w = 0 then 1 else 0) ∧ j = sy t + w := ⟨_, _, rfl, rfl⟩
          obtain ⟨i', j', ei, ej⟩ := T
          have hi' : i' < 2147483648 := by
            have : (if w = 0 then 1 else 0) ≤ 1 := by split <;> omega
            omega
          have hj' : j' < 2147483648 := by omega
          obtain ⟨Mx, m1, m2, m3⟩ := m_multiply (q := 94) (s := w) (a := 149 + 58 * o + 40 + 1 + t) (b := 504) (M := Mc) (v := fun d => Nn A B F G (sx t) (sy t) d) tq_94 hp hp2 hpar.2.1.1 hpar.2.1.2 hpar.2.2.1.2 c3.2.1 (by omega) (l0_5r hbt (by omega)) g_347.2.1 (by omega) (by omega) q4
          have ex : ∀ d, d < 9 → Mx 504 d = nI (Nn A B F G i' j' d).val := fun d hd => by
            have key : (if w = 0 then mulX A B F G (fun d => Nn A B F G (sx t) (sy t) d) d else mulY A B F G (fun d => Nn A B F G (sx t) (sy t) d) d) = Nn A B F G i' j' d := by
              rcases (show w = 0 ∨ w = 1 by omega) with e | e
              · subst e
                rw [if_pos rfl]
                rw [if_pos rfl] at ei
                have := congrFun (mulX_N (f := F) (g := G) (A := A) (B := B) (sx t) (sy t)) d
                rw [ei, ej]; exact this
              · subst e
                rw [if_neg (by decide)]
                rw [if_neg (by decide)] at ei
                have := congrFun (mulY_N (f := F) (g := G) (A := A) (B := B) (sx t) (sy t)) d
                rw [ei, ej]; exact this
            rw [m3 d hd, key]
          have cx : CU Mx A B u v F G := c3.fr hpar.2.1.2 hpar.2.2.1.2 (fun r h1 h2 h3 _ _ => m2 r (by omega) (by omega))
          obtain ⟨Md, ρ, σ, π, g1, g2, g3, g4, g5, g6⟩ := m_nf (a := 504) (w := Nn A B F G i' j') hpar o4 cx (f1.fr (fun r _ _ => m2 r (by omega) (by omega))) (Or.inl rfl) ex
          have hs2' : SET2 M2' p A B u v F G := hs2.fl c7.l
          obtain ⟨Me, k1, k2, k3⟩ := m12_formOf (i := i') (j := j') (M := M2') hp hp2 hpar.2.1.1 hpar.2.2.1.1 hpar.2.1.2 hpar.2.2.1.2 hs2' f5.2 hi' hj'
          obtain ⟨Mf, ρ', σ', π', sx', sy', l1, l2, l3, l4, l5, l6⟩ := m12_nf (w := Nn A B F G i' j') (M := Me) hp hp2 (by rw [k3 1000 (by omega) (by omega) (by omega) (by omega)]; exact hs2'.1) (f5.fr (by rw [k3 1000 (by omega) (by omega) (by omega) (by omega)]) (fun r hr => k3 r (by omega) (by omega) (by omega) (by omega))) k2 (fun ρ π h d => h i' j' d)
          have eq := nf_one f1.2.2.2.2.1 l3 g4 l4 (v := Nn A B F G i' j') (fun d => g5 i' j' d) l5 hsD
          have e1 : m_X11_table 0 (nI o) (nI w) (nI t) (nI s) M1 = some (nI (shr ρ σ π D (Nn A B F G i' j') s).val, Md) := by
            unfold m_X11_table
            rw [m_isOrder, Option.bind_some, b01_t c, if_1, m_isUnknown, Option.bind_some, b01_t cz, if_1, m_isStair hpar hs1, Option.bind_some, b01_t cr, if_1, m_isStair hpar hs1, Option.bind_some, b01_t d, if_1, c1, smB2_e, cl_nI (n := t) (by omega), l0_5 hbt, if_ck2 (by omega) (by omega), show m_X6_multiply (0 + 93 + 1) (nI w) (149 + 58 * o + 40 + 1 + t) (0 + 504) Mc = some Mx from m1, Option.bind_some, show m_X9_express (149 + 58 * o + 16) (0 + 504) (0 + 506) Mx = some Md from g1, Option.bind_some, cl_nI (n := s) (by omega), show smLn (0 + 506) = 9 from g_347.2.2.2, if_ck2 (by omega) (by omega), show Md (0 + 506) s = _ from g2 s (by omega)]
          have fin : ∀ (b : Nat), sx t + b = i' → m_X12_table_j74 1000 (nI w) (nI t) (nI s) (nI (sx t)) 1000 M2' (nI b) = some (nI (shr ρ' σ' π' D (Nn A B F G i' j') s).val, Mf) := fun b hb => by
            unfold m_X12_table_j74
            rw [cl_nI (n := t) (by omega), g_22.2.1, if_ck2 (by omega) (by omega), show M2' (1000 + 23) t = _ from (f4 t htD).2, nI_ad, nI_ad, hb, ← ej, k1, Option.bind_some, l1, smB2_e, if_pos rfl, cl_nI (n := s) (by omega), g_22.2.2.2.2.2.2.2.2.2, if_ck2 (by omega) (by omega), show Mf (1000 + 31) s = _ from l2 s (by omega), m12_negm hp hp2 _ (by rw [l6 1000 (by omega) (by omega), k3 1000 (by omega) (by omega) (by omega) (by omega)]; exact hs2'.1), Option.bind_some]
          have e2 : m_X12_table 1000 (nI o) (nI w) (nI t) (nI s) M2 = some (nI (shr ρ' σ' π' D (Nn A B F G i' j') s).val, Mf) := by
            unfold m_X12_table m_X12_dimension
            rw [m12_isOrder, Option.bind_some, b01_t c, if_1, show (0 : Int64) = (0 : Int32).toInt64 from rfl, show (1 : Int64) = (1 : Int32).toInt64 from rfl, m12_in, Option.bind_some, b01_t cz, if_1, Option.bind_some, hs2.2.1, hs2.2.2.1, dim1 hpar.2.1.1 hpar.2.2.1.1, m12_in, Option.bind_some, b01_t cr, if_1, Option.bind_some, dim1 hpar.2.1.1 hpar.2.2.1.1, m12_in, Option.bind_some, b01_t d, if_1, c2, Option.bind_some, cl_nI (n := t) (by omega), g_22.1, if_ck2 (by omega) (by omega), show M2' (1000 + 22) t = _ from (f4 t htD).1]
            rcases (show w = 0 ∨ w = 1 by omega) with e | e
            · subst e
              rw [if_pos n_00]
              exact fin 1 (by rw [ei, if_pos rfl])
            · subst e
              rw [if_neg n_10]
              exact fin 0 (by rw [ei, if_neg (by decide)])
          rw [← eq] at e2
          refine ⟨_, _, _, e1, e2, rel_l hpar hs1 hs2 hsl him (fun r hr => ?_) g3 (c7.l.trans ⟨fun k _ => by rw [l6 1000 (by omega) (by omega), k3 1000 (by omega) (by omega) (by omega) (by omega)], fun r h1 h2 => by rw [l6 r (by omega) (by omega), k3 r (by omega) (by omega) (by omega) (by omega)]⟩)⟩
          rw [g6 r (by omega) (by omega), m2 r (by omega) (by omega), c6 r (by omega)]
        · have e1 : m_X11_table 0 x z r y M1 = some (-1, M1) := by
            unfold m_X11_table
            rw [m_isOrder, Option.bind_some, b01_t c, if_1, m_isUnknown, Option.bind_some, b01_t cz, if_1, m_isStair hpar hs1, Option.bind_some, b01_t cr, if_1, m_isStair hpar hs1, Option.bind_some, b01_f d, if_0]
          have e2 : m_X12_table 1000 x z r y M2 = some (-1, M2) := by
            unfold m_X12_table m_X12_dimension
            rw [m12_isOrder, Option.bind_some, b01_t c, if_1, show (0 : Int64) = (0 : Int32).toInt64 from rfl, show (1 : Int64) = (1 : Int32).toInt64 from rfl, m12_in, Option.bind_some, b01_t cz, if_1, Option.bind_some, hs2.2.1, hs2.2.2.1, dim1 hpar.2.1.1 hpar.2.2.1.1, m12_in, Option.bind_some, b01_t cr, if_1, Option.bind_some, dim1 hpar.2.1.1 hpar.2.2.1.1, m12_in, Option.bind_some, b01_f d, if_0]
          exact ⟨_, _, _, e1, e2, hr⟩
      · have e1 : m_X11_table 0 x z r y M1 = some (-1, M1) := by
          unfold m_X11_table
          rw [m_isOrder, Option.bind_some, b01_t c, if_1, m_isUnknown, Option.bind_some, b01_t cz, if_1, m_isStair hpar hs1, Option.bind_some, b01_f cr, if_0]
        have e2 : m_X12_table 1000 x z r y M2 = some (-1, M2) := by
          unfold m_X12_table m_X12_dimension
          rw [m12_isOrder, Option.bind_some, b01_t c, if_1, show (0 : Int64) = (0 : Int32).toInt64 from rfl, show (1 : Int64) = (1 : Int32).toInt64 from rfl, m12_in, Option.bind_some, b01_t cz, if_1, Option.bind_some, hs2.2.1, hs2.2.2.1, dim1 hpar.2.1.1 hpar.2.2.1.1, m12_in, Option.bind_some, b01_f cr, if_0]
        exact ⟨_, _, _, e1, e2, hr⟩
    · have e1 : m_X11_table 0 x z r y M1 = some (-1, M1) := by
        unfold m_X11_table
        rw [m_isOrder, Option.bind_some, b01_t c, if_1, m_isUnknown, Option.bind_some, b01_f cz, if_0]
      have e2 : m_X12_table 1000 x z r y M2 = some (-1, M2) := by
        unfold m_X12_table
        rw [m12_isOrder, Option.bind_some, b01_t c, if_1, show (0 : Int64) = (0 : Int32).toInt64 from rfl, show (1 : Int64) = (1 : Int32).toInt64 from rfl, m12_in, Option.bind_some, b01_f cz, if_0]
      exact ⟨_, _, _, e1, e2, hr⟩
  · have e1 : m_X11_table 0 x z r y M1 = some (-1, M1) := by
      unfold m_X11_table
      rw [m_isOrder, Option.bind_some, b01_f c, if_0]
    have e2 : m_X12_table 1000 x z r y M2 = some (-1, M2) := by
      unfold m_X12_table
      rw [m12_isOrder, Option.bind_some, b01_f c, if_0]
    exact ⟨_, _, _, e1, e2, hr⟩
