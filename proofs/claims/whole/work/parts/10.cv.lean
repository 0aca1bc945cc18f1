/-! the call reduce -/
theorem REP_0 (c x y : Nat → Nat) : REP (fun _ _ => 0) 0 c x y := ⟨fun _ _ _ h => absurd h (Nat.not_lt_zero _), fun _ h => absurd h (Nat.not_lt_zero _), fun _ _ h => absurd rfl h⟩
theorem m_reducel {M : smM} {b s D p : Nat} [NeZero p] {w : Nat → Fin p} {x y : Nat → Nat} (hb : smT 1 b 0) (hb4 : b + 58 ≤ 440) (hD : D ≤ 9) (hp : 2 ≤ p) (hp2 : p ≤ 97) (h0 : M 1 0 = nI p) (h16 : M (b + 16) 0 = nI D) (hw : ∀ d, d < 9 → M 506 d = nI (w d).val) (hxy : ∀ k, k < D → M (b + 38) k = nI (x k) ∧ M (b + 39) k = nI (y k) ∧ x k < 1000 ∧ y k < 1000) : ∃ (M' : smM) (n' : Nat) (c' x' y' : Nat → Nat), smLp (fun rc q => m_X11_reduce_b79 0 (nI s) b rc q.1 q.2) smF ((0 : Int32), smS M 500 0 0) = (smB2 (m_X11_settle 0 (nI s) M') fun v137 M137 => some (v137, M137)) ∧ PO M' 500 n' c' x' y' ∧ REP (fl p (fun k => (w k).val) x y D) n' c' x' y' ∧ PF p n' c' x' y' ∧ n' ≤ D ∧ ∀ r, (r < 500 ∨ 504 ≤ r) → M' r = M r := by
  obtain ⟨m1, m2, m3⟩ := g_500
  refine lp_pst D (fun k q => ∃ (M' : smM) (n' : Nat) (c' x' y' : Nat → Nat), q = (nI k, M') ∧ PO M' 500 n' c' x' y' ∧ REP (fl p (fun k => (w k).val) x y k) n' c' x' y' ∧ PF p n' c' x' y' ∧ n' ≤ k ∧ ∀ r, (r < 500 ∨ 504 ≤ r) → M' r = M r) (fun e => ∃ (M' : smM) (n' : Nat) (c' x' y' : Nat → Nat), e = (smB2 (m_X11_settle 0 (nI s) M') fun v137 M137 => some (v137, M137)) ∧ PO M' 500 n' c' x' y' ∧ REP (fl p (fun k => (w k).val) x y D) n' c' x' y' ∧ PF p n' c' x' y' ∧ n' ≤ D ∧ ∀ r, (r < 500 ∨ 504 ≤ r) → M' r = M r) ⟨smS M 500 0 0, 0, fun _ => 0, fun _ => 0, fun _ => 0, rfl, ⟨smS_at, fun k hk => absurd hk (Nat.not_lt_zero k)⟩, REP_0 _ _ _, ⟨fun _ h => absurd h (Nat.not_lt_zero _), fun _ _ _ h => absurd h (Nat.not_lt_zero _)⟩, Nat.le_refl _, fun r hr => smS_o (by omega)⟩ (by omega) ?_
  rintro k q hk ⟨M1, n', c', x', y', rfl, g1, g2, g3, g4, g5⟩ rc
  unfold m_X11_reduce_b79
  simp only []
  rw [g5 (b + 16) (by omega), h16]
  by_cases e : k = D
  · right
    subst e
    rw [if_pos (Int32.le_refl _)]
    exact ⟨M1, n', c', x', y', rfl, g1, g2, g3, g4, g5⟩
  · left
    obtain ⟨q1, q2, q3, q4⟩ := hxy k (by omega)
    obtain ⟨M2, n2, c2, x2, y2, d1, d2, d3, d4, d5, d6⟩ := m_bring (q := 500) (c0 := (w k).val) (i := x k) (j := y k) m1 m2 m3 (show n' < 16 by omega) (by omega) hp hp2 g1 g2 g3 (w k).isLt (by omega) (by omega)
    rw [if_neg (fun w => by rw [nI_le_iff (by omega) (by omega)] at w; omega), cl_nI (n := k) (by omega), show smLn (0 + 506) = 9 from g_347.2.2.2, l0_3 hb, l0_4 hb, if_ck2 (by omega) (by omega), if_ck2 (by omega) (by omega), if_ck2 (by omega) (by omega), g5 (0 + 506) (by omega), show M (0 + 506) k = _ from hw k (by omega), g5 (b + 38) (by omega), q1, g5 (b + 39) (by omega), q2, g5 (0 + 1) (by omega), show M (0 + 1) 0 = nI p from h0, show m_X5_bring (0 + 500) (nI (w k).val) (nI (x k)) (nI (y k)) (nI p) M1 = some M2 from d1, Option.bind_some, nI_add_1]
    exact ⟨_, by omega, ⟨M2, n2, c2, x2, y2, rfl, d2, d3, d4, by omega, fun r hr => (d6 r hr).trans (g5 r hr)⟩, rfl⟩
theorem m12_reducel {M : smM} {s D p : Nat} [NeZero p] {w : Nat → Fin p} {x y : Nat → Nat} (hD : D ≤ 9) (hp : 2 ≤ p) (hp2 : p ≤ 97) (h0 : M 1000 0 = nI p) (h29 : M 1000 29 = nI D) (h52 : M 1000 52 = nI 0) (hw : ∀ d, d < 9 → M 1031 d = nI (- w d).val) (hxy : ∀ k, k < D → M 1022 k = nI (x k) ∧ M 1023 k = nI (y k) ∧ x k < 1000 ∧ y k < 1000) : ∃ (M' : smM) (n' : Nat) (c' x' y' : Nat → Nat), smLp (fun rc q => m_X12_reduce_b59 1000 (nI s) rc q.1 q.2) smF ((0 : Int32), M) = (smB2 (m_X12_gives 1000 (nI s) M') fun v107 M107 => some (v107, M107)) ∧ PO2 M' n' c' x' y' ∧ REP (fl p (fun k => (w k).val) x y D) n' c' x' y' ∧ (∀ k, k < n' → c' k < p ∧ x' k < 2147483648 ∧ y' k < 2147483648) ∧ n' ≤ D ∧ FR2 M M' := by
  refine lp_pst D (fun k q => ∃ (M' : smM) (n' : Nat) (c' x' y' : Nat → Nat), q = (nI k, M') ∧ PO2 M' n' c' x' y' ∧ REP (fl p (fun k => (w k).val) x y k) n' c' x' y' ∧ (∀ k, k < n' → c' k < p ∧ x' k < 2147483648 ∧ y' k < 2147483648) ∧ n' ≤ k ∧ FR2 M M') (fun e => ∃ (M' : smM) (n' : Nat) (c' x' y' : Nat → Nat), e = (smB2 (m_X12_gives 1000 (nI s) M') fun v107 M107 => some (v107, M107)) ∧ PO2 M' n' c' x' y' ∧ REP (fl p (fun k => (w k).val) x y D) n' c' x' y' ∧ (∀ k, k < n' → c' k < p ∧ x' k < 2147483648 ∧ y' k < 2147483648) ∧ n' ≤ D ∧ FR2 M M') ⟨M, 0, fun _ => 0, fun _ => 0, fun _ => 0, rfl, ⟨h52, fun k hk => absurd hk (Nat.not_lt_zero k)⟩, REP_0 _ _ _, fun _ h => absurd h (Nat.not_lt_zero _), Nat.le_refl _, fun _ _ => rfl, fun _ _ _ _ _ => rfl⟩ (by omega) ?_
  rintro k q hk ⟨M1, n', c', x', y', rfl, g1, g2, g3, g4, g5⟩ rc
  unfold m_X12_reduce_b59
  simp only []
  rw [g5.1 29 (by omega), h29]
  by_cases e : k = D
  · right
    subst e
    rw [if_pos (Int32.le_refl _)]
    exact ⟨M1, n', c', x', y', rfl, g1, g2, g3, g4, g5⟩
  · left
    obtain ⟨q1, q2, q3, q4⟩ := hxy k (by omega)
    have hp0 : M1 1000 0 = nI p := (g5.1 0 (by omega)).trans h0
    have fr : ∀ r, 1015 ≤ r → r ≤ 1036 → M1 r = M r := fun r h1 h2 => g5.2 r (by omega) (by omega) (by omega) (by omega)
    obtain ⟨M2, n2, c2, x2, y2, d1, d2, d3, d4, d5, d6⟩ := m12_comes (c0 := (w k).val) (i := x k) (j := y k) (show n' < 40 by omega) hp hp2 hp0 g1 g2 g3 (w k).isLt (by omega) (by omega)
    rw [if_neg (fun w => by rw [nI_le_iff (by omega) (by omega)] at w; omega), cl_nI (n := k) (by omega), g_22.2.2.2.2.2.2.2.2.2, g_22.1, g_22.2.1, if_ck2 (by omega) (by omega), fr (1000 + 31) (by omega) (by omega), show M (1000 + 31) k = _ from hw k (by omega), m12_negm hp hp2 _ hp0, Option.bind_some, if_ck2 (by omega) (by omega), if_ck2 (by omega) (by omega), fr (1000 + 22) (by omega) (by omega), show M (1000 + 22) k = _ from q1, fr (1000 + 23) (by omega) (by omega), show M (1000 + 23) k = _ from q2, d1, Option.bind_some, nI_add_1]
    exact ⟨_, by omega, ⟨M2, n2, c2, x2, y2, rfl, d2, d3, d4, by omega, fun k q => (d6.1 k q).trans (g5.1 k q), fun r h1 h2 h3 h4 => (d6.2 r h1 h2 h3 h4).trans (g5.2 r h1 h2 h3 h4)⟩, rfl⟩
theorem fl_cong {p : Nat} {c c' x y : Nat → Nat} : ∀ {n : Nat}, (∀ k, k < n → c k = c' k) → fl p c x y n = fl p c' x y n
  | 0, _ => rfl
  | n + 1, h => by
    show brg p (fl p c x y n) (c n) (x n) (y n) = brg p (fl p c' x y n) (c' n) (x n) (y n)
    rw [fl_cong (fun k hk => h k (by omega)), h n (by omega)]
theorem op_reduce : Op_reduce Rel := by
  intro M1 M2 h x z
  have hr := h
  obtain ⟨p, ne, A, B, u, v, F, G, hpar, hs1, hs2, hca, hsl, him⟩ := h
  have h9 := AB9 hpar
  obtain ⟨hp, hp2⟩ := Pr_rng p hpar.1
  by_cases c : (0 : Int32) ≤ x ∧ x ≤ 3
  · by_cases d : (0 : Int32) ≤ z ∧ z ≤ 4
    · obtain ⟨s, s3, rfl⟩ := rngI (h := 3) (by omega) c.1 c.2
      obtain ⟨o, o4, rfl⟩ := rngI (h := 4) (by omega) d.1 d.2
      have ck4 : ∀ {ρ : Type} (T : Option ρ), (if nI s < 0 ∨ 4 ≤ s then none else T) = T := fun T => if_ck2 (by omega) (by omega) T
      obtain ⟨a1, a2, κ, a3, a4, a5⟩ := hsl s (by omega)
      have hκ : κ ≤ 2 := by rcases a5 with q | ⟨q, -⟩ | ⟨q, -⟩ <;> omega
      obtain ⟨w1, w2⟩ := m_wants (w := 1) (by omega) a3 a4 hκ (by omega) (by omega)
      have e1 : m_X11_reduce 0 (nI s) (nI o) M1 = Option.bind (m_X8_findWanting (13 + 20 * s) 1 M1) fun v23 => if v23 = 0 then (Option.bind (m_X11_sumVectors 0 (13 + 20 * s + 1) M1) fun M43 => smB2 (m_X11_baseIn 0 (nI o) M43) fun v48 M48 => Option.bind (m_X9_express (v48 + 16) 505 506 M48) fun M66 => Option.bind (m_X5_empty 500 M66) fun M73 => smLp (fun rc q => m_X11_reduce_b79 0 (nI s) v48 rc q.1 q.2) smF ((0 : Int32), M73)) else some (v23, M1) := by
        unfold m_X11_reduce
        rw [m_isSlot, Option.bind_some, b01_t c, if_1, m_isOrder, Option.bind_some, b01_t d, if_1, cl_nI (n := s) (by omega), show smLn (0 + 12) = 4 from g_12, ck4]
        simp only [ck4, Nat.zero_add, Nat.reduceAdd]
      have e2 : m_X12_reduce 1000 (nI s) (nI o) M2 = Option.bind (m_X12_lacks 1000 (nI s) 1 M2) fun v20 => if (0 : Int32) ≤ v20 then (Option.bind (m_X12_walksNow 1000 (nI o) M2) fun M32 => Option.bind (m_X12_formOfSlot 1000 (nI s) M32) fun M37 => smB (smS M37 1000 52 (0 : Int32)) fun M42 => smB2 (m_X12_isLeft 1000 M42) fun v46 M46 => if v46 = (-4 : Int32) then (smLp (fun rc q => m_X12_reduce_b59 1000 (nI s) rc q.1 q.2) smF ((0 : Int32), M46)) else (some ((-1 : Int32), M46))) else some (v20, M2) := by
        unfold m_X12_reduce
        rw [m12_isSlot, Option.bind_some, b01_t c, if_1, m12_isOrder, Option.bind_some, b01_t d, if_1]
      rw [show m_X8_findWanting (13 + 20 * s) 1 M1 = _ from w1, Option.bind_some] at e1
      rw [show m_X12_lacks 1000 (nI s) 1 M2 = _ from w2, Option.bind_some] at e2
      rcases a5 with rfl | ⟨rfl, n, cl, xl, yl, c1, c2, c3, c4, c5⟩ | ⟨rfl, -⟩
      · rw [if_neg (by decide), if_pos rfl, if_neg (by decide)] at e1
        rw [if_neg (by decide), if_pos rfl, if_neg (by decide)] at e2
        exact ⟨_, _, _, e1, e2, hr⟩
      · obtain ⟨Ma, f1, f2, f3, f4⟩ := m_sumVec hpar hs1 hca (show s < 4 by omega) c1 c2 c3
        have hsa : SET Ma 1 p A B u v F G := hs1.fr (fun r _ _ => f4 r (by omega) (by omega) (by omega))
        obtain ⟨Mb, N2, D, sx, sy, nm, mx, my, tl, g1, g2, g3, g4, ⟨b1, b2, b3, b4, b5⟩, g6, g7⟩ := both_base (M1 := Ma) (M2 := M2) hpar hsa hs2 f2.ca o4
        have hD : D ≤ 9 := by rw [b1.2.2.1.1]; exact h9
        obtain ⟨Mc, ρ, σ, π, k1, k2, k3, k4, k5, k6⟩ := m_nf (a := 505) (w := fun d => SV A B F G cl xl yl n d) hpar o4 g3 b1 (Or.inr rfl) (fun d hd => by rw [g6 505 (by omega)]; exact f3 d hd)
        have z1 : ∀ d, red ρ π D (fun d => SV A B F G cl xl yl n d) d = 0 := fun d => red_su0 k5 n (fun k => fz p (cl k : Int)) xl yl d
        -- the reference
        have hs2' : SET2 N2 p A B u v F G := hs2.fl g7.l
        obtain ⟨N3, l1, l2, l3⟩ := m12_formOfSlot (M := N2) hpar hs2' b5.2 (show s < 4 by omega) c1 c2 (by rw [g7.2 1003 (by omega) (by omega)]; exact c4) (fun k hk => by rw [g7.2 1004 (by omega) (by omega), g7.2 1005 (by omega) (by omega), g7.2 1006 (by omega) (by omega)]; exact c5 k hk)
        generalize hN4 : smS N3 1000 52 (0 : Int32) = N4 at e2
        have o4' : ∀ r, r ≠ 1000 → N4 r = N3 r := fun r hr => by rw [← hN4, smS_o hr]
        have z4 : ∀ k, k ≠ 52 → N4 1000 k = N2 1000 k := fun k hk => by rw [← hN4, smS_ne hk, l3 1000 (by omega) (by omega)]
        obtain ⟨N5, ρ', σ', π', sx', sy', q1, q2, q3, q4, q5, q6⟩ := m12_nf (w := fun d => SV A B F G cl xl yl n d) (M := N4) hp hp2 (by rw [z4 0 (by omega)]; exact hs2'.1) (b5.fr (z4 29 (by omega)) (fun r hr => by rw [o4' r (by omega), l3 r (by omega) (by omega)])) (fun d hd => by rw [o4' 1020 (by omega)]; exact l2 d hd) (fun ρ π h d => red_su0 h n (fun k => fz p (cl k : Int)) xl yl d)
        have eq : ∀ k, k < D → shr ρ σ π D (fun d => SV A B F G cl xl yl n d) k = shr ρ' σ' π' D (fun d => SV A B F G cl xl yl n d) k := fun k hk => nf_one b1.2.2.2.2.1 q3 k4 q4 z1 q5 hk
        have f5 : ∀ k, k ≠ 52 → N5 1000 k = N2 1000 k := fun k hk => by rw [q6 1000 (by omega) (by omega), z4 k hk]
        have f6 : ∀ r, r ≠ 1000 → (r < 1018 ∨ 1021 < r) → r ≠ 1031 → r ≠ 1040 → N5 r = N2 r := fun r h1 h2 h3 h4 => by rw [q6 r (by omega) (by omega), o4' r h1, l3 r h2 h4]
        have hrel : Rel Mc N5 := rel_l hpar hs1 hs2 hsl him (fun r hr => by rw [k6 r (by omega) (by omega), g6 r (by omega), f4 r (by omega) (by omega) (by omega)]) k3 (g7.l.trans ⟨fun k _ => f5 k (by omega), fun r h1 h2 => f6 r (by omega) (by omega) (by omega) (by omega)⟩)
        have bt := tb_o (o := o) (by omega)
        have sb : ∀ k, k < D → sx k < 1000 ∧ sy k < 1000 := fun k hk => by have := (b1.2.2.2.1 k hk).2.2.1; omega
        have h1c : Mc 1 0 = nI p := by rw [k6 1 (by omega) (by omega), g6 1 (by omega)]; exact hsa.1
        obtain ⟨Md, n1, x1, y1, t1, r1, r2, r3, r4, r5, r6⟩ := m_reducel (M := Mc) (b := 149 + 58 * o) (s := s) (D := D) (w := shr ρ σ π D (fun d => SV A B F G cl xl yl n d)) (x := sx) (y := sy) bt (by omega) hD hp hp2 h1c (by rw [k6 _ (by omega) (by omega)]; exact b1.2.2.1.2) k2 (fun k hk => by rw [k6 _ (by omega) (by omega), k6 (149 + 58 * o + 39) (by omega) (by omega)]; exact ⟨(b1.2.2.2.1 k hk).1, (b1.2.2.2.1 k hk).2.1, sb k hk⟩)
        obtain ⟨N6, n2, x2, y2, t2, u1, u2, u3, u4, u5, u6⟩ := m12_reducel (M := N5) (s := s) (D := D) (w := shr ρ' σ' π' D (fun d => SV A B F G cl xl yl n d)) (x := sx) (y := sy) hD hp hp2 (by rw [f5 0 (by omega)]; exact hs2'.1) (by rw [f5 29 (by omega)]; exact b3) (by rw [q6 1000 (by omega) (by omega), ← hN4, smS_at]; rfl) q2 (fun k hk => by rw [f6 1022 (by omega) (by omega) (by omega) (by omega), f6 1023 (by omega) (by omega) (by omega) (by omega)]; exact ⟨(b4 k hk).1, (b4 k hk).2, sb k hk⟩)
        have efl : fl p (fun k => (shr ρ' σ' π' D (fun d => SV A B F G cl xl yl n d) k).val) sx sy D = fl p (fun k => (shr ρ σ π D (fun d => SV A B F G cl xl yl n d) k).val) sx sy D := fl_cong (fun k hk => by rw [eq k hk])
        rw [efl] at u3
        obtain ⟨r, M1', M2', v1, v2, v3⟩ := settle_add (p := p) (M1 := Mc) (M2 := N5) (M1b := Md) (M2b := N6) (s := s) hrel (fun p' ne' A' B' u' v' F' G' h' hq => (nI_inj (by omega) (by omega)).mp (h'.1.symm.trans h1c)) (by omega) (by rw [k6 _ (by omega) (by omega), g6 _ (by omega), f4 _ (by omega) (by omega) (by omega)]; exact a3) (by rw [f6 1002 (by omega) (by omega) (by omega) (by omega), g7.2 1002 (by omega) (by omega)]; exact a4) r6 u6 r2 r3 r4 (by omega) u2 u3 u4 hp2 (by omega)
        have hem : m_X5_empty 500 Mc = some (smS Mc 500 0 0) := by unfold m_X5_empty; rw [smB_e]
        rw [if_pos rfl, if_0, f1, Option.bind_some, g1, smB2_e, k1, Option.bind_some, hem, Option.bind_some, r1, v1, smB2_e] at e1
        rw [if_pos rfl, if_pos (by decide), g2, Option.bind_some, l1, Option.bind_some, smB_e, hN4, q1, smB2_e, if_pos rfl, u1, v2, smB2_e] at e2
        exact ⟨_, _, _, e1, e2, v3⟩
      · rw [if_neg (by decide), if_neg (by decide), if_neg (by decide)] at e1
        rw [if_neg (by decide), if_neg (by decide), if_neg (by decide)] at e2
        exact ⟨_, _, _, e1, e2, hr⟩
    · have e1 : m_X11_reduce 0 x z M1 = some (-1, M1) := by
        unfold m_X11_reduce
        rw [m_isSlot, Option.bind_some, b01_t c, if_1, m_isOrder, Option.bind_some, b01_f d, if_0]
      have e2 : m_X12_reduce 1000 x z M2 = some (-1, M2) := by
        unfold m_X12_reduce
        rw [m12_isSlot, Option.bind_some, b01_t c, if_1, m12_isOrder, Option.bind_some, b01_f d, if_0]
      exact ⟨_, _, _, e1, e2, hr⟩
  · have e1 : m_X11_reduce 0 x z M1 = some (-1, M1) := by
      unfold m_X11_reduce
      rw [m_isSlot, Option.bind_some, b01_f c, if_0]
    have e2 : m_X12_reduce 1000 x z M2 = some (-1, M2) := by
      unfold m_X12_reduce
      rw [m12_isSlot, Option.bind_some, b01_f c, if_0]
    exact ⟨_, _, _, e1, e2, hr⟩
