/-! the roots; the call root -/
def RTL {p : Nat} [NeZero p] (A B : Nat) (F G : Nat → Nat → Fin p) (x y n : Nat) (rx ry : Nat → Nat) : Prop := (∀ k, k < n → isRt A B F G (rx k) (ry k) ∧ (rx k < x ∨ rx k = x ∧ ry k < y)) ∧ (∀ k l, k < l → l < n → rx k < rx l ∨ rx k = rx l ∧ ry k < ry l) ∧ ∀ x' y', isRt A B F G x' y' → (x' < x ∨ x' = x ∧ y' < y) → ∃ k, k < n ∧ rx k = x' ∧ ry k = y'
theorem RTL.le {p : Nat} [NeZero p] (hpr : p ∈ PrL) {A B : Nat} (hA : 1 ≤ A) {F G : Nat → Nat → Fin p} {x y n : Nat} {rx ry : Nat → Nat} (h : RTL A B F G x y n rx ry) : n ≤ A * B := roots_le hpr hA (fun k hk => (h.1 k hk).1) h.2.1
theorem RTL.skip {p : Nat} [NeZero p] {A B : Nat} {F G : Nat → Nat → Fin p} {x y n : Nat} {rx ry : Nat → Nat} (h : RTL A B F G x y n rx ry) (hn : ¬ isRt A B F G x y) : RTL A B F G x (y + 1) n rx ry := by
  refine ⟨fun k hk => ⟨(h.1 k hk).1, by have := (h.1 k hk).2; omega⟩, h.2.1, fun x' y' hr hl => ?_⟩
  by_cases e : x' = x ∧ y' = y
  · rw [e.1, e.2] at hr; exact absurd hr hn
  · exact h.2.2 x' y' hr (by omega)
theorem RTL.add {p : Nat} [NeZero p] {A B : Nat} {F G : Nat → Nat → Fin p} {x y n : Nat} {rx ry : Nat → Nat} (h : RTL A B F G x y n rx ry) (hn : isRt A B F G x y) : RTL A B F G x (y + 1) (n + 1) (up1 rx n x) (up1 ry n y) := by
  refine ⟨fun k hk => ?_, fun k l hkl hl => ?_, fun x' y' hr hl => ?_⟩
  · by_cases e : k = n
    · rw [e, up1_s, up1_s]; exact ⟨hn, by omega⟩
    · rw [up1_n e, up1_n e]
      exact ⟨(h.1 k (by omega)).1, by have := (h.1 k (by omega)).2; omega⟩
  · by_cases e : l = n
    · rw [e, up1_s, up1_s, up1_n (by omega), up1_n (by omega)]
      have := (h.1 k (by omega)).2
      omega
    · rw [up1_n e, up1_n e, up1_n (by omega), up1_n (by omega)]; exact h.2.1 k l hkl (by omega)
  · by_cases e : x' = x ∧ y' = y
    · exact ⟨n, by omega, by rw [up1_s]; exact e.1.symm, by rw [up1_s]; exact e.2.symm⟩
    · obtain ⟨k, k1, k2, k3⟩ := h.2.2 x' y' hr (by omega)
      exact ⟨k, by omega, by rw [up1_n (by omega)]; exact k2, by rw [up1_n (by omega)]; exact k3⟩
theorem RTL.row {p : Nat} [NeZero p] {A B : Nat} {F G : Nat → Nat → Fin p} {x y n : Nat} {rx ry : Nat → Nat} (h : RTL A B F G x y n rx ry) (hn : ∀ y', y ≤ y' → ¬ isRt A B F G x y') : RTL A B F G (x + 1) 0 n rx ry := by
  refine ⟨fun k hk => ⟨(h.1 k hk).1, by have := (h.1 k hk).2; omega⟩, h.2.1, fun x' y' hr hl => ?_⟩
  by_cases e : x' = x ∧ y ≤ y'
  · rw [e.1] at hr; exact absurd hr (hn y' e.2)
  · exact h.2.2 x' y' hr (by omega)
theorem RTL.done {p : Nat} [NeZero p] {A B : Nat} {F G : Nat → Nat → Fin p} {n : Nat} {rx ry : Nat → Nat} (h : RTL A B F G p 0 n rx ry) : RTS A B F G n rx ry := ⟨fun k hk => (h.1 k hk).1, h.2.1, fun x y hr => h.2.2 x y hr (Or.inl hr.1)⟩
theorem RTL.zero {p : Nat} [NeZero p] (A B : Nat) (F G : Nat → Nat → Fin p) (rx ry : Nat → Nat) : RTL A B F G 0 0 0 rx ry := ⟨fun k hk => absurd hk (Nat.not_lt_zero _), fun k l _ hl => absurd hl (Nat.not_lt_zero _), fun x' y' _ hl => by omega⟩
theorem RTS.eq {p : Nat} [NeZero p] {A B : Nat} {F G : Nat → Nat → Fin p} {n n' : Nat} {rx ry rx' ry' : Nat → Nat} (h : RTS A B F G n rx ry) (h' : RTS A B F G n' rx' ry') : n = n' ∧ ∀ k, k < n → rx k = rx' k ∧ ry k = ry' k := by
  refine rise_eq (k1 := fun x _ => x) (k2 := fun _ y => y) h.2.1 h'.2.1 (fun i j => ⟨?_, ?_⟩)
  · rintro ⟨k, k1, k2, k3⟩
    have := h.1 k k1
    rw [k2, k3] at this
    exact h'.2.2 i j this
  · rintro ⟨k, k1, k2, k3⟩
    have := h'.1 k k1
    rw [k2, k3] at this
    exact h.2.2 i j this
theorem isRt_ev {p : Nat} [NeZero p] {A B : Nat} {F G : Nat → Nat → Fin p} {x y : Nat} (hx : x < p) (hy : y < p) : isRt A B F G x y ↔ evO 0 A B F G (fz p (x : Int)) (fz p (y : Int)) = 0 ∧ evO 1 A B F G (fz p (x : Int)) (fz p (y : Int)) = 0 := by
  unfold isRt evO
  rw [if_pos rfl, if_neg (by decide)]
  exact ⟨fun h => h.2.2, fun h => ⟨hx, hy, h⟩⟩
def RMem (M M' : smM) (n : Nat) (rx ry : Nat → Nat) : Prop := M' 93 7 = nI n ∧ (∀ k, k < n → M' 146 k = nI (rx k) ∧ M' 147 k = nI (ry k)) ∧ (∀ k, k ≠ 7 → M' 93 k = M 93 k) ∧ ∀ r, r ≠ 93 → r ≠ 146 → r ≠ 147 → M' r = M r
theorem g_146 : smLn 146 = 9 ∧ smLn 147 = 9 := by decide +kernel
theorem m_rootsAt {M M1 : smM} {p A B u v x n : Nat} [NeZero p] {F G : Nat → Nat → Fin p} {rx ry : Nat → Nat} (hpar : PARAM p A B u v) (hS : SET M 1 p A B u v F G) (hC : CU M A B u v F G) (hx : x < p) (hm : RMem M M1 n rx ry) (hr : RTL A B F G x 0 n rx ry) : ∃ (M' : smM) (n' : Nat) (rx' ry' : Nat → Nat), m_X2_findRootsAt 93 1 (nI x) M1 = some M' ∧ RMem M M' n' rx' ry' ∧ RTL A B F G (x + 1) 0 n' rx' ry' := by
  have h9 := AB9 hpar
  obtain ⟨hpr, ⟨hA, hA3⟩, ⟨hB, hB3⟩, -⟩ := hpar
  obtain ⟨hp, hp2⟩ := Pr_rng p hpr
  obtain ⟨h, c, y1, y2, y3, y4, y5⟩ := (hC.lst (w := 1) (by omega)).lp
  unfold m_X2_findRootsAt
  refine lp_pst p (fun y s => ∃ (M' : smM) (n' : Nat) (rx' ry' : Nat → Nat), s = (nI y, M') ∧ RMem M M' n' rx' ry' ∧ RTL A B F G x y n' rx' ry') (fun e => ∃ (M' : smM) (n' : Nat) (rx' ry' : Nat → Nat), e = some M' ∧ RMem M M' n' rx' ry' ∧ RTL A B F G (x + 1) 0 n' rx' ry') ⟨M1, n, rx, ry, rfl, hm, hr⟩ (by omega) ?_
  rintro y s hy ⟨M2, n2, rx2, ry2, rfl, g1, g2⟩ rc
  have fr : ∀ r, r ≠ 93 → r ≠ 146 → r ≠ 147 → M2 r = M r := g1.2.2.2
  have hS2 : SET M2 1 p A B u v F G := hS.fr (fun r _ _ => fr r (by omega) (by omega) (by omega))
  unfold m_X2_findRootsAt_b2
  simp only []
  rw [hS2.1]
  by_cases ey : y = p
  · right
    subst ey
    rw [if_pos (Int32.le_refl _)]
    exact ⟨M2, n2, rx2, ry2, rfl, g1, g2.row (fun y' h1 h2 => by have := h2.2.1; omega)⟩
  · left
    have hy : y < p := by omega
    have zl := m_lstZero (q := 140) (M := M2) (x := y) (g_ln 1 (by omega)).1 hp hp2 y1 (by rw [fr 140 (by omega) (by omega) (by omega)]; exact y2) (by rw [fr 140 (by omega) (by omega) (by omega)]; exact y3) (fun k hk => by rw [fr (140 + 1) (by omega) (by omega) (by omega)]; exact y4 k hk) hy
    have z0 := m_setZero (o := 0) (x := x) (y := y) (M := M2) hp hp2 hA3 hB3 hS2 (by omega) hx hy
    have z1 := m_setZero (o := 1) (x := x) (y := y) (M := M2) hp hp2 hA3 hB3 hS2 (by omega) hx hy
    rw [if_neg (fun w => by rw [nI_le_iff (by omega) (by omega)] at w; omega), c1_cl, show smLn (93 + 40) = 2 from g_le.2.2.2.1, ck_1 (by omega), show m_X3_isZeroAt (93 + 40 + 1 + 6 * 1) (nI y) M2 = _ from zl, show m_X7_isZeroAt 1 0 (nI x) (nI y) M2 = _ from z0, show m_X7_isZeroAt 1 1 (nI x) (nI y) M2 = _ from z1]
    have skip : ¬ isRt A B F G x y → ∃ s', y < p ∧ (∃ (M' : smM) (n' : Nat) (rx' ry' : Nat → Nat), s' = (nI (y + 1), M') ∧ RMem M M' n' rx' ry' ∧ RTL A B F G x (y + 1) n' rx' ry') ∧ m_X2_findRootsAt_j47 93 1 (nI x) (nI y) M2 rc = rc s' := fun q => by
      unfold m_X2_findRootsAt_j47 m_X2_findRootsAt_j48
      rw [if_0, nI_add_1]
      exact ⟨_, hy, ⟨M2, n2, rx2, ry2, rfl, g1, g2.skip q⟩, rfl⟩
    by_cases c1 : su (fun k => c k * fpw (fz p (y : Int)) k) (h + 1) = 0
    · rw [if_pos c1, Option.bind_some, if_1]
      by_cases c2 : evO 0 A B F G (fz p (x : Int)) (fz p (y : Int)) = 0
      · rw [if_pos c2, Option.bind_some, if_1]
        by_cases c3 : evO 1 A B F G (fz p (x : Int)) (fz p (y : Int)) = 0
        · rw [if_pos c3, Option.bind_some, if_1]
          have hrt : isRt A B F G x y := (isRt_ev hx hy).mpr ⟨c2, c3⟩
          have hadd := g2.add hrt
          have hle := hadd.le hpr hA
          unfold m_X2_findRootsAt_j48
          rw [if_1, g1.1, if_neg (nI_9 (by omega)), cl_nI (n := n2) (by omega), show smLn (93 + 53) = 9 from g_146.1, show smLn (93 + 54) = 9 from g_146.2, if_ck2 (by omega) (by omega), smB_e, smS_o (show 93 ≠ 93 + 53 by omega), g1.1, cl_nI (n := n2) (by omega), if_ck2 (by omega) (by omega), smB_e, smB_e, smS_o (show 93 ≠ 93 + 54 by omega), smS_o (show 93 ≠ 93 + 53 by omega), g1.1, nI_add_1, nI_add_1]
          refine ⟨_, hy, ⟨_, n2 + 1, up1 rx2 n2 x, up1 ry2 n2 y, rfl, ⟨smS_at, fun k hk => ?_, fun k hk => ?_, fun r h1 h2 h3 => ?_⟩, hadd⟩, rfl⟩
          · rw [smS_o (show (146 : Nat) ≠ 93 by omega), smS_o (show (147 : Nat) ≠ 93 by omega), smS_o (show (146 : Nat) ≠ 93 + 54 by omega)]
            by_cases e : k = n2
            · subst e
              rw [up1_s, up1_s]
              exact ⟨smS_at, smS_at⟩
            · rw [up1_n e, up1_n e]
              refine ⟨(smS_ne e).trans (g1.2.1 k (by omega)).1, (smS_ne e).trans ?_⟩
              rw [smS_o (show 93 + 54 ≠ 93 + 53 by omega)]
              exact (g1.2.1 k (by omega)).2
          · rw [smS_ne hk, smS_o (by omega), smS_o (by omega)]; exact g1.2.2.1 k hk
          · rw [smS_o h1, smS_o h3, smS_o h2]; exact fr r h1 h2 h3
        · rw [if_neg c3, Option.bind_some, if_0]
          exact skip (fun w => c3 ((isRt_ev hx hy).mp w).2)
      · rw [if_neg c2, Option.bind_some, if_0]
        exact skip (fun w => c2 ((isRt_ev hx hy).mp w).1)
    · rw [if_neg c1, Option.bind_some, if_0]
      exact skip (fun w => c1 (by
        have := lp_root w.2.2.1 w.2.2.2 y5
        rw [if_neg (by decide)] at this
        exact this))
theorem m_countRoots {M : smM} {p A B u v : Nat} [NeZero p] {F G : Nat → Nat → Fin p} (hpar : PARAM p A B u v) (hS : SET M 1 p A B u v F G) (hC : CU M A B u v F G) : ∃ (M' : smM) (n : Nat) (rx ry : Nat → Nat), m_X2_countRoots 93 1 M = some (nI n, M') ∧ CU M' A B u v F G ∧ n ≤ 9 ∧ RTS A B F G n rx ry ∧ (∀ k, k < n → M' 146 k = nI (rx k) ∧ M' 147 k = nI (ry k)) ∧ ∀ r, r ≠ 93 → r ≠ 146 → r ≠ 147 → M' r = M r := by
  have h9 := AB9 hpar
  have hpar' := hpar
  obtain ⟨hpr, ⟨hA, hA3⟩, ⟨hB, hB3⟩, -⟩ := hpar
  obtain ⟨hp, hp2⟩ := Pr_rng p hpr
  unfold m_X2_countRoots
  rcases hC.2.2.2.2.2.2 with hm | ⟨n, rx, ry, h1, h2, h3, h4⟩
  · rw [hm, if_pos (by decide), smB_e]
    obtain ⟨h, c, y1, y2, y3, y4, y5⟩ := (hC.lst (w := 0) (by omega)).lp
    refine lp_pst p (fun x s => ∃ (M' : smM) (n' : Nat) (rx' ry' : Nat → Nat), s = (nI x, M') ∧ RMem M M' n' rx' ry' ∧ RTL A B F G x 0 n' rx' ry') (fun e => ∃ (M' : smM) (n : Nat) (rx ry : Nat → Nat), e = some (nI n, M') ∧ CU M' A B u v F G ∧ n ≤ 9 ∧ RTS A B F G n rx ry ∧ (∀ k, k < n → M' 146 k = nI (rx k) ∧ M' 147 k = nI (ry k)) ∧ ∀ r, r ≠ 93 → r ≠ 146 → r ≠ 147 → M' r = M r) ⟨smS M 93 7 0, 0, fun _ => 0, fun _ => 0, rfl, ⟨smS_at, fun k hk => absurd hk (Nat.not_lt_zero _), fun k hk => smS_ne hk, fun r h1 _ _ => smS_o h1⟩, RTL.zero ..⟩ (by omega) ?_
    rintro x s hx ⟨M2, n2, rx2, ry2, rfl, g1, g2⟩ rc
    have fr : ∀ r, r ≠ 93 → r ≠ 146 → r ≠ 147 → M2 r = M r := g1.2.2.2
    unfold m_X2_countRoots_b19
    simp only []
    rw [fr 1 (by omega) (by omega) (by omega), hS.1]
    by_cases ex : x = p
    · right
      subst ex
      rw [if_pos (Int32.le_refl _), g1.1]
      have hle := g2.le hpr hA
      obtain ⟨q1, q2, q3, q4, q5, q6, q7⟩ := hC
      refine ⟨M2, n2, rx2, ry2, rfl, ⟨?_, q2.fr hA3 hB3 (fun r _ _ => fr r (by omega) (by omega) (by omega)), ?_, fun o ho => ?_, q5.fr2 (fr _ (by omega) (by omega) (by omega)) (fr _ (by omega) (by omega) (by omega)), q6.fr2 (fr _ (by omega) (by omega) (by omega)) (fr _ (by omega) (by omega) (by omega)), Or.inr ⟨n2, rx2, ry2, by omega, g1.1, g2.done, g1.2.1⟩⟩, by omega, g2.done, g1.2.1, fr⟩
      · rw [g1.2.2.1 6 (by omega)]; exact q1
      · rw [fr 439 (by omega) (by omega) (by omega)]; exact q3
      · rw [fr 439 (by omega) (by omega) (by omega)]
        refine (q4 o ho).imp id ?_
        rintro ⟨a, D, sx, sy, nm, mx, my, tl, b⟩
        exact ⟨a, D, sx, sy, nm, mx, my, tl, b.fr (fun r _ _ => fr r (by omega) (by omega) (by omega))⟩
    · left
      have hx : x < p := by omega
      have zl := m_lstZero (q := 134) (M := M2) (x := x) (g_ln 0 (by omega)).1 hp hp2 y1 (by rw [fr 134 (by omega) (by omega) (by omega)]; exact y2) (by rw [fr 134 (by omega) (by omega) (by omega)]; exact y3) (fun k hk => by rw [fr (134 + 1) (by omega) (by omega) (by omega)]; exact y4 k hk) hx
      rw [if_neg (fun w => by rw [nI_le_iff (by omega) (by omega)] at w; omega), c0_cl, show smLn (93 + 40) = 2 from g_le.2.2.2.1, ck_0 (by omega), show m_X3_isZeroAt (93 + 40 + 1 + 6 * 0) (nI x) M2 = _ from zl, nI_add_1]
      by_cases c1 : su (fun k => c k * fpw (fz p (x : Int)) k) (h + 1) = 0
      · obtain ⟨M3, n3, rx3, ry3, k1, k2, k3⟩ := m_rootsAt hpar' hS hC hx g1 g2
        rw [if_pos c1, Option.bind_some, if_1, k1, Option.bind_some]
        exact ⟨_, hx, ⟨M3, n3, rx3, ry3, rfl, k2, k3⟩, rfl⟩
      · rw [if_neg c1, Option.bind_some, if_0]
        refine ⟨_, hx, ⟨M2, n2, rx2, ry2, rfl, g1, g2.row (fun y' _ w => c1 ?_)⟩, rfl⟩
        have := lp_root w.2.2.1 w.2.2.2 y5
        rw [if_pos rfl] at this
        exact this
  · rw [h2, if_neg (nI_pos (by omega))]
    exact ⟨M, n, rx, ry, rfl, hC, h1, h3, h4, fun _ _ _ _ => rfl⟩
def RMem2 (M M' : smM) (n : Nat) (rx ry : Nat → Nat) : Prop := M' 1000 46 = nI n ∧ (∀ k, k < n → M' 1035 k = nI (rx k) ∧ M' 1036 k = nI (ry k)) ∧ (∀ k, k ≠ 46 → M' 1000 k = M 1000 k) ∧ ∀ r, r ≠ 1000 → r ≠ 1035 → r ≠ 1036 → M' r = M r
theorem m12_findsRoots {M : smM} {p A B u v : Nat} [NeZero p] {F G : Nat → Nat → Fin p} (hpar : PARAM p A B u v) (hS : SET2 M p A B u v F G) : ∃ (M' : smM) (n : Nat) (rx ry : Nat → Nat), m_X12_findsRoots 1000 M = some M' ∧ RMem2 M M' n rx ry ∧ n ≤ 9 ∧ RTS A B F G n rx ry := by
  have h9 := AB9 hpar
  obtain ⟨hpr, ⟨hA, hA3⟩, ⟨hB, hB3⟩, -⟩ := hpar
  obtain ⟨hp, hp2⟩ := Pr_rng p hpr
  unfold m_X12_findsRoots
  rw [smB_e]
  let Q : Option smM → Prop := fun e => ∃ (M' : smM) (n : Nat) (rx ry : Nat → Nat), e = some M' ∧ RMem2 M M' n rx ry ∧ n ≤ 9 ∧ RTS A B F G n rx ry
  refine lp_pst p (fun x s => ∃ (M' : smM) (n' : Nat) (rx' ry' : Nat → Nat), s = (nI x, M') ∧ RMem2 M M' n' rx' ry' ∧ RTL A B F G x 0 n' rx' ry') Q ⟨smS M 1000 46 0, 0, fun _ => 0, fun _ => 0, rfl, ⟨smS_at, fun k hk => absurd hk (Nat.not_lt_zero _), fun k hk => smS_ne hk, fun r h1 _ _ => smS_o h1⟩, RTL.zero ..⟩ (by omega) ?_
  rintro x s hx ⟨M2, n2, rx2, ry2, rfl, g1, g2⟩ rc
  unfold m_X12_findsRoots_b7
  simp only []
  rw [g1.2.2.1 0 (by omega), hS.1]
  by_cases ex : x = p
  · right
    subst ex
    rw [if_pos (Int32.le_refl _)]
    have hle := g2.le hpr hA
    exact ⟨M2, n2, rx2, ry2, rfl, g1, by omega, g2.done⟩
  · have hx : x < p := by omega
    rw [if_neg (fun w => by rw [nI_le_iff (by omega) (by omega)] at w; omega)]
    refine lp_pst p (fun y s => ∃ (M' : smM) (n' : Nat) (rx' ry' : Nat → Nat), s = (nI y, M') ∧ RMem2 M M' n' rx' ry' ∧ RTL A B F G x y n' rx' ry') (fun e => (∃ s', x < p ∧ (∃ (M' : smM) (n' : Nat) (rx' ry' : Nat → Nat), s' = (nI (x + 1), M') ∧ RMem2 M M' n' rx' ry' ∧ RTL A B F G (x + 1) 0 n' rx' ry') ∧ e = rc s') ∨ Q e) ⟨M2, n2, rx2, ry2, rfl, g1, g2⟩ (by omega) ?_
    rintro y s hy ⟨M3, n3, rx3, ry3, rfl, k1, k2⟩ rc2
    unfold m_X12_findsRoots_b17
    simp only []
    have hS3 : SET2 M3 p A B u v F G := hS.fr (fun k hk => k1.2.2.1 k (by omega)) (k1.2.2.2 1001 (by omega) (by omega) (by omega))
    rw [k1.2.2.1 0 (by omega), hS.1]
    by_cases ey : y = p
    · right
      left
      subst ey
      rw [if_pos (Int32.le_refl _), nI_add_1]
      exact ⟨_, hx, ⟨M3, n3, rx3, ry3, rfl, k1, k2.row (fun y' h1 h2 => by have := h2.2.1; omega)⟩, rfl⟩
    · left
      have hy : y < p := by omega
      have z0 := m12_valueOf (o := 0) (x := x) (y := y) (M := M3) hp hp2 hA3 hB3 hS3 (by omega) hx hy
      have z1 := m12_valueOf (o := 1) (x := x) (y := y) (M := M3) hp hp2 hA3 hB3 hS3 (by omega) hx hy
      rw [if_neg (fun w => by rw [nI_le_iff (by omega) (by omega)] at w; omega), show m_X12_valueOf 1000 0 (nI x) (nI y) M3 = _ from z0, Option.bind_some, show m_X12_valueOf 1000 1 (nI x) (nI y) M3 = _ from z1, Option.bind_some, nI_add_1]
      have skip : ¬ isRt A B F G x y → ∃ s', y < p ∧ (∃ (M' : smM) (n' : Nat) (rx' ry' : Nat → Nat), s' = (nI (y + 1), M') ∧ RMem2 M M' n' rx' ry' ∧ RTL A B F G x (y + 1) n' rx' ry') ∧ rc2 (nI (y + 1), M3) = rc2 s' := fun q => ⟨_, hy, ⟨M3, n3, rx3, ry3, rfl, k1, k2.skip q⟩, rfl⟩
      by_cases c2 : evO 0 A B F G (fz p (x : Int)) (fz p (y : Int)) = 0
      · rw [if_pos ((fin_z hp2 _).mpr c2)]
        by_cases c3 : evO 1 A B F G (fz p (x : Int)) (fz p (y : Int)) = 0
        · rw [if_pos ((fin_z hp2 _).mpr c3)]
          have hrt : isRt A B F G x y := (isRt_ev hx hy).mpr ⟨c2, c3⟩
          have hadd := k2.add hrt
          have hle := hadd.le hpr hA
          rw [k1.1, cl_nI (n := n3) (by omega), g_32.2.2.2.1, g_32.2.2.2.2, if_ck2 (by omega) (by omega), smB_e, smS_o (show 1000 ≠ 1000 + 35 by omega), k1.1, cl_nI (n := n3) (by omega), if_ck2 (by omega) (by omega), smB_e, smB_e, smS_o (show 1000 ≠ 1000 + 36 by omega), smS_o (show 1000 ≠ 1000 + 35 by omega), k1.1, nI_add_1]
          refine ⟨_, hy, ⟨_, n3 + 1, up1 rx3 n3 x, up1 ry3 n3 y, rfl, ⟨smS_at, fun k hk => ?_, fun k hk => ?_, fun r h1 h2 h3 => ?_⟩, hadd⟩, rfl⟩
          · rw [smS_o (show (1035 : Nat) ≠ 1000 by omega), smS_o (show (1036 : Nat) ≠ 1000 by omega), smS_o (show (1035 : Nat) ≠ 1000 + 36 by omega)]
            by_cases e : k = n3
            · subst e
              rw [up1_s, up1_s]
              exact ⟨smS_at, smS_at⟩
            · rw [up1_n e, up1_n e]
              refine ⟨(smS_ne e).trans (k1.2.1 k (by omega)).1, (smS_ne e).trans ?_⟩
              rw [smS_o (show 1000 + 36 ≠ 1000 + 35 by omega)]
              exact (k1.2.1 k (by omega)).2
          · rw [smS_ne hk, smS_o (by omega), smS_o (by omega)]; exact k1.2.2.1 k hk
          · rw [smS_o h1, smS_o h3, smS_o h2]; exact k1.2.2.2 r h1 h2 h3
        · rw [if_neg (fun w => c3 ((fin_z hp2 _).mp w))]
          exact skip (fun w => c3 ((isRt_ev hx hy).mp w).2)
      · rw [if_neg (fun w => c2 ((fin_z hp2 _).mp w))]
        exact skip (fun w => c2 ((isRt_ev hx hy).mp w).1)
theorem RMem2.fl {M M' : smM} {n : Nat} {rx ry : Nat → Nat} (h : RMem2 M M' n rx ry) : FRL M M' := ⟨fun k hk => h.2.2.1 k (by omega), fun r h1 h2 => h.2.2.2 r (by omega) (by omega) (by omega)⟩
theorem op_root : Op_root Rel := by
  intro M1 M2 h x y
  have hr := h
  obtain ⟨p, ne, A, B, u, v, F, G, hpar, hs1, hs2, hca, hsl, him⟩ := h
  by_cases cx : x < 0
  · have e1 : m_X11_root 0 x y M1 = some (-1, M1) := by
      unfold m_X11_root
      rw [if_pos cx]
    have e2 : m_X12_root 1000 x y M2 = some (-1, M2) := by
      unfold m_X12_root
      rw [if_pos cx]
    exact ⟨_, _, _, e1, e2, hr⟩
  · by_cases c : (0 : Int32) ≤ y ∧ y ≤ 1
    · obtain ⟨k, hk, rfl⟩ := nat_of (x := x) (by rw [Int32.lt_iff_toInt_lt] at cx; rw [Int32.le_iff_toInt_le]; omega)
      obtain ⟨Ma, a1, a2, a3⟩ := m_current hpar hs1 hca
      obtain ⟨Mb, n, rx, ry, b1, b2, b3, b4, b5, b6⟩ := m_countRoots hpar (hs1.fr (fun r _ _ => a3 r (by omega))) a2
      obtain ⟨Mc, n', rx', ry', c1, c2, c3, c4⟩ := m12_findsRoots hpar hs2
      obtain ⟨en, ee⟩ := b4.eq c4
      subst en
      have hrel := rel_l hpar hs1 hs2 hsl him (fun r hr => (b6 r (by omega) (by omega) (by omega)).trans (a3 r (by omega))) b2 c2.fl
      have e1 : m_X11_root 0 (nI k) y M1 = if nI k < nI n then (if y = (0 : Int32) then (if nI k < 0 ∨ 9 ≤ k then none else some ((Mb 146 k), Mb)) else (if nI k < 0 ∨ 9 ≤ k then none else some ((Mb 147 k), Mb))) else (some ((-4 : Int32), Mb)) := by
        unfold m_X11_root
        rw [if_neg cx, m_isUnknown, Option.bind_some, b01_t c, if_1, a1, smB2_e, show m_X2_countRoots 93 (0 + 1) Ma = _ from b1, smB2_e, cl_nI (n := k) hk, show smLn (0 + 93 + 53) = 9 from g_146.1, show smLn (0 + 93 + 54) = 9 from g_146.2]
      have e2 : m_X12_root 1000 (nI k) y M2 = if nI k < nI n then (if y = (0 : Int32) then (if nI k < 0 ∨ 9 ≤ k then none else some ((Mc 1035 k), Mc)) else (if nI k < 0 ∨ 9 ≤ k then none else some ((Mc 1036 k), Mc))) else (some ((-4 : Int32), Mc)) := by
        unfold m_X12_root
        rw [if_neg cx, show (0 : Int64) = (0 : Int32).toInt64 from rfl, show (1 : Int64) = (1 : Int32).toInt64 from rfl, m12_in, Option.bind_some, b01_t c, if_1, c1, Option.bind_some, c2.1, cl_nI (n := k) hk, g_32.2.2.2.1, g_32.2.2.2.2]
      by_cases ck : k < n
      · rw [if_pos ((nI_lt_iff (by omega) (by omega)).mpr ck), if_ck2 (by omega) (by omega), if_ck2 (by omega) (by omega), (b5 k ck).1, (b5 k ck).2] at e1
        rw [if_pos ((nI_lt_iff (by omega) (by omega)).mpr ck), if_ck2 (by omega) (by omega), if_ck2 (by omega) (by omega), (c2.2.1 k ck).1, (c2.2.1 k ck).2, ← (ee k ck).1, ← (ee k ck).2] at e2
        by_cases q : y = (0 : Int32)
        · rw [if_pos q] at e1 e2
          exact ⟨_, _, _, e1, e2, hrel⟩
        · rw [if_neg q] at e1 e2
          exact ⟨_, _, _, e1, e2, hrel⟩
      · rw [if_neg (fun w => ck ((nI_lt_iff (by omega) (by omega)).mp w))] at e1 e2
        exact ⟨_, _, _, e1, e2, hrel⟩
    · have e1 : m_X11_root 0 x y M1 = some (-1, M1) := by
        unfold m_X11_root
        rw [if_neg cx, m_isUnknown, Option.bind_some, b01_f c, if_0]
      have e2 : m_X12_root 1000 x y M2 = some (-1, M2) := by
        unfold m_X12_root
        rw [if_neg cx, show (0 : Int64) = (0 : Int32).toInt64 from rfl, show (1 : Int64) = (1 : Int32).toInt64 from rfl, m12_in, Option.bind_some, b01_f c, if_0]
      exact ⟨_, _, _, e1, e2, hr⟩
