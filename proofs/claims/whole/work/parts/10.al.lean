/-! the walk of the class: one visit -/
theorem fz_1 {p : Nat} [NeZero p] (hp : 2 ≤ p) : fz p ((1 : Nat) : Int) = 1 := by
  have e : ((1 : Fin p).val) = 1 := by
    show 1 % p = 1
    exact Nat.mod_eq_of_lt (by omega)
  exact (fz_eq (a := (1 : Fin p)) (by rw [e])).symm
theorem least_k {P : Nat → Prop} : ∀ {n : Nat}, (∃ k, k < n ∧ P k) → ∃ k, k < n ∧ P k ∧ ∀ l, l < k → ¬ P l
  | 0, h => by obtain ⟨k, hk, -⟩ := h; omega
  | n + 1, h => by
    by_cases q : ∃ k, k < n ∧ P k
    · obtain ⟨k, k1, k2, k3⟩ := least_k q
      exact ⟨k, by omega, k2, k3⟩
    · obtain ⟨k, k1, k2⟩ := h
      have e : k = n := by
        by_cases c : k < n
        · exact absurd ⟨k, c, k2⟩ q
        · omega
      subst e
      exact ⟨k, k1, k2, fun l hl hp => q ⟨l, hl, hp⟩⟩
theorem nI_0le {n : Nat} (h : n < 2147483648) : (0 : Int32) ≤ nI n := nI_le (a := 0) (Nat.zero_le n) h
theorem m_visit1 {b q p A B f : Nat} [NeZero p] {F G : Nat → Nat → Fin p} {M : smM} {o u v n : Nat} {sx sy : Nat → Nat} {nm : Nat} {mx my : Nat → Nat} {tl ρ σ : Nat → Nat → Fin p} {π : Nat → Nat} {nb : Nat} {bx by' : Nat → Nat} {bl : Nat → Int} {un : Nat → Nat} {ps : Nat → Bool} (hb : smT 1 b 0) (hq : smT 1 q 6) (hqb : q + 39 ≤ b) (hp : 2 ≤ p) (hp2 : p ≤ 97) (hA : 1 ≤ A) (hB : 1 ≤ B) (hA3 : A ≤ 3) (hB3 : B ≤ 3) (hQ : QF M q p A B F G) (hW : WB M b A B F G o u v n sx sy nm mx my tl ρ σ π nb bx by' bl un ps) (hf : f < nb) (hfr : bdFrom n sx sy bx by' bl un f) : ∃ M1, m_X0_visit b q (nI f) M = m_X0_visit_j75 b q (nI (bx f)) (nI (by' f)) M1 ∧ (∀ r, r ≠ b + 56 → r ≠ q + 38 → M1 r = M r) ∧ ∀ d, d < 9 → M1 (b + 56) d = nI (Nn A B F G (bx f) (by' f) d).val := by
  obtain ⟨-, -, ⟨hn9, -, -, -⟩, hst, hnb, h0, hk⟩ := hW
  obtain ⟨k1, k2, k3, k4, k5, k6, k7⟩ := hk f hf
  have hc := (tb hb).2.2
  unfold m_X0_visit
  rw [l1_1 hc, l1_2 hc, l1_3 hc, l1_4 hc, cl_nI (n := f) (by omega), if_ck2 (by omega) (by omega), if_ck2 (by omega) (by omega), if_ck2 (by omega) (by omega), k1, k2, k3, k4]
  rcases hfr with ⟨z1, z2, z3⟩ | ⟨s, s1, s2, s3⟩
  · rw [z1, if_neg (by decide), m_toOne (p := p) hp (l0_7 hb), Option.bind_some]
    refine ⟨_, rfl, fun r h1 _ => fil_o h1, fun d hd => ?_⟩
    rw [fil_in hd, z2, z3, Nn_u (by omega) (by omega)]
    simp
  · obtain ⟨-, -, -, hv⟩ := hst s s1
    rw [s2, ← jI_nI, if_pos (nI_0le (by omega)), if_ck2 (by omega) (by omega), if_ck2 (by omega) (by omega), l0_5 hb, cl_nI (n := s) (by omega), if_ck2 (by omega) (by omega)]
    have hu2 : un f < 2 := by rcases s3 with ⟨a, -⟩ | ⟨a, -⟩ <;> omega
    obtain ⟨M1, e1, f1, r1⟩ := m_multiply hq hp hp2 hA hA3 hB3 hQ hu2 (l0_5r hb (j := s) (by omega)) (l0_7 hb) (Or.inr (by omega)) (Or.inr (by omega)) hv
    rw [e1, Option.bind_some]
    refine ⟨M1, rfl, fun r h1 h2 => f1 r h1 h2, fun d hd => ?_⟩
    rw [r1 d hd]
    rcases s3 with ⟨a, b1, b2⟩ | ⟨a, b1, b2⟩
    · rw [if_pos a, b1, b2]
      exact congrArg (fun w : Fin p => nI w.val) (congrFun (mulX_N (sx s) (sy s)) d)
    · rw [if_neg (by omega), b1, b2]
      exact congrArg (fun w : Fin p => nI w.val) (congrFun (mulY_N (sx s) (sy s)) d)
theorem m_visit2 {b q p n i j : Nat} [NeZero p] {M : smM} {N : Nat → Fin p} (hb : smT 1 b 0) (hqb : q + 39 ≤ b) (hp : 2 ≤ p) (hp2 : p ≤ 97) (hn : n ≤ 9) (h0 : M (b + 16) 0 = nI n) (hq0 : M q 0 = nI p) (hN : ∀ d, d < 9 → M (b + 56) d = nI (N d).val) : ∃ M2, m_X0_visit_j75 b q (nI i) (nI j) M = m_X0_visit_j120 b q (nI i) (nI j) (nI n) M2 ∧ (∀ r, (r < b + 40 + 1 + n ∨ b + 50 ≤ r) → M2 r = M r) ∧ (n < 9 → ∀ d, d < 9 → M2 (b + 40 + 1 + n) d = nI (N d).val) := by
  unfold m_X0_visit_j75
  rw [h0]
  by_cases e : n = 9
  · subst e
    rw [if_pos (by decide)]
    exact ⟨M, rfl, fun _ _ => rfl, fun h => absurd h (by omega)⟩
  · have l := l0_5r hb (j := n) (by omega)
    have h9 : ¬ (9 : Int32) ≤ nI n := by rw [show (9 : Int32) = nI 9 from rfl, nI_le_iff (by omega) (by omega)]; omega
    rw [if_neg h9, l0_5 hb, cl_nI (n := n) (by omega), if_ck2 (by omega) (by omega), m_clear l (by decide), Option.bind_some, if_ck2 (by omega) (by omega), fil_o (show q ≠ b + 40 + 1 + n by omega), hq0, show (1 : Int32) = nI 1 from rfl, m_bringMultiple (c := 1) (v := fun _ => 0) (w := N) l (l0_7 hb) (by decide) (by omega) hp hp2 (by omega) (fun k hk => by rw [fil_in hk]; rfl) (fun k hk => by rw [fil_o (by omega)]; exact hN k hk), Option.bind_some]
    refine ⟨_, rfl, fun r hr => by rw [fil_o (by omega), fil_o (by omega)], fun _ d hd => ?_⟩
    rw [fil_in hd, fz_1 hp, r_1m, r_0a]
theorem m_visit {b q p A B f : Nat} [NeZero p] {F G : Nat → Nat → Fin p} {M : smM} {o u v n : Nat} {sx sy : Nat → Nat} {nm : Nat} {mx my : Nat → Nat} {tl ρ σ : Nat → Nat → Fin p} {π : Nat → Nat} {nb : Nat} {bx by' : Nat → Nat} {bl : Nat → Int} {un : Nat → Nat} {ps : Nat → Bool} (hb : smT 1 b 0) (hq : smT 1 q 6) (hqb : q + 39 ≤ b) (hpr : p ∈ PrL) (hA : 1 ≤ A) (hB : 1 ≤ B) (hA3 : A ≤ 3) (hB3 : B ≤ 3) (ho : o ≤ 4) (hu : 1 ≤ u) (hv : 1 ≤ v) (hQ : QF M q p A B F G) (hW : WB M b A B F G o u v n sx sy nm mx my tl ρ σ π nb bx by' bl un ps) (hP : WP A B F G o u v n sx sy nm mx my tl ρ σ π nb bx by' bl un ps f) (hf : f < nb) (hpf : ps f = true) (hx : isNx (ky1 o u v) (ky2 o) n sx sy nm mx my (bx f) (by' f)) :
    ∃ (M' : smM) (n' : Nat) (sx' sy' : Nat → Nat) (nm' : Nat) (mx' my' : Nat → Nat) (tl' ρ' σ' : Nat → Nat → Fin p) (π' : Nat → Nat) (nb' : Nat) (bx' by2 : Nat → Nat) (bl' : Nat → Int) (un' : Nat → Nat) (ps' : Nat → Bool), m_X0_visit b q (nI f) M = some M' ∧ WB M' b A B F G o u v n' sx' sy' nm' mx' my' tl' ρ' σ' π' nb' bx' by2 bl' un' ps' ∧ WP A B F G o u v n' sx' sy' nm' mx' my' tl' ρ' σ' π' nb' bx' by2 bl' un' ps' 1000 ∧ ctb ps' nb' = ctb ps nb ∧ ∀ r, (r < b ∨ b + 58 ≤ r) → r ≠ q + 38 → M' r = M r := by
  have hp := (Pr_rng p hpr).1
  have hp2 := (Pr_rng p hpr).2
  have hord := ky_ok ho hu hv
  have hAB : A * B ≤ 9 := Nat.le_trans (Nat.mul_le_mul hA3 hB3) (by decide)
  have hfr := hP.2.2.2.2.2.1 f hf
  obtain ⟨M1, e1, f1, r1⟩ := m_visit1 hb hq hqb hp hp2 hA hB hA3 hB3 hQ hW hf hfr
  obtain ⟨w0, w1, w2, w3, w4⟩ := hW
  have hn9 := w2.1
  have hnb := w4.1
  have hi1 : bx f + by' f ≤ n := by
    rcases hfr with ⟨-, z2, z3⟩ | ⟨s, s1, -, ⟨-, s3, s4⟩ | ⟨-, s3, s4⟩⟩
    · omega
    · have := (w3 s s1).2.2.1; omega
    · have := (w3 s s1).2.2.1; omega
  obtain ⟨M2, e2, f2, r2⟩ := m_visit2 (N := Nn A B F G (bx f) (by' f)) (i := bx f) (j := by' f) hb hqb hp hp2 hn9 (by rw [f1 _ (by omega) (by omega)]; exact w2.2.1) (by rw [f1 _ (by omega) (by omega)]; exact hQ.1) r1
  have s2 : SP M2 (b + 16) p n ρ σ π := w2.fr (fun r h1 h2 => by rw [f2 r (Or.inl (by omega)), f1 r (by omega) (by omega)])
  obtain ⟨M3, e3, f3, hR, hH⟩ : ∃ M3, m_X9_express (b + 16) (b + 56) (b + 57) M2 = some M3 ∧ (∀ r, r ≠ b + 56 → r ≠ b + 57 → M3 r = M2 r) ∧ (∀ d, d < 9 → M3 (b + 56) d = nI (red ρ π n (Nn A B F G (bx f) (by' f)) d).val) ∧ ∀ d, d < 9 → M3 (b + 57) d = nI (shr ρ σ π n (Nn A B F G (bx f) (by' f)) d).val :=
    ⟨_, m_express (tb hb).2.1 hp hp2 s2 (l0_7 hb) (l0_8 hb) (by omega) (by omega) (by omega) (fun d hd => by rw [f2 _ (Or.inr (by omega))]; exact r1 d hd), fun r h1 h2 => by rw [fil_o h2, fil_o h1], fun d hd => by rw [fil_o (by omega), fil_in hd], fun d hd => fil_in hd⟩
  have fr3 : ∀ r, (r < b + 40 + 1 + n ∨ b + 50 ≤ r) → r ≠ b + 56 → r ≠ b + 57 → r ≠ q + 38 → M3 r = M r := fun r h1 h2 h3 h4 => by rw [f3 r h2 h3, f2 r h1, f1 r h2 h4]
  rw [e1, e2]
  unfold m_X0_visit_j120
  rw [e3, Option.bind_some]
  have m3 : MB M3 (b + 2) p nm mx my tl := w1.fr (fun r h1 h2 => fr3 r (by omega) (by omega) (by omega) (by omega))
  have s3 : SP M3 (b + 16) p n ρ σ π := w2.fr (fun r h1 h2 => fr3 r (by omega) (by omega) (by omega) (by omega))
  have b3 : BD M3 (b + 50) nb bx by' bl un ps := w4.fr (fun r h1 h2 => fr3 r (by omega) (by omega) (by omega) (by omega))
  by_cases z : ∀ d, d < 9 → red ρ π n (Nn A B F G (bx f) (by' f)) d = 0
  · have z' : ∀ d, red ρ π n (Nn A B F G (bx f) (by' f)) d = 0 := fun d => by
      by_cases c : A * B ≤ d
      · exact hP.2.1.far _ _ c
      · exact z d (by omega)
    rw [m_first_none (l0_7 hb) (by decide) (fun k hk => by rw [hR k hk, z k hk]; rfl), Option.bind_some, if_neg (by decide)]
    have hP' := hP.member hord (by omega) hx (w := shr ρ σ π n (Nn A B F G (bx f) (by' f))) (fun d => hP.2.1.tell z' d) (fun t ht => hP.2.1.share _ ht)
    have hfew := hP'.1.few hord
    obtain ⟨M4, e4, g4, f4⟩ := m_mbBring (i := bx f) (j := by' f) (tb hb).1 hp hp2 m3 (by omega) (by omega) (by omega) (l0_8 hb) (Or.inr (by omega)) hH
    rw [fr3 q (by omega) (by omega) (by omega) (by omega), hQ.1, e4, Option.bind_some]
    have fr4 : ∀ r, (r < b + 2 ∨ b + 16 ≤ r) → (r < b + 40 + 1 + n ∨ b + 50 ≤ r) → r ≠ b + 56 → r ≠ b + 57 → r ≠ q + 38 → M4 r = M r := fun r h0 h1 h2 h3 h4 => by rw [f4 r (by omega), fr3 r h1 h2 h3 h4]
    refine ⟨M4, n, sx, sy, nm + 1, _, _, _, ρ, σ, π, nb, bx, by', bl, un, ps, rfl, ⟨?_, g4, ?_, fun k hk => ?_, ?_⟩, hP', rfl, fun r h1 h2 => fr4 r (by omega) (by omega) (by omega) (by omega) h2⟩
    · rw [fr4 (b + 1) (by omega) (by omega) (by omega) (by omega) (by omega)]; exact w0
    · exact w2.fr (fun r h1 h2 => fr4 r (by omega) (by omega) (by omega) (by omega) (by omega))
    · obtain ⟨a1, a2, a3, a4⟩ := w3 k hk
      refine ⟨by rw [fr4 (b + 38) (by omega) (by omega) (by omega) (by omega) (by omega)]; exact a1, by rw [fr4 (b + 39) (by omega) (by omega) (by omega) (by omega) (by omega)]; exact a2, a3, fun d hd => ?_⟩
      rw [fr4 (b + 40 + 1 + k) (by omega) (by omega) (by omega) (by omega) (by omega)]; exact a4 d hd
    · exact w4.fr (fun r h1 h2 => fr4 r (by omega) (by omega) (by omega) (by omega) (by omega))
  · obtain ⟨t, t1, t2, t3⟩ := least_k (P := fun d => red ρ π n (Nn A B F G (bx f) (by' f)) d ≠ 0) (n := 9) (Classical.byContradiction fun q => z (fun d hd => Classical.byContradiction fun q2 => q ⟨d, hd, q2⟩))
    have t3' : ∀ l, l < t → red ρ π n (Nn A B F G (bx f) (by' f)) l = 0 := fun l hl => Classical.byContradiction fun q2 => t3 l hl q2
    have tAB : t < A * B := by
      by_cases c : A * B ≤ t
      · exact absurd (hP.2.1.far _ _ c) t2
      · omega
    have hn : n < 9 := by
      have hpos : 0 < (red ρ π n (Nn A B F G (bx f) (by' f)) t).val := by
        rcases Nat.eq_zero_or_pos (red ρ π n (Nn A B F G (bx f) (by' f)) t).val with q | q
        · exact absurd (Fin.ext q) t2
        · exact q
      obtain ⟨k, -, -, k3, -⟩ := inv_ex hpr (red ρ π n (Nn A B F G (bx f) (by' f)) t).isLt hpos
      have hs := inv_fz hp k3
      have hE := hP.2.1.add (V' := up1 (fun k d => Nn A B F G (sx k) (sy k) d) n (Nn A B F G (bx f) (by' f))) (ρ' := up1 ρ n (fun d => fz p (k : Int) * red ρ π n (Nn A B F G (bx f) (by' f)) d)) (σ' := up1 σ n (fun l => if l = n then fz p (k : Int) else - (fz p (k : Int) * shr ρ σ π n (Nn A B F G (bx f) (by' f)) l))) (π' := up1 π n t) hs (fun k hk => up1_n (by omega)) (up1_s ..) (fun k hk => up1_n (by omega)) (fun d => by rw [up1_s]) (fun k hk => up1_n (by omega)) (fun k => by rw [up1_s]) (fun k hk => up1_n (by omega)) (up1_s ..)
      have h01 : (0 : Fin p) ≠ 1 := fun h => by
        have := congrArg Fin.val h
        have e : ((1 : Fin p).val) = 1 % p := rfl
        rw [e, Nat.mod_eq_of_lt (by omega)] at this
        exact absurd this (by show ¬ (0 : Fin p).val = 1; simp)
      have := fb_holes (A * B) (n + 1) (up1 π n t) (fun i hi => by
        by_cases c : i = n
        · rw [c, up1_s]; exact tAB
        · rw [up1_n c]; exact hP.2.2.1 i (by omega)) (fun i j hij hj => hE.pinj h01 hij hj)
      omega
    have h9 : ¬ (9 : Int32) ≤ nI n := by rw [show (9 : Int32) = nI 9 from rfl, nI_le_iff (by omega) (by omega)]; omega
    rw [m_first_some (l0_7 hb) (by decide) t1 (fun k hk => by rw [hR k (by omega), t3' k hk]; rfl) (fun h => by rw [hR t t1] at h; exact t2 ((fin_z hp2 _).mp h)), Option.bind_some, if_pos (nI_0le (by omega)), if_neg h9]
    obtain ⟨M4, sc, e4, hsc, s4, f4⟩ := m_absorb (tb hb).2.1 hpr s3 hn (l0_7 hb) (l0_8 hb) (Or.inr (by omega)) (Or.inr (by omega)) hR hH t1 t3' t2
    rw [e4, Option.bind_some, l0_3 hb, l0_4 hb, cl_nI (n := n) (by omega), if_ck2 (by omega) (by omega)]
    simp only [smB]
    rw [if_ck2 (by omega) (by omega)]
    generalize h6 : smS (smS M4 (b + 38) n (nI (bx f))) (b + 39) n (nI (by' f)) = M6
    have f6 : ∀ r, r ≠ b + 38 → r ≠ b + 39 → M6 r = M4 r := fun r h1 h2 => by rw [← h6, smS_o h2, smS_o h1]
    have b6 : BD M6 (b + 50) nb bx by' bl un ps := b3.fr (fun r h1 h2 => by rw [f6 r (by omega) (by omega), f4 r (by omega)])
    have hnb2 := hP.2.2.2.2.1.2
    obtain ⟨M7, nb1, bx1, by1, bl1, un1, ps1, e7, b7, g7, f7⟩ := m_bdGrow (i := bx f + 1) (j := by' f) (s := (n : Int)) (w := 0) (tb hb).2.2 b6 (by omega) (by omega) (by omega)
    obtain ⟨M8, nb2, bx2, by2, bl2, un2, ps2, e8, b8, g8, f8⟩ := m_bdGrow (i := bx f) (j := by' f + 1) (s := (n : Int)) (w := 1) (tb hb).2.2 b7 (by omega) (by omega) (by have := g7.1.2; omega)
    rw [← jI_nI] at e7 e8
    rw [nI_add_1, nI_add_1]
    rw [show m_X1_bring (b + 50) (nI (bx f + 1)) (nI (by' f)) (nI n) 0 M6 = some M7 from e7, Option.bind_some, show m_X1_bring (b + 50) (nI (bx f)) (nI (by' f + 1)) (nI n) 1 M7 = some M8 from e8, Option.bind_some]
    have hP' := hP.stair hord hf hpf hx hsc tAB g7 g8 (by have := b8.1; omega)
    have fr8 : ∀ r, (r < b + 50 ∨ b + 56 ≤ r) → r ≠ b + 38 → r ≠ b + 39 → M8 r = M4 r := fun r h0 h1 h2 => by rw [f8 r (by omega), f7 r (by omega), f6 r h1 h2]
    have fr9 : ∀ r, (r < b + 16 ∨ b + 40 ≤ r) → (r < b + 50 ∨ b + 58 ≤ r) → r ≠ b + 40 + 1 + n → r ≠ q + 38 → r < b + 40 + 1 + n ∨ b + 50 ≤ r → M8 r = M r := fun r h0 h1 h2 h3 h4 => by rw [fr8 r (by omega) (by omega) (by omega), f4 r (by omega), fr3 r h4 (by omega) (by omega) h3]
    have m38 : M6 (b + 38) = M8 (b + 38) := by rw [f8 _ (by omega), f7 _ (by omega)]
    have m39 : M6 (b + 39) = M8 (b + 39) := by rw [f8 _ (by omega), f7 _ (by omega)]
    refine ⟨M8, n + 1, _, _, nm, mx, my, tl, _, _, _, nb2, bx2, by2, bl2, un2, ps2, rfl, ⟨?_, ?_, ?_, fun k hk => ?_, b8⟩, hP', g8.2.2.2.2.2.trans g7.2.2.2.2.2, fun r h1 h2 => fr9 r (by omega) (by omega) (by omega) h2 (by omega)⟩
    · rw [fr9 (b + 1) (by omega) (by omega) (by omega) (by omega) (by omega)]; exact w0
    · exact w1.fr (fun r h1 h2 => fr9 r (by omega) (by omega) (by omega) (by omega) (by omega))
    · exact s4.fr (fun r h1 h2 => fr8 r (by omega) (by omega) (by omega))
    · rw [← m38, ← m39, ← h6, smS_o (show b + 38 ≠ b + 39 by omega)]
      by_cases c : k = n
      · subst c
        rw [up1_s, up1_s, smS_at, smS_at]
        refine ⟨rfl, rfl, hi1, fun d hd => ?_⟩
        rw [fr8 _ (by omega) (by omega) (by omega), f4 _ (by omega), f3 _ (by omega) (by omega)]
        exact r2 hn d hd
      · rw [up1_n c, up1_n c, smS_ne c, smS_ne c, smS_o (show b + 39 ≠ b + 38 by omega)]
        obtain ⟨a1, a2, a3, a4⟩ := w3 k (by omega)
        refine ⟨by rw [f4 _ (by omega), fr3 _ (by omega) (by omega) (by omega) (by omega)]; exact a1, by rw [f4 _ (by omega), fr3 _ (by omega) (by omega) (by omega) (by omega)]; exact a2, a3, fun d hd => ?_⟩
        rw [fr8 _ (by omega) (by omega) (by omega), f4 _ (by omega), fr3 _ (by omega) (by omega) (by omega) (by omega)]
        exact a4 d hd
