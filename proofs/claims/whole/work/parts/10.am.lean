/-! the walk of the class, whole -/
theorem QF.fr {M M1 : smM} {q p A B : Nat} [NeZero p] {F G : Nat → Nat → Fin p} (h : QF M q p A B F G) (hA : A ≤ 3) (hB : B ≤ 3) (e : ∀ r, q ≤ r → r < q + 38 → M1 r = M r) : QF M1 q p A B F G := by
  obtain ⟨a, b, c, d⟩ := h
  rw [← e q (by omega) (by omega)] at a b c
  refine ⟨a, b, c, fun i j hij t ht => ?_⟩
  rw [e (q + 1 + 1 + (6 * j + i)) (by omega) (by omega)]
  exact d i j hij t ht
def BASE (M : smM) (b : Nat) {p : Nat} [NeZero p] (A B : Nat) (F G : Nat → Nat → Fin p) (o u v D : Nat) (sx sy : Nat → Nat) (nm : Nat) (mx my : Nat → Nat) (tl : Nat → Nat → Fin p) : Prop :=
  (M (b + 1) 0 = nI o ∧ M (b + 1) 1 = nI u ∧ M (b + 1) 2 = nI v) ∧ MB M (b + 2) p nm mx my tl ∧ (D = A * B ∧ M (b + 16) 0 = nI D) ∧ (∀ k, k < D → M (b + 38) k = nI (sx k) ∧ M (b + 39) k = nI (sy k) ∧ sx k + sy k ≤ k ∧ ∀ d, d < 9 → M (b + 40 + 1 + k) d = nI (Nn A B F G (sx k) (sy k) d).val) ∧ BSt (ky1 o u v) (ky2 o) (Nn A B F G) D sx sy ∧ BMem (ky1 o u v) (ky2 o) (Nn A B F G) D sx sy nm mx my tl ∧ ∃ (ρ σ : Nat → Nat → Fin p) (π : Nat → Nat), SP M (b + 16) p D ρ σ π ∧ Ech (fun k d => Nn A B F G (sx k) (sy k) d) ρ σ π D ∧ ∀ i j d, red ρ π D (Nn A B F G i j) d = 0
theorem BASE.fr {M M1 : smM} {b p : Nat} [NeZero p] {A B : Nat} {F G : Nat → Nat → Fin p} {o u v D : Nat} {sx sy : Nat → Nat} {nm : Nat} {mx my : Nat → Nat} {tl : Nat → Nat → Fin p} (h : BASE M b A B F G o u v D sx sy nm mx my tl) (e : ∀ r, b ≤ r → r < b + 50 → M1 r = M r) : BASE M1 b A B F G o u v D sx sy nm mx my tl := by
  obtain ⟨h1, h2, h3, h4, h5, h6, ρ, σ, π, h7, h8⟩ := h
  have h9 := h7.1
  refine ⟨?_, h2.fr (fun r a1 a2 => e r (by omega) (by omega)), ⟨h3.1, ?_⟩, fun k hk => ?_, h5, h6, ρ, σ, π, h7.fr (fun r a1 a2 => e r (by omega) (by omega)), h8⟩
  · rw [e (b + 1) (by omega) (by omega)]; exact h1
  · rw [e (b + 16) (by omega) (by omega)]; exact h3.2
  · obtain ⟨a1, a2, a3, a4⟩ := h4 k hk
    refine ⟨by rw [e (b + 38) (by omega) (by omega)]; exact a1, by rw [e (b + 39) (by omega) (by omega)]; exact a2, a3, fun d hd => ?_⟩
    rw [e (b + 40 + 1 + k) (by omega) (by omega)]; exact a4 d hd
theorem fp_01 {p : Nat} [NeZero p] (hp : 2 ≤ p) : (0 : Fin p) ≠ 1 := fun h => by
  have := congrArg Fin.val h
  have e : ((1 : Fin p).val) = 1 % p := rfl
  rw [e, Nat.mod_eq_of_lt (by omega)] at this
  exact absurd this (by show ¬ (0 : Fin p).val = 1; simp)
/-- when all of the border is passed -/
theorem WP.done {M : smM} {b p : Nat} [NeZero p] {A B : Nat} {F G : Nat → Nat → Fin p} {o u v n : Nat} {sx sy : Nat → Nat} {nm : Nat} {mx my : Nat → Nat} {tl ρ σ : Nat → Nat → Fin p} {π : Nat → Nat} {nb : Nat} {bx by' : Nat → Nat} {bl : Nat → Int} {un : Nat → Nat} {ps : Nat → Bool} (hp : 2 ≤ p) (hA : 1 ≤ A) (ho : OrdOK (ky1 o u v) (ky2 o)) (hW : WB M b A B F G o u v n sx sy nm mx my tl ρ σ π nb bx by' bl un ps) (hP : WP A B F G o u v n sx sy nm mx my tl ρ σ π nb bx by' bl un ps 1000) (hall : ∀ k, k < nb → ps k = true) : BASE M b A B F G o u v n sx sy nm mx my tl := by
  obtain ⟨w0, w1, w2, w3, w4⟩ := hW
  obtain ⟨h1, h2, h3, h4, h5, h6, h7, h8, h9, h10⟩ := hP
  have hnb := w4.1
  have ha : ∀ a b, isSt n sx sy a b ∨ isMu nm mx my a b := fun a b => nx_all (fun a b hab => by
    obtain ⟨k, k1, k2, k3⟩ := h7 a b hab
    have := h9 k k1 (by omega) (hall k k1)
    rw [k2, k3] at this; exact this) (a + b + 1) a b (by omega)
  have hL := h1.lead ho ha
  have hS : BSt (ky1 o u v) (ky2 o) (Nn A B F G) n sx sy := ⟨fun c hc k hk => h2.ind (c := c) n (Nat.le_refl n) hc k hk, h1.1, hL⟩
  have hz : ∀ i j d, red ρ π n (Nn A B F G i j) d = 0 := fun i j d => by
    obtain ⟨c, hc, -⟩ := hS.le i j
    have e : Nn A B F G i j = fun d => su (fun k => c k * (fun k d => Nn A B F G (sx k) (sy k) d) k d) n := by
      funext d
      exact hc d
    rw [e, red_su]
    exact su_zero' (fun k hk => by rw [h2.2.2.2.2.1 k hk n hk (Nat.le_refl n) d]; exact r_m0 _)
  have hD : n = A * B := h2.full (fp_01 hp) h3 hz (by omega)
  exact ⟨w0, w1, ⟨hD, w2.2.1⟩, w3, hS, ⟨h1.2.1, fun k hk => h1.corner ho hk, fun i j hc => h1.corners ha hc, fun k hk => (h4 k hk).1, fun k hk => (h4 k hk).2⟩, ρ, σ, π, w2, h2, hz⟩
theorem m_walk {b q p A B : Nat} [NeZero p] {F G : Nat → Nat → Fin p} {M : smM} {o u v : Nat} (hb : smT 1 b 0) (hq : smT 1 q 6) (hqb : q + 39 ≤ b) (hpr : p ∈ PrL) (hA : 1 ≤ A) (hB : 1 ≤ B) (hA3 : A ≤ 3) (hB3 : B ≤ 3) (ho : o ≤ 4) (hu : 1 ≤ u) (hu9 : u ≤ 9) (hv : 1 ≤ v) (hv9 : v ≤ 9) (hQ : QF M q p A B F G) :
    ∃ (M' : smM) (D : Nat) (sx sy : Nat → Nat) (nm : Nat) (mx my : Nat → Nat) (tl : Nat → Nat → Fin p), m_X0_walk b q (nI o) (nI u) (nI v) M = some M' ∧ BASE M' b A B F G o u v D sx sy nm mx my tl ∧ ∀ r, (r < b ∨ b + 58 ≤ r) → r ≠ q + 38 → M' r = M r := by
  have hp := (Pr_rng p hpr).1
  have hp2 := (Pr_rng p hpr).2
  have hord := ky_ok ho hu hv
  obtain ⟨hm, hs, hc⟩ := tb hb
  -- the start
  generalize h5 : smS (smS (smS (smS (smS (smS (smS M (b + 1) 0 (nI o)) (b + 1) 1 (nI u)) (b + 1) 2 (nI v)) (b + 2) 0 0) (b + 16) 0 0) (b + 16) 1 (nI p)) (b + 50) 0 0 = M5
  have f5 : ∀ r, r ≠ b + 1 → r ≠ b + 2 → r ≠ b + 16 → r ≠ b + 50 → M5 r = M r := fun r h1 h2 h3 h4 => by
    rw [← h5, smS_o h4, smS_o h3, smS_o h3, smS_o h2, smS_o h1, smS_o h1, smS_o h1]
  have bd5 : BD M5 (b + 50) 0 (fun _ => 0) (fun _ => 0) (fun _ => 0) (fun _ => 0) (fun _ => false) := ⟨by omega, by rw [← h5, smS_at]; rfl, fun k hk => absurd hk (Nat.not_lt_zero k)⟩
  obtain ⟨M6, e6, b6, f6⟩ := (m_bdBring (i := 0) (j := 0) (s := -1) (w := 0) hc bd5 (by omega) (by omega) (by omega)).2 (fun k hk => absurd hk (Nat.not_lt_zero k))
  have e6' : m_X1_bring (b + 50) 0 0 (-1) 0 M5 = some M6 := e6
  have ex : m_X0_walk b q (nI o) (nI u) (nI v) M = smLp (fun rc q_1 => m_X0_walk_b40 b q rc q_1.1 q_1.2) smF ((0 : Int32), M6) := by
    unfold m_X0_walk m_X10_become m_X9_begin m_X1_begin
    simp only [smB, Option.bind_some]
    rw [smS_o (show q ≠ b + 2 by omega), smS_o (show q ≠ b + 1 by omega), smS_o (show q ≠ b + 1 by omega), smS_o (show q ≠ b + 1 by omega), hQ.1, h5, e6', Option.bind_some, Option.bind_some]
  have W6 : WB M6 b A B F G o u v 0 (fun _ => 0) (fun _ => 0) 0 (fun _ => 0) (fun _ => 0) (fun _ _ => 0) (fun _ _ => 0) (fun _ _ => 0) (fun _ => 0) 1 (up1 (fun _ => 0) 0 0) (up1 (fun _ => 0) 0 0) (up1 (fun _ => 0) 0 (-1)) (up1 (fun _ => 0) 0 0) (up1 (fun _ => false) 0 false) := by
    refine ⟨?_, ⟨by omega, ?_, fun k hk => absurd hk (Nat.not_lt_zero k)⟩, ⟨by omega, ?_, ?_, fun k hk => absurd hk (Nat.not_lt_zero k)⟩, fun k hk => absurd hk (Nat.not_lt_zero k), b6⟩
    · rw [f6 _ (by omega), ← h5, smS_o (by omega), smS_o (by omega), smS_o (by omega), smS_o (by omega)]
      exact ⟨by rw [smS_ne (by decide), smS_ne (by decide), smS_at], by rw [smS_ne (by decide), smS_at], smS_at⟩
    · rw [f6 _ (by omega), ← h5, smS_o (by omega), smS_o (by omega), smS_o (by omega), smS_at]; rfl
    · rw [f6 _ (by omega), ← h5, smS_o (by omega), smS_ne (by decide), smS_at]; rfl
    · rw [f6 _ (by omega), ← h5, smS_o (by omega), smS_at]
  have P6 : WP A B F G o u v 0 (fun _ => 0) (fun _ => 0) 0 (fun _ => 0) (fun _ => 0) (fun _ _ => 0) (fun _ _ => 0) (fun _ _ => 0) (fun _ => 0) 1 (up1 (fun _ => 0) 0 0) (up1 (fun _ => 0) 0 0) (up1 (fun _ => 0) 0 (-1)) (up1 (fun _ => 0) 0 0) (up1 (fun _ => false) 0 false) 1000 := by
    refine ⟨WI.zero _ _ _ _ _ _ _, Ech.zero _ _ _ _, fun r hr => absurd hr (Nat.not_lt_zero r), fun r hr => absurd hr (Nat.not_lt_zero r), ⟨by omega, by omega⟩, fun k hk => ?_, fun i j hij => ?_, fun k l hk hl _ _ => by omega, fun k hk _ hp => ?_, fun s hs => absurd hs (Nat.not_lt_zero s)⟩
    · have : k = 0 := by omega
      subst this
      exact Or.inl ⟨up1_s .., up1_s .., up1_s ..⟩
    · rcases hij with ⟨i0, j0⟩ | ⟨k, hk, -⟩ | ⟨k, hk, -⟩
      · exact ⟨0, by omega, by rw [up1_s, i0], by rw [up1_s, j0]⟩
      · omega
      · omega
    · have : k = 0 := by omega
      subst this
      rw [up1_s] at hp; cases hp
  have fr6 : ∀ r, (r < b ∨ b + 58 ≤ r) → r ≠ q + 38 → M6 r = M r := fun r h1 _ => by rw [f6 r (by omega), f5 r (by omega) (by omega) (by omega) (by omega)]
  rw [ex]
  refine lp_post (ρ := smM) 19 (fun t s => ∃ (M1 : smM) (n : Nat) (sx sy : Nat → Nat) (nm : Nat) (mx my : Nat → Nat) (tl ρ σ : Nat → Nat → Fin p) (π : Nat → Nat) (nb : Nat) (bx by' : Nat → Nat) (bl : Nat → Int) (un : Nat → Nat) (ps : Nat → Bool), s = (nI t, M1) ∧ WB M1 b A B F G o u v n sx sy nm mx my tl ρ σ π nb bx by' bl un ps ∧ WP A B F G o u v n sx sy nm mx my tl ρ σ π nb bx by' bl un ps 1000 ∧ ctb ps nb = t ∧ ∀ r, (r < b ∨ b + 58 ≤ r) → r ≠ q + 38 → M1 r = M r) (fun e => ∃ (M' : smM) (D : Nat) (sx sy : Nat → Nat) (nm : Nat) (mx my : Nat → Nat) (tl : Nat → Nat → Fin p), e = some M' ∧ BASE M' b A B F G o u v D sx sy nm mx my tl ∧ ∀ r, (r < b ∨ b + 58 ≤ r) → r ≠ q + 38 → M' r = M r) ⟨M6, _, _, _, _, _, _, _, _, _, _, _, _, _, _, _, _, rfl, W6, P6, rfl, fr6⟩ (by omega) ?_
  rintro t s ht ⟨M1, n, sx, sy, nm, mx, my, tl, ρ, σ, π, nb, bx, by', bl, un, ps, rfl, hW, hP, hct, hfr⟩
  have hnb := hW.2.2.2.2.1
  by_cases e19 : t = 19
  · right
    subst e19
    have hle := ctb_le ps nb
    have hall := ctb_full (ps := ps) (n := nb) (by omega)
    refine ⟨_, ⟨M1, n, sx, sy, nm, mx, my, tl, rfl, hP.done hp hA hord hW hall, hfr⟩, fun rc => ?_⟩
    show m_X0_walk_b40 b q rc (nI 19) M1 = _
    unfold m_X0_walk_b40
    rw [if_pos (by decide)]
  · have h19 : ¬ (19 : Int32) ≤ nI t := by rw [show (19 : Int32) = nI 19 from rfl, nI_le_iff (by omega) (by omega)]; omega
    rcases m_passLeast hc hW.2.2.2.2 ho hu9 hv9 hv hW.1.1 hW.1.2.1 hW.1.2.2 with ⟨hall, e1⟩ | ⟨f, hf, hpf, hl, e1⟩
    · right
      refine ⟨_, ⟨M1, n, sx, sy, nm, mx, my, tl, rfl, hP.done hp hA hord hW hall, hfr⟩, fun rc => ?_⟩
      show m_X0_walk_b40 b q rc (nI t) M1 = _
      unfold m_X0_walk_b40
      rw [if_neg h19, e1]
      simp only [smB2, Option.bind_some]
      rw [if_neg (by decide)]
    · left
      have hP2 := hP.pass (by omega) hf hpf
      have hf2 : ∀ r, r ≠ b + 50 + 5 → smS M1 (b + 50 + 5) f 1 r = M1 r := fun r h => smS_o h
      have hW2 : WB (smS M1 (b + 50 + 5) f 1) b A B F G o u v n sx sy nm mx my tl ρ σ π nb bx by' bl un (up1 ps f true) := by
        obtain ⟨w0, w1, w2, w3, w4⟩ := hW
        have w9 := w2.1
        refine ⟨?_, w1.fr (fun r h1 h2 => hf2 r (by omega)), w2.fr (fun r h1 h2 => hf2 r (by omega)), fun k hk => ?_, w4.pass⟩
        · rw [hf2 _ (by omega)]; exact w0
        · rw [hf2 _ (by omega), hf2 _ (by omega), hf2 _ (by omega)]; exact w3 k hk
      have hct2 : ctb (up1 ps f true) nb = t + 1 := by rw [ctb_up hf hpf, hct]
      have hfr2 : ∀ r, (r < b ∨ b + 58 ≤ r) → r ≠ q + 38 → smS M1 (b + 50 + 5) f 1 r = M r := fun r h1 h2 => by rw [hf2 r (by omega)]; exact hfr r h1 h2
      obtain ⟨x1, x2, -, -, -, x6, x7⟩ := hW2.2.2.2.2.2.2 f hf
      have hm' := m_leadTo hm hW2.2.1 x6 x7
      by_cases c : isMu nm mx my (bx f) (by' f)
      · refine ⟨(nI (t + 1), smS M1 (b + 50 + 5) f 1), by omega, ⟨_, n, sx, sy, nm, mx, my, tl, ρ, σ, π, nb, bx, by', bl, un, _, rfl, hW2, hP2.skip (by omega) c, hct2, hfr2⟩, fun rc => ?_⟩
        show m_X0_walk_b40 b q rc (nI t) M1 = _
        unfold m_X0_walk_b40
        rw [if_neg h19, e1]
        simp only [smB2, Option.bind_some]
        rw [if_pos (nI_0le (by omega)), l1_1 hc, l1_2 hc, cl_nI (n := f) (by omega), if_ck2 (by omega) (by omega), if_ck2 (by omega) (by omega), x1, x2, hm'.1 c, Option.bind_some, if_neg (by decide), nI_add_1]
      · have hx := hP.nx (by omega) hf hpf hl c
        have hQ2 : QF (smS M1 (b + 50 + 5) f 1) q p A B F G := hQ.fr hA3 hB3 (fun r h1 h2 => hfr2 r (by omega) (by omega))
        obtain ⟨M3, n3, sx3, sy3, nm3, mx3, my3, tl3, ρ3, σ3, π3, nb3, bx3, by3, bl3, un3, ps3, e3, hW3, hP3, hct3, hfr3⟩ := m_visit hb hq hqb hpr hA hB hA3 hB3 ho hu hv hQ2 hW2 hP2 hf (up1_s ..) hx
        refine ⟨(nI (t + 1), M3), by omega, ⟨_, n3, sx3, sy3, nm3, mx3, my3, tl3, ρ3, σ3, π3, nb3, bx3, by3, bl3, un3, ps3, rfl, hW3, hP3, hct3.trans hct2, fun r h1 h2 => (hfr3 r h1 h2).trans (hfr2 r h1 h2)⟩, fun rc => ?_⟩
        show m_X0_walk_b40 b q rc (nI t) M1 = _
        unfold m_X0_walk_b40
        rw [if_neg h19, e1]
        simp only [smB2, Option.bind_some]
        rw [if_pos (nI_0le (by omega)), l1_1 hc, l1_2 hc, cl_nI (n := f) (by omega), if_ck2 (by omega) (by omega), if_ck2 (by omega) (by omega), x1, x2, hm'.2 c, Option.bind_some, if_pos rfl, e3, Option.bind_some, nI_add_1]
