/-! the reference's walk, whole -/
theorem m12_isMul {p nm i j : Nat} [NeZero p] {mx my : Nat → Nat} {tl : Nat → Nat → Fin p} {M : smM} (h : MB2 M p nm mx my tl) (hi : i < 1000) (hj : j < 1000) : (isMu nm mx my i j → m_X12_isMultiple 1000 (nI i) (nI j) M = some 1) ∧ (¬ isMu nm mx my i j → m_X12_isMultiple 1000 (nI i) (nI j) M = some 0) := by
  obtain ⟨hn, h34, hm⟩ := h
  unfold m_X12_isMultiple
  refine lp_pst nm (fun k s => s = nI k ∧ ∀ l, l < k → ¬ (mx l ≤ i ∧ my l ≤ j)) (fun e => (isMu nm mx my i j → e = some 1) ∧ (¬ isMu nm mx my i j → e = some 0)) ⟨rfl, fun l hl => by omega⟩ (by omega) ?_
  rintro k s hk ⟨rfl, z⟩ rc
  unfold m_X12_isMultiple_b2
  rw [h34]
  by_cases e : k = nm
  · right
    subst e
    rw [if_pos (Int32.le_refl _)]
    exact ⟨fun ⟨l, l1, l2, l3⟩ => absurd ⟨l2, l3⟩ (z l l1), fun _ => rfl⟩
  · obtain ⟨b1, b2, b3, b4, b5⟩ := hm k (by omega)
    rw [if_neg (fun w => by rw [nI_le_iff (by omega) (by omega)] at w; omega), cl_nI (n := k) (by omega), g_22.2.2.2.2.1, g_22.2.2.2.2.2.1, if_ck2 (by omega) (by omega), if_ck2 (by omega) (by omega), show M (1000 + 26) k = _ from b1, show M (1000 + 27) k = _ from b2, nI_add_1]
    have nx : ¬ (mx k ≤ i ∧ my k ≤ j) → ∃ s', k < nm ∧ (s' = nI (k + 1) ∧ ∀ l, l < k + 1 → ¬ (mx l ≤ i ∧ my l ≤ j)) ∧ rc (nI (k + 1)) = rc s' := fun q => ⟨_, by omega, ⟨rfl, fun l hl => by
      by_cases q2 : l = k
      · rw [q2]; exact q
      · exact z l (by omega)⟩, rfl⟩
    by_cases c1 : i < mx k
    · left
      rw [if_pos ((nI_lt_iff (by omega) (by omega)).mpr c1)]
      exact nx (by omega)
    · rw [if_neg (fun w => c1 ((nI_lt_iff (by omega) (by omega)).mp w))]
      by_cases c2 : j < my k
      · left
        rw [if_pos ((nI_lt_iff (by omega) (by omega)).mpr c2)]
        exact nx (by omega)
      · right
        rw [if_neg (fun w => c2 ((nI_lt_iff (by omega) (by omega)).mp w))]
        exact ⟨fun _ => rfl, fun q => absurd ⟨k, by omega, by omega, by omega⟩ q⟩
theorem m12_isStair {n i j : Nat} {sx sy : Nat → Nat} {M : smM} (hn9 : n ≤ 9) (h29 : M 1000 29 = nI n) (h : ST2 M n sx sy) (hb : ∀ k, k < n → sx k < 1000 ∧ sy k < 1000) (hi : i < 1000) (hj : j < 1000) : (isSt n sx sy i j → m_X12_isStair 1000 (nI i) (nI j) M = some 1) ∧ (¬ isSt n sx sy i j → m_X12_isStair 1000 (nI i) (nI j) M = some 0) := by
  unfold m_X12_isStair
  refine lp_pst n (fun k s => s = nI k ∧ ∀ l, l < k → ¬ (sx l = i ∧ sy l = j)) (fun e => (isSt n sx sy i j → e = some 1) ∧ (¬ isSt n sx sy i j → e = some 0)) ⟨rfl, fun l hl => by omega⟩ (by omega) ?_
  rintro k s hk ⟨rfl, z⟩ rc
  unfold m_X12_isStair_b2
  rw [h29]
  by_cases e : k = n
  · right
    subst e
    rw [if_pos (Int32.le_refl _)]
    exact ⟨fun ⟨l, l1, l2, l3⟩ => absurd ⟨l2, l3⟩ (z l l1), fun _ => rfl⟩
  · obtain ⟨b1, b2⟩ := h k (by omega)
    obtain ⟨b3, b4⟩ := hb k (by omega)
    rw [if_neg (fun w => by rw [nI_le_iff (by omega) (by omega)] at w; omega), cl_nI (n := k) (by omega), g_22.1, g_22.2.1, if_ck2 (by omega) (by omega), if_ck2 (by omega) (by omega), show M (1000 + 22) k = _ from b1, show M (1000 + 23) k = _ from b2, nI_add_1]
    have nx : ¬ (sx k = i ∧ sy k = j) → ∃ s', k < n ∧ (s' = nI (k + 1) ∧ ∀ l, l < k + 1 → ¬ (sx l = i ∧ sy l = j)) ∧ rc (nI (k + 1)) = rc s' := fun q => ⟨_, by omega, ⟨rfl, fun l hl => by
      by_cases q2 : l = k
      · rw [q2]; exact q
      · exact z l (by omega)⟩, rfl⟩
    by_cases c1 : sx k = i
    · rw [if_pos (by rw [c1])]
      by_cases c2 : sy k = j
      · right
        rw [if_pos (by rw [c2])]
        exact ⟨fun _ => rfl, fun q => absurd ⟨k, by omega, c1, c2⟩ q⟩
      · left
        rw [if_neg (fun w => c2 ((nI_inj (by omega) (by omega)).mp w))]
        exact nx (fun q => c2 q.2)
    · left
      rw [if_neg (fun w => c1 ((nI_inj (by omega) (by omega)).mp w))]
      exact nx (fun q => c1 q.1)
def FRW (M M' : smM) : Prop := (∀ k, k ≠ 29 → k ≠ 34 → k ≠ 38 → M' 1000 k = M 1000 k) ∧ ∀ r, r ≠ 1000 → (r < 1018 ∨ 1031 < r) → M' r = M r
theorem FRW.trans {M M' M2 : smM} (h : FRW M M') (h2 : FRW M' M2) : FRW M M2 := ⟨fun k a b c => (h2.1 k a b c).trans (h.1 k a b c), fun r a b => (h2.2 r a b).trans (h.2 r a b)⟩
theorem TBL.fr {M M' : smM} {p A B : Nat} [NeZero p] {F G : Nat → Nat → Fin p} (h : TBL M A B F G) (e1 : M' 1016 = M 1016) (e2 : M' 1017 = M 1017) : TBL M' A B F G := fun i j hi hj d hd => by rw [e1, e2]; exact h i j hi hj d hd
theorem SET2.fw {M M' : smM} {p A B u v : Nat} [NeZero p] {F G : Nat → Nat → Fin p} (h : SET2 M p A B u v F G) (f : FRW M M') : SET2 M' p A B u v F G := h.fr (fun k hk => f.1 k (by omega) (by omega) (by omega)) (f.2 1001 (by omega) (by omega))
def BASE2 (M : smM) {p : Nat} [NeZero p] (A B : Nat) (F G : Nat → Nat → Fin p) (o u v D : Nat) (sx sy : Nat → Nat) (nm : Nat) (mx my : Nat → Nat) (tl : Nat → Nat → Fin p) : Prop :=
  MB2 M p nm mx my tl ∧ (D = A * B ∧ M 1000 29 = nI D) ∧ (∀ k, k < D → M 1022 k = nI (sx k) ∧ M 1023 k = nI (sy k) ∧ sx k + sy k ≤ k) ∧ BSt (ky1 o u v) (ky2 o) (Nn A B F G) D sx sy ∧ BMem (ky1 o u v) (ky2 o) (Nn A B F G) D sx sy nm mx my tl ∧ (∃ (ρ σ : Nat → Nat → Fin p) (π : Nat → Nat), SP2 M p D ρ σ π ∧ Ech (fun k d => Nn A B F G (sx k) (sy k) d) ρ σ π D ∧ ∀ i j d, red ρ π D (Nn A B F G i j) d = 0) ∧ TBL M A B F G
theorem m12_walkl {p A B u v o uu vv : Nat} [NeZero p] {F G : Nat → Nat → Fin p} {M : smM} (hpr : p ∈ PrL) (hA : 1 ≤ A) (hB : 1 ≤ B) (hA3 : A ≤ 3) (hB3 : B ≤ 3) (ho : o ≤ 4) (hu : 1 ≤ u) (hu9 : u ≤ 9) (hv : 1 ≤ v) (hv9 : v ≤ 9) (hS : SET2 M p A B uu vv F G) (hT : TBL M A B F G) (m26 : M 1000 26 = nI o) (m27 : M 1000 27 = nI u) (m28 : M 1000 28 = nI v) (m29 : M 1000 29 = nI 0) (m34 : M 1000 34 = nI 0) (m38 : M 1000 38 = nI 1) (w0 : M 1029 0 = 0) (w1 : M 1030 0 = 0) : ∃ (M' : smM) (D : Nat) (sx sy : Nat → Nat) (nm : Nat) (mx my : Nat → Nat) (tl : Nat → Nat → Fin p), smLp (fun rc q => m_X12_walks_b48 1000 rc q) smF M = some M' ∧ BASE2 M' A B F G o u v D sx sy nm mx my tl ∧ FRW M M' := by
  obtain ⟨hp, hp2⟩ := Pr_rng p hpr
  have hord := ky_ok ho hu hv
  have hD9 : A * B ≤ 9 := Nat.mul_le_mul hA3 hB3
  let Q : Option smM → Prop := fun e => ∃ (M' : smM) (D : Nat) (sx sy : Nat → Nat) (nm : Nat) (mx my : Nat → Nat) (tl : Nat → Nat → Fin p), e = some M' ∧ BASE2 M' A B F G o u v D sx sy nm mx my tl ∧ FRW M M'
  let I : Nat → smM → Prop := fun t M' => ∃ (n : Nat) (sx sy : Nat → Nat) (nm : Nat) (mx my : Nat → Nat) (tl ρ σ : Nat → Nat → Fin p) (π : Nat → Nat) (w : Nat) (wx wy : Nat → Nat), SP2 M' p n ρ σ π ∧ ST2 M' n sx sy ∧ MB2 M' p nm mx my tl ∧ WT2 M' w wx wy ∧ WQ A B F G o u v n sx sy nm mx my tl ρ σ π w wx wy (fun _ _ => False) ∧ w + t = 1 + 2 * n ∧ n ≤ t ∧ FRW M M'
  refine lp_pst 19 I Q ⟨0, _, _, 0, _, _, _, _, _, _, 1, _, _, ⟨by omega, m29, fun r hr => absurd hr (Nat.not_lt_zero _)⟩, fun r hr => absurd hr (Nat.not_lt_zero _), ⟨by omega, m34, fun r hr => absurd hr (Nat.not_lt_zero _)⟩, ⟨by omega, m38, fun k hk => ?_⟩, WQ.zero A B F G o u v, by omega, by omega, ⟨fun _ _ _ _ => rfl, fun _ _ _ => rfl⟩⟩ (by omega) ?_
  · have : k = 0 := by omega
    subst this
    exact ⟨w0, w1⟩
  rintro t M1 ht ⟨n, sx, sy, nm, mx, my, tl, ρ, σ, π, w, wx, wy, i1, i2, i3, i4, i5, i6, i7, i8⟩ rc
  have hnAB := i5.few hp
  unfold m_X12_walks_b48
  rw [i4.2.1]
  by_cases ew : w = 0
  · right
    subst ew
    rw [if_pos (show nI 0 ≤ (0 : Int32) from Int32.le_refl _)]
    obtain ⟨d1, d2, d3, d4⟩ := i5.done hp hA hord
    refine ⟨M1, n, sx, sy, nm, mx, my, tl, rfl, ⟨i3, ⟨d1, i1.2.1⟩, fun k hk => ⟨(i2 k hk).1, (i2 k hk).2, i5.2.2.2.2.2.1 k hk⟩, d2, d3, ⟨ρ, σ, π, i1, i5.2.1, d4⟩, hT.fr (i8.2 _ (by omega) (by omega)) (i8.2 _ (by omega) (by omega))⟩, i8⟩
  · obtain ⟨w, rfl⟩ : ∃ w', w = w' + 1 := ⟨w - 1, by omega⟩
    rw [if_neg (show ¬ nI (w + 1) ≤ (0 : Int32) from fun q => by rw [show (0 : Int32) = nI 0 from rfl, nI_le_iff (by omega) (by omega)] at q; omega)]
    have hwb : ∀ k, k < w + 1 → wx k + wy k ≤ n := i5.2.2.2.2.1
    refine lp_pst w (fun k s => ∃ b, s = (nI b, nI (k + 1)) ∧ b < k + 1 ∧ ∀ l, l < k + 1 → ¬ olt (ky1 o u v) (ky2 o) (wx l) (wy l) (wx b) (wy b)) (fun e => (∃ s', t < 19 ∧ I (t + 1) s' ∧ e = rc s') ∨ Q e) ⟨0, rfl, by omega, fun l hl => by rw [show l = 0 by omega]; exact olt_irr⟩ (by omega) ?_
    rintro k s hk ⟨b, rfl, hb, hbl⟩ rc2
    unfold m_X12_walks_b61
    simp only []
    rw [i4.2.1]
    by_cases ek : k = w
    · right
      left
      subst ek
      obtain ⟨y1, y2⟩ := i4.2.2 b hb
      obtain ⟨y3, y4⟩ := i4.2.2 k (by omega)
      have ybn := hwb b hb
      have y0 : M1 1000 38 = nI (k + 1) := i4.2.1
      have ek1 : nI (k + 1) - 1 = nI k := by
        rw [show (1 : Int32) = nI 1 from rfl, nI_subN (by omega)]; congr 1
      rw [if_pos (Int32.le_refl _), cl_nI (n := b) (by omega), g_22.2.2.2.2.2.2.2.1, g_22.2.2.2.2.2.2.2.2.1, if_ck2 (by omega) (by omega), if_ck2 (by omega) (by omega), smB_e, ek1, smS_at, cl_nI (n := k) (by omega), if_ck2 (by omega) (by omega), if_ck2 (by omega) (by omega), smB_e, smS_o (show (1000 : Nat) ≠ 1000 + 29 by omega), smS_at, cl_nI (n := k) (by omega), if_ck2 (by omega) (by omega), if_ck2 (by omega) (by omega), smB_e, smS_o (show (1000 + 29 : Nat) ≠ 1000 by omega), smS_o (show (1000 + 30 : Nat) ≠ 1000 + 29 by omega), smS_o (show (1000 + 30 : Nat) ≠ 1000 by omega), show M1 (1000 + 29) b = _ from y1, show M1 (1000 + 30) b = _ from y2, show M1 (1000 + 29) k = _ from y3, show M1 (1000 + 30) k = _ from y4]
      generalize hM2 : smS (smS (smS M1 1000 38 (nI k)) (1000 + 29) b (nI (wx k))) (1000 + 30) b (nI (wy k)) = M2
      have mo : ∀ r, r ≠ 1000 → r ≠ 1029 → r ≠ 1030 → M2 r = M1 r := fun r h1 h2 h3 => by rw [← hM2, smS_o h3, smS_o h2, smS_o h1]
      have m0 : ∀ k', k' ≠ 38 → M2 1000 k' = M1 1000 k' := fun k' h1 => by rw [← hM2, smS_o (by omega), smS_o (by omega), smS_ne h1]
      have fr2 : FRW M M2 := i8.trans ⟨fun k _ _ h3 => m0 k h3, fun r h1 h2 => mo r h1 (by omega) (by omega)⟩
      have j1 : SP2 M2 p n ρ σ π := ⟨i1.1, by rw [m0 29 (by omega)]; exact i1.2.1, fun r hr => by rw [mo 1024 (by omega) (by omega) (by omega), mo 1025 (by omega) (by omega) (by omega)]; exact i1.2.2 r hr⟩
      have j2 : ST2 M2 n sx sy := fun r hr => by rw [mo 1022 (by omega) (by omega) (by omega), mo 1023 (by omega) (by omega) (by omega)]; exact i2 r hr
      have j3 : MB2 M2 p nm mx my tl := ⟨i3.1, by rw [m0 34 (by omega)]; exact i3.2.1, fun r hr => by rw [mo 1026 (by omega) (by omega) (by omega), mo 1027 (by omega) (by omega) (by omega), mo 1028 (by omega) (by omega) (by omega)]; exact i3.2.2 r hr⟩
      have j4 : WT2 M2 k (up1 wx b (wx k)) (up1 wy b (wy k)) := by
        refine ⟨by have := i4.1; omega, by rw [← hM2, smS_o (by omega), smS_o (by omega), smS_at], fun l hl => ?_⟩
        rw [← hM2, smS_o (show (1029 : Nat) ≠ 1000 + 30 by omega)]
        by_cases q : l = b
        · subst q
          rw [up1_s, up1_s]
          exact ⟨smS_at, smS_at⟩
        · rw [up1_n q, up1_n q]
          obtain ⟨z1, z2⟩ := i4.2.2 l (by omega)
          refine ⟨(smS_ne q).trans ?_, (smS_ne q).trans ?_⟩
          · rw [smS_o (by omega)]; exact z1
          · rw [smS_o (by omega), smS_o (by omega)]; exact z2
      have j5 := i5.pop hb
      have st := m12_isStair (i := wx b) (j := wy b) i1.1 j1.2.1 j2 (fun k hk => by have := i5.2.2.2.2.2.1 k hk; omega) (by omega) (by omega)
      have mu := m12_isMul (i := wx b) (j := wy b) j3 (by omega) (by omega)
      have skip : (isSt n sx sy (wx b) (wy b) ∨ isMu nm mx my (wx b) (wy b)) → ∃ s', t < 19 ∧ I (t + 1) s' ∧ rc M2 = rc s' := fun q => ⟨M2, by omega, ⟨n, sx, sy, nm, mx, my, tl, ρ, σ, π, k, _, _, j1, j2, j3, j4, j5.skip q, by omega, by omega, fr2⟩, rfl⟩
      by_cases cm : isMu nm mx my (wx b) (wy b)
      · rw [mu.1 cm, Option.bind_some, if_1]
        exact skip (Or.inr cm)
      · rw [mu.2 cm, Option.bind_some, if_0]
        by_cases cs : isSt n sx sy (wx b) (wy b)
        · rw [st.1 cs, Option.bind_some, if_1]
          exact skip (Or.inl cs)
        · rw [st.2 cs, Option.bind_some, if_0]
          have nx := i5.nx hbl cm cs
          have hS2 : SET2 M2 p A B uu vv F G := hS.fw fr2
          obtain ⟨M3, a1, a2, a3⟩ := m12_formOf (i := wx b) (j := wy b) hp hp2 hA hB hA3 hB3 hS2 (hT.fr (fr2.2 _ (by omega) (by omega)) (fr2.2 _ (by omega) (by omega))) (by omega) (by omega)
          have k1 : SP2 M3 p n ρ σ π := ⟨j1.1, by rw [a3 1000 (by omega) (by omega) (by omega) (by omega)]; exact j1.2.1, fun r hr => by rw [a3 1024 (by omega) (by omega) (by omega) (by omega), a3 1025 (by omega) (by omega) (by omega) (by omega)]; exact j1.2.2 r hr⟩
          obtain ⟨q, M4, b1, b2, b3, b4⟩ := m12_isLeft (v := Nn A B F G (wx b) (wy b)) hp hp2 (by rw [a3 1000 (by omega) (by omega) (by omega) (by omega)]; exact hS2.1) k1 a2
          have ff : ∀ r, r ≠ 1018 → r ≠ 1019 → r ≠ 1020 → r ≠ 1021 → r ≠ 1031 → M4 r = M2 r := fun r h1 h2 h3 h4 h5 => (b4 r h3 h5).trans (a3 r h1 h2 h3 h4)
          have f0 : M4 1000 = M2 1000 := ff _ (by omega) (by omega) (by omega) (by omega) (by omega)
          have l1 : SP2 M4 p n ρ σ π := ⟨j1.1, by rw [f0]; exact j1.2.1, fun r hr => by rw [ff 1024 (by omega) (by omega) (by omega) (by omega) (by omega), ff 1025 (by omega) (by omega) (by omega) (by omega) (by omega)]; exact j1.2.2 r hr⟩
          have l2 : ST2 M4 n sx sy := fun r hr => by rw [ff 1022 (by omega) (by omega) (by omega) (by omega) (by omega), ff 1023 (by omega) (by omega) (by omega) (by omega) (by omega)]; exact j2 r hr
          have l3 : MB2 M4 p nm mx my tl := ⟨j3.1, by rw [f0]; exact j3.2.1, fun r hr => by rw [ff 1026 (by omega) (by omega) (by omega) (by omega) (by omega), ff 1027 (by omega) (by omega) (by omega) (by omega) (by omega), ff 1028 (by omega) (by omega) (by omega) (by omega) (by omega)]; exact j3.2.2 r hr⟩
          have l4 : WT2 M4 k (up1 wx b (wx k)) (up1 wy b (wy k)) := ⟨j4.1, by rw [f0]; exact j4.2.1, fun r hr => by rw [ff 1029 (by omega) (by omega) (by omega) (by omega) (by omega), ff 1030 (by omega) (by omega) (by omega) (by omega) (by omega)]; exact j4.2.2 r hr⟩
          have fr4 : FRW M M4 := fr2.trans ⟨fun k _ _ _ => by rw [f0], fun r h1 h2 => ff r (by omega) (by omega) (by omega) (by omega) (by omega)⟩
          rw [a1, Option.bind_some, b1, smB2_e]
          rcases b3 with ⟨c1, rfl⟩ | ⟨kk, c1, rfl, c3⟩
          · rw [if_pos rfl]
            have hz : ∀ d, red ρ π n (Nn A B F G (wx b) (wy b)) d = 0 := fun d => by
              by_cases q : d < 9
              · exact c1 d q
              · exact i5.2.1.far _ _ (by omega)
            have hmem := j5.member hord nx ybn (c := shr ρ σ π n (Nn A B F G (wx b) (wy b))) (fun d => i5.2.1.tell hz d) (fun t ht => i5.2.1.share _ ht)
            have few := hmem.1.few hord
            obtain ⟨M5, e1, e2, e3, e4⟩ := m12_leadsNow (i := wx b) (j := wy b) (c := fun t => - shr ρ σ π n (Nn A B F G (wx b) (wy b)) t) l3 (by omega) (by omega) (by omega) (fun d hd => (b2 d hd).2)
            rw [e1, Option.bind_some]
            refine ⟨M5, by omega, ⟨n, sx, sy, nm + 1, _, _, _, ρ, σ, π, k, _, _, ⟨l1.1, by rw [e3 29 (by omega)]; exact l1.2.1, fun r hr => by rw [e4 1024 (by omega) (by omega) (by omega) (by omega), e4 1025 (by omega) (by omega) (by omega) (by omega)]; exact l1.2.2 r hr⟩, fun r hr => by rw [e4 1022 (by omega) (by omega) (by omega) (by omega), e4 1023 (by omega) (by omega) (by omega) (by omega)]; exact l2 r hr, e2, ⟨l4.1, by rw [e3 38 (by omega)]; exact l4.2.1, fun r hr => by rw [e4 1029 (by omega) (by omega) (by omega) (by omega), e4 1030 (by omega) (by omega) (by omega) (by omega)]; exact l4.2.2 r hr⟩, hmem, by omega, by omega, fr4.trans ⟨fun k _ h2 _ => e3 k h2, fun r h1 h2 => e4 r h1 (by omega) (by omega) (by omega)⟩⟩, rfl⟩
          · have hkA : kk < A * B := by
              rcases Nat.lt_or_ge kk (A * B) with q | q
              · exact q
              · exact absurd (i5.2.1.far _ _ q) c3
            have hne4 : ¬ nI kk = (-4 : Int32) := fun w => by
              have := congrArg Int32.toInt w
              rw [nI_toInt (by omega)] at this
              have e4 : (-4 : Int32).toInt = -4 := rfl
              rw [e4] at this
              omega
            rw [if_neg hne4]
            -- how many stairs
            obtain ⟨kI', k1', k2', k3', -⟩ := inv_ex hpr (red ρ π n (Nn A B F G (wx b) (wy b)) kk).isLt (by
              rcases Nat.eq_zero_or_pos (red ρ π n (Nn A B F G (wx b) (wy b)) kk).val with w | w
              · exact absurd (Fin.ext (by rw [w]; simp)) c3
              · exact w)
            have hst0 := j5.stair hord nx ybn (inv_fz hp k3') hkA
            have hn9 := hst0.few hp
            obtain ⟨M5, sc, e1, e2, e3, e4, e5, e6, e7⟩ := m12_climbs (i := wx b) (j := wy b) (q := kk) (v := red ρ π n (Nn A B F G (wx b) (wy b))) (s := shr ρ σ π n (Nn A B F G (wx b) (wy b))) hpr (by rw [f0]; exact hS2.1) l1 l2 l4 (by omega) (by omega) (by omega) (by omega) b2 c1 c3
            have hst := j5.stair hord nx ybn e2 hkA
            rw [e1, Option.bind_some]
            refine ⟨M5, by omega, ⟨n + 1, _, _, nm, mx, my, tl, _, _, _, k + 2, _, _, e3, e4, ⟨l3.1, by rw [e6 34 (by omega) (by omega)]; exact l3.2.1, fun r hr => by rw [e7 1026 (by omega) (by omega) (by omega) (by omega) (by omega) (by omega) (by omega) (by omega), e7 1027 (by omega) (by omega) (by omega) (by omega) (by omega) (by omega) (by omega) (by omega), e7 1028 (by omega) (by omega) (by omega) (by omega) (by omega) (by omega) (by omega) (by omega)]; exact l3.2.2 r hr⟩, e5, hst, by omega, by omega, fr4.trans ⟨fun k h1 _ h3 => e6 k h1 h3, fun r h1 h2 => e7 r h1 (by omega) (by omega) (by omega) (by omega) (by omega) (by omega) (by omega)⟩⟩, rfl⟩
    · left
      obtain ⟨y1, y2⟩ := i4.2.2 (k + 1) (by omega)
      obtain ⟨y3, y4⟩ := i4.2.2 b (by omega)
      have q1 := hwb (k + 1) (by omega)
      have q2 := hwb b (by omega)
      have h20 := i4.1
      rw [if_neg (fun w => by rw [nI_le_iff (by omega) (by omega)] at w; omega), cl_nI (n := k + 1) (by omega), cl_nI (n := b) (by omega), g_22.2.2.2.2.2.2.2.1, g_22.2.2.2.2.2.2.2.2.1, if_ck2 (by omega) (by omega), if_ck2 (by omega) (by omega), if_ck2 (by omega) (by omega), if_ck2 (by omega) (by omega), show M1 (1000 + 29) (k + 1) = _ from y1, show M1 (1000 + 30) (k + 1) = _ from y2, show M1 (1000 + 29) b = _ from y3, show M1 (1000 + 30) b = _ from y4, nI_add_1]
      have less := m12_isLess (i := wx (k + 1)) (j := wy (k + 1)) (k := wx b) (l := wy b) (M := M1) ho hu9 hv9 (by rw [i8.1 26 (by omega) (by omega) (by omega)]; exact m26) (by rw [i8.1 27 (by omega) (by omega) (by omega)]; exact m27) (by rw [i8.1 28 (by omega) (by omega) (by omega)]; exact m28) (by omega) (by omega) (by omega) (by omega)
      by_cases c : olt (ky1 o u v) (ky2 o) (wx (k + 1)) (wy (k + 1)) (wx b) (wy b)
      · rw [less.1 c, Option.bind_some, if_1]
        refine ⟨_, by omega, ⟨k + 1, rfl, by omega, fun l hl q => ?_⟩, rfl⟩
        by_cases e : l = k + 1
        · rw [e] at q; exact olt_irr q
        · exact hbl l (by omega) (olt_trans q c)
      · rw [less.2 c, Option.bind_some, if_0]
        refine ⟨_, by omega, ⟨b, rfl, by omega, fun l hl => ?_⟩, rfl⟩
        by_cases e : l = k + 1
        · rw [e]; exact c
        · exact hbl l (by omega)
