/-! the walk of the class: its steps -/
theorem r_an {K : Type} [Lean.Grind.CommRing K] (a : K) : a + - a = 0 := by grind
theorem r_n0 {K : Type} [Lean.Grind.CommRing K] : - (0 : K) = 0 := by grind
theorem r_a0 {K : Type} [Lean.Grind.CommRing K] (a : K) : a + 0 = a := by grind
theorem r_0a {K : Type} [Lean.Grind.CommRing K] (a : K) : 0 + a = a := by grind
theorem r_1m {K : Type} [Lean.Grind.CommRing K] (a : K) : 1 * a = a := by grind
def Gr (nb : Nat) (bx by' : Nat → Nat) (bl : Nat → Int) (un : Nat → Nat) (ps : Nat → Bool) (nb' : Nat) (bx' by2 : Nat → Nat) (bl' : Nat → Int) (un' : Nat → Nat) (ps' : Nat → Bool) (i j : Nat) (s : Int) (w : Nat) : Prop :=
  (nb ≤ nb' ∧ nb' ≤ nb + 1) ∧ (∀ k, k < nb → bx' k = bx k ∧ by2 k = by' k ∧ bl' k = bl k ∧ un' k = un k ∧ ps' k = ps k) ∧ (∀ k, nb ≤ k → k < nb' → bx' k = i ∧ by2 k = j ∧ bl' k = s ∧ un' k = w ∧ ps' k = false) ∧ isBr nb' bx' by2 i j ∧ ((∀ k l, k < nb → l < nb → bx k = bx l → by' k = by' l → k = l) → ∀ k l, k < nb' → l < nb' → bx' k = bx' l → by2 k = by2 l → k = l) ∧ ctb ps' nb' = ctb ps nb
theorem m_bdGrow {c n i j w : Nat} {s : Int} {bx by' : Nat → Nat} {bl : Nat → Int} {un : Nat → Nat} {ps : Nat → Bool} {M : smM} (hc : smT 1 c 1) (h : BD M c n bx by' bl un ps) (hi : i < 1000) (hj : j < 1000) (hn19 : n < 19) : ∃ (M1 : smM) (n' : Nat) (bx' by2 : Nat → Nat) (bl' : Nat → Int) (un' : Nat → Nat) (ps' : Nat → Bool), m_X1_bring c (nI i) (nI j) (jI s) (nI w) M = some M1 ∧ BD M1 c n' bx' by2 bl' un' ps' ∧ Gr n bx by' bl un ps n' bx' by2 bl' un' ps' i j s w ∧ ∀ r, (r < c ∨ c + 6 ≤ r) → M1 r = M r := by
  have hb := m_bdBring (s := s) (w := w) hc h hi hj hn19
  by_cases q : ∃ k, k < n ∧ bx k = i ∧ by' k = j
  · exact ⟨M, n, bx, by', bl, un, ps, hb.1 q, h, ⟨⟨Nat.le_refl _, Nat.le_succ _⟩, fun k _ => ⟨rfl, rfl, rfl, rfl, rfl⟩, fun k h1 h2 => absurd h2 (Nat.not_lt.mpr h1), q, fun h => h, rfl⟩, fun _ _ => rfl⟩
  · have q' : ∀ k, k < n → ¬ (bx k = i ∧ by' k = j) := fun k hk e => q ⟨k, hk, e⟩
    obtain ⟨M1, e1, e2, e3⟩ := hb.2 q'
    refine ⟨M1, n + 1, _, _, _, _, _, e1, e2, ⟨⟨by omega, by omega⟩, fun k hk => ?_, fun k h1 h2 => ?_, ⟨n, by omega, up1_s .., up1_s ..⟩, fun hin k l hk hl e1 e2 => ?_, ctb_ext ps n⟩, e3⟩
    · have : k ≠ n := by omega
      exact ⟨up1_n this, up1_n this, up1_n this, up1_n this, up1_n this⟩
    · have : k = n := by omega
      subst this
      exact ⟨up1_s .., up1_s .., up1_s .., up1_s .., up1_s ..⟩
    · by_cases a : k = n
      · by_cases b : l = n
        · omega
        · rw [a, up1_s, up1_n b] at e1
          rw [a, up1_s, up1_n b] at e2
          exact absurd ⟨e1.symm, e2.symm⟩ (q' l (by omega))
      · by_cases b : l = n
        · rw [b, up1_s, up1_n a] at e1
          rw [b, up1_s, up1_n a] at e2
          exact absurd ⟨e1, e2⟩ (q' k (by omega))
        · rw [up1_n a, up1_n b] at e1
          rw [up1_n a, up1_n b] at e2
          exact hin k l (by omega) (by omega) e1 e2
/-- a member found -/
theorem WP.member {p : Nat} [NeZero p] {A B : Nat} {F G : Nat → Nat → Fin p} {o u v n : Nat} {sx sy : Nat → Nat} {nm : Nat} {mx my : Nat → Nat} {tl ρ σ : Nat → Nat → Fin p} {π : Nat → Nat} {nb : Nat} {bx by' : Nat → Nat} {bl : Nat → Int} {un : Nat → Nat} {ps : Nat → Bool} {f : Nat} (h : WP A B F G o u v n sx sy nm mx my tl ρ σ π nb bx by' bl un ps f) (ho : OrdOK (ky1 o u v) (ky2 o)) (hb : nb ≤ 1000) (hn : isNx (ky1 o u v) (ky2 o) n sx sy nm mx my (bx f) (by' f)) {w : Nat → Fin p} (hw : ∀ d, Nn A B F G (bx f) (by' f) d = comb (Nn A B F G) sx sy n w d) (hw0 : ∀ t, n ≤ t → w t = 0) : WP A B F G o u v n sx sy (nm + 1) (up1 mx nm (bx f)) (up1 my nm (by' f)) (up1 tl nm (fun t => - w t)) ρ σ π nb bx by' bl un ps 1000 := by
  obtain ⟨h1, h2, h3, h4, h5, h6, h7, h8, h9, h10⟩ := h
  have up : ∀ i j, isMu nm mx my i j → isMu (nm + 1) (up1 mx nm (bx f)) (up1 my nm (by' f)) i j := by
    rintro i j ⟨k, k1, k2, k3⟩
    exact ⟨k, by omega, by rw [up1_n (by omega)]; exact k2, by rw [up1_n (by omega)]; exact k3⟩
  refine ⟨h1.addM ho hn (fun k hk => ⟨up1_n (by omega), up1_n (by omega)⟩) (up1_s ..) (up1_s ..) hw, h2, h3, fun k hk => ?_, h5, h6, h7, h8, fun k hk hne hp => ?_, fun s hs => ?_⟩
  · by_cases e : k = nm
    · subst e
      rw [up1_s, up1_s, up1_s]
      refine ⟨fun d => ?_, fun t ht => ?_⟩
      · rw [comb_neg, hw d]; exact r_an _
      · show - w t = 0
        rw [hw0 t ht]; exact r_n0
    · rw [up1_n e, up1_n e, up1_n e]
      exact h4 k (by omega)
  · by_cases e : k = f
    · subst e
      exact Or.inr ⟨nm, by omega, by rw [up1_s]; omega, by rw [up1_s]; omega⟩
    · exact (h9 k hk e hp).imp id (up _ _)
  · obtain ⟨k, k1, k0, k2, k3, k4⟩ := h10 s hs
    exact ⟨k, k1, by omega, k2, k3, k4⟩
/-- a stair found -/
theorem WP.stair {p : Nat} [NeZero p] {A B : Nat} {F G : Nat → Nat → Fin p} {o u v n : Nat} {sx sy : Nat → Nat} {nm : Nat} {mx my : Nat → Nat} {tl ρ σ : Nat → Nat → Fin p} {π : Nat → Nat} {nb : Nat} {bx by' : Nat → Nat} {bl : Nat → Int} {un : Nat → Nat} {ps : Nat → Bool} {f : Nat} {nb1 : Nat} {bx1 by1 : Nat → Nat} {bl1 : Nat → Int} {un1 : Nat → Nat} {ps1 : Nat → Bool} {nb2 : Nat} {bx2 by2 : Nat → Nat} {bl2 : Nat → Int} {un2 : Nat → Nat} {ps2 : Nat → Bool} (h : WP A B F G o u v n sx sy nm mx my tl ρ σ π nb bx by' bl un ps f) (ho : OrdOK (ky1 o u v) (ky2 o)) (hf : f < nb) (hpf : ps f = true) (hn : isNx (ky1 o u v) (ky2 o) n sx sy nm mx my (bx f) (by' f)) {q : Nat} {sc : Fin p} (hs : sc * red ρ π n (Nn A B F G (bx f) (by' f)) q = 1) (hq : q < A * B) (g1 : Gr nb bx by' bl un ps nb1 bx1 by1 bl1 un1 ps1 (bx f + 1) (by' f) (n : Int) 0) (g2 : Gr nb1 bx1 by1 bl1 un1 ps1 nb2 bx2 by2 bl2 un2 ps2 (bx f) (by' f + 1) (n : Int) 1) (hb : nb2 ≤ 1000) : WP A B F G o u v (n + 1) (up1 sx n (bx f)) (up1 sy n (by' f)) nm mx my tl (up1 ρ n (fun d => sc * red ρ π n (Nn A B F G (bx f) (by' f)) d)) (up1 σ n (fun k => if k = n then sc else - (sc * shr ρ σ π n (Nn A B F G (bx f) (by' f)) k))) (up1 π n q) nb2 bx2 by2 bl2 un2 ps2 1000 := by
  obtain ⟨h1, h2, h3, h4, h5, h6, h7, h8, h9, h10⟩ := h
  obtain ⟨a1, a2, a3, a4, a5, a6⟩ := g1
  obtain ⟨b1, b2, b3, b4, b5, b6⟩ := g2
  have eq : ∀ k, k < n → up1 sx n (bx f) k = sx k ∧ up1 sy n (by' f) k = sy k := fun k hk => ⟨up1_n (by omega), up1_n (by omega)⟩
  have old : ∀ k, k < nb → bx2 k = bx k ∧ by2 k = by' k ∧ bl2 k = bl k ∧ un2 k = un k ∧ ps2 k = ps k := fun k hk => by
    obtain ⟨c1, c2, c3, c4, c5⟩ := a2 k hk
    obtain ⟨d1, d2, d3, d4, d5⟩ := b2 k (by omega)
    exact ⟨d1.trans c1, d2.trans c2, d3.trans c3, d4.trans c4, d5.trans c5⟩
  have brm : ∀ i j, isBr nb bx by' i j → isBr nb2 bx2 by2 i j := by
    rintro i j ⟨k, k1, k2, k3⟩
    exact ⟨k, by omega, by rw [(old k k1).1]; exact k2, by rw [(old k k1).2.1]; exact k3⟩
  have brm1 : ∀ i j, isBr nb1 bx1 by1 i j → isBr nb2 bx2 by2 i j := by
    rintro i j ⟨k, k1, k2, k3⟩
    exact ⟨k, by omega, by rw [(b2 k k1).1]; exact k2, by rw [(b2 k k1).2.1]; exact k3⟩
  have stm : ∀ i j, isSt n sx sy i j → isSt (n + 1) (up1 sx n (bx f)) (up1 sy n (by' f)) i j := fun i j hh => (isSt_succ eq i j).mpr (Or.inl hh)
  refine ⟨h1.addS ho hn eq (up1_s ..) (up1_s ..), ?_, fun r hr => ?_, fun k hk => ?_, ⟨by omega, by omega⟩, fun k hk => ?_, fun i j hij => ?_, b5 (a5 h8), fun k hk hne hp => ?_, fun s hs2 => ?_⟩
  · refine h2.add (v := Nn A B F G (bx f) (by' f)) (q := q) (s := sc) hs (fun k hk => ?_) ?_ (fun k hk => up1_n (by omega)) (fun d => by rw [up1_s]) (fun k hk => up1_n (by omega)) (fun k => by rw [up1_s]) (fun k hk => up1_n (by omega)) (up1_s ..)
    · show (fun d => Nn A B F G _ _ d) = _
      rw [(eq k hk).1, (eq k hk).2]
    · show (fun d => Nn A B F G _ _ d) = _
      rw [up1_s, up1_s]
  · by_cases e : r = n
    · rw [e, up1_s]; exact hq
    · rw [up1_n e]; exact h3 r (by omega)
  · obtain ⟨m1, m2⟩ := h4 k hk
    refine ⟨fun d => ?_, fun t ht => m2 t (by omega)⟩
    have e : tl k = fun l => if l < n then tl k l else 0 := by
      funext l
      by_cases q : l < n
      · rw [if_pos q]
      · rw [if_neg q]; exact m2 l (by omega)
    rw [e, comb_ext eq (tl k) d]
    exact m1 d
  · by_cases c : k < nb
    · obtain ⟨c1, c2, c3, c4, -⟩ := old k c
      rcases h6 k c with ⟨z1, z2, z3⟩ | ⟨s, s1, s2, s3⟩
      · exact Or.inl ⟨by rw [c3]; exact z1, by rw [c1]; exact z2, by rw [c2]; exact z3⟩
      · refine Or.inr ⟨s, by omega, by rw [c3]; exact s2, ?_⟩
        rw [c1, c2, c4, (eq s s1).1, (eq s s1).2]; exact s3
    · by_cases c' : k < nb1
      · obtain ⟨c1, c2, c3, c4, -⟩ := b2 k c'
        obtain ⟨d1, d2, d3, d4, -⟩ := a3 k (by omega) c'
        exact Or.inr ⟨n, by omega, by rw [c3]; exact d3, Or.inl ⟨by rw [c4]; exact d4, by rw [c1, up1_s]; exact d1, by rw [c2, up1_s]; exact d2⟩⟩
      · obtain ⟨d1, d2, d3, d4, -⟩ := b3 k (by omega) hk
        exact Or.inr ⟨n, by omega, d3, Or.inr ⟨d4, by rw [up1_s]; exact d1, by rw [up1_s]; exact d2⟩⟩
  · rcases hij with ⟨i0, j0⟩ | ⟨k, hk, e1, e2⟩ | ⟨k, hk, e1, e2⟩
    · exact brm _ _ (h7 i j (Or.inl ⟨i0, j0⟩))
    · by_cases e : k = n
      · rw [e, up1_s] at e1 e2
        rw [e1, e2]; exact brm1 _ _ a4
      · rw [up1_n e] at e1 e2
        exact brm _ _ (h7 i j (Or.inr (Or.inl ⟨k, by omega, e1, e2⟩)))
    · by_cases e : k = n
      · rw [e, up1_s] at e1 e2
        rw [e1, e2]; exact b4
      · rw [up1_n e] at e1 e2
        exact brm _ _ (h7 i j (Or.inr (Or.inr ⟨k, by omega, e1, e2⟩)))
  · by_cases c : k < nb
    · obtain ⟨c1, c2, -, -, c5⟩ := old k c
      rw [c1, c2]
      rw [c5] at hp
      by_cases e : k = f
      · rw [e]; exact Or.inl ⟨n, by omega, up1_s .., up1_s ..⟩
      · exact (h9 k c e hp).imp (stm _ _) id
    · by_cases c' : k < nb1
      · rw [(b2 k c').2.2.2.2, (a3 k (by omega) c').2.2.2.2] at hp; cases hp
      · rw [(b3 k (by omega) hk).2.2.2.2] at hp; cases hp
  · by_cases e : s = n
    · refine ⟨f, by omega, by omega, by rw [(old f hf).2.2.2.2]; exact hpf, ?_, ?_⟩
      · rw [e, up1_s]; exact (old f hf).1
      · rw [e, up1_s]; exact (old f hf).2.1
    · obtain ⟨k, k1, k0, k2, k3, k4⟩ := h10 s (by omega)
      refine ⟨k, by omega, by omega, by rw [(old k k1).2.2.2.2]; exact k2, ?_, ?_⟩
      · rw [up1_n e, (old k k1).1]; exact k3
      · rw [up1_n e, (old k k1).2.1]; exact k4
/-! its memory -/
theorem MB.fr {M M1 : smM} {g p nm : Nat} [NeZero p] {mx my : Nat → Nat} {tl : Nat → Nat → Fin p} (h : MB M g p nm mx my tl) (e : ∀ r, g ≤ r → r < g + 14 → M1 r = M r) : MB M1 g p nm mx my tl := by
  obtain ⟨a, b, c⟩ := h
  refine ⟨a, by rw [e g (by omega) (by omega)]; exact b, fun k hk => ?_⟩
  obtain ⟨c1, c2, c3, c4, c5⟩ := c k hk
  refine ⟨by rw [e (g + 1) (by omega) (by omega)]; exact c1, by rw [e (g + 2) (by omega) (by omega)]; exact c2, fun t ht => ?_, c4, c5⟩
  rw [e (g + 3 + 1 + k) (by omega) (by omega)]; exact c3 t ht
theorem SP.fr {M M1 : smM} {s p n : Nat} [NeZero p] {ρ σ : Nat → Nat → Fin p} {π : Nat → Nat} (h : SP M s p n ρ σ π) (e : ∀ r, s ≤ r → r < s + 22 → M1 r = M r) : SP M1 s p n ρ σ π := by
  obtain ⟨a, b, c, d⟩ := h
  refine ⟨a, by rw [e s (by omega) (by omega)]; exact b, by rw [e s (by omega) (by omega)]; exact c, fun r hr => ?_⟩
  obtain ⟨c1, c2, c3, c4⟩ := d r hr
  refine ⟨fun t ht => ?_, fun t ht => ?_, by rw [e (s + 21) (by omega) (by omega)]; exact c3, c4⟩
  · rw [e (s + 1 + 1 + r) (by omega) (by omega)]; exact c1 t ht
  · rw [e (s + 11 + 1 + r) (by omega) (by omega)]; exact c2 t ht
theorem BD.fr {M M1 : smM} {c n : Nat} {bx by' : Nat → Nat} {bl : Nat → Int} {un : Nat → Nat} {ps : Nat → Bool} (h : BD M c n bx by' bl un ps) (e : ∀ r, c ≤ r → r < c + 6 → M1 r = M r) : BD M1 c n bx by' bl un ps := by
  obtain ⟨a, b, d⟩ := h
  refine ⟨a, by rw [e c (by omega) (by omega)]; exact b, fun k hk => ?_⟩
  rw [e (c + 1) (by omega) (by omega), e (c + 2) (by omega) (by omega), e (c + 3) (by omega) (by omega), e (c + 4) (by omega) (by omega), e (c + 5) (by omega) (by omega)]
  exact d k hk
theorem tb_d : ∀ r, r < 507 → smKd r = 0 → smKd (r + 2) = 4 ∧ smKd (r + 16) = 9 ∧ smKd (r + 50) = 1 ∧ smKd (r + 1) = 10 ∧ r + 50 < 507 := by decide +kernel
theorem tb {r : Nat} (h : smT 1 r 0) : smT 1 (r + 2) 4 ∧ smT 1 (r + 16) 9 ∧ smT 1 (r + 50) 1 := by
  have e : smLo 1 + smNn 1 = 507 := by decide
  obtain ⟨h1, h2, h3⟩ := h
  obtain ⟨a, b, c, d, f⟩ := tb_d r (by omega) h3
  exact ⟨⟨by omega, by omega, a⟩, ⟨by omega, by omega, b⟩, ⟨by omega, by omega, c⟩⟩
def WB (M : smM) (b : Nat) {p : Nat} [NeZero p] (A B : Nat) (F G : Nat → Nat → Fin p) (o u v n : Nat) (sx sy : Nat → Nat) (nm : Nat) (mx my : Nat → Nat) (tl ρ σ : Nat → Nat → Fin p) (π : Nat → Nat) (nb : Nat) (bx by' : Nat → Nat) (bl : Nat → Int) (un : Nat → Nat) (ps : Nat → Bool) : Prop :=
  (M (b + 1) 0 = nI o ∧ M (b + 1) 1 = nI u ∧ M (b + 1) 2 = nI v) ∧ MB M (b + 2) p nm mx my tl ∧ SP M (b + 16) p n ρ σ π ∧ (∀ k, k < n → M (b + 38) k = nI (sx k) ∧ M (b + 39) k = nI (sy k) ∧ sx k + sy k ≤ k ∧ ∀ d, d < 9 → M (b + 40 + 1 + k) d = nI (Nn A B F G (sx k) (sy k) d).val) ∧ BD M (b + 50) nb bx by' bl un ps
/-- what is left of a term is nothing beyond the room -/
theorem Ech.far {p : Nat} [NeZero p] {A B : Nat} {F G : Nat → Nat → Fin p} {sx sy : Nat → Nat} {ρ σ : Nat → Nat → Fin p} {π : Nat → Nat} {n : Nat} (h : Ech (fun k d => Nn A B F G (sx k) (sy k) d) ρ σ π n) (i j : Nat) {d : Nat} (hd : A * B ≤ d) : red ρ π n (Nn A B F G i j) d = 0 := by
  have e := red_shr (π := π) (v := Nn A B F G i j) (n := n) h.2.2.1 d
  rw [Nn_big hd (i + j + 1) i j (by omega), su_zero' (fun k hk => by
    show _ * Nn A B F G _ _ d = 0
    rw [Nn_big hd (sx k + sy k + 1) _ _ (by omega)]; exact r_m0 _), r_a0] at e
  exact e.symm
