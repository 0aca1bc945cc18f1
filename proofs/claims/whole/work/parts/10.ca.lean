/-! the staircase is closed downwards; the first powers in the orders of letters -/
theorem comb_lin {K : Type} [Lean.Grind.CommRing K] (N : Nat → Nat → Nat → K) (sx sy : Nat → Nat) (D : Nat) (a : K) (c c' : Nat → K) (d : Nat) : comb N sx sy D (fun k => c k + a * c' k) d = comb N sx sy D c d + a * comb N sx sy D c' d := by
  unfold comb
  rw [← su_mul, ← su_add]
  exact su_cong (fun k _ => by grind)
theorem comb_0 {K : Type} [Lean.Grind.CommRing K] (N : Nat → Nat → Nat → K) (sx sy : Nat → Nat) (D d : Nat) : comb N sx sy D (fun _ => 0) d = 0 := su_zero' (fun k _ => by grind)
def LTs {K : Type} [Lean.Grind.CommRing K] (k1 k2 : Nat → Nat → Nat) (N : Nat → Nat → Nat → K) (D : Nat) (sx sy : Nat → Nat) (i j : Nat) (V : Nat → K) : Prop := ∃ c : Nat → K, (∀ d, V d = comb N sx sy D c d) ∧ ∀ k, k < D → c k ≠ 0 → olt k1 k2 (sx k) (sy k) i j
theorem LTs_su {K : Type} [Lean.Grind.CommRing K] {k1 k2 : Nat → Nat → Nat} {N : Nat → Nat → Nat → K} {D : Nat} {sx sy : Nat → Nat} {i j : Nat} {a : Nat → K} {W : Nat → Nat → K} : ∀ {n : Nat}, (∀ k, k < n → a k ≠ 0 → LTs k1 k2 N D sx sy i j (W k)) → LTs k1 k2 N D sx sy i j (fun d => su (fun k => a k * W k d) n)
  | 0, _ => ⟨fun _ => 0, fun d => by rw [comb_0]; rfl, fun k _ h => absurd rfl h⟩
  | n + 1, h => by
    obtain ⟨c, c1, c2⟩ := LTs_su (n := n) (fun k hk => h k (by omega))
    by_cases q : a n = 0
    · refine ⟨c, fun d => ?_, c2⟩
      show su (fun k => a k * W k d) n + a n * W n d = _
      have c1 : su (fun k => a k * W k d) n = comb N sx sy D c d := c1 d
      rw [c1, q, r_0m, r_a0]
    · obtain ⟨e, e1, e2⟩ := h n (by omega) q
      refine ⟨fun k => c k + a n * e k, fun d => ?_, fun k hk hne => ?_⟩
      · show su (fun k => a k * W k d) n + a n * W n d = _
        have c1 : su (fun k => a k * W k d) n = comb N sx sy D c d := c1 d
        rw [comb_lin, c1, e1 d]
      · by_cases q1 : c k = 0
        · by_cases q2 : e k = 0
          · exact absurd (show c k + a n * e k = 0 by rw [q1, q2, r_m0, r_a0]) hne
          · exact e2 k hk q2
        · exact c2 k hk q1
theorem BSt.up {K : Type} [Lean.Grind.CommRing K] (h01 : (0 : K) ≠ 1) {k1 k2 : Nat → Nat → Nat} (hk : OrdOK k1 k2) {A B : Nat} {f g : Nat → Nat → K} {D : Nat} {sx sy : Nat → Nat} (h : BSt k1 k2 (Nn A B f g) D sx sy) {i j : Nat} (hn : ¬ isSt D sx sy i j) (m n : Nat) : ¬ isSt D sx sy (i + m) (j + n) := by
  obtain ⟨c, c1, c2⟩ := h.2.2 i j hn
  have s2 := Nn_shY n (Nn_shX m c1)
  obtain ⟨e, e1, e2⟩ : LTs k1 k2 (Nn A B f g) D sx sy (i + m) (j + n) (fun d => su (fun k => c k * Nn A B f g (sx k + m) (sy k + n) d) D) := LTs_su (W := fun k d => Nn A B f g (sx k + m) (sy k + n) d) (fun k hk2 hc => by
    have lt := olt_add hk m n (c2 k hk2 hc)
    obtain ⟨e, e1, e2⟩ := h.le (sx k + m) (sy k + n)
    refine ⟨e, e1, fun l hl hne => ?_⟩
    rcases e2 l hl hne with q | ⟨q1, q2⟩
    · exact olt_trans q lt
    · rw [q1, q2]; exact lt)
  rintro ⟨r, hr, r1, r2⟩
  have e3 : e r = dl r r := h.1.one (c := e) (c' := dl r) (fun d => by
    rw [comb_dl _ _ _ hr, r1, r2, ← e1 d, s2 d]) hr
  rw [dl_s] at e3
  have := e2 r hr (by rw [e3]; exact fun q => h01 q.symm)
  rw [r1, r2] at this
  exact olt_irr this
theorem BSt.up' {K : Type} [Lean.Grind.CommRing K] (h01 : (0 : K) ≠ 1) {k1 k2 : Nat → Nat → Nat} (hk : OrdOK k1 k2) {A B : Nat} {f g : Nat → Nat → K} {D : Nat} {sx sy : Nat → Nat} (h : BSt k1 k2 (Nn A B f g) D sx sy) {i j a b : Nat} (hs : isSt D sx sy a b) (h1 : i ≤ a) (h2 : j ≤ b) : isSt D sx sy i j := by
  apply Classical.byContradiction
  intro hn
  have := h.up h01 hk hn (a - i) (b - j)
  rw [show i + (a - i) = a by omega, show j + (b - j) = b by omega] at this
  exact this hs
theorem BSt.kp {K : Type} [Lean.Grind.CommRing K] (h01 : (0 : K) ≠ 1) {k1 k2 : Nat → Nat → Nat} (hk : OrdOK k1 k2) {A B : Nat} {f g : Nat → Nat → K} {D : Nat} {sx sy : Nat → Nat} {nm : Nat} {mx my : Nat → Nat} {tl : Nat → Nat → K} (h : BSt k1 k2 (Nn A B f g) D sx sy) (hm : BMem k1 k2 (Nn A B f g) D sx sy nm mx my tl) (i j : Nat) : isSt D sx sy i j ↔ ¬ isMu nm mx my i j := by
  constructor
  · rintro hs ⟨k, q1, q2, q3⟩
    exact (hm.2.1 k q1).1 (h.up' h01 hk hs q2 q3)
  · have key : ∀ n i j, i + j < n → ¬ isSt D sx sy i j → isMu nm mx my i j := by
      intro n
      induction n with
      | zero => intro i j q; omega
      | succ n ih =>
        intro i j q hs
        by_cases c1 : i = 0 ∨ isSt D sx sy (i - 1) j
        · by_cases c2 : j = 0 ∨ isSt D sx sy i (j - 1)
          · obtain ⟨k, k1, k2, k3⟩ := hm.2.2.1 i j ⟨hs, c1, c2⟩
            exact ⟨k, k1, by omega, by omega⟩
          · have := ih i (j - 1) (by omega) (fun w => c2 (Or.inr w))
            exact this.up (Nat.le_refl _) (by omega)
        · have := ih (i - 1) j (by omega) (fun w => c1 (Or.inr w))
          exact this.up (by omega) (Nat.le_refl _)
    intro hmu
    apply Classical.byContradiction
    exact fun hs => hmu (key _ i j (Nat.lt_succ_self _) hs)
theorem BSt.one {K : Type} [Lean.Grind.CommRing K] (h01 : (0 : K) ≠ 1) {k1 k2 : Nat → Nat → Nat} (hk : OrdOK k1 k2) {A B : Nat} (hA : 1 ≤ A) (hB : 1 ≤ B) {f g : Nat → Nat → K} {D : Nat} {sx sy : Nat → Nat} (h : BSt k1 k2 (Nn A B f g) D sx sy) : isSt D sx sy 0 0 := by
  apply Classical.byContradiction
  intro hn
  obtain ⟨c, c1, c2⟩ := h.2.2 0 0 hn
  have e := c1 0
  rw [Nn_u (by omega) (by omega), if_pos (by omega)] at e
  refine h01 (e.trans ?_).symm
  unfold comb
  refine su_zero' (fun k hk2 => ?_)
  by_cases q : c k = 0
  · rw [q, r_0m]
  · exfalso
    have lt := c2 k hk2 q
    rcases olt_dvd hk (Nat.zero_le (sx k)) (Nat.zero_le (sy k)) with r | ⟨r1, r2⟩
    · exact olt_irr (olt_trans lt r)
    · rw [← r1, ← r2] at lt; exact olt_irr lt
theorem pig {D : Nat} {sx sy : Nat → Nat} {φ ψ : Nat → Nat} (hi : ∀ i j, i < j → ¬ (φ i = φ j ∧ ψ i = ψ j)) : ∃ i, i ≤ D ∧ ¬ isSt D sx sy (φ i) (ψ i) := by
  apply Classical.byContradiction
  intro hno
  have hall : ∀ i, ∃ k, i ≤ D → k < D ∧ sx k = φ i ∧ sy k = ψ i := fun i => by
    by_cases q : i ≤ D
    · have : isSt D sx sy (φ i) (ψ i) := Classical.byContradiction (fun w => hno ⟨i, q, w⟩)
      obtain ⟨k, a⟩ := this
      exact ⟨k, fun _ => a⟩
    · exact ⟨0, fun w => absurd w q⟩
  have := fb_holes D (D + 1) (fun i => Classical.choose (hall i)) (fun i hi => (Classical.choose_spec (hall i) (by omega)).1) (fun i j hij hj e => by
    have a := (Classical.choose_spec (hall i) (by omega)).2
    have b := (Classical.choose_spec (hall j) (by omega)).2
    have e : Classical.choose (hall i) = Classical.choose (hall j) := e
    rw [e] at a
    exact hi i j hij ⟨by omega, by omega⟩)
  omega
theorem first_x {K : Type} [Lean.Grind.CommRing K] (h01 : (0 : K) ≠ 1) {u v : Nat} (hu : 1 ≤ u) (hv : 1 ≤ v) {A B : Nat} (hA : 1 ≤ A) (hB : 1 ≤ B) {f g : Nat → Nat → K} {D : Nat} {sx sy : Nat → Nat} {nm : Nat} {mx my : Nat → Nat} {tl : Nat → Nat → K} (h : BSt (ky1 1 u v) (ky2 1) (Nn A B f g) D sx sy) (hm : BMem (ky1 1 u v) (ky2 1) (Nn A B f g) D sx sy nm mx my tl) : ∃ n, 1 ≤ n ∧ n ≤ D ∧ (∀ k, k < n → sx k = k ∧ sy k = 0) ∧ 0 < nm ∧ mx 0 = n ∧ my 0 = 0 ∧ ∀ t, n ≤ t → tl 0 t = 0 := by
  have hk : OrdOK (ky1 1 u v) (ky2 1) := ky_ok (by omega) hu hv
  have ol : ∀ i j a b, olt (ky1 1 u v) (ky2 1) i j a b ↔ (j < b ∨ j = b ∧ i < a) := fun i j a b => by
    unfold olt ky1 ky2
    simp
  obtain ⟨i0, -, hi0⟩ := pig (D := D) (sx := sx) (sy := sy) (φ := fun i => i) (ψ := fun i => 0) (fun i j hij => by omega)
  obtain ⟨n, hn, hl⟩ := pk_least (fun i => ¬ isSt D sx sy (i) (0)) ⟨i0, hi0⟩
  have hin : ∀ i, i < n → isSt D sx sy (i) (0) := fun i hi => Classical.byContradiction (fun w => hl i hi w)
  have h1 : 1 ≤ n := by
    rcases Nat.eq_zero_or_pos n with q | q
    · subst q; exact absurd (h.one h01 hk hA hB) hn
    · exact q
  have hst : ∀ k, k < n → k < D ∧ sx k = k ∧ sy k = 0 := by
    intro k
    induction k using Nat.strongRecOn with
    | ind k ih =>
      intro hkn
      obtain ⟨l, l1, l2, l3⟩ := hin k hkn
      rcases Nat.lt_trichotomy l k with q | q | q
      · have := ih l q (by omega); omega
      · subst q; exact ⟨l1, by omega, by omega⟩
      · exfalso
        have r := h.2.1 k l q l1
        rw [ol] at r
        obtain ⟨b1, b2, b3⟩ := ih (sx k) (by omega) (by omega)
        have := h.2.1.inj (k := k) (l := sx k) (by omega) b1 (by omega) (by omega)
        omega
  obtain ⟨m, m1, m2, m3⟩ := hm.2.2.1 (n) (0) ⟨hn, Or.inr (hin (n - 1) (by omega)), Or.inl rfl⟩
  have hm0 : m = 0 := by
    rcases Nat.eq_zero_or_pos m with q | q
    · exact q
    · exfalso
      have r := hm.1 0 m q m1
      rw [ol] at r
      refine (hm.2.1 0 (by omega)).1 ?_
      have := hin (mx 0) (by omega)
      rw [show mx 0 = mx 0 by omega, show my 0 = 0 by omega]
      exact this
  subst hm0
  refine ⟨n, h1, ?_, fun k hk2 => (hst k hk2).2, m1, by omega, by omega, fun t ht => ?_⟩
  · have := (hst (n - 1) (by omega)).1; omega
  · by_cases htD : t < D
    · obtain ⟨c, c1, c2⟩ := h.2.2 (n) (0) hn
      have e : (fun k => - tl 0 k) t = c t := h.1.one (c := fun k => - tl 0 k) (c' := c) (fun d => by
        have a := hm.2.2.2.1 0 m1 d
        rw [m2, m3] at a
        rw [comb_neg, ← c1 d]
        grind) htD
      by_cases q : c t = 0
      · rw [q] at e
        have e : - tl 0 t = 0 := e
        grind
      · exfalso
        have lt := c2 t htD q
        rw [ol] at lt
        obtain ⟨b1, b2, b3⟩ := hst (sx t) (by omega)
        have := h.2.1.inj (k := t) (l := sx t) htD b1 (by omega) (by omega)
        omega
    · exact hm.2.2.2.2 0 m1 t (by omega)
theorem first_y {K : Type} [Lean.Grind.CommRing K] (h01 : (0 : K) ≠ 1) {u v : Nat} (hu : 1 ≤ u) (hv : 1 ≤ v) {A B : Nat} (hA : 1 ≤ A) (hB : 1 ≤ B) {f g : Nat → Nat → K} {D : Nat} {sx sy : Nat → Nat} {nm : Nat} {mx my : Nat → Nat} {tl : Nat → Nat → K} (h : BSt (ky1 0 u v) (ky2 0) (Nn A B f g) D sx sy) (hm : BMem (ky1 0 u v) (ky2 0) (Nn A B f g) D sx sy nm mx my tl) : ∃ n, 1 ≤ n ∧ n ≤ D ∧ (∀ k, k < n → sy k = k ∧ sx k = 0) ∧ 0 < nm ∧ my 0 = n ∧ mx 0 = 0 ∧ ∀ t, n ≤ t → tl 0 t = 0 := by
  have hk : OrdOK (ky1 0 u v) (ky2 0) := ky_ok (by omega) hu hv
  have ol : ∀ i j a b, olt (ky1 0 u v) (ky2 0) i j a b ↔ (i < a ∨ i = a ∧ j < b) := fun i j a b => by
    unfold olt ky1 ky2
    simp
  obtain ⟨i0, -, hi0⟩ := pig (D := D) (sx := sx) (sy := sy) (φ := fun i => 0) (ψ := fun i => i) (fun i j hij => by omega)
  obtain ⟨n, hn, hl⟩ := pk_least (fun i => ¬ isSt D sx sy (0) (i)) ⟨i0, hi0⟩
  have hin : ∀ i, i < n → isSt D sx sy (0) (i) := fun i hi => Classical.byContradiction (fun w => hl i hi w)
  have h1 : 1 ≤ n := by
    rcases Nat.eq_zero_or_pos n with q | q
    · subst q; exact absurd (h.one h01 hk hA hB) hn
    · exact q
  have hst : ∀ k, k < n → k < D ∧ sy k = k ∧ sx k = 0 := by
    intro k
    induction k using Nat.strongRecOn with
    | ind k ih =>
      intro hkn
      obtain ⟨l, l1, l2, l3⟩ := hin k hkn
      rcases Nat.lt_trichotomy l k with q | q | q
      · have := ih l q (by omega); omega
      · subst q; exact ⟨l1, by omega, by omega⟩
      · exfalso
        have r := h.2.1 k l q l1
        rw [ol] at r
        obtain ⟨b1, b2, b3⟩ := ih (sy k) (by omega) (by omega)
        have := h.2.1.inj (k := k) (l := sy k) (by omega) b1 (by omega) (by omega)
        omega
  obtain ⟨m, m1, m2, m3⟩ := hm.2.2.1 (0) (n) ⟨hn, Or.inl rfl, Or.inr (hin (n - 1) (by omega))⟩
  have hm0 : m = 0 := by
    rcases Nat.eq_zero_or_pos m with q | q
    · exact q
    · exfalso
      have r := hm.1 0 m q m1
      rw [ol] at r
      refine (hm.2.1 0 (by omega)).1 ?_
      have := hin (my 0) (by omega)
      rw [show mx 0 = 0 by omega, show my 0 = my 0 by omega]
      exact this
  subst hm0
  refine ⟨n, h1, ?_, fun k hk2 => (hst k hk2).2, m1, by omega, by omega, fun t ht => ?_⟩
  · have := (hst (n - 1) (by omega)).1; omega
  · by_cases htD : t < D
    · obtain ⟨c, c1, c2⟩ := h.2.2 (0) (n) hn
      have e : (fun k => - tl 0 k) t = c t := h.1.one (c := fun k => - tl 0 k) (c' := c) (fun d => by
        have a := hm.2.2.2.1 0 m1 d
        rw [m2, m3] at a
        rw [comb_neg, ← c1 d]
        grind) htD
      by_cases q : c t = 0
      · rw [q] at e
        have e : - tl 0 t = 0 := e
        grind
      · exfalso
        have lt := c2 t htD q
        rw [ol] at lt
        obtain ⟨b1, b2, b3⟩ := hst (sy t) (by omega)
        have := h.2.1.inj (k := t) (l := sy t) htD b1 (by omega) (by omega)
        omega
    · exact hm.2.2.2.2 0 m1 t (by omega)
