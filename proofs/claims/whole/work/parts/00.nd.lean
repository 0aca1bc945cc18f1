/-! the walk: what holds of the stairs and members found so far -/
def isMu (nm : Nat) (mx my : Nat → Nat) (i j : Nat) : Prop := ∃ k, k < nm ∧ mx k ≤ i ∧ my k ≤ j
def isBd (n : Nat) (sx sy : Nat → Nat) (i j : Nat) : Prop := (i = 0 ∧ j = 0) ∨ (∃ k, k < n ∧ i = sx k + 1 ∧ j = sy k) ∨ ∃ k, k < n ∧ i = sx k ∧ j = sy k + 1
def WI {K : Type} [Lean.Grind.CommRing K] (k1 k2 : Nat → Nat → Nat) (N : Nat → Nat → Nat → K) (n : Nat) (sx sy : Nat → Nat) (nm : Nat) (mx my : Nat → Nat) : Prop :=
  BRise k1 k2 n sx sy ∧ BRise k1 k2 nm mx my ∧
  (∀ i j, (isSt n sx sy i j ∨ isSt nm mx my i j) → ∀ a b, olt k1 k2 a b i j → isSt n sx sy a b ∨ isMu nm mx my a b) ∧
  (∀ i j, isSt n sx sy i j → ¬ isMu nm mx my i j) ∧
  (∀ k l, k < nm → l < nm → mx k ≤ mx l → my k ≤ my l → k = l) ∧
  ∀ k, k < nm → ∃ c : Nat → K, (∀ d, N (mx k) (my k) d = comb N sx sy n c d) ∧ ∀ l, l < n → c l ≠ 0 → olt k1 k2 (sx l) (sy l) (mx k) (my k)
/-- the next term: of the border, neither stair nor multiple of a member, none such is less -/
def isNx (k1 k2 : Nat → Nat → Nat) (n : Nat) (sx sy : Nat → Nat) (nm : Nat) (mx my : Nat → Nat) (i j : Nat) : Prop :=
  ¬ isSt n sx sy i j ∧ ¬ isMu nm mx my i j ∧ ∀ a b, isBd n sx sy a b → isSt n sx sy a b ∨ isMu nm mx my a b ∨ ¬ olt k1 k2 a b i j
theorem isMu.up {nm : Nat} {mx my : Nat → Nat} {i j a b : Nat} (h : isMu nm mx my i j) (h1 : i ≤ a) (h2 : j ≤ b) : isMu nm mx my a b := by
  obtain ⟨k, q1, q2, q3⟩ := h
  exact ⟨k, q1, by omega, by omega⟩
theorem nx_below {k1 k2 : Nat → Nat → Nat} (hk : OrdOK k1 k2) {n : Nat} {sx sy : Nat → Nat} {nm : Nat} {mx my : Nat → Nat} {i j : Nat} (h : isNx k1 k2 n sx sy nm mx my i j) : ∀ a b, olt k1 k2 a b i j → isSt n sx sy a b ∨ isMu nm mx my a b := by
  refine ord_ind (k1 := k1) (k2 := k2) (P := fun a b => olt k1 k2 a b i j → isSt n sx sy a b ∨ isMu nm mx my a b) (fun a b ih hab => ?_)
  have bd : isBd n sx sy a b → isSt n sx sy a b ∨ isMu nm mx my a b := fun q => by
    rcases h.2.2 a b q with q | q | q
    · exact Or.inl q
    · exact Or.inr q
    · exact absurd hab q
  rcases Nat.eq_zero_or_pos a with ha | ha
  · rcases Nat.eq_zero_or_pos b with hb | hb
    · exact bd (Or.inl ⟨ha, hb⟩)
    · have up := olt_up hk a (b - 1) (m := 0) (n := 1) (by omega)
      rw [show a + 0 = a from rfl, show b - 1 + 1 = b by omega] at up
      rcases ih a (b - 1) up (olt_trans up hab) with ⟨k, q1, q2, q3⟩ | q
      · exact bd (Or.inr (Or.inr ⟨k, q1, q2.symm, by omega⟩))
      · exact Or.inr (q.up (Nat.le_refl _) (by omega))
  · have up := olt_up hk (a - 1) b (m := 1) (n := 0) (by omega)
    rw [show a - 1 + 1 = a by omega, show b + 0 = b from rfl] at up
    rcases ih (a - 1) b up (olt_trans up hab) with ⟨k, q1, q2, q3⟩ | q
    · exact bd (Or.inr (Or.inl ⟨k, q1, by omega, q3.symm⟩))
    · exact Or.inr (q.up (by omega) (Nat.le_refl _))
theorem WI.gt {K : Type} [Lean.Grind.CommRing K] {k1 k2 : Nat → Nat → Nat} (hk : OrdOK k1 k2) {N : Nat → Nat → Nat → K} {n : Nat} {sx sy : Nat → Nat} {nm : Nat} {mx my : Nat → Nat} (h : WI k1 k2 N n sx sy nm mx my) {i j : Nat} (hn : isNx k1 k2 n sx sy nm mx my i j) {a b : Nat} (hv : isSt n sx sy a b ∨ isSt nm mx my a b) : olt k1 k2 a b i j := by
  rcases olt_tri hk a b i j with q | ⟨q1, q2⟩ | q
  · exact q
  · exfalso
    subst q1; subst q2
    rcases hv with v | ⟨k, v1, v2, v3⟩
    · exact hn.1 v
    · exact hn.2.1 ⟨k, v1, by omega, by omega⟩
  · exfalso
    rcases h.2.2.1 a b hv i j q with r | r
    · exact hn.1 r
    · exact hn.2.1 r
theorem isSt_succ {n : Nat} {sx sy sx' sy' : Nat → Nat} (e : ∀ k, k < n → sx' k = sx k ∧ sy' k = sy k) (i j : Nat) : isSt (n + 1) sx' sy' i j ↔ isSt n sx sy i j ∨ (sx' n = i ∧ sy' n = j) := by
  constructor
  · rintro ⟨k, a, b, c⟩
    by_cases q : k = n
    · subst q; exact Or.inr ⟨b, c⟩
    · have hk : k < n := by omega
      exact Or.inl ⟨k, hk, by rw [← (e k hk).1]; exact b, by rw [← (e k hk).2]; exact c⟩
  · rintro (⟨k, a, b, c⟩ | ⟨b, c⟩)
    · exact ⟨k, by omega, by rw [(e k a).1]; exact b, by rw [(e k a).2]; exact c⟩
    · exact ⟨n, by omega, b, c⟩
theorem isMu_succ {n : Nat} {mx my mx' my' : Nat → Nat} (e : ∀ k, k < n → mx' k = mx k ∧ my' k = my k) (i j : Nat) : isMu (n + 1) mx' my' i j ↔ isMu n mx my i j ∨ (mx' n ≤ i ∧ my' n ≤ j) := by
  constructor
  · rintro ⟨k, a, b, c⟩
    by_cases q : k = n
    · subst q; exact Or.inr ⟨b, c⟩
    · have hk : k < n := by omega
      exact Or.inl ⟨k, hk, by rw [← (e k hk).1]; exact b, by rw [← (e k hk).2]; exact c⟩
  · rintro (⟨k, a, b, c⟩ | ⟨b, c⟩)
    · exact ⟨k, by omega, by rw [(e k a).1]; exact b, by rw [(e k a).2]; exact c⟩
    · exact ⟨n, by omega, b, c⟩
theorem BRise.add {k1 k2 : Nat → Nat → Nat} {n : Nat} {sx sy sx' sy' : Nat → Nat} (h : BRise k1 k2 n sx sy) (e : ∀ k, k < n → sx' k = sx k ∧ sy' k = sy k) (ht : ∀ k, k < n → olt k1 k2 (sx k) (sy k) (sx' n) (sy' n)) : BRise k1 k2 (n + 1) sx' sy' := by
  intro k l hkl hl
  by_cases q : l = n
  · subst q
    rw [(e k hkl).1, (e k hkl).2]; exact ht k hkl
  · rw [(e k (by omega)).1, (e k (by omega)).2, (e l (by omega)).1, (e l (by omega)).2]; exact h k l hkl (by omega)
theorem comb_ext {K : Type} [Lean.Grind.CommRing K] {N : Nat → Nat → Nat → K} {n : Nat} {sx sy sx' sy' : Nat → Nat} (e : ∀ k, k < n → sx' k = sx k ∧ sy' k = sy k) (c : Nat → K) (d : Nat) : comb N sx' sy' (n + 1) (fun l => if l < n then c l else 0) d = comb N sx sy n c d := by
  unfold comb
  simp only [su]
  rw [if_neg (Nat.lt_irrefl n), su_cong (g := fun k => c k * N (sx k) (sy k) d) (fun k hk => by rw [if_pos hk, (e k hk).1, (e k hk).2])]
  grind
theorem WI.addS {K : Type} [Lean.Grind.CommRing K] {k1 k2 : Nat → Nat → Nat} (hk : OrdOK k1 k2) {N : Nat → Nat → Nat → K} {n : Nat} {sx sy sx' sy' : Nat → Nat} {nm : Nat} {mx my : Nat → Nat} (h : WI k1 k2 N n sx sy nm mx my) {i j : Nat} (hn : isNx k1 k2 n sx sy nm mx my i j) (e : ∀ k, k < n → sx' k = sx k ∧ sy' k = sy k) (ex : sx' n = i) (ey : sy' n = j) : WI k1 k2 N (n + 1) sx' sy' nm mx my := by
  have gt := fun {a b : Nat} (q : isSt n sx sy a b ∨ isSt nm mx my a b) => h.gt hk hn q
  have bel := nx_below hk hn
  obtain ⟨h1, h2, h3, h4, h5, h6⟩ := h
  subst ex; subst ey
  refine ⟨h1.add e (fun k hk2 => gt (Or.inl ⟨k, hk2, rfl, rfl⟩)), h2, fun a b hv c d hcd => ?_, fun a b hs => ?_, h5, fun k hk2 => ?_⟩
  · rw [isSt_succ e]
    rw [isSt_succ e] at hv
    rcases hv with (v | ⟨v1, v2⟩) | v
    · rcases h3 a b (Or.inl v) c d hcd with r | r
      · exact Or.inl (Or.inl r)
      · exact Or.inr r
    · subst v1; subst v2
      rcases bel c d hcd with r | r
      · exact Or.inl (Or.inl r)
      · exact Or.inr r
    · rcases h3 a b (Or.inr v) c d hcd with r | r
      · exact Or.inl (Or.inl r)
      · exact Or.inr r
  · rw [isSt_succ e] at hs
    rcases hs with v | ⟨v1, v2⟩
    · exact h4 a b v
    · subst v1; subst v2; exact hn.2.1
  · obtain ⟨c, c1, c2⟩ := h6 k hk2
    refine ⟨fun l => if l < n then c l else 0, fun d => by rw [comb_ext e]; exact c1 d, fun l hl hne => ?_⟩
    by_cases q : l < n
    · simp only [if_pos q] at hne
      rw [(e l q).1, (e l q).2]; exact c2 l q hne
    · simp only [if_neg q] at hne
      exact absurd rfl hne
theorem WI.addM {K : Type} [Lean.Grind.CommRing K] {k1 k2 : Nat → Nat → Nat} (hk : OrdOK k1 k2) {N : Nat → Nat → Nat → K} {n : Nat} {sx sy : Nat → Nat} {nm : Nat} {mx my mx' my' : Nat → Nat} (h : WI k1 k2 N n sx sy nm mx my) {i j : Nat} (hn : isNx k1 k2 n sx sy nm mx my i j) (e : ∀ k, k < nm → mx' k = mx k ∧ my' k = my k) (ex : mx' nm = i) (ey : my' nm = j) {c : Nat → K} (hc : ∀ d, N i j d = comb N sx sy n c d) : WI k1 k2 N n sx sy (nm + 1) mx' my' := by
  have gt := fun {a b : Nat} (q : isSt n sx sy a b ∨ isSt nm mx my a b) => h.gt hk hn q
  have bel := nx_below hk hn
  obtain ⟨h1, h2, h3, h4, h5, h6⟩ := h
  subst ex; subst ey
  refine ⟨h1, h2.add e (fun k hk2 => gt (Or.inr ⟨k, hk2, rfl, rfl⟩)), fun a b hv c d hcd => ?_, fun a b hs => ?_, fun k l a b g1 g2 => ?_, fun k hk2 => ?_⟩
  · rw [isMu_succ e]
    rw [isSt_succ e] at hv
    have fin : (isSt n sx sy c d ∨ isMu nm mx my c d) → isSt n sx sy c d ∨ isMu nm mx my c d ∨ mx' nm ≤ c ∧ my' nm ≤ d := fun r => r.elim Or.inl (fun r => Or.inr (Or.inl r))
    rcases hv with v | v | ⟨v1, v2⟩
    · exact fin (h3 a b (Or.inl v) c d hcd)
    · exact fin (h3 a b (Or.inr v) c d hcd)
    · subst v1; subst v2
      exact fin (bel c d hcd)
  · rw [isMu_succ e]
    rintro (r | ⟨r1, r2⟩)
    · exact h4 a b hs r
    · have q := gt (Or.inl hs)
      rcases olt_dvd hk r1 r2 with r | ⟨r3, r4⟩
      · exact olt_irr (olt_trans q r)
      · rw [r3, r4] at q; exact olt_irr q
  · by_cases ek : k = nm
    · by_cases el : l = nm
      · omega
      · exfalso
        subst ek
        have q := gt (a := mx l) (b := my l) (Or.inr ⟨l, by omega, rfl, rfl⟩)
        rw [(e l (by omega)).1] at g1
        rw [(e l (by omega)).2] at g2
        rcases olt_dvd hk g1 g2 with r | ⟨r3, r4⟩
        · exact olt_irr (olt_trans q r)
        · rw [r3, r4] at q; exact olt_irr q
    · by_cases el : l = nm
      · exfalso
        subst el
        rw [(e k (by omega)).1] at g1
        rw [(e k (by omega)).2] at g2
        exact hn.2.1 ⟨k, by omega, g1, g2⟩
      · rw [(e k (by omega)).1, (e l (by omega)).1] at g1
        rw [(e k (by omega)).2, (e l (by omega)).2] at g2
        exact h5 k l (by omega) (by omega) g1 g2
  · by_cases ek : k = nm
    · subst ek
      exact ⟨c, hc, fun l hl _ => gt (Or.inl ⟨l, hl, rfl, rfl⟩)⟩
    · rw [(e k (by omega)).1, (e k (by omega)).2]; exact h6 k (by omega)
theorem WI.zero {K : Type} [Lean.Grind.CommRing K] (k1 k2 : Nat → Nat → Nat) (N : Nat → Nat → Nat → K) (sx sy mx my : Nat → Nat) : WI k1 k2 N 0 sx sy 0 mx my := by
  have h0 : ∀ {n : Nat} {P : Prop}, n < 0 → P := fun h => absurd h (Nat.not_lt_zero _)
  refine ⟨fun _ _ _ h => h0 h, fun _ _ _ h => h0 h, fun i j hv => ?_, fun i j hs => ?_, fun _ _ h => h0 h, fun _ h => h0 h⟩
  · rcases hv with ⟨k, a, -⟩ | ⟨k, a, -⟩ <;> exact h0 a
  · obtain ⟨k, a, -⟩ := hs
    exact h0 a
/-- members are at most one more than the stairs -/
theorem WI.few {K : Type} [Lean.Grind.CommRing K] {k1 k2 : Nat → Nat → Nat} (hk : OrdOK k1 k2) {N : Nat → Nat → Nat → K} {n : Nat} {sx sy : Nat → Nat} {nm : Nat} {mx my : Nat → Nat} (h : WI k1 k2 N n sx sy nm mx my) : nm ≤ n + 1 := by
  obtain ⟨h1, h2, h3, h4, h5, h6⟩ := h
  have hst : ∀ k, k < nm → my k ≠ 0 → isSt n sx sy (mx k) (my k - 1) := by
    intro k hk2 h0
    have up := olt_up hk (mx k) (my k - 1) (m := 0) (n := 1) (by omega)
    rw [show mx k + 0 = mx k from rfl, show my k - 1 + 1 = my k by omega] at up
    rcases h3 (mx k) (my k) (Or.inr ⟨k, hk2, rfl, rfl⟩) _ _ up with q | ⟨l, l1, l2, l3⟩
    · exact q
    · exfalso
      have := h5 l k l1 hk2 l2 (by omega)
      subst this
      omega
  have hst2 : ∀ k, ∃ r, k < nm → (my k ≠ 0 → r < n ∧ sx r = mx k ∧ sy r = my k - 1) := by
    intro k
    by_cases q : k < nm ∧ my k ≠ 0
    · obtain ⟨r, a⟩ := hst k q.1 q.2
      exact ⟨r, fun _ _ => a⟩
    · exact ⟨0, fun a b => absurd ⟨a, b⟩ q⟩
  refine fb_holes (n + 1) nm (fun k => if my k = 0 then n else Classical.choose (hst2 k)) (fun k hk2 => ?_) (fun k l hkl hl => ?_)
  · by_cases q : my k = 0
    · simp only [if_pos q]; omega
    · simp only [if_neg q]
      have := (Classical.choose_spec (hst2 k) hk2 q).1
      omega
  · have hk2 : k < nm := by omega
    by_cases q : my k = 0
    · by_cases q2 : my l = 0
      · exfalso
        rcases Nat.le_total (mx k) (mx l) with r | r
        · have := h5 k l hk2 hl r (by omega)
          omega
        · have := h5 l k hl hk2 r (by omega)
          omega
      · simp only [if_pos q, if_neg q2]
        have := (Classical.choose_spec (hst2 l) hl q2).1
        omega
    · by_cases q2 : my l = 0
      · simp only [if_neg q, if_pos q2]
        have := (Classical.choose_spec (hst2 k) hk2 q).1
        omega
      · simp only [if_neg q, if_neg q2]
        intro e
        have a := (Classical.choose_spec (hst2 k) hk2 q).2
        have b := (Classical.choose_spec (hst2 l) hl q2).2
        rw [e] at a
        have := h5 k l hk2 hl (by omega) (by omega)
        omega
/-- at the end each term is a stair, or a multiple of a member -/
theorem nx_all {n : Nat} {sx sy : Nat → Nat} {nm : Nat} {mx my : Nat → Nat} (h : ∀ a b, isBd n sx sy a b → isSt n sx sy a b ∨ isMu nm mx my a b) : ∀ (m a b : Nat), a + b < m → isSt n sx sy a b ∨ isMu nm mx my a b
  | 0, a, b, hm => absurd hm (by omega)
  | m + 1, a, b, hm => by
    rcases Nat.eq_zero_or_pos a with ha | ha
    · rcases Nat.eq_zero_or_pos b with hb | hb
      · exact h a b (Or.inl ⟨ha, hb⟩)
      · rcases nx_all h m a (b - 1) (by omega) with ⟨k, q1, q2, q3⟩ | q
        · exact h a b (Or.inr (Or.inr ⟨k, q1, q2.symm, by omega⟩))
        · exact Or.inr (q.up (Nat.le_refl _) (by omega))
    · rcases nx_all h m (a - 1) b (by omega) with ⟨k, q1, q2, q3⟩ | q
      · exact h a b (Or.inr (Or.inl ⟨k, q1, by omega, q3.symm⟩))
      · exact Or.inr (q.up (by omega) (Nat.le_refl _))
theorem mulZ_su {K : Type} [Lean.Grind.CommRing K] (A B : Nat) (z : Nat → Nat → K) (c : Nat → K) (φ : Nat → Nat → K) (n : Nat) : mulZ A B z (fun d => su (fun k => c k * φ k d) n) = su (fun k => c k * mulZ A B z (φ k)) n := by
  unfold mulZ
  have e1 : su (fun j => su (fun i => su (fun k => c k * φ k (A * j + i)) n * z i j) A) B = su (fun j => su (fun k => c k * su (fun i => φ k (A * j + i) * z i j) A) n) B := su_cong (fun j _ => by
    have e2 : su (fun i => su (fun k => c k * φ k (A * j + i)) n * z i j) A = su (fun i => su (fun k => c k * (φ k (A * j + i) * z i j)) n) A := su_cong (fun i _ => by
      have e3 := su_mul (z i j) (fun k => c k * φ k (A * j + i)) n
      have e4 : su (fun k => c k * φ k (A * j + i)) n * z i j = z i j * su (fun k => c k * φ k (A * j + i)) n := by grind
      rw [e4, ← e3]
      exact su_cong (fun k _ => by grind))
    rw [e2, su_swap]
    exact su_cong (fun k _ => by rw [su_mul]))
  rw [e1, su_swap]
  exact su_cong (fun k _ => by rw [su_mul])
theorem Nn_shX {K : Type} [Lean.Grind.CommRing K] {A B : Nat} {f g : Nat → Nat → K} {n : Nat} {c : Nat → K} {px py : Nat → Nat} : ∀ (m : Nat) {i j : Nat}, (∀ d, Nn A B f g i j d = su (fun k => c k * Nn A B f g (px k) (py k) d) n) → ∀ d, Nn A B f g (i + m) j d = su (fun k => c k * Nn A B f g (px k + m) (py k) d) n
  | 0, i, j, h, d => h d
  | m + 1, i, j, h, d => by
    have ih := Nn_shX m h
    have e1 : Nn A B f g (i + m) j = fun d => su (fun k => c k * Nn A B f g (px k + m) (py k) d) n := by funext d; exact ih d
    have e2 := congrFun (mulX_N (f := f) (g := g) (A := A) (B := B) (i + m) j) d
    rw [show i + (m + 1) = i + m + 1 from rfl, ← e2, e1]
    have e3 := mulZ_su A B (fun i j => Nn A B f g (i + 1) j d) c (fun k d => Nn A B f g (px k + m) (py k) d) n
    refine e3.trans (su_cong (fun k _ => ?_))
    have e4 := congrFun (mulX_N (f := f) (g := g) (A := A) (B := B) (px k + m) (py k)) d
    exact congrArg (fun z => c k * z) e4
theorem Nn_shY {K : Type} [Lean.Grind.CommRing K] {A B : Nat} {f g : Nat → Nat → K} {n : Nat} {c : Nat → K} {px py : Nat → Nat} : ∀ (m : Nat) {i j : Nat}, (∀ d, Nn A B f g i j d = su (fun k => c k * Nn A B f g (px k) (py k) d) n) → ∀ d, Nn A B f g i (j + m) d = su (fun k => c k * Nn A B f g (px k) (py k + m) d) n
  | 0, i, j, h, d => h d
  | m + 1, i, j, h, d => by
    have ih := Nn_shY m h
    have e1 : Nn A B f g i (j + m) = fun d => su (fun k => c k * Nn A B f g (px k) (py k + m) d) n := by funext d; exact ih d
    have e2 := congrFun (mulY_N (f := f) (g := g) (A := A) (B := B) i (j + m)) d
    rw [show j + (m + 1) = j + m + 1 from rfl, ← e2, e1]
    have e3 := mulZ_su A B (fun i j => Nn A B f g i (j + 1) d) c (fun k d => Nn A B f g (px k) (py k + m) d) n
    refine e3.trans (su_cong (fun k _ => ?_))
    have e4 := congrFun (mulY_N (f := f) (g := g) (A := A) (B := B) (px k) (py k + m)) d
    exact congrArg (fun z => c k * z) e4
theorem WI.lead {K : Type} [Lean.Grind.CommRing K] {k1 k2 : Nat → Nat → Nat} (hk : OrdOK k1 k2) {A B : Nat} {f g : Nat → Nat → K} {n : Nat} {sx sy : Nat → Nat} {nm : Nat} {mx my : Nat → Nat} (h : WI k1 k2 (Nn A B f g) n sx sy nm mx my) (ha : ∀ a b, isSt n sx sy a b ∨ isMu nm mx my a b) : BLead k1 k2 (Nn A B f g) n sx sy := by
  refine ord_ind (k1 := k1) (k2 := k2) (fun i j ih hs => ?_)
  obtain ⟨h1, h2, h3, h4, h5, h6⟩ := h
  rcases ha i j with q | ⟨m, m1, m2, m3⟩
  · exact absurd q hs
  · obtain ⟨c, c1, c2⟩ := h6 m m1
    have s1 := Nn_shX (i - mx m) c1
    have s2 := Nn_shY (j - my m) s1
    rw [show mx m + (i - mx m) = i by omega, show my m + (j - my m) = j by omega] at s2
    -- each shifted stair by stairs
    have hE : ∀ k, ∃ e : Nat → K, k < n → c k ≠ 0 → (∀ d, Nn A B f g (sx k + (i - mx m)) (sy k + (j - my m)) d = comb (Nn A B f g) sx sy n e d) ∧ ∀ l, l < n → e l ≠ 0 → olt k1 k2 (sx l) (sy l) i j := by
      intro k
      by_cases q : k < n ∧ c k ≠ 0
      · have lt1 := c2 k q.1 q.2
        have lt2 := olt_add hk (i - mx m) (j - my m) lt1
        rw [show mx m + (i - mx m) = i by omega, show my m + (j - my m) = j by omega] at lt2
        by_cases st : isSt n sx sy (sx k + (i - mx m)) (sy k + (j - my m))
        · obtain ⟨l, l1, l2, l3⟩ := st
          refine ⟨dl l, fun _ _ => ⟨fun d => ?_, fun r hr hne => ?_⟩⟩
          · rw [comb_dl _ _ _ l1, l2, l3]
          · have er := dl_ne hne
            subst er; rw [l2, l3]; exact lt2
        · obtain ⟨e, e1, e2⟩ := ih _ _ lt2 st
          exact ⟨e, fun _ _ => ⟨e1, fun l hl hne => olt_trans (e2 l hl hne) lt2⟩⟩
      · exact ⟨fun _ => 0, fun a b => absurd ⟨a, b⟩ q⟩
    obtain ⟨E, hE2⟩ := Classical.axiomOfChoice hE
    clear hE
    refine ⟨fun l => su (fun k => c k * E k l) n, fun d => ?_, fun l hl hne => ?_⟩
    · rw [s2 d]
      unfold comb
      have a2 : su (fun k => c k * Nn A B f g (sx k + (i - mx m)) (sy k + (j - my m)) d) n = su (fun k => su (fun l => c k * E k l * Nn A B f g (sx l) (sy l) d) n) n := su_cong (fun k hk2 => by
        by_cases q : c k = 0
        · rw [q, r_0m, su_zero' (fun l _ => by rw [r_0m, r_0m])]
        · rw [((hE2 k) hk2 q).1 d]
          unfold comb
          rw [← su_mul]
          exact su_cong (fun l _ => r_as _ _ _))
      rw [a2, su_swap]
      apply su_cong
      intro l hl
      have a3 : su (fun i => c i * E i l * Nn A B f g (sx l) (sy l) d) n = su (fun i => Nn A B f g (sx l) (sy l) d * (c i * E i l)) n := su_cong (fun k _ => r_rot _ _ _)
      rw [a3, su_mul]; exact r_mc _ _
    · apply Classical.byContradiction
      intro hno
      apply hne
      apply su_zero'
      intro k hk2
      by_cases q : c k = 0
      · rw [q]; exact r_0m _
      · by_cases q2 : E k l = 0
        · rw [q2]; exact r_m0 _
        · exact absurd (((hE2 k) hk2 q).2 l hl q2) hno
theorem WI.corner {K : Type} [Lean.Grind.CommRing K] {k1 k2 : Nat → Nat → Nat} (hk : OrdOK k1 k2) {N : Nat → Nat → Nat → K} {n : Nat} {sx sy : Nat → Nat} {nm : Nat} {mx my : Nat → Nat} (h : WI k1 k2 N n sx sy nm mx my) {k : Nat} (hk2 : k < nm) : isCorner n sx sy (mx k) (my k) := by
  obtain ⟨h1, h2, h3, h4, h5, h6⟩ := h
  refine ⟨fun q => h4 _ _ q ⟨k, hk2, Nat.le_refl _, Nat.le_refl _⟩, ?_, ?_⟩
  · rcases Nat.eq_zero_or_pos (mx k) with q | q
    · exact Or.inl q
    · right
      have up := olt_up hk (mx k - 1) (my k) (m := 1) (n := 0) (by omega)
      rw [show mx k - 1 + 1 = mx k by omega, show my k + 0 = my k from rfl] at up
      rcases h3 (mx k) (my k) (Or.inr ⟨k, hk2, rfl, rfl⟩) _ _ up with r | ⟨l, l1, l2, l3⟩
      · exact r
      · exfalso
        have := h5 l k l1 hk2 (by omega) l3
        subst this
        omega
  · rcases Nat.eq_zero_or_pos (my k) with q | q
    · exact Or.inl q
    · right
      have up := olt_up hk (mx k) (my k - 1) (m := 0) (n := 1) (by omega)
      rw [show mx k + 0 = mx k from rfl, show my k - 1 + 1 = my k by omega] at up
      rcases h3 (mx k) (my k) (Or.inr ⟨k, hk2, rfl, rfl⟩) _ _ up with r | ⟨l, l1, l2, l3⟩
      · exact r
      · exfalso
        have := h5 l k l1 hk2 l2 (by omega)
        subst this
        omega
theorem WI.corners {K : Type} [Lean.Grind.CommRing K] {k1 k2 : Nat → Nat → Nat} {N : Nat → Nat → Nat → K} {n : Nat} {sx sy : Nat → Nat} {nm : Nat} {mx my : Nat → Nat} (h : WI k1 k2 N n sx sy nm mx my) (ha : ∀ a b, isSt n sx sy a b ∨ isMu nm mx my a b) {i j : Nat} (hc : isCorner n sx sy i j) : isSt nm mx my i j := by
  obtain ⟨h1, h2, h3, h4, h5, h6⟩ := h
  obtain ⟨c1, c2, c3⟩ := hc
  rcases ha i j with q | ⟨m, m1, m2, m3⟩
  · exact absurd q c1
  · refine ⟨m, m1, ?_, ?_⟩
    · apply Classical.byContradiction
      intro hne
      rcases c2 with q | q
      · omega
      · exact h4 _ _ q ⟨m, m1, by omega, m3⟩
    · apply Classical.byContradiction
      intro hne
      rcases c3 with q | q
      · omega
      · exact h4 _ _ q ⟨m, m1, m2, by omega⟩
/-- no fewer stairs than the A B terms below both powers -/
theorem Ech.full {K : Type} [Lean.Grind.CommRing K] (h01 : (0 : K) ≠ 1) {A B : Nat} {f g : Nat → Nat → K} {V ρ σ : Nat → Nat → K} {π : Nat → Nat} {n : Nat} (h : Ech V ρ σ π n) (hπ : ∀ r, r < n → π r < A * B) (hz : ∀ i j d, red ρ π n (Nn A B f g i j) d = 0) (hA : 0 < A) : n = A * B := by
  have le1 : n ≤ A * B := fb_holes (A * B) n π hπ (fun i j hij hj => h.pinj h01 hij hj)
  have piv : ∀ q, q < A * B → ∃ r, r < n ∧ π r = q := by
    intro q hq
    apply Classical.byContradiction
    intro hno
    have hi : q % A < A := Nat.mod_lt _ hA
    have hj : q / A < B := Nat.div_lt_of_lt_mul hq
    have eq : A * (q / A) + q % A = q := Nat.div_add_mod q A
    have stay : ∀ r, r ≤ n → ∀ d, red ρ π r (Nn A B f g (q % A) (q / A)) d = Nn A B f g (q % A) (q / A) d := by
      intro r
      induction r with
      | zero => intro _ d; rfl
      | succ r ih =>
        intro hr d
        simp only [red]
        rw [ih (by omega) d, ih (by omega) (π r), Nn_u hi hj (π r), if_neg (by rw [eq]; exact fun e => hno ⟨r, by omega, e⟩)]
        grind
    have a := hz (q % A) (q / A) q
    rw [stay n (Nat.le_refl n) q, Nn_u hi hj, if_pos eq.symm] at a
    exact h01 a.symm
  have le2 : A * B ≤ n := by
    have hx : ∀ q, ∃ r, q < A * B → r < n ∧ π r = q := fun q => by
      by_cases hq : q < A * B
      · obtain ⟨r, a⟩ := piv q hq
        exact ⟨r, fun _ => a⟩
      · exact ⟨0, fun a => absurd a hq⟩
    refine fb_holes n (A * B) (fun q => Classical.choose (hx q)) (fun q hq => (Classical.choose_spec (hx q) hq).1) (fun i j hij hj e => ?_)
    have a := (Classical.choose_spec (hx i) (by omega)).2
    have b := (Classical.choose_spec (hx j) hj).2
    have e : Classical.choose (hx i) = Classical.choose (hx j) := e
    rw [e] at a
    omega
  omega
