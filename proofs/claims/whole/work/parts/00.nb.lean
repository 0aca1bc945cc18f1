/-! orders of terms by two keys that add up -/
def olt (k1 k2 : Nat → Nat → Nat) (i j a b : Nat) : Prop := k1 i j < k1 a b ∨ k1 i j = k1 a b ∧ k2 i j < k2 a b
def OrdOK (k1 k2 : Nat → Nat → Nat) : Prop := (∀ i j a b, k1 i j = k1 a b → k2 i j = k2 a b → i = a ∧ j = b) ∧ ∃ x1 x2 y1 y2 : Nat, 0 < x1 + x2 ∧ 0 < y1 + y2 ∧ ∀ i j m n, k1 (i + m) (j + n) = k1 i j + (x1 * m + y1 * n) ∧ k2 (i + m) (j + n) = k2 i j + (x2 * m + y2 * n)
theorem olt_irr {k1 k2 : Nat → Nat → Nat} {i j : Nat} : ¬ olt k1 k2 i j i j := by unfold olt; omega
theorem olt_trans {k1 k2 : Nat → Nat → Nat} {i j a b m n : Nat} (h : olt k1 k2 i j a b) (h2 : olt k1 k2 a b m n) : olt k1 k2 i j m n := by unfold olt at *; omega
theorem olt_tri {k1 k2 : Nat → Nat → Nat} (hk : OrdOK k1 k2) (i j a b : Nat) : olt k1 k2 i j a b ∨ (i = a ∧ j = b) ∨ olt k1 k2 a b i j := by
  by_cases h1 : k1 i j = k1 a b
  · by_cases h2 : k2 i j = k2 a b
    · exact Or.inr (Or.inl (hk.1 i j a b h1 h2))
    · unfold olt; omega
  · unfold olt; omega
theorem olt_add {k1 k2 : Nat → Nat → Nat} (hk : OrdOK k1 k2) {i j a b : Nat} (m n : Nat) (h : olt k1 k2 i j a b) : olt k1 k2 (i + m) (j + n) (a + m) (b + n) := by
  obtain ⟨-, x1, x2, y1, y2, -, -, hs⟩ := hk
  have e1 := hs i j m n
  have e2 := hs a b m n
  unfold olt at *
  rw [e1.1, e1.2, e2.1, e2.2]
  omega
theorem olt_up {k1 k2 : Nat → Nat → Nat} (hk : OrdOK k1 k2) (i j : Nat) {m n : Nat} (h : 0 < m + n) : olt k1 k2 i j (i + m) (j + n) := by
  obtain ⟨-, x1, x2, y1, y2, hx, hy, hs⟩ := hk
  have e1 := hs i j m n
  unfold olt
  rw [e1.1, e1.2]
  rcases Nat.eq_zero_or_pos m with hm | hm
  · have hn : 0 < n := by omega
    rcases Nat.eq_zero_or_pos y1 with q | q
    · have : 0 < y2 * n := Nat.mul_pos (by omega) hn
      rcases Nat.eq_zero_or_pos (x1 * m + y1 * n) with q2 | q2
      · right; omega
      · left; omega
    · have : 0 < y1 * n := Nat.mul_pos q hn
      left; omega
  · rcases Nat.eq_zero_or_pos x1 with q | q
    · have : 0 < x2 * m := Nat.mul_pos (by omega) hm
      rcases Nat.eq_zero_or_pos (x1 * m + y1 * n) with q2 | q2
      · right; omega
      · left; omega
    · have : 0 < x1 * m := Nat.mul_pos q hm
      left; omega
theorem olt_dvd {k1 k2 : Nat → Nat → Nat} (hk : OrdOK k1 k2) {i j a b : Nat} (h1 : i ≤ a) (h2 : j ≤ b) : olt k1 k2 i j a b ∨ (i = a ∧ j = b) := by
  by_cases h : 0 < (a - i) + (b - j)
  · have := olt_up hk i j h
    rw [show i + (a - i) = a by omega, show j + (b - j) = b by omega] at this
    exact Or.inl this
  · right; omega
theorem ord_ind {k1 k2 : Nat → Nat → Nat} {P : Nat → Nat → Prop} (h : ∀ i j, (∀ a b, olt k1 k2 a b i j → P a b) → P i j) (i j : Nat) : P i j := by
  have key : ∀ n m : Nat, ∀ i j, k1 i j = n → k2 i j = m → P i j := by
    intro n
    induction n using Nat.strongRecOn with
    | ind n ihn =>
      intro m
      induction m using Nat.strongRecOn with
      | ind m ihm =>
        intro i j e1 e2
        refine h i j (fun a b hab => ?_)
        rcases hab with q | ⟨q1, q2⟩
        · exact ihn (k1 a b) (by omega) (k2 a b) a b rfl rfl
        · exact ihm (k2 a b) (by omega) a b (by omega) rfl
  exact key _ _ i j rfl rfl
/-! a base in an order: the staircase (D stairs sx, sy, rising), the members (mx, my, rising) with the stairs' numbers tl; N: what the terms are -/
def isSt (D : Nat) (sx sy : Nat → Nat) (i j : Nat) : Prop := ∃ k, k < D ∧ sx k = i ∧ sy k = j
def comb {K : Type} [Lean.Grind.CommRing K] (N : Nat → Nat → Nat → K) (sx sy : Nat → Nat) (D : Nat) (c : Nat → K) (d : Nat) : K := su (fun k => c k * N (sx k) (sy k) d) D
theorem r_mc {K : Type} [Lean.Grind.CommRing K] (a b : K) : a * b = b * a := by grind
theorem r_0m {K : Type} [Lean.Grind.CommRing K] (a : K) : 0 * a = 0 := by grind
theorem r_m0 {K : Type} [Lean.Grind.CommRing K] (a : K) : a * 0 = 0 := by grind
theorem r_as {K : Type} [Lean.Grind.CommRing K] (a b c : K) : a * (b * c) = a * b * c := by grind
theorem r_rot {K : Type} [Lean.Grind.CommRing K] (a b c : K) : a * b * c = c * (a * b) := by grind
def dl {K : Type} [Lean.Grind.CommRing K] (k : Nat) : Nat → K := fun l => if l = k then 1 else 0
theorem dl_s {K : Type} [Lean.Grind.CommRing K] (k : Nat) : (dl k k : K) = 1 := if_pos rfl
theorem dl_n {K : Type} [Lean.Grind.CommRing K] {k l : Nat} (h : l ≠ k) : (dl k l : K) = 0 := if_neg h
theorem dl_ne {K : Type} [Lean.Grind.CommRing K] {k l : Nat} (h : (dl k l : K) ≠ 0) : l = k := Classical.byContradiction fun q => h (dl_n q)
theorem comb_dl {K : Type} [Lean.Grind.CommRing K] (N : Nat → Nat → Nat → K) (sx sy : Nat → Nat) {D k : Nat} (hk : k < D) (d : Nat) : comb N sx sy D (dl k) d = N (sx k) (sy k) d := by
  unfold comb
  rw [su_one _ hk (fun l hl hne => by rw [dl_n hne]; grind), dl_s]; grind
def BInd {K : Type} [Lean.Grind.CommRing K] (N : Nat → Nat → Nat → K) (D : Nat) (sx sy : Nat → Nat) : Prop := ∀ c : Nat → K, (∀ d, comb N sx sy D c d = 0) → ∀ k, k < D → c k = 0
def BRise (k1 k2 : Nat → Nat → Nat) (D : Nat) (sx sy : Nat → Nat) : Prop := ∀ k l, k < l → l < D → olt k1 k2 (sx k) (sy k) (sx l) (sy l)
def BLead {K : Type} [Lean.Grind.CommRing K] (k1 k2 : Nat → Nat → Nat) (N : Nat → Nat → Nat → K) (D : Nat) (sx sy : Nat → Nat) : Prop := ∀ i j, ¬ isSt D sx sy i j → ∃ c : Nat → K, (∀ d, N i j d = comb N sx sy D c d) ∧ ∀ k, k < D → c k ≠ 0 → olt k1 k2 (sx k) (sy k) i j
def BSt {K : Type} [Lean.Grind.CommRing K] (k1 k2 : Nat → Nat → Nat) (N : Nat → Nat → Nat → K) (D : Nat) (sx sy : Nat → Nat) : Prop := BInd N D sx sy ∧ BRise k1 k2 D sx sy ∧ BLead k1 k2 N D sx sy
def isCorner (D : Nat) (sx sy : Nat → Nat) (i j : Nat) : Prop := ¬ isSt D sx sy i j ∧ (i = 0 ∨ isSt D sx sy (i - 1) j) ∧ (j = 0 ∨ isSt D sx sy i (j - 1))
def BMem {K : Type} [Lean.Grind.CommRing K] (k1 k2 : Nat → Nat → Nat) (N : Nat → Nat → Nat → K) (D : Nat) (sx sy : Nat → Nat) (nm : Nat) (mx my : Nat → Nat) (tl : Nat → Nat → K) : Prop :=
  BRise k1 k2 nm mx my ∧ (∀ k, k < nm → isCorner D sx sy (mx k) (my k)) ∧ (∀ i j, isCorner D sx sy i j → isSt nm mx my i j) ∧ (∀ k, k < nm → ∀ d, N (mx k) (my k) d + comb N sx sy D (tl k) d = 0) ∧ ∀ k, k < nm → ∀ t, D ≤ t → tl k t = 0
theorem comb_sub {K : Type} [Lean.Grind.CommRing K] (N : Nat → Nat → Nat → K) (sx sy : Nat → Nat) (D : Nat) (c c' : Nat → K) (d : Nat) : comb N sx sy D (fun k => c k - c' k) d = comb N sx sy D c d - comb N sx sy D c' d := by
  unfold comb
  have e1 : su (fun k => (c k - c' k) * N (sx k) (sy k) d) D = su (fun k => c k * N (sx k) (sy k) d + -(c' k * N (sx k) (sy k) d)) D := su_cong (fun k _ => by grind)
  rw [e1, su_add, su_neg]; grind
theorem comb_neg {K : Type} [Lean.Grind.CommRing K] (N : Nat → Nat → Nat → K) (sx sy : Nat → Nat) (D : Nat) (c : Nat → K) (d : Nat) : comb N sx sy D (fun k => - c k) d = - comb N sx sy D c d := by
  unfold comb
  rw [← su_neg]
  exact su_cong (fun k _ => by grind)
/-- the numbers for the stairs are one -/
theorem BInd.one {K : Type} [Lean.Grind.CommRing K] {N : Nat → Nat → Nat → K} {D : Nat} {sx sy : Nat → Nat} (h : BInd N D sx sy) {c c' : Nat → K} (e : ∀ d, comb N sx sy D c d = comb N sx sy D c' d) {k : Nat} (hk : k < D) : c k = c' k := by
  have := h (fun k => c k - c' k) (fun d => by rw [comb_sub, e d]; grind) k hk
  grind
theorem BRise.inj {k1 k2 : Nat → Nat → Nat} {D : Nat} {sx sy : Nat → Nat} (h : BRise k1 k2 D sx sy) {k l : Nat} (hk : k < D) (hl : l < D) (e1 : sx k = sx l) (e2 : sy k = sy l) : k = l := by
  rcases Nat.lt_trichotomy k l with q | q | q
  · have := h k l q hl
    rw [e1, e2] at this
    exact absurd this olt_irr
  · exact q
  · have := h l k q hk
    rw [e1, e2] at this
    exact absurd this olt_irr
/-- each term by stairs that aren't greater -/
theorem BSt.le {K : Type} [Lean.Grind.CommRing K] {k1 k2 : Nat → Nat → Nat} {N : Nat → Nat → Nat → K} {D : Nat} {sx sy : Nat → Nat} (h : BSt k1 k2 N D sx sy) (i j : Nat) : ∃ c : Nat → K, (∀ d, N i j d = comb N sx sy D c d) ∧ ∀ k, k < D → c k ≠ 0 → (olt k1 k2 (sx k) (sy k) i j ∨ (sx k = i ∧ sy k = j)) := by
  by_cases hs : isSt D sx sy i j
  · obtain ⟨k, hk, e1, e2⟩ := hs
    subst e1; subst e2
    refine ⟨dl k, fun d => (comb_dl N sx sy hk d).symm, fun l hl hne => ?_⟩
    have e := dl_ne hne
    subst e
    exact Or.inr ⟨rfl, rfl⟩
  · obtain ⟨c, h1, h2⟩ := h.2.2 i j hs
    exact ⟨c, h1, fun k hk hne => Or.inl (h2 k hk hne)⟩
theorem BSt.sub {K : Type} [Lean.Grind.CommRing K] (h01 : (0 : K) ≠ 1) {k1 k2 : Nat → Nat → Nat} {N : Nat → Nat → Nat → K} {D D' : Nat} {sx sy sx' sy' : Nat → Nat} (h : BSt k1 k2 N D sx sy) (h' : BSt k1 k2 N D' sx' sy') {i j : Nat} (hs : isSt D sx sy i j) : isSt D' sx' sy' i j := by
  apply Classical.byContradiction
  intro hn
  obtain ⟨m, hm, e1, e2⟩ := hs
  obtain ⟨c, hc, hlt⟩ := h'.2.2 i j hn
  have hE : ∀ k, ∃ c : Nat → K, (∀ d, N (sx' k) (sy' k) d = comb N sx sy D c d) ∧ ∀ l, l < D → c l ≠ 0 → (olt k1 k2 (sx l) (sy l) (sx' k) (sy' k) ∨ (sx l = sx' k ∧ sy l = sy' k)) := fun k => h.le (sx' k) (sy' k)
  have e : ∀ d, comb N sx sy D (dl m) d = comb N sx sy D (fun l => su (fun k => c k * Classical.choose (hE k) l) D') d := by
    intro d
    have a1 : comb N sx sy D (dl m) d = N i j d := by rw [comb_dl N sx sy hm, e1, e2]
    rw [a1, hc d]
    show comb N sx' sy' D' c d = _
    unfold comb
    have a2 : su (fun k => c k * N (sx' k) (sy' k) d) D' = su (fun k => su (fun l => c k * Classical.choose (hE k) l * N (sx l) (sy l) d) D) D' := su_cong (fun k hk => by
      rw [(Classical.choose_spec (hE k)).1 d]
      unfold comb
      rw [← su_mul]
      exact su_cong (fun l _ => r_as _ _ _))
    rw [a2, su_swap]
    apply su_cong
    intro l hl
    have a3 : su (fun i => c i * Classical.choose (hE i) l * N (sx l) (sy l) d) D' = su (fun i => N (sx l) (sy l) d * (c i * Classical.choose (hE i) l)) D' := su_cong (fun k _ => r_rot _ _ _)
    rw [a3, su_mul]; exact r_mc _ _
  have e3 := h.1.one e hm
  rw [dl_s, su_zero'] at e3
  · exact h01 e3.symm
  · intro k hk
    by_cases q1 : c k = 0
    · rw [q1]; exact r_0m _
    · by_cases q2 : Classical.choose (hE k) m = 0
      · rw [q2]; exact r_m0 _
      · exfalso
        have a := hlt k hk q1
        rcases (Classical.choose_spec (hE k)).2 m hm q2 with b | ⟨b1, b2⟩
        · rw [e1, e2] at b
          exact olt_irr (olt_trans a b)
        · rw [← b1, ← b2, e1, e2] at a
          exact olt_irr a
/-- rising rows with the same places are the same -/
theorem rise_le {k1 k2 : Nat → Nat → Nat} {D D' : Nat} {sx sy sx' sy' : Nat → Nat} (h : BRise k1 k2 D sx sy) (h' : BRise k1 k2 D' sx' sy') (hs : ∀ i j, isSt D sx sy i j → isSt D' sx' sy' i j) : ∀ k, k < D → ∃ l, k ≤ l ∧ l < D' ∧ sx' l = sx k ∧ sy' l = sy k := by
  intro k
  induction k with
  | zero =>
    intro hk
    obtain ⟨l, a, b, c⟩ := hs (sx 0) (sy 0) ⟨0, hk, rfl, rfl⟩
    exact ⟨l, Nat.zero_le l, a, b, c⟩
  | succ k ih =>
    intro hk
    obtain ⟨l, a, b, c, d⟩ := ih (by omega)
    obtain ⟨m, a2, b2, c2⟩ := hs (sx (k + 1)) (sy (k + 1)) ⟨k + 1, hk, rfl, rfl⟩
    have q := h k (k + 1) (Nat.lt_succ_self k) hk
    refine ⟨m, ?_, a2, b2, c2⟩
    rcases Nat.lt_trichotomy l m with r | r | r
    · omega
    · exfalso
      subst r
      rw [← c, ← d, ← b2, ← c2] at q
      exact olt_irr q
    · exfalso
      have r2 := h' m l r b
      rw [b2, c2, c, d] at r2
      exact olt_irr (olt_trans q r2)
theorem rise_eq {k1 k2 : Nat → Nat → Nat} {D D' : Nat} {sx sy sx' sy' : Nat → Nat} (h : BRise k1 k2 D sx sy) (h' : BRise k1 k2 D' sx' sy') (hs : ∀ i j, isSt D sx sy i j ↔ isSt D' sx' sy' i j) : D = D' ∧ ∀ k, k < D → sx k = sx' k ∧ sy k = sy' k := by
  have a := rise_le h h' (fun i j => (hs i j).mp)
  have b := rise_le h' h (fun i j => (hs i j).mpr)
  have hle : ∀ {D D' : Nat} {sx sy sx' sy' : Nat → Nat}, (∀ k, k < D → ∃ l, k ≤ l ∧ l < D' ∧ sx' l = sx k ∧ sy' l = sy k) → D ≤ D' := by
    intro D D' sx sy sx' sy' a
    rcases Nat.eq_zero_or_pos D with q | q
    · omega
    · obtain ⟨l, h1, h2, -⟩ := a (D - 1) (by omega)
      omega
  have e : D = D' := Nat.le_antisymm (hle a) (hle b)
  subst e
  refine ⟨rfl, fun k hk => ?_⟩
  obtain ⟨l, h1, h2, h3, h4⟩ := a k hk
  obtain ⟨m, g1, g2, g3, g4⟩ := b l h2
  have : k = m := h.inj hk g2 (by rw [g3, h3]) (by rw [g4, h4])
  have : l = k := by omega
  subst this
  exact ⟨h3.symm, h4.symm⟩
theorem BSt.eq {K : Type} [Lean.Grind.CommRing K] (h01 : (0 : K) ≠ 1) {k1 k2 : Nat → Nat → Nat} {N : Nat → Nat → Nat → K} {D D' : Nat} {sx sy sx' sy' : Nat → Nat} (h : BSt k1 k2 N D sx sy) (h' : BSt k1 k2 N D' sx' sy') : D = D' ∧ ∀ k, k < D → sx k = sx' k ∧ sy k = sy' k :=
  rise_eq h.2.1 h'.2.1 (fun _ _ => ⟨fun q => h.sub h01 h' q, fun q => h'.sub h01 h q⟩)
theorem isSt_cong {D : Nat} {sx sy sx' sy' : Nat → Nat} (e : ∀ k, k < D → sx k = sx' k ∧ sy k = sy' k) (i j : Nat) : isSt D sx sy i j ↔ isSt D sx' sy' i j := by
  constructor
  · rintro ⟨k, a, b, c⟩
    exact ⟨k, a, by rw [← (e k a).1]; exact b, by rw [← (e k a).2]; exact c⟩
  · rintro ⟨k, a, b, c⟩
    exact ⟨k, a, by rw [(e k a).1]; exact b, by rw [(e k a).2]; exact c⟩
theorem isCorner_cong {D : Nat} {sx sy sx' sy' : Nat → Nat} (e : ∀ k, k < D → sx k = sx' k ∧ sy k = sy' k) (i j : Nat) : isCorner D sx sy i j ↔ isCorner D sx' sy' i j := by
  unfold isCorner
  rw [isSt_cong e, isSt_cong e, isSt_cong e]
theorem comb_cong {K : Type} [Lean.Grind.CommRing K] {N : Nat → Nat → Nat → K} {D : Nat} {sx sy sx' sy' : Nat → Nat} {c c' : Nat → K} (e : ∀ k, k < D → sx k = sx' k ∧ sy k = sy' k) (hc : ∀ k, k < D → c k = c' k) (d : Nat) : comb N sx sy D c d = comb N sx' sy' D c' d := su_cong (fun k hk => by rw [hc k hk, (e k hk).1, (e k hk).2])
theorem BMem.eq {K : Type} [Lean.Grind.CommRing K] (h01 : (0 : K) ≠ 1) {k1 k2 : Nat → Nat → Nat} {N : Nat → Nat → Nat → K} {D D' : Nat} {sx sy sx' sy' : Nat → Nat} {nm nm' : Nat} {mx my mx' my' : Nat → Nat} {tl tl' : Nat → Nat → K} (h : BSt k1 k2 N D sx sy) (h' : BSt k1 k2 N D' sx' sy') (g : BMem k1 k2 N D sx sy nm mx my tl) (g' : BMem k1 k2 N D' sx' sy' nm' mx' my' tl') : nm = nm' ∧ (∀ k, k < nm → mx k = mx' k ∧ my k = my' k) ∧ ∀ k, k < nm → ∀ t, tl k t = tl' k t := by
  obtain ⟨e, es⟩ := h.eq h01 h'
  subst e
  obtain ⟨g1, g2, g3, g4, g5⟩ := g
  obtain ⟨g1', g2', g3', g4', g5'⟩ := g'
  have hset : ∀ i j, isSt nm mx my i j ↔ isSt nm' mx' my' i j := by
    intro i j
    constructor
    · rintro ⟨k, a, b, c⟩
      exact g3' i j ((isCorner_cong es i j).mp (by rw [← b, ← c]; exact g2 k a))
    · rintro ⟨k, a, b, c⟩
      exact g3 i j ((isCorner_cong es i j).mpr (by rw [← b, ← c]; exact g2' k a))
  obtain ⟨e, em⟩ := rise_eq g1 g1' hset
  subst e
  refine ⟨rfl, em, fun k hk t => ?_⟩
  by_cases ht : t < D
  · refine h.1.one (fun d => ?_) ht
    have a := g4 k hk d
    have b := g4' k hk d
    rw [← (em k hk).1, ← (em k hk).2, ← comb_cong (N := N) (c := tl' k) es (fun _ _ => rfl) d] at b
    grind
  · rw [g5 k hk t (by omega), g5' k hk t (by omega)]
