/-! loops by an invariant -/
theorem lp_post {σ ρ : Type} {b : (σ → Option ρ) → σ → Option ρ} {s0 : σ} (n : Nat) (Inv : Nat → σ → Prop) (Post : Option ρ → Prop) (h0 : Inv 0 s0) (hn : n < 1000000) (hs : ∀ k s, k ≤ n → Inv k s → (∃ s', k < n ∧ Inv (k + 1) s' ∧ ∀ rc, b rc s = rc s') ∨ ∃ e, Post e ∧ ∀ rc, b rc s = e) : Post (smLp b smF s0) := by
  have key : ∀ (m k f : Nat) (s : σ), k + m = n → m < f → Inv k s → Post (smLp b f s) := by
    intro m
    induction m with
    | zero =>
      intro k f s hk hf hI
      cases f with
      | zero => omega
      | succ f =>
        rcases hs k s (by omega) hI with ⟨s', h1, -⟩ | ⟨e, h1, h2⟩
        · omega
        · show Post (b (smLp b f) s)
          rw [h2]; exact h1
    | succ m ih =>
      intro k f s hk hf hI
      cases f with
      | zero => omega
      | succ f =>
        show Post (b (smLp b f) s)
        rcases hs k s (by omega) hI with ⟨s', h1, h3, h4⟩ | ⟨e, h1, h2⟩
        · rw [h4]; exact ih (k + 1) f s' (by omega) (by omega) h3
        · rw [h2]; exact h1
  exact key n 0 smF s0 (by omega) (smF_lt (by omega)) h0
/-! the orders -/
def ky1 (o u v : Nat) : Nat → Nat → Nat := fun i j => if o = 0 then i else if o = 1 then j else if o = 4 then u * i + v * j else i + j
def ky2 (o : Nat) : Nat → Nat → Nat := fun i j => if o = 0 ∨ o = 3 then j else i
theorem ky_ok {o u v : Nat} (ho : o ≤ 4) (hu : 1 ≤ u) (hv : 1 ≤ v) : OrdOK (ky1 o u v) (ky2 o) := by
  rcases (show o = 0 ∨ o = 1 ∨ o = 2 ∨ o = 3 ∨ o = 4 by omega) with rfl | rfl | rfl | rfl | rfl
  · refine ⟨fun i j a b h1 h2 => ⟨h1, h2⟩, 1, 0, 0, 1, by decide, by decide, fun i j m n => ⟨?_, ?_⟩⟩
    · show i + m = i + (1 * m + 0 * n); omega
    · show j + n = j + (0 * m + 1 * n); omega
  · refine ⟨fun i j a b h1 h2 => ⟨h2, h1⟩, 0, 1, 1, 0, by decide, by decide, fun i j m n => ⟨?_, ?_⟩⟩
    · show j + n = j + (0 * m + 1 * n); omega
    · show i + m = i + (1 * m + 0 * n); omega
  · refine ⟨fun i j a b h1 h2 => ?_, 1, 1, 1, 0, by decide, by decide, fun i j m n => ⟨?_, ?_⟩⟩
    · have h1 : i + j = a + b := h1
      have h2 : i = a := h2
      omega
    · show i + m + (j + n) = i + j + (1 * m + 1 * n); omega
    · show i + m = i + (1 * m + 0 * n); omega
  · refine ⟨fun i j a b h1 h2 => ?_, 1, 0, 1, 1, by decide, by decide, fun i j m n => ⟨?_, ?_⟩⟩
    · have h1 : i + j = a + b := h1
      have h2 : j = b := h2
      omega
    · show i + m + (j + n) = i + j + (1 * m + 1 * n); omega
    · show j + n = j + (0 * m + 1 * n); omega
  · refine ⟨fun i j a b h1 h2 => ?_, u, 1, v, 0, by omega, by omega, fun i j m n => ⟨?_, ?_⟩⟩
    · have h1 : u * i + v * j = u * a + v * b := h1
      have h2 : i = a := h2
      subst h2
      have : v * j = v * b := by omega
      exact ⟨rfl, Nat.eq_of_mul_eq_mul_left (by omega) this⟩
    · show u * (i + m) + v * (j + n) = u * i + v * j + (u * m + v * n)
      rw [Nat.mul_add, Nat.mul_add]; omega
    · show i + m = i + (1 * m + 0 * n); omega
def wt (o u v i j : Nat) : Nat := if o = 2 ∨ o = 3 then i + j else if o = 4 then u * i + v * j else 0
theorem lg_lN {a b : Nat} (ha : a < 2 ^ 62) (hb : b < 2 ^ 62) : (lg_cmp (lN a) (lN b) = 0 ↔ a = b) ∧ ((0 : Int32) ≤ lg_cmp (lN a) (lN b) ↔ b ≤ a) := by
  have e1 := pk_lLT (a := b) (b := a) (by omega) (by omega)
  have e2 := pk_lEQ (a := a) (b := b) (by omega) (by omega)
  unfold lg_cmp
  by_cases h1 : lN b < lN a
  · have h1' : lN a > lN b := h1
    have := e1.mp h1
    rw [if_pos h1']
    exact ⟨⟨fun h => absurd h (by decide), fun h => by omega⟩, ⟨fun _ => by omega, fun _ => by decide⟩⟩
  · have h1' : ¬ lN a > lN b := h1
    have h2 : ¬ b < a := fun q => h1 (e1.mpr q)
    rw [if_neg h1']
    by_cases h3 : lN a = lN b
    · have := e2.mp h3
      rw [if_pos h3]
      exact ⟨⟨fun _ => this, fun _ => rfl⟩, ⟨fun _ => by omega, fun _ => by decide⟩⟩
    · have h4 : a ≠ b := fun q => h3 (e2.mpr q)
      rw [if_neg h3]
      exact ⟨⟨fun h => absurd h (by decide), fun h => absurd h h4⟩, ⟨fun h => absurd h (by decide), fun h => by omega⟩⟩
theorem m_weight {a o u v i j : Nat} {M : smM} (ho : o ≤ 4) (hu : u ≤ 9) (hv : v ≤ 9) (h0 : M a 0 = nI o) (h1 : M a 1 = nI u) (h2 : M a 2 = nI v) (hi : i < 2147483648) (hj : j < 2147483648) : m_X10_weight a (nI i) (nI j) M = some (lN (wt o u v i j)) := by
  unfold m_X10_weight wt
  rw [h0, h1, h2]
  rcases (show o = 0 ∨ o = 1 ∨ o = 2 ∨ o = 3 ∨ o = 4 by omega) with rfl | rfl | rfl | rfl | rfl
  · rfl
  · rfl
  · rw [if_pos (by decide), if_pos (Or.inl rfl), nI_l hi, nI_l hj, lN_add]
  · rw [if_neg (by decide), if_pos (by decide), if_pos (Or.inr rfl), nI_l hi, nI_l hj, lN_add]
  · rw [if_neg (by decide), if_neg (by decide), if_pos (by decide), if_neg (by decide), if_pos rfl, nI_l hi, nI_l hj, nI_l (by omega), nI_l (by omega), lN_mul, lN_mul, lN_add]
theorem wt_lt {o u v i j : Nat} (hu : u ≤ 9) (hv : v ≤ 9) (hi : i < 2147483648) (hj : j < 2147483648) : wt o u v i j < 2 ^ 62 := by
  unfold wt
  have a : u * i ≤ 9 * 2147483648 := Nat.mul_le_mul hu (by omega)
  have b : v * j ≤ 9 * 2147483648 := Nat.mul_le_mul hv (by omega)
  split
  · omega
  · split <;> omega
theorem olt_wt {o u v i j k l : Nat} (ho : o ≤ 4) (hv : 1 ≤ v) : olt (ky1 o u v) (ky2 o) i j k l ↔ (wt o u v i j < wt o u v k l ∨ (wt o u v i j = wt o u v k l ∧ (if o = 1 ∨ o = 3 then (if j = l then i < k else j < l) else (if i = k then j < l else i < k)))) := by
  unfold olt ky1 ky2 wt
  rcases (show o = 0 ∨ o = 1 ∨ o = 2 ∨ o = 3 ∨ o = 4 by omega) with rfl | rfl | rfl | rfl | rfl
  · simp only [if_true, true_or, Nat.reduceEqDiff, if_false, or_self, Nat.lt_irrefl, false_or, true_and]
    split <;> omega
  · simp only [if_true, true_or, or_true, Nat.reduceEqDiff, if_false, or_self, Nat.lt_irrefl, false_or, true_and]
    split <;> omega
  · simp only [if_true, true_or, or_true, Nat.reduceEqDiff, if_false, or_self]
    split <;> omega
  · simp only [if_true, true_or, or_true, Nat.reduceEqDiff, if_false, or_self]
    split <;> omega
  · simp only [if_true, true_or, or_true, Nat.reduceEqDiff, if_false, or_self]
    by_cases e : i = k
    · subst e
      rw [if_pos rfl]
      constructor
      · rintro (q | ⟨q, r⟩)
        · exact Or.inl q
        · omega
      · rintro (q | ⟨q, r⟩)
        · exact Or.inl q
        · exfalso
          have h2 : v * j = v * l := by omega
          have := Nat.eq_of_mul_eq_mul_left (by omega) h2
          omega
    · rw [if_neg e]
theorem m_isLess {a o u v i j k l : Nat} {M : smM} (ho : o ≤ 4) (hu : u ≤ 9) (hv : v ≤ 9) (hv1 : 1 ≤ v) (h0 : M a 0 = nI o) (h1 : M a 1 = nI u) (h2 : M a 2 = nI v) (hi : i < 2147483648) (hj : j < 2147483648) (hk : k < 2147483648) (hl : l < 2147483648) : (olt (ky1 o u v) (ky2 o) i j k l → m_X10_isLess a (nI i) (nI j) (nI k) (nI l) M = some 1) ∧ (¬ olt (ky1 o u v) (ky2 o) i j k l → m_X10_isLess a (nI i) (nI j) (nI k) (nI l) M = some 0) := by
  rw [olt_wt ho hv1]
  unfold m_X10_isLess
  rw [m_weight ho hu hv h0 h1 h2 hi hj, m_weight ho hu hv h0 h1 h2 hk hl]
  simp only [Option.bind_some]
  have c1 := (lg_lN (wt_lt (o := o) hu hv hi hj) (wt_lt (o := o) hu hv hk hl)).1
  have c2 := (lg_lN (wt_lt (o := o) hu hv hi hj) (wt_lt (o := o) hu hv hk hl)).2
  by_cases e : wt o u v i j = wt o u v k l
  · rw [if_pos (c1.mpr e), h0]
    have fin : (o = 1 ∨ o = 3) ∨ ¬ (o = 1 ∨ o = 3) := Classical.em _
    rcases fin with f | f
    · have : (if nI o = (1 : Int32) then m_X10_isLess_j55 (nI i) (nI j) (nI k) (nI l) M else if nI o = (3 : Int32) then m_X10_isLess_j55 (nI i) (nI j) (nI k) (nI l) M else m_X10_isLess_j60 (nI i) (nI j) (nI k) (nI l) M 0) = m_X10_isLess_j60 (nI i) (nI j) (nI k) (nI l) M 1 := by
        rcases f with rfl | rfl
        · rfl
        · rfl
      rw [this]
      unfold m_X10_isLess_j60
      rw [if_pos f, if_neg (show ¬ (1 : Int32) = 0 by decide)]
      by_cases ejl : j = l
      · rw [if_pos ejl, if_pos (by rw [ejl])]
        constructor
        · rintro (q | ⟨-, q⟩)
          · omega
          · rw [if_neg (by rw [nI_le_iff hk hi]; omega)]
        · intro q
          rw [if_pos (by rw [nI_le_iff hk hi]; omega)]
      · rw [if_neg ejl, if_neg (by rw [nI_inj hj hl]; exact ejl)]
        constructor
        · rintro (q | ⟨-, q⟩)
          · omega
          · rw [if_neg (by rw [nI_le_iff hl hj]; omega)]
        · intro q
          rw [if_pos (by rw [nI_le_iff hl hj]; omega)]
    · have : (if nI o = (1 : Int32) then m_X10_isLess_j55 (nI i) (nI j) (nI k) (nI l) M else if nI o = (3 : Int32) then m_X10_isLess_j55 (nI i) (nI j) (nI k) (nI l) M else m_X10_isLess_j60 (nI i) (nI j) (nI k) (nI l) M 0) = m_X10_isLess_j60 (nI i) (nI j) (nI k) (nI l) M 0 := by
        have e1 : nI o = (1 : Int32) ↔ o = 1 := nI_inj (b := 1) (by omega) (by omega)
        have e3 : nI o = (3 : Int32) ↔ o = 3 := nI_inj (b := 3) (by omega) (by omega)
        rw [if_neg (fun q => f (Or.inl (e1.mp q))), if_neg (fun q => f (Or.inr (e3.mp q)))]
      rw [this]
      unfold m_X10_isLess_j60
      rw [if_neg f, if_pos (show (0 : Int32) = 0 from rfl)]
      by_cases eik : i = k
      · rw [if_pos eik, if_pos (by rw [eik])]
        constructor
        · rintro (q | ⟨-, q⟩)
          · omega
          · rw [if_neg (by rw [nI_le_iff hl hj]; omega)]
        · intro q
          rw [if_pos (by rw [nI_le_iff hl hj]; omega)]
      · rw [if_neg eik, if_neg (by rw [nI_inj hi hk]; exact eik)]
        constructor
        · rintro (q | ⟨-, q⟩)
          · omega
          · rw [if_neg (by rw [nI_le_iff hk hi]; omega)]
        · intro q
          rw [if_pos (by rw [nI_le_iff hk hi]; omega)]
  · rw [if_neg (fun q => e (c1.mp q))]
    constructor
    · rintro (q | ⟨q, -⟩)
      · rw [if_neg (fun r => by have := c2.mp r; omega)]
      · exact absurd q e
    · intro q
      rw [if_pos (c2.mpr (by omega))]
