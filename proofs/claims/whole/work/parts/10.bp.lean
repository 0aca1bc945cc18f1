/-! polynomials: what a list of terms stands for -/
def FAL (n : Nat) (x y : Nat → Nat) : Prop := ∀ k l, k < l → l < n → x l < x k ∨ x l = x k ∧ y l < y k
/-- the list holds the function f: all where f is not 0 stands in it -/
def REP (f : Nat → Nat → Nat) (n : Nat) (c x y : Nat → Nat) : Prop := FAL n x y ∧ (∀ k, k < n → c k = f (x k) (y k)) ∧ ∀ i j, f i j ≠ 0 → ∃ k, k < n ∧ x k = i ∧ y k = j
theorem REP.one {f : Nat → Nat → Nat} {n n' : Nat} {c x y c' x' y' : Nat → Nat} (h : REP f n c x y) (h' : REP f n' c' x' y') (z : ∀ k, k < n → c k ≠ 0) (z' : ∀ k, k < n' → c' k ≠ 0) : n = n' ∧ ∀ k, k < n → c k = c' k ∧ x k = x' k ∧ y k = y' k := by
  obtain ⟨f1, f2, f3⟩ := h
  obtain ⟨g1, g2, g3⟩ := h'
  have r1 : BRise (fun i _ => i) (fun _ j => j) n (fun k => x (n - 1 - k)) (fun k => y (n - 1 - k)) := fun k l hkl hl => by
    have := f1 (n - 1 - l) (n - 1 - k) (by omega) (by omega)
    show x (n - 1 - k) < x (n - 1 - l) ∨ x (n - 1 - k) = x (n - 1 - l) ∧ y (n - 1 - k) < y (n - 1 - l)
    omega
  have r2 : BRise (fun i _ => i) (fun _ j => j) n' (fun k => x' (n' - 1 - k)) (fun k => y' (n' - 1 - k)) := fun k l hkl hl => by
    have := g1 (n' - 1 - l) (n' - 1 - k) (by omega) (by omega)
    show x' (n' - 1 - k) < x' (n' - 1 - l) ∨ x' (n' - 1 - k) = x' (n' - 1 - l) ∧ y' (n' - 1 - k) < y' (n' - 1 - l)
    omega
  have hs : ∀ i j, isSt n (fun k => x (n - 1 - k)) (fun k => y (n - 1 - k)) i j ↔ isSt n' (fun k => x' (n' - 1 - k)) (fun k => y' (n' - 1 - k)) i j := by
    intro i j
    constructor
    · rintro ⟨k, k1, k2, k3⟩
      have k2 : x (n - 1 - k) = i := k2
      have k3 : y (n - 1 - k) = j := k3
      have hc := f2 (n - 1 - k) (by omega)
      have hz := z (n - 1 - k) (by omega)
      rw [hc, k2, k3] at hz
      obtain ⟨m, m1, m2, m3⟩ := g3 i j hz
      exact ⟨n' - 1 - m, by omega, by show x' (n' - 1 - (n' - 1 - m)) = i; rw [show n' - 1 - (n' - 1 - m) = m by omega]; exact m2, by show y' (n' - 1 - (n' - 1 - m)) = j; rw [show n' - 1 - (n' - 1 - m) = m by omega]; exact m3⟩
    · rintro ⟨k, k1, k2, k3⟩
      have k2 : x' (n' - 1 - k) = i := k2
      have k3 : y' (n' - 1 - k) = j := k3
      have hc := g2 (n' - 1 - k) (by omega)
      have hz := z' (n' - 1 - k) (by omega)
      rw [hc, k2, k3] at hz
      obtain ⟨m, m1, m2, m3⟩ := f3 i j hz
      exact ⟨n - 1 - m, by omega, by show x (n - 1 - (n - 1 - m)) = i; rw [show n - 1 - (n - 1 - m) = m by omega]; exact m2, by show y (n - 1 - (n - 1 - m)) = j; rw [show n - 1 - (n - 1 - m) = m by omega]; exact m3⟩
  obtain ⟨e1, e2⟩ := rise_eq r1 r2 hs
  subst e1
  refine ⟨rfl, fun k hk => ?_⟩
  have := e2 (n - 1 - k) (by omega)
  rw [show n - 1 - (n - 1 - k) = k by omega] at this
  refine ⟨?_, this.1, this.2⟩
  rw [f2 k hk, g2 k hk, this.1, this.2]
theorem sel_hits {C : Nat → Int32} : ∀ (n k : Nat), k < n → ¬ C k = 0 → ∃ m, m < (sel C n).1 ∧ (sel C n).2 m = k
  | 0, k, h, _ => absurd h (Nat.not_lt_zero k)
  | n + 1, k, h, hk => by
    by_cases c : C n = 0
    · rw [sel_z c]
      have hne : k ≠ n := fun e => hk (by rw [e]; exact c)
      exact sel_hits n k (by omega) hk
    · rw [sel_s c]
      by_cases e : k = n
      · subst e
        exact ⟨(sel C k).1, Nat.lt_succ_self _, up1_s ..⟩
      · obtain ⟨m, m1, m2⟩ := sel_hits n k (by omega) hk
        exact ⟨m, Nat.lt_succ_of_lt m1, by show up1 _ _ _ m = k; rw [up1_n (by omega)]; exact m2⟩
/-- a term brought to a function -/
def brg (p : Nat) (f : Nat → Nat → Nat) (c i j : Nat) : Nat → Nat → Nat := fun a b => if a = i ∧ b = j then (f i j + c) % p else f a b
/-- taking the noughts away keeps what a list stands for -/
theorem REP.nz {f : Nat → Nat → Nat} {n : Nat} {c x y : Nat → Nat} (h : REP f n c x y) (hc : ∀ k, k < n → c k < 2147483648) : REP f (sel (fun k => nI (c k)) n).1 (fun j => c ((sel (fun k => nI (c k)) n).2 j)) (fun j => x ((sel (fun k => nI (c k)) n).2 j)) (fun j => y ((sel (fun k => nI (c k)) n).2 j)) ∧ ∀ j, j < (sel (fun k => nI (c k)) n).1 → c ((sel (fun k => nI (c k)) n).2 j) ≠ 0 := by
  have hok := sel_ok (C := fun k => nI (c k)) n
  have hz : ∀ j, j < (sel (fun k => nI (c k)) n).1 → c ((sel (fun k => nI (c k)) n).2 j) ≠ 0 := fun j hj q => (hok.2.1 j hj).2 (by rw [q]; rfl)
  refine ⟨⟨fun k l hkl hl => h.1 _ _ (hok.2.2 k l hkl hl) (hok.2.1 l hl).1, fun k hk => h.2.1 _ (hok.2.1 k hk).1, fun i j hf => ?_⟩, hz⟩
  obtain ⟨k, k1, k2, k3⟩ := h.2.2 i j hf
  have hck : ¬ nI (c k) = 0 := fun q => by
    have := (nI_inj (b := 0) (hc k k1) (by omega)).mp q
    rw [h.2.1 k k1, k2, k3] at this
    exact hf this
  obtain ⟨m, m1, m2⟩ := sel_hits (C := fun k => nI (c k)) n k k1 hck
  exact ⟨m, m1, by dsimp only; rw [m2]; exact k2, by dsimp only; rw [m2]; exact k3⟩
theorem m_polCopy {t q n L L' : Nat} {c x y : Nat → Nat} {M : smM} (l1 : smLn (q + 1) = L) (l2 : smLn (q + 2) = L) (l3 : smLn (q + 3) = L) (m1 : smLn (t + 1) = L') (m2 : smLn (t + 2) = L') (m3 : smLn (t + 3) = L') (hn : n ≤ L) (hn' : n ≤ L') (hL : L < 1000) (hL' : L' < 1000) (hd : t + 4 ≤ q ∨ q + 4 ≤ t) (h : PO M q n c x y) : ∃ M', m_X5_copyFrom t q M = some M' ∧ PO M' t n c x y ∧ ∀ r, (r < t ∨ t + 4 ≤ r) → M' r = M r := by
  unfold m_X5_copyFrom
  rw [smB_e, h.1, m1, if_neg (fun q => by rw [nI_lt_iff (by omega) (by omega)] at q; omega)]
  refine lp_post (ρ := smM) n (fun k w => ∃ M' : smM, w = (nI k, M') ∧ M' t 0 = nI n ∧ (∀ r, (r < t ∨ t + 4 ≤ r) → M' r = M r) ∧ ∀ j, j < k → M' (t + 1) j = nI (c j) ∧ M' (t + 2) j = nI (x j) ∧ M' (t + 3) j = nI (y j)) (fun e => ∃ M', e = some M' ∧ PO M' t n c x y ∧ ∀ r, (r < t ∨ t + 4 ≤ r) → M' r = M r) ⟨_, rfl, smS_at, fun r hr => smS_o (by omega), fun j hj => absurd hj (Nat.not_lt_zero j)⟩ (by omega) ?_
  rintro k w hk ⟨M', rfl, g0, g1, g2⟩
  by_cases e : k = n
  · right
    subst e
    refine ⟨_, ⟨M', rfl, ⟨g0, g2⟩, g1⟩, fun rc => ?_⟩
    show m_X5_copyFrom_b18 t q rc (nI k) M' = _
    unfold m_X5_copyFrom_b18
    rw [g0, if_pos ((nI_le_iff (by omega) (by omega)).mpr (Nat.le_refl k))]
  · left
    obtain ⟨p1, p2, p3⟩ := h.2 k (by omega)
    have ck : ∀ {ρ : Type} (T : Option ρ), (if nI k < 0 ∨ L ≤ k then none else T) = T := fun T => if_ck2 (by omega) (by omega) T
    have ck' : ∀ {ρ : Type} (T : Option ρ), (if nI k < 0 ∨ L' ≤ k then none else T) = T := fun T => if_ck2 (by omega) (by omega) T
    refine ⟨(nI (k + 1), smS (smS (smS M' (t + 1) k (nI (c k))) (t + 2) k (nI (x k))) (t + 3) k (nI (y k))), by omega, ⟨_, rfl, ?_, fun r hr => ?_, fun j hj => ?_⟩, fun rc => ?_⟩
    · rw [smS_o (by omega), smS_o (by omega), smS_o (by omega)]; exact g0
    · rw [smS_o (by omega), smS_o (by omega), smS_o (by omega)]; exact g1 r hr
    · by_cases ej : j = k
      · subst ej
        exact ⟨by rw [smS_o (by omega), smS_o (by omega), smS_at], by rw [smS_o (by omega), smS_at], smS_at⟩
      · obtain ⟨d1, d2, d3⟩ := g2 j (by omega)
        exact ⟨by rw [smS_o (by omega), smS_o (by omega), smS_ne ej]; exact d1, by rw [smS_o (by omega), smS_ne ej, smS_o (by omega)]; exact d2, by rw [smS_ne ej, smS_o (by omega), smS_o (by omega)]; exact d3⟩
    · show m_X5_copyFrom_b18 t q rc (nI k) M' = _
      unfold m_X5_copyFrom_b18
      rw [g0, if_neg (fun q => by rw [nI_le_iff (by omega) (by omega)] at q; omega), cl_nI (n := k) (by omega), l1, l2, l3, m1, m2, m3, ck, ck', smB_e, ck, ck', smB_e, ck, ck', smB_e, smS_o (show q + 2 ≠ t + 1 by omega), smS_o (show q + 3 ≠ t + 2 by omega), smS_o (show q + 3 ≠ t + 1 by omega), g1 (q + 1) (by omega), g1 (q + 2) (by omega), g1 (q + 3) (by omega), p1, p2, p3, nI_add_1]
