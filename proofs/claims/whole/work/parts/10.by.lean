/-! bringAll, of the class -/
def fl2 (p : Nat) (g : Nat → Nat → Nat) (d : Nat) (c x y : Nat → Nat) : Nat → Nat → Nat → Nat
  | 0 => g
  | k + 1 => brg p (fl2 p g d c x y k) (c k * d % p) (x k) (y k)
theorem m_bringAll {q n0 n L p d : Nat} [NeZero p] {g : Nat → Nat → Nat} {c0 x0 y0 c x y : Nat → Nat} {M : smM} (l1 : smLn (q + 1) = L) (l2 : smLn (q + 2) = L) (l3 : smLn (q + 3) = L) (hn : n ≤ L) (hL : L < 1000) (hq : q + 4 ≤ 500) (h16 : n0 + n ≤ 16) (hp : 2 ≤ p) (hp2 : p ≤ 97) (hd : d < p) (h : PO M 500 n0 c0 x0 y0) (hR : REP g n0 c0 x0 y0) (hP : PF p n0 c0 x0 y0) (h' : PO M q n c x y) (hP' : PF p n c x y) : ∃ (M' : smM) (n' : Nat) (c' x' y' : Nat → Nat), m_X5_bringAll 500 q (nI d) (nI p) M = some M' ∧ PO M' 500 n' c' x' y' ∧ REP (fl2 p g d c x y n) n' c' x' y' ∧ PF p n' c' x' y' ∧ n' ≤ n0 + n ∧ ∀ r, (r < 500 ∨ 504 ≤ r) → M' r = M r := by
  obtain ⟨m1, m2, m3⟩ := g_500
  unfold m_X5_bringAll
  refine lp_post (ρ := smM) n (fun k w => ∃ (M' : smM) (n' : Nat) (c' x' y' : Nat → Nat), w = (nI k, M') ∧ PO M' 500 n' c' x' y' ∧ REP (fl2 p g d c x y k) n' c' x' y' ∧ PF p n' c' x' y' ∧ n' ≤ n0 + k ∧ ∀ r, (r < 500 ∨ 504 ≤ r) → M' r = M r) (fun e => ∃ (M' : smM) (n' : Nat) (c' x' y' : Nat → Nat), e = some M' ∧ PO M' 500 n' c' x' y' ∧ REP (fl2 p g d c x y n) n' c' x' y' ∧ PF p n' c' x' y' ∧ n' ≤ n0 + n ∧ ∀ r, (r < 500 ∨ 504 ≤ r) → M' r = M r) ⟨M, n0, c0, x0, y0, rfl, h, hR, hP, Nat.le_refl _, fun _ _ => rfl⟩ (by omega) ?_
  rintro k w hk ⟨M', n', c', x', y', rfl, g1, g2, g3, g4, g5⟩
  by_cases e : k = n
  · right
    subst e
    refine ⟨_, ⟨M', n', c', x', y', rfl, g1, g2, g3, g4, g5⟩, fun rc => ?_⟩
    show m_X5_bringAll_b3 500 q (nI d) (nI p) rc (nI k) M' = _
    unfold m_X5_bringAll_b3
    rw [g5 q (by omega), h'.1, if_pos ((nI_le_iff (by omega) (by omega)).mpr (Nat.le_refl k))]
  · left
    obtain ⟨p1, p2, p3⟩ := h'.2 k (by omega)
    obtain ⟨b1, b2, b3, b4⟩ := hP'.1 k (by omega)
    have hm : c k * d ≤ 97 * 97 := Nat.mul_le_mul (by omega) (by omega)
    have em : nI (c k) * nI d = nI (c k * d) := by rw [jI_nI, jI_nI, jI_nI, jI_mul]; congr 1
    have ck : ∀ {ρ : Type} (T : Option ρ), (if nI k < 0 ∨ L ≤ k then none else T) = T := fun T => if_ck2 (by omega) (by omega) T
    obtain ⟨M2, n2, c2, x2, y2, d1, d2, d3, d4, d5, d6⟩ := m_bring (q := 500) (c0 := c k * d % p) (i := x k) (j := y k) m1 m2 m3 (show n' < 16 by omega) (by omega) hp hp2 g1 g2 g3 (Nat.mod_lt _ (by omega)) b3 b4
    refine ⟨(nI (k + 1), M2), by omega, ⟨M2, n2, c2, x2, y2, rfl, d2, d3, d4, by omega, fun r hr => (d6 r hr).trans (g5 r hr)⟩, fun rc => ?_⟩
    show m_X5_bringAll_b3 500 q (nI d) (nI p) rc (nI k) M' = _
    unfold m_X5_bringAll_b3
    rw [g5 q (by omega), h'.1, if_neg (fun w => by rw [nI_le_iff (by omega) (by omega)] at w; omega), cl_nI (n := k) (by omega), l1, l2, l3, ck, g5 (q + 1) (by omega), g5 (q + 2) (by omega), g5 (q + 3) (by omega), p1, p2, p3, em, m_left hp hp2, Option.bind_some, ck, ck, rd_nI (by omega), d1, Option.bind_some, nI_add_1]
