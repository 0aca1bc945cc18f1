/-! takes, of the reference -/
def fl (p : Nat) (c x y : Nat → Nat) : Nat → Nat → Nat → Nat
  | 0 => fun _ _ => 0
  | k + 1 => brg p (fl p c x y k) (c k) (x k) (y k)
theorem REP.cong {f : Nat → Nat → Nat} {n : Nat} {c x y c' x' y' : Nat → Nat} (h : REP f n c x y) (e : ∀ k, k < n → c' k = c k ∧ x' k = x k ∧ y' k = y k) : REP f n c' x' y' := by
  refine ⟨fun k l hkl hl => ?_, fun k hk => ?_, fun i j hf => ?_⟩
  · obtain ⟨-, a2, a3⟩ := e k (by omega)
    obtain ⟨-, b2, b3⟩ := e l hl
    rw [a2, a3, b2, b3]; exact h.1 k l hkl hl
  · obtain ⟨a1, a2, a3⟩ := e k hk
    rw [a1, a2, a3]; exact h.2.1 k hk
  · obtain ⟨k, k1, k2, k3⟩ := h.2.2 i j hf
    obtain ⟨-, a2, a3⟩ := e k k1
    exact ⟨k, k1, a2.trans k2, a3.trans k3⟩
theorem REP.fl {p n : Nat} {c x y : Nat → Nat} (h : PF p n c x y) : ∀ k, k ≤ n → REP (fl p c x y k) k c x y
  | 0, _ => ⟨fun k l _ hl => absurd hl (Nat.not_lt_zero l), fun k hk => absurd hk (Nat.not_lt_zero k), fun i j hf => absurd rfl hf⟩
  | k + 1, hk => by
    have ih := REP.fl h k (by omega)
    have := ih.ins (p := p) (c0 := c k) (i := x k) (j := y k) (Nat.le_refl k) (h.1 k (by omega)).2.1 (fun l hl => by have := h.2 l k hl (by omega); omega) (fun l h1 h2 => by omega)
    refine this.cong (fun l hl => ?_)
    by_cases e : l = k
    · subst e
      rw [ins_e, ins_e, ins_e]; exact ⟨rfl, rfl, rfl⟩
    · rw [ins_l (by omega), ins_l (by omega), ins_l (by omega)]; exact ⟨rfl, rfl, rfl⟩
theorem m12_takes {s n p : Nat} {c x y : Nat → Nat} {M : smM} (hs : s < 4) (hn : n ≤ 8) (hp : 2 ≤ p) (hp2 : p ≤ 97) (hp0 : M 1000 0 = nI p) (hP : PF p n c x y) (h0 : M 1003 s = nI n) (h : ∀ k, k < n → M 1004 (8 * s + k) = nI (c k) ∧ M 1005 (8 * s + k) = nI (x k) ∧ M 1006 (8 * s + k) = nI (y k)) : ∃ (M' : smM) (n' : Nat) (c' x' y' : Nat → Nat), m_X12_takes 1000 (nI s) M = some M' ∧ PO2 M' n' c' x' y' ∧ REP (fl p c x y n) n' c' x' y' ∧ (∀ k, k < n' → c' k < p ∧ x' k < 2147483648 ∧ y' k < 2147483648) ∧ n' ≤ n ∧ FR2 M M' := by
  have e8 : (8 : Int32) * nI s = nI (8 * s) := by rw [show (8 : Int32) = nI 8 from rfl, jI_nI, jI_nI, jI_nI, jI_mul]; congr 1
  have ck4 : ∀ {ρ : Type} (T : Option ρ), (if nI s < 0 ∨ 4 ≤ s then none else T) = T := fun T => if_ck2 (by omega) (by omega) T
  unfold m_X12_takes
  rw [smB_e, e8]
  refine lp_post (ρ := smM) n (fun k w => ∃ (M' : smM) (n' : Nat) (c' x' y' : Nat → Nat), w = (nI (8 * s + k), M') ∧ PO2 M' n' c' x' y' ∧ REP (fl p c x y k) n' c' x' y' ∧ (∀ k, k < n' → c' k < p ∧ x' k < 2147483648 ∧ y' k < 2147483648) ∧ n' ≤ k ∧ FR2 M M') (fun e => ∃ (M' : smM) (n' : Nat) (c' x' y' : Nat → Nat), e = some M' ∧ PO2 M' n' c' x' y' ∧ REP (fl p c x y n) n' c' x' y' ∧ (∀ k, k < n' → c' k < p ∧ x' k < 2147483648 ∧ y' k < 2147483648) ∧ n' ≤ n ∧ FR2 M M') ⟨smS M 1000 52 0, 0, fun _ => 0, fun _ => 0, fun _ => 0, rfl, ⟨smS_at, fun k hk => absurd hk (Nat.not_lt_zero k)⟩, ⟨fun k l _ hl => absurd hl (Nat.not_lt_zero l), fun k hk => absurd hk (Nat.not_lt_zero k), fun i j hf => absurd rfl hf⟩, fun k hk => absurd hk (Nat.not_lt_zero k), Nat.le_refl 0, fun k hk => smS_ne hk, fun r q _ _ _ => smS_o q⟩ (by omega) ?_
  rintro k w hk ⟨M', n', c', x', y', rfl, g1, g2, g3, g4, g5⟩
  have r3 : M' 1003 s = nI n := by rw [g5.2 1003 (by omega) (by omega) (by omega) (by omega)]; exact h0
  by_cases e : k = n
  · right
    subst e
    refine ⟨_, ⟨M', n', c', x', y', rfl, g1, g2, g3, g4, g5⟩, fun rc => ?_⟩
    show m_X12_takes_b10 1000 (nI s) rc (nI (8 * s + k)) M' = _
    unfold m_X12_takes_b10
    rw [cl_nI (n := s) (by omega), show smLn (1000 + 3) = 4 from g_1003, ck4, show M' (1000 + 3) s = nI k from r3, e8, nI_ad, if_pos ((nI_le_iff (by omega) (by omega)).mpr (Nat.le_refl _))]
  · left
    obtain ⟨p1, p2, p3⟩ := h k (by omega)
    obtain ⟨b1, b2, b3, b4⟩ := hP.1 k (by omega)
    have ck : ∀ {ρ : Type} (T : Option ρ), (if nI (8 * s + k) < 0 ∨ 32 ≤ 8 * s + k then none else T) = T := fun T => if_ck2 (by omega) (by omega) T
    obtain ⟨M2, n2, c2, x2, y2, d1, d2, d3, d4, d5, d6⟩ := m12_comes (c0 := c k) (i := x k) (j := y k) (M := M') (show n' < 40 by omega) hp hp2 (by rw [g5.1 0 (by omega)]; exact hp0) g1 g2 g3 b2 b3 b4
    refine ⟨(nI (8 * s + (k + 1)), M2), by omega, ⟨M2, n2, c2, x2, y2, rfl, d2, d3, d4, by omega, fun q hq => (d6.1 q hq).trans (g5.1 q hq), fun r q1 q2 q3 q4 => (d6.2 r q1 q2 q3 q4).trans (g5.2 r q1 q2 q3 q4)⟩, fun rc => ?_⟩
    show m_X12_takes_b10 1000 (nI s) rc (nI (8 * s + k)) M' = _
    unfold m_X12_takes_b10
    rw [cl_nI (n := s) (by omega), show smLn (1000 + 3) = 4 from g_1003, ck4, show M' (1000 + 3) s = nI n from r3, e8, nI_ad, if_neg (fun q => by rw [nI_le_iff (by omega) (by omega)] at q; omega), cl_nI (n := 8 * s + k) (by omega), show smLn (1000 + 4) = 32 from g_1004, show smLn (1000 + 5) = 32 from g_1005, show smLn (1000 + 6) = 32 from g_1006, ck, ck, ck, g5.2 (1000 + 4) (by omega) (by omega) (by omega) (by omega), g5.2 (1000 + 5) (by omega) (by omega) (by omega) (by omega), g5.2 (1000 + 6) (by omega) (by omega) (by omega) (by omega), show M (1000 + 4) (8 * s + k) = _ from p1, show M (1000 + 5) (8 * s + k) = _ from p2, show M (1000 + 6) (8 * s + k) = _ from p3, d1, Option.bind_some, nI_add_1]
    rfl
