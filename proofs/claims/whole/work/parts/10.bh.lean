/-! another field: the slots, the call -/
theorem fz_nat {p c : Nat} [NeZero p] : (fz p (c : Int)).val = c % p := rfl
theorem bfm_o {M : smM} {p r : Nat} (h1 : r ≠ 1000) (h2 : r ≠ 1001) (h3 : r ≠ 1004) (h4 : r ≠ 1012) : bfm M p r = M r := by
  unfold bfm; rw [fil_o h4, fil_o h3, fil_o h2, smS_o h1]
theorem bfm_4 {M : smM} {p k : Nat} (h : k < 32) : bfm M p 1004 k = rm p (M 1004 k) := by
  unfold bfm; rw [fil_o (by omega), fil_in h]
theorem bfm_12 {M : smM} {p k : Nat} (h : k < 360) : bfm M p 1012 k = rm p (M 1012 k) := by
  unfold bfm; rw [fil_in h]
theorem bfm_1 {M : smM} {p k : Nat} (h : k < 18) : bfm M p 1001 k = rm p (M 1001 k) := by
  unfold bfm; rw [fil_o (by omega), fil_o (by omega), fil_in h]
theorem bfm_0 {M : smM} {p : Nat} : bfm M p 1000 0 = nI p := by
  unfold bfm; rw [fil_o (by omega), fil_o (by omega), fil_o (by omega), smS_at]
theorem bfm_00 {M : smM} {p k : Nat} (h : k ≠ 0) : bfm M p 1000 k = M 1000 k := by
  unfold bfm; rw [fil_o (by omega), fil_o (by omega), fil_o (by omega), smS_ne h]
theorem SLOT.move {M1 M2 M1' M2' : smM} {s p p' : Nat} [NeZero p'] (hs : s < 4) (hpp : p ≤ 97) (hp : 2 ≤ p') (hp2 : p' ≤ 97) (h : SLOT M1 M2 s p) (m1 : MVD M1 M1' s p') (m2 : DR (bfm M2 p') M2' s) (e2 : ∀ r, (r < 1003 ∨ 1006 < r) → M2' r = bfm M2 p' r) : SLOT M1' M2' s p' := by
  obtain ⟨⟨n0, hn0, h01⟩, ⟨n6, hn6, h06⟩, κ, a3, a4, a5⟩ := h
  obtain ⟨b1, b2, b3, b4⟩ := m1
  obtain ⟨b31, b32⟩ := b3 n0 hn0 h01
  obtain ⟨b41, b42⟩ := b4 n6 hn6 h06
  have hok := sel_ok (C := fun k => rd p' (M1 (13 + 20 * s + 1 + 1) k)) n0
  refine ⟨⟨_, by omega, b31⟩, ⟨n6, hn6, by rw [show M1' (13 + 20 * s + 6) = M1 (13 + 20 * s + 6) from b41 0 (by omega)]; exact h06⟩, κ, by rw [b1]; exact a3, by rw [e2 1002 (by omega), bfm_o (by omega) (by omega) (by omega) (by omega)]; exact a4, ?_⟩
  rcases a5 with a5 | ⟨k1, n, c, x, y, c1, c2, c3, c4, c5⟩ | ⟨k2, ne, o, u, v, nm, D, mx, my, tl, c1, c2, c3, c4, c5, c6, c7⟩
  · exact Or.inl a5
  · subst k1
    refine Or.inr (Or.inl ⟨rfl, ?_⟩)
    have en : n0 = n := (nI_inj (by omega) (by omega)).mp (h01.symm.trans c3.1)
    subst en
    have hcp : ∀ k, k < n0 → c k < p := fun k hk => (c2.1 k hk).2.1
    have s1 : sel (fun k => rd p' (M1 (13 + 20 * s + 1 + 1) k)) n0 = sel (fun k => nI (c k % p')) n0 := sel_cong (fun k hk => by rw [(c3.2 k hk).1, rd_nI (by have := hcp k hk; omega)])
    have s2 : sel (fun k => bfm M2 p' 1004 (8 * s + k)) n0 = sel (fun k => nI (c k % p')) n0 := sel_cong (fun k hk => by rw [bfm_4 (by omega), (c5 k hk).1, rm_nI hp hp2 (by have := hcp k hk; omega)])
    obtain ⟨d1, d2⟩ := m2.1 (by rw [bfm_o (by omega) (by omega) (by omega) (by omega)]; exact a4) n0 hn0 (by rw [bfm_o (by omega) (by omega) (by omega) (by omega)]; exact c4)
    rw [s1] at b31 b32 hok
    rw [s2] at d1 d2
    refine ⟨(sel (fun k => nI (c k % p')) n0).1, fun j => c ((sel (fun k => nI (c k % p')) n0).2 j) % p', fun j => x ((sel (fun k => nI (c k % p')) n0).2 j), fun j => y ((sel (fun k => nI (c k % p')) n0).2 j), by omega, ⟨fun j hj => ?_, fun i j hij hj => ?_⟩, ⟨b31, fun j hj => ?_⟩, d1, fun j hj => ?_⟩
    · obtain ⟨f1, f2⟩ := hok.2.1 j hj
      have hlt : c ((sel (fun k => nI (c k % p')) n0).2 j) % p' < p' := Nat.mod_lt _ (by omega)
      have f2' : ¬ nI (c ((sel (fun k => nI (c k % p')) n0).2 j) % p') = 0 := by
        have := f2
        rw [(c3.2 _ f1).1, rd_nI (by have := hcp _ f1; omega)] at this
        exact this
      refine ⟨Nat.pos_of_ne_zero (fun q => f2' (by rw [show c ((sel (fun k => nI (c k % p')) n0).2 j) % p' = 0 from q]; rfl)), hlt, (c2.1 _ f1).2.2.1, (c2.1 _ f1).2.2.2⟩
    · exact c2.2 _ _ (hok.2.2 i j hij hj) (hok.2.1 j hj).1
    · obtain ⟨f1, -⟩ := hok.2.1 j hj
      obtain ⟨g1, g2, g3⟩ := b32 j hj
      refine ⟨?_, ?_, ?_⟩
      · rw [g1, (c3.2 _ f1).1, rd_nI (by have := hcp _ f1; omega)]
      · rw [g2, (c3.2 _ f1).2.1]
      · rw [g3, (c3.2 _ f1).2.2]
    · obtain ⟨f1, -⟩ := hok.2.1 j hj
      obtain ⟨g1, g2, g3⟩ := d2 j hj
      refine ⟨?_, ?_, ?_⟩
      · rw [g1, bfm_4 (by omega), (c5 _ f1).1, rm_nI hp hp2 (by have := hcp _ f1; omega)]
      · rw [g2, bfm_o (by omega) (by omega) (by omega) (by omega), (c5 _ f1).2.1]
      · rw [g3, bfm_o (by omega) (by omega) (by omega) (by omega), (c5 _ f1).2.2]
  · subst k2
    have en : n6 = nm := (nI_inj (by omega) (by have := c3.1; omega)).mp (h06.symm.trans c3.2.1)
    subst en
    have hv : ∀ a : Fin p, a.val < 2147483648 := fun a => by have := a.isLt; omega
    have h3 := m2.2 (by rw [bfm_o (by omega) (by omega) (by omega) (by omega), a4]; decide)
    rw [bfm_o (by omega) (by omega) (by omega) (by omega)] at h3
    refine Or.inr (Or.inr ⟨rfl, inferInstance, o, u, v, n6, D, mx, my, fun k t => fz p' ((tl k t).val : Int), c1, by rw [b2]; exact c2, ⟨hn6, ?_, fun k hk => ?_⟩, ?_, fun k hk => ?_, c6, fun k hk t ht => ?_⟩)
    · rw [show M1' (13 + 20 * s + 6) = M1 (13 + 20 * s + 6) from b41 0 (by omega)]; exact h06
    · obtain ⟨d1, d2, d3, d4, d5⟩ := c3.2.2 k hk
      refine ⟨by rw [b41 1 (by omega)]; exact d1, by rw [b41 2 (by omega)]; exact d2, fun t ht => ?_, d4, d5⟩
      rw [b42 k t hk ht, d3 t ht, rd_nI (hv _), fz_nat]
    · rw [h3, e2 1007 (by omega), e2 1008 (by omega), e2 1009 (by omega), bfm_o (by omega) (by omega) (by omega) (by omega), bfm_o (by omega) (by omega) (by omega) (by omega), bfm_o (by omega) (by omega) (by omega) (by omega)]
      exact c4
    · obtain ⟨d1, d2, d3⟩ := c5 k hk
      rw [e2 1010 (by omega), e2 1011 (by omega), e2 1012 (by omega), bfm_o (by omega) (by omega) (by omega) (by omega), bfm_o (by omega) (by omega) (by omega) (by omega)]
      refine ⟨d1, d2, fun t ht => ?_⟩
      rw [bfm_12 (by omega), d3 t ht, rm_nI hp hp2 (hv _), fz_nat]
    · show fz p' ((tl k t).val : Int) = 0
      rw [c7 k hk t ht]
      exact fz_0
/-! the primes -/
def pfb (x : Nat) : Nat → Bool
  | 0 => true
  | d + 1 => pfb x d && (decide (d < 2) || decide (x % d ≠ 0))
theorem pfb_of {x : Nat} : ∀ {d : Nat}, (∀ e, e < d → 2 ≤ e → x % e ≠ 0) → pfb x d = true
  | 0, _ => rfl
  | d + 1, h => by
    have ih := pfb_of (d := d) (fun e he => h e (by omega))
    show (pfb x d && (decide (d < 2) || decide (x % d ≠ 0))) = true
    rw [ih]
    by_cases c : d < 2
    · simp [c]
    · simp [h d (by omega) (by omega)]
theorem pr_hi' : ∀ x, x < 98 → ∀ d, d < 11 → (pfb x d && decide (2 ≤ x) && decide (x < d * d)) = true → decide (x ∈ PrL) = true := by decide +kernel
theorem pr_lo' : ∀ x, x < 98 → ∀ d, d < 11 → (decide (2 ≤ d) && decide (d * d ≤ x) && decide (x % d = 0)) = true → decide (x ∈ PrL) = false := by decide +kernel
theorem pfb_pr' : ∀ x, x < 98 → decide (2 ≤ x) = true → pfb x x = decide (x ∈ PrL) := by decide +kernel
theorem pr_hi {x d : Nat} (h1 : x < 98) (h2 : 2 ≤ x) (h3 : d < 11) (h4 : x < d * d) (h5 : ∀ e, e < d → 2 ≤ e → x % e ≠ 0) : x ∈ PrL := of_decide_eq_true (pr_hi' x h1 d h3 (by rw [pfb_of h5]; simp [h2, h4]))
theorem pr_lo {x d : Nat} (h1 : x < 98) (h3 : d < 11) (h2 : 2 ≤ d) (h4 : d * d ≤ x) (h5 : x % d = 0) : ¬ x ∈ PrL := of_decide_eq_false (pr_lo' x h1 d h3 (by simp [h2, h4, h5]))
theorem pfb_pr {x : Nat} (h1 : x < 98) (h2 : 2 ≤ x) : pfb x x = true ↔ x ∈ PrL := by
  rw [pfb_pr' x h1 (decide_eq_true h2)]
  exact decide_eq_true_iff
theorem m_isPrime {x : Nat} (h2 : 2 ≤ x) (h97 : x ≤ 97) (M : smM) : m_X11_isPrimeOfRange (nI x) M = some (b01 (x ∈ PrL)) := by
  have c : (2 : Int32) ≤ nI x ∧ nI x ≤ 97 := ⟨(nI_le_iff (a := 2) (by omega) (by omega)).mpr h2, (nI_le_iff (b := 97) (by omega) (by omega)).mpr h97⟩
  unfold m_X11_isPrimeOfRange
  rw [m_isWithin, Option.bind_some, b01_t c, if_1]
  refine lp_post (ρ := Int32) 8 (fun k s => s = nI (k + 2) ∧ ∀ e, e < k + 2 → 2 ≤ e → x % e ≠ 0) (fun e => e = some (b01 (x ∈ PrL))) ⟨rfl, fun e h1 h2 => by omega⟩ (by omega) ?_
  rintro k s hk ⟨rfl, hI⟩
  have em : nI (k + 2) * nI (k + 2) = nI ((k + 2) * (k + 2)) := by rw [jI_nI, jI_nI, jI_mul]; congr 1
  have hb : (k + 2) * (k + 2) ≤ 10 * 10 := Nat.mul_le_mul (by omega) (by omega)
  by_cases q : x < (k + 2) * (k + 2)
  · right
    refine ⟨some (b01 (x ∈ PrL)), rfl, fun rc => ?_⟩
    unfold m_X11_isPrimeOfRange_b14
    rw [em, if_pos ((nI_lt_iff (by omega) (by omega)).mpr q), b01_t (pr_hi (by omega) h2 (by omega) q hI)]
  · have k8 : k < 8 := by
      by_cases e : k < 8
      · exact e
      · have : k = 8 := by omega
        subst this; omega
    by_cases z : x % (k + 2) = 0
    · right
      refine ⟨some (b01 (x ∈ PrL)), rfl, fun rc => ?_⟩
      unfold m_X11_isPrimeOfRange_b14
      rw [em, if_neg (fun w => q ((nI_lt_iff (by omega) (by omega)).mp w)), if_neg (z_nI (by omega) (by omega)), rem_nI (by omega) (by omega) (by omega), if_pos (by rw [z]; rfl), b01_f (pr_lo (by omega) (show k + 2 < 11 by omega) (by omega) (by omega) z)]
    · left
      refine ⟨nI (k + 1 + 2), k8, ⟨rfl, fun e h1 h3 => ?_⟩, fun rc => ?_⟩
      · by_cases ee : e = k + 2
        · rw [ee]; exact z
        · exact hI e (by omega) h3
      · unfold m_X11_isPrimeOfRange_b14
        rw [em, if_neg (fun w => q ((nI_lt_iff (by omega) (by omega)).mp w)), if_neg (z_nI (by omega) (by omega)), rem_nI (by omega) (by omega) (by omega), if_neg (show ¬ nI (x % (k + 2)) = 0 from fun w => z ((nI_inj (b := 0) (by have := Nat.mod_lt x (show 0 < k + 2 by omega); omega) (by omega)).mp w)), nI_add_1]
theorem m12_isPrime {x : Nat} (h2 : 2 ≤ x) (h97 : x ≤ 97) (M : smM) : m_X12_isPrime (nI x) M = some (b01 (x ∈ PrL)) := by
  unfold m_X12_isPrime m_X12_isPrime_j10
  rw [if_neg (fun q => by rw [show (1 : Int32) = nI 1 from rfl, nI_le_iff (by omega) (by omega)] at q; omega)]
  refine lp_cnt (x - 2) (fun k => (b01 (pfb x (k + 2) = true), nI (k + 2))) rfl (by omega) (fun k hk rc => ?_) (fun rc => ?_)
  · show m_X12_isPrime_b13 (nI x) M rc (b01 (pfb x (k + 2) = true)) (nI (k + 2)) = rc (b01 (pfb x (k + 3) = true), nI (k + 3))
    unfold m_X12_isPrime_b13
    rw [if_neg (fun q => by rw [nI_le_iff (by omega) (by omega)] at q; omega)]
    have ep : pfb x (k + 3) = (pfb x (k + 2) && (decide (k + 2 < 2) || decide (x % (k + 2) ≠ 0))) := rfl
    by_cases c : pfb x (k + 2) = true
    · rw [b01_t c, if_1, if_neg (z_nI (by omega) (by omega)), rem_nI (by omega) (by omega) (by omega)]
      by_cases z : x % (k + 2) = 0
      · rw [if_pos (by rw [z]; rfl), b01_f (by rw [ep, c, z]; simp), nI_add_1]
      · rw [if_neg (show ¬ nI (x % (k + 2)) = 0 from fun w => z ((nI_inj (b := 0) (by have := Nat.mod_lt x (show 0 < k + 2 by omega); omega) (by omega)).mp w)), b01_t (by rw [ep, c]; simp [z]), nI_add_1]
    · rw [b01_f c, if_0, b01_f (by rw [ep]; simp [c]), nI_add_1]
  · show m_X12_isPrime_b13 (nI x) M rc (b01 (pfb x (x - 2 + 2) = true)) (nI (x - 2 + 2)) = _
    unfold m_X12_isPrime_b13
    rw [show x - 2 + 2 = x by omega, if_pos ((nI_le_iff (by omega) (by omega)).mpr (Nat.le_refl x)), smZ_b01]
    have := pfb_pr (x := x) (by omega) h2
    by_cases c : pfb x x = true
    · rw [b01_t c, b01_t (this.mp c)]
    · rw [b01_f c, b01_f (fun q => c (this.mpr q))]
