theorem if_ck2 {ρ : Type} {n N : Nat} (h : n < N) (hN : n < 2147483648) (T : Option ρ) : (if nI n < 0 ∨ N ≤ n then none else T) = T := if_neg (by rintro (q | q); exact nI_pos hN q; omega)
/-! the border -/
def BD (M : smM) (c n : Nat) (bx by' : Nat → Nat) (bl : Nat → Int) (un : Nat → Nat) (ps : Nat → Bool) : Prop := n ≤ 19 ∧ M c 0 = nI n ∧ ∀ k, k < n → M (c + 1) k = nI (bx k) ∧ M (c + 2) k = nI (by' k) ∧ M (c + 3) k = jI (bl k) ∧ M (c + 4) k = nI (un k) ∧ M (c + 5) k = (if ps k then 1 else 0) ∧ bx k < 1000 ∧ by' k < 1000
theorem m_has {c n i j : Nat} {bx by' : Nat → Nat} {bl : Nat → Int} {un : Nat → Nat} {ps : Nat → Bool} {M : smM} (hc : smT 1 c 1) (h : BD M c n bx by' bl un ps) (hi : i < 1000) (hj : j < 1000) : ((∃ k, k < n ∧ bx k = i ∧ by' k = j) → m_X1_has c (nI i) (nI j) M = some 1) ∧ ((∀ k, k < n → ¬ (bx k = i ∧ by' k = j)) → m_X1_has c (nI i) (nI j) M = some 0) := by
  obtain ⟨hn, h0, hk⟩ := h
  have l1 := l1_1 hc
  have l2 := l1_2 hc
  unfold m_X1_has
  constructor
  · rintro ⟨k0, g1, g2, g3⟩
    refine lp_post n (fun k s => s = nI k ∧ k ≤ k0) (fun e => e = some 1) ⟨rfl, Nat.zero_le _⟩ (by omega) ?_
    rintro k s hkn ⟨rfl, hk0⟩
    obtain ⟨a1, a2, -, -, -, a6, a7⟩ := hk k (by omega)
    by_cases e1 : bx k = i ∧ by' k = j
    · right
      refine ⟨some 1, rfl, fun rc => ?_⟩
      unfold m_X1_has_b2
      rw [h0, if_neg (by rw [nI_le_iff (by omega) (by omega)]; omega), l1, if_ck (by omega) (by omega), cl_nI (by omega), a1, if_pos (by rw [e1.1]), l2, if_ck2 (by omega) (by omega), a2, if_pos (by rw [e1.2])]
    · left
      have hne : k ≠ k0 := fun q => e1 (by rw [q]; exact ⟨g2, g3⟩)
      refine ⟨nI (k + 1), by omega, ⟨rfl, by omega⟩, fun rc => ?_⟩
      unfold m_X1_has_b2
      rw [h0, if_neg (by rw [nI_le_iff (by omega) (by omega)]; omega), l1, if_ck (by omega) (by omega), cl_nI (by omega), a1, l2, if_ck2 (by omega) (by omega), a2, nI_add_1]
      by_cases e2 : bx k = i
      · rw [if_pos (by rw [e2]), if_neg (by rw [nI_inj (by omega) (by omega)]; exact fun q => e1 ⟨e2, q⟩)]
      · rw [if_neg (by rw [nI_inj (by omega) (by omega)]; exact e2)]
  · intro hno
    refine lp_post n (fun k s => s = nI k) (fun e => e = some 0) rfl (by omega) ?_
    rintro k s hkn rfl
    by_cases he : k = n
    · subst he
      right
      refine ⟨some 0, rfl, fun rc => ?_⟩
      unfold m_X1_has_b2
      rw [h0, if_pos (Int32.le_refl _)]
    · left
      obtain ⟨a1, a2, -, -, -, a6, a7⟩ := hk k (by omega)
      have e1 := hno k (by omega)
      refine ⟨nI (k + 1), by omega, rfl, fun rc => ?_⟩
      unfold m_X1_has_b2
      rw [h0, if_neg (by rw [nI_le_iff (by omega) (by omega)]; omega), l1, if_ck (by omega) (by omega), cl_nI (by omega), a1, l2, if_ck2 (by omega) (by omega), a2, nI_add_1]
      by_cases e2 : bx k = i
      · rw [if_pos (by rw [e2]), if_neg (by rw [nI_inj (by omega) (by omega)]; exact fun q => e1 ⟨e2, q⟩)]
      · rw [if_neg (by rw [nI_inj (by omega) (by omega)]; exact e2)]
def up1 {α : Type} (f : Nat → α) (n : Nat) (x : α) : Nat → α := fun k => if k = n then x else f k
theorem up1_s {α : Type} (f : Nat → α) (n : Nat) (x : α) : up1 f n x n = x := if_pos rfl
theorem up1_n {α : Type} {f : Nat → α} {n k : Nat} {x : α} (h : k ≠ n) : up1 f n x k = f k := if_neg h
theorem m_bdBring {c n i j w : Nat} {s : Int} {bx by' : Nat → Nat} {bl : Nat → Int} {un : Nat → Nat} {ps : Nat → Bool} {M : smM} (hc : smT 1 c 1) (h : BD M c n bx by' bl un ps) (hi : i < 1000) (hj : j < 1000) (hn19 : n < 19) : ((∃ k, k < n ∧ bx k = i ∧ by' k = j) → m_X1_bring c (nI i) (nI j) (jI s) (nI w) M = some M) ∧ ((∀ k, k < n → ¬ (bx k = i ∧ by' k = j)) → ∃ M1, m_X1_bring c (nI i) (nI j) (jI s) (nI w) M = some M1 ∧ BD M1 c (n + 1) (up1 bx n i) (up1 by' n j) (up1 bl n s) (up1 un n w) (up1 ps n false) ∧ ∀ r, (r < c ∨ c + 6 ≤ r) → M1 r = M r) := by
  have hh := m_has hc h hi hj
  obtain ⟨hn, h0, hk⟩ := h
  have g19 : ¬ (19 : Int32) ≤ nI n := by rw [show (19 : Int32) = nI 19 from rfl, nI_le_iff (by omega) (by omega)]; omega
  constructor
  · intro q
    unfold m_X1_bring
    rw [h0, if_neg g19, hh.1 q]
    rfl
  · intro q
    let M1 := smS (smS (smS (smS (smS (smS M (c + 1) n (nI i)) (c + 2) n (nI j)) (c + 3) n (jI s)) (c + 4) n (nI w)) (c + 5) n 0) c 0 (nI (n + 1))
    have ex : m_X1_bring c (nI i) (nI j) (jI s) (nI w) M = some M1 := by
      unfold m_X1_bring
      rw [h0, if_neg g19, hh.2 q]
      simp only [Option.bind_some, smB, if_true]
      rw [l1_1 hc, l1_2 hc, l1_3 hc, l1_4 hc, l1_5 hc, if_ck (by omega) (by omega), cl_nI (by omega)]
      have o1 : smS M (c + 1) n (nI i) c = M c := smS_o (by omega)
      have o2 : smS (smS M (c + 1) n (nI i)) (c + 2) n (nI j) c = M c := by rw [smS_o (by omega)]; exact o1
      have o3 : smS (smS (smS M (c + 1) n (nI i)) (c + 2) n (nI j)) (c + 3) n (jI s) c = M c := by rw [smS_o (by omega)]; exact o2
      have o4 : smS (smS (smS (smS M (c + 1) n (nI i)) (c + 2) n (nI j)) (c + 3) n (jI s)) (c + 4) n (nI w) c = M c := by rw [smS_o (by omega)]; exact o3
      have o5 : smS (smS (smS (smS (smS M (c + 1) n (nI i)) (c + 2) n (nI j)) (c + 3) n (jI s)) (c + 4) n (nI w)) (c + 5) n 0 c = M c := by rw [smS_o (by omega)]; exact o4
      rw [o1, h0, if_ck (by omega) (by omega), cl_nI (by omega), o2, h0, if_ck (by omega) (by omega), cl_nI (by omega), o3, h0, if_ck (by omega) (by omega), cl_nI (by omega), o4, h0, if_ck (by omega) (by omega), cl_nI (by omega), o5, h0, nI_add_1]
    refine ⟨M1, ex, ⟨by omega, smS_at, fun k hk2 => ?_⟩, fun r hr => ?_⟩
    · show smS _ _ _ _ _ k = _ ∧ smS _ _ _ _ _ k = _ ∧ smS _ _ _ _ _ k = _ ∧ smS _ _ _ _ _ k = _ ∧ smS _ _ _ _ _ k = _ ∧ _
      by_cases e : k = n
      · subst e
        rw [up1_s, up1_s, up1_s, up1_s, up1_s]
        refine ⟨?_, ?_, ?_, ?_, ?_, hi, hj⟩
        · rw [smS_o (by omega), smS_o (by omega), smS_o (by omega), smS_o (by omega), smS_o (by omega), smS_at]
        · rw [smS_o (by omega), smS_o (by omega), smS_o (by omega), smS_o (by omega), smS_at]
        · rw [smS_o (by omega), smS_o (by omega), smS_o (by omega), smS_at]
        · rw [smS_o (by omega), smS_o (by omega), smS_at]
        · rw [smS_o (by omega), smS_at]; rfl
      · rw [up1_n e, up1_n e, up1_n e, up1_n e, up1_n e]
        obtain ⟨a1, a2, a3, a4, a5, a6, a7⟩ := hk k (by omega)
        refine ⟨?_, ?_, ?_, ?_, ?_, a6, a7⟩
        · rw [smS_o (by omega), smS_o (by omega), smS_o (by omega), smS_o (by omega), smS_o (by omega), smS_ne e]; exact a1
        · rw [smS_o (by omega), smS_o (by omega), smS_o (by omega), smS_o (by omega), smS_ne e, smS_o (by omega)]; exact a2
        · rw [smS_o (by omega), smS_o (by omega), smS_o (by omega), smS_ne e, smS_o (by omega), smS_o (by omega)]; exact a3
        · rw [smS_o (by omega), smS_o (by omega), smS_ne e, smS_o (by omega), smS_o (by omega), smS_o (by omega)]; exact a4
        · rw [smS_o (by omega), smS_ne e, smS_o (by omega), smS_o (by omega), smS_o (by omega), smS_o (by omega)]; exact a5
    · show smS _ _ _ _ r = _
      rw [smS_o (by omega), smS_o (by omega), smS_o (by omega), smS_o (by omega), smS_o (by omega), smS_o (by omega)]
