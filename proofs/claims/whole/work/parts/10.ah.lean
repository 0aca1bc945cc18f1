/-- the least of the border that was not passed -/
theorem m_passLeast {c n a o u v : Nat} {bx by' : Nat → Nat} {bl : Nat → Int} {un : Nat → Nat} {ps : Nat → Bool} {M : smM} (hc : smT 1 c 1) (h : BD M c n bx by' bl un ps) (ho : o ≤ 4) (hu : u ≤ 9) (hv : v ≤ 9) (hv1 : 1 ≤ v) (g0 : M a 0 = nI o) (g1 : M a 1 = nI u) (g2 : M a 2 = nI v) :
    ((∀ k, k < n → ps k = true) ∧ m_X1_passLeast c a M = some (-1, M)) ∨ ∃ f, f < n ∧ ps f = false ∧ (∀ k, k < n → ps k = false → ¬ olt (ky1 o u v) (ky2 o) (bx k) (by' k) (bx f) (by' f)) ∧ m_X1_passLeast c a M = some (nI f, smS M (c + 5) f 1) := by
  obtain ⟨hn, h0, hk⟩ := h
  have l1 := l1_1 hc
  have l2 := l1_2 hc
  have l5 := l1_5 hc
  unfold m_X1_passLeast
  refine lp_post n (fun k s => s.2 = nI k ∧ ((s.1 = -1 ∧ ∀ j, j < k → ps j = true) ∨ ∃ f, f < k ∧ s.1 = nI f ∧ ps f = false ∧ ∀ j, j < k → ps j = false → ¬ olt (ky1 o u v) (ky2 o) (bx j) (by' j) (bx f) (by' f))) (fun e => ((∀ k, k < n → ps k = true) ∧ e = some (-1, M)) ∨ ∃ f, f < n ∧ ps f = false ∧ (∀ k, k < n → ps k = false → ¬ olt (ky1 o u v) (ky2 o) (bx k) (by' k) (bx f) (by' f)) ∧ e = some (nI f, smS M (c + 5) f 1)) ⟨rfl, Or.inl ⟨rfl, fun j hj => absurd hj (Nat.not_lt_zero j)⟩⟩ (by omega) ?_
  rintro k ⟨x2, x3⟩ hkn ⟨e3, hI⟩
  have e3 : x3 = nI k := e3
  subst e3
  by_cases he : k = n
  · subst he
    right
    rcases hI with ⟨e2, hall⟩ | ⟨f, f1, e2, f3, f4⟩
    · have e2 : x2 = -1 := e2
      subst e2
      refine ⟨some (-1, M), Or.inl ⟨hall, rfl⟩, fun rc => ?_⟩
      unfold m_X1_passLeast_b4
      simp only []
      rw [h0, if_pos (Int32.le_refl _), if_pos (by decide)]
    · have e2 : x2 = nI f := e2
      subst e2
      refine ⟨some (nI f, smS M (c + 5) f 1), Or.inr ⟨f, f1, f3, f4, rfl⟩, fun rc => ?_⟩
      unfold m_X1_passLeast_b4
      simp only []
      rw [h0, if_pos (Int32.le_refl _), if_neg (nI_pos (by omega)), l5, if_ck (by omega) (by omega), cl_nI (by omega)]
      rfl
  · left
    obtain ⟨a1, a2, -, -, a5, a6, a7⟩ := hk k (by omega)
    have h9 : ¬ nI n ≤ nI k := by rw [nI_le_iff (by omega) (by omega)]; omega
    by_cases hp : ps k = true
    · refine ⟨(x2, nI (k + 1)), by omega, ⟨rfl, ?_⟩, fun rc => ?_⟩
      · rcases hI with ⟨e2, hall⟩ | ⟨f, f1, e2, f3, f4⟩
        · refine Or.inl ⟨e2, fun j hj => ?_⟩
          by_cases ej : j = k
          · rw [ej]; exact hp
          · exact hall j (by omega)
        · refine Or.inr ⟨f, by omega, e2, f3, fun j hj hpj => ?_⟩
          by_cases ej : j = k
          · rw [ej, hp] at hpj; cases hpj
          · exact f4 j (by omega) hpj
      · unfold m_X1_passLeast_b4
        simp only []
        rw [h0, if_neg h9, l5, if_ck (by omega) (by omega), cl_nI (by omega), a5, hp, if_pos rfl, if_neg (by decide), nI_add_1]
    · have hp : ps k = false := by cases q : ps k with | false => rfl | true => exact absurd q hp
      have a5 : M (c + 5) k = 0 := by rw [a5, hp]; rfl
      rcases hI with ⟨e2, hall⟩ | ⟨f, f1, e2, f3, f4⟩
      · have e2 : x2 = -1 := e2
        subst e2
        refine ⟨(nI k, nI (k + 1)), by omega, ⟨rfl, Or.inr ⟨k, by omega, rfl, hp, fun j hj hpj => ?_⟩⟩, fun rc => ?_⟩
        · by_cases ej : j = k
          · rw [ej]; exact olt_irr
          · rw [hall j (by omega)] at hpj; cases hpj
        · unfold m_X1_passLeast_b4
          simp only []
          rw [h0, if_neg h9, l5, if_ck (by omega) (by omega), cl_nI (by omega), a5, if_pos rfl, if_pos (by decide), nI_add_1]
      · have e2 : x2 = nI f := e2
        subst e2
        obtain ⟨b1, b2, -, -, b5, b6, b7⟩ := hk f (by omega)
        have hL := m_isLess (i := bx k) (j := by' k) (k := bx f) (l := by' f) ho hu hv hv1 g0 g1 g2 (by omega) (by omega) (by omega) (by omega)
        by_cases ho2 : olt (ky1 o u v) (ky2 o) (bx k) (by' k) (bx f) (by' f)
        · refine ⟨(nI k, nI (k + 1)), by omega, ⟨rfl, Or.inr ⟨k, by omega, rfl, hp, fun j hj hpj => ?_⟩⟩, fun rc => ?_⟩
          · by_cases ej : j = k
            · rw [ej]; exact olt_irr
            · exact fun q => f4 j (by omega) hpj (olt_trans q ho2)
          · unfold m_X1_passLeast_b4
            simp only []
            rw [h0, if_neg h9, l5, if_ck (by omega) (by omega), cl_nI (by omega), a5, if_pos rfl, if_neg (nI_pos (by omega)), l1, l2, if_ck2 (by omega) (by omega), if_ck2 (by omega) (by omega), if_ck (by omega) (by omega), if_ck (by omega) (by omega), cl_nI (by omega), a1, a2, b1, b2, hL.1 ho2]
            simp only [Option.bind_some]
            rw [if_neg (by decide), nI_add_1]
        · refine ⟨(nI f, nI (k + 1)), by omega, ⟨rfl, Or.inr ⟨f, by omega, rfl, f3, fun j hj hpj => ?_⟩⟩, fun rc => ?_⟩
          · by_cases ej : j = k
            · rw [ej]; exact ho2
            · exact f4 j (by omega) hpj
          · unfold m_X1_passLeast_b4
            simp only []
            rw [h0, if_neg h9, l5, if_ck (by omega) (by omega), cl_nI (by omega), a5, if_pos rfl, if_neg (nI_pos (by omega)), l1, l2, if_ck2 (by omega) (by omega), if_ck2 (by omega) (by omega), if_ck (by omega) (by omega), if_ck (by omega) (by omega), cl_nI (by omega), a1, a2, b1, b2, hL.2 ho2]
            simp only [Option.bind_some]
            rw [if_pos trivial, nI_add_1]
theorem BD.pass {c n f : Nat} {bx by' : Nat → Nat} {bl : Nat → Int} {un : Nat → Nat} {ps : Nat → Bool} {M : smM} (h : BD M c n bx by' bl un ps) : BD (smS M (c + 5) f 1) c n bx by' bl un (up1 ps f true) := by
  obtain ⟨hn, h0, hk⟩ := h
  refine ⟨hn, by rw [smS_o (by omega)]; exact h0, fun k hk2 => ?_⟩
  obtain ⟨a1, a2, a3, a4, a5, a6, a7⟩ := hk k hk2
  refine ⟨by rw [smS_o (by omega)]; exact a1, by rw [smS_o (by omega)]; exact a2, by rw [smS_o (by omega)]; exact a3, by rw [smS_o (by omega)]; exact a4, ?_, a6, a7⟩
  by_cases e : k = f
  · subst e
    rw [smS_at, up1_s]; rfl
  · rw [smS_ne e, up1_n e]; exact a5
/-! the members -/
def MB (M : smM) (g p nm : Nat) [NeZero p] (mx my : Nat → Nat) (tl : Nat → Nat → Fin p) : Prop := nm ≤ 10 ∧ M g 0 = nI nm ∧ ∀ k, k < nm → M (g + 1) k = nI (mx k) ∧ M (g + 2) k = nI (my k) ∧ (∀ t, t < 9 → M (g + 3 + 1 + k) t = nI (tl k t).val) ∧ mx k < 1000 ∧ my k < 1000
theorem m_leadTo {g p nm i j : Nat} [NeZero p] {mx my : Nat → Nat} {tl : Nat → Nat → Fin p} {M : smM} (hg : smT 1 g 4) (h : MB M g p nm mx my tl) (hi : i < 1000) (hj : j < 1000) : (isMu nm mx my i j → m_X4_leadTo g (nI i) (nI j) M = some 1) ∧ (¬ isMu nm mx my i j → m_X4_leadTo g (nI i) (nI j) M = some 0) := by
  obtain ⟨hn, h0, hk⟩ := h
  have l1 := l4_1 hg
  have l2 := l4_2 hg
  unfold m_X4_leadTo
  have step : ∀ k, k < nm → ¬ (mx k ≤ i ∧ my k ≤ j) → ∀ rc, m_X4_leadTo_b2 g (nI i) (nI j) M rc (nI k) = rc (nI (k + 1)) := by
    intro k hkn hne rc
    obtain ⟨a1, a2, -, a6, a7⟩ := hk k hkn
    unfold m_X4_leadTo_b2
    rw [h0, if_neg (by rw [nI_le_iff (by omega) (by omega)]; omega), l1, if_ck (by omega) (by omega), cl_nI (by omega), a1, l2, if_ck2 (by omega) (by omega), a2, nI_add_1]
    by_cases e : i < mx k
    · rw [if_pos (by rw [nI_lt_iff (by omega) (by omega)]; exact e)]
    · rw [if_neg (by rw [nI_lt_iff (by omega) (by omega)]; exact e), if_pos (by rw [nI_lt_iff (by omega) (by omega)]; omega)]
  constructor
  · rintro ⟨k0, g1, g2, g3⟩
    refine lp_post nm (fun k s => s = nI k ∧ k ≤ k0) (fun e => e = some 1) ⟨rfl, Nat.zero_le _⟩ (by omega) ?_
    rintro k s hkn ⟨rfl, hk0⟩
    by_cases e1 : mx k ≤ i ∧ my k ≤ j
    · right
      obtain ⟨a1, a2, -, a6, a7⟩ := hk k (by omega)
      refine ⟨some 1, rfl, fun rc => ?_⟩
      unfold m_X4_leadTo_b2
      rw [h0, if_neg (by rw [nI_le_iff (by omega) (by omega)]; omega), l1, if_ck (by omega) (by omega), cl_nI (by omega), a1, if_neg (by rw [nI_lt_iff (by omega) (by omega)]; omega), l2, if_ck2 (by omega) (by omega), a2, if_neg (by rw [nI_lt_iff (by omega) (by omega)]; omega)]
    · left
      have hne : k ≠ k0 := fun q => e1 (by rw [q]; exact ⟨g2, g3⟩)
      exact ⟨nI (k + 1), by omega, ⟨rfl, by omega⟩, step k (by omega) e1⟩
  · intro hno
    refine lp_post nm (fun k s => s = nI k) (fun e => e = some 0) rfl (by omega) ?_
    rintro k s hkn rfl
    by_cases he : k = nm
    · subst he
      right
      refine ⟨some 0, rfl, fun rc => ?_⟩
      unfold m_X4_leadTo_b2
      rw [h0, if_pos (Int32.le_refl _)]
    · left
      exact ⟨nI (k + 1), by omega, rfl, step k (by omega) (fun q => hno ⟨k, by omega, q.1, q.2⟩)⟩
theorem fz_pm1 {p : Nat} [NeZero p] (hp : 2 ≤ p) (w : Fin p) : (0 : Fin p) + fz p ((p - 1 : Nat) : Int) * w = - w := by
  have e : fz p ((p - 1 : Nat) : Int) = - fz p 1 := by
    rw [fz_negz]
    apply Fin.ext
    have h1 := fz_val (p := p) ((p - 1 : Nat) : Int)
    have h2 := fz_val (p := p) (-1)
    have h3 : (-1 : Int) % (p : Int) = ((p - 1 : Nat) : Int) := by
      have : (-1 : Int) % (p : Int) = (-1 + p) % p := by rw [Int.add_emod_right]
      rw [this, Int.emod_eq_of_lt (by omega) (by omega)]; omega
    have h4 : ((p - 1 : Nat) : Int) % (p : Int) = ((p - 1 : Nat) : Int) := Int.emod_eq_of_lt (by omega) (by omega)
    omega
  have e1 : fz p 1 = 1 := by
    apply Fin.ext
    have h1 := fz_val (p := p) 1
    have h2 : (1 : Int) % (p : Int) = 1 := Int.emod_eq_of_lt (by omega) (by omega)
    have h3 : (1 : Fin p).val = 1 := by show 1 % p = 1; exact Nat.mod_eq_of_lt (by omega)
    omega
  rw [e, e1]
  grind
theorem m_mbBring {g p nm i j a : Nat} [NeZero p] {mx my : Nat → Nat} {tl : Nat → Nat → Fin p} {M : smM} {w : Nat → Fin p} (hg : smT 1 g 4) (hp : 2 ≤ p) (hp2 : p ≤ 97) (h : MB M g p nm mx my tl) (hi : i < 1000) (hj : j < 1000) (h10 : nm < 10) (la : smLn a = 9) (ha : a < g ∨ g + 14 ≤ a) (hw : ∀ k, k < 9 → M a k = nI (w k).val) :
    ∃ M1, m_X4_bring g (nI i) (nI j) a (nI p) M = some M1 ∧ MB M1 g p (nm + 1) (up1 mx nm i) (up1 my nm j) (up1 tl nm (fun t => - w t)) ∧ ∀ r, (r < g ∨ g + 14 ≤ r) → M1 r = M r := by
  obtain ⟨hn, h0, hk⟩ := h
  let M2 := smS (smS M (g + 1) nm (nI i)) (g + 2) nm (nI j)
  let M1 := smS (fil M2 (g + 3 + 1 + nm) (fun t => nI (- w t).val) 9) g 0 (nI (nm + 1))
  have lr := l4_3r hg h10
  have o2 : ∀ r, r ≠ g + 1 → r ≠ g + 2 → M2 r = M r := fun r h1 h2 => by show smS (smS M _ _ _) _ _ _ r = _; rw [smS_o h2, smS_o h1]
  have ex : m_X4_bring g (nI i) (nI j) a (nI p) M = some M1 := by
    unfold m_X4_bring
    rw [h0, if_pos (by rw [show (10 : Int32) = nI 10 from rfl, nI_lt_iff (by omega) (by omega)]; exact h10)]
    simp only [smB]
    rw [l4_1 hg, l4_2 hg, l4_3 hg, if_ck (by omega) (by omega), cl_nI (by omega), smS_o (show g ≠ g + 1 by omega), h0, if_ck (by omega) (by omega), cl_nI (by omega)]
    have e2 : smS (smS M (g + 1) nm (nI i)) (g + 2) nm (nI j) g 0 = nI nm := by rw [smS_o (by omega), smS_o (by omega)]; exact h0
    rw [e2, if_ck (by omega) (by omega), cl_nI (by omega), m_clear lr (by decide), Option.bind_some]
    have e3 : fil (smS (smS M (g + 1) nm (nI i)) (g + 2) nm (nI j)) (g + 3 + 1 + nm) (fun _ => 0) 9 g 0 = nI nm := by rw [fil_o (by omega)]; exact e2
    rw [e3, if_ck (by omega) (by omega), cl_nI (by omega), show (1 : Int32) = nI 1 from rfl, nI_subN (by omega), m_bringMultiple (v := fun _ => 0) (w := w) lr la (by decide) (by omega) hp hp2 (by omega) (fun k hk2 => by rw [fil_in hk2]; rfl) (fun k hk2 => by rw [fil_o (by omega), smS_o (by omega), smS_o (by omega)]; exact hw k hk2), Option.bind_some, fil_fil]
    have e4 : ∀ gg, fil (smS (smS M (g + 1) nm (nI i)) (g + 2) nm (nI j)) (g + 3 + 1 + nm) gg 9 g 0 = nI nm := fun gg => by rw [fil_o (by omega)]; exact e2
    rw [e4, nI_add]
    have e5 : fil (smS (smS M (g + 1) nm (nI i)) (g + 2) nm (nI j)) (g + 3 + 1 + nm) (fun k => nI ((0 : Fin p) + fz p ((p - 1 : Nat) : Int) * w k).val) 9 = fil M2 (g + 3 + 1 + nm) (fun t => nI (- w t).val) 9 := fil_congr (fun k _ => by rw [fz_pm1 hp])
    rw [e5]
  refine ⟨M1, ex, ⟨by omega, smS_at, fun k hk2 => ?_⟩, fun r hr => ?_⟩
  · show smS _ _ _ _ _ k = _ ∧ smS _ _ _ _ _ k = _ ∧ (∀ t, t < 9 → smS _ _ _ _ _ t = _) ∧ _
    by_cases e : k = nm
    · subst e
      rw [up1_s, up1_s, up1_s]
      refine ⟨?_, ?_, fun t ht => ?_, hi, hj⟩
      · rw [smS_o (by omega), fil_o (by omega)]
        show smS (smS M _ _ _) _ _ _ _ _ = _
        rw [smS_o (by omega), smS_at]
      · rw [smS_o (by omega), fil_o (by omega)]
        show smS (smS M _ _ _) _ _ _ _ _ = _
        rw [smS_at]
      · rw [smS_o (by omega), fil_in ht]
    · rw [up1_n e, up1_n e, up1_n e]
      obtain ⟨a1, a2, a3, a6, a7⟩ := hk k (by omega)
      refine ⟨?_, ?_, fun t ht => ?_, a6, a7⟩
      · rw [smS_o (by omega), fil_o (by omega)]
        show smS (smS M _ _ _) _ _ _ _ _ = _
        rw [smS_o (by omega), smS_ne e]; exact a1
      · rw [smS_o (by omega), fil_o (by omega)]
        show smS (smS M _ _ _) _ _ _ _ _ = _
        rw [smS_ne e, smS_o (by omega)]; exact a2
      · rw [smS_o (by omega), fil_o (by omega), o2 _ (by omega) (by omega)]; exact a3 t ht
  · show smS _ _ _ _ r = _
    rw [smS_o (by omega), fil_o (by omega), o2 r (by omega) (by omega)]
