/-! the calls member, tail, stair, place -/
def nzc {p : Nat} [NeZero p] (t : Nat → Fin p) : Nat → Nat
  | 0 => 1
  | k + 1 => if t k = 0 then nzc t k else nzc t k + 1
theorem nzc_le {p : Nat} [NeZero p] (t : Nat → Fin p) : ∀ k, nzc t k ≤ k + 1
  | 0 => Nat.le_refl _
  | k + 1 => by
    have := nzc_le t k
    simp only [nzc]
    split <;> omega
theorem nzc_far {p : Nat} [NeZero p] {t : Nat → Fin p} {D : Nat} (h : ∀ k, D ≤ k → t k = 0) : ∀ m, nzc t (D + m) = nzc t D
  | 0 => rfl
  | m + 1 => by
    show (if t (D + m) = 0 then nzc t (D + m) else nzc t (D + m) + 1) = _
    rw [if_pos (h _ (by omega)), nzc_far h m]
theorem m_countTerms {g p nm k : Nat} [NeZero p] {mx my : Nat → Nat} {tl : Nat → Nat → Fin p} {M : smM} (hp2 : p ≤ 97) (hg : smT 1 g 4) (h : MB M g p nm mx my tl) (hk : k < nm) : m_X4_countTerms g (nI k) M = some (nI (nzc (tl k) 9)) := by
  have hn := h.1
  unfold m_X4_countTerms
  refine lp_cnt 9 (fun t => (nI (nzc (tl k) t), nI t)) rfl (by omega) (fun t ht rc => ?_) (fun rc => ?_)
  · unfold m_X4_countTerms_b4
    simp only []
    rw [if_neg (nI_9 ht), cl_nI (n := k) (by omega), cl_nI (n := t) (by omega), l4_3 hg, if_ck2 (by omega) (by omega), l4_3r hg (by omega), if_ck2 (by omega) (by omega), (h.2.2 k hk).2.2.1 t ht, nI_add_1, nI_add_1]
    by_cases c : tl k t = 0
    · rw [if_pos ((fin_z hp2 _).mpr c)]
      simp only [nzc, if_pos c]
    · rw [if_neg (fun w => c ((fin_z hp2 _).mp w))]
      simp only [nzc, if_neg c]
  · unfold m_X4_countTerms_b4
    simp only []
    rw [if_pos nI_99]
theorem m12_memberl {p nm D k w : Nat} [NeZero p] {mx my : Nat → Nat} {tl : Nat → Nat → Fin p} {M : smM} (hp2 : p ≤ 97) (h : MB2 M p nm mx my tl) (h29 : M 1000 29 = nI D) (hD : D ≤ 9) (hk : k < nm) (hw : w ≤ 2) : smLp (fun rc q => m_X12_member_b51 1000 (nI k) (nI w) M rc q.1 q.2) smF ((1 : Int32), (0 : Int32)) = some ((if w = 0 then nI (mx k) else if w = 1 then nI (my k) else nI (nzc (tl k) D)), M) := by
  have hn := h.1
  obtain ⟨b1, b2, b3, -⟩ := h.2.2 k hk
  refine lp_cnt D (fun t => (nI (nzc (tl k) t), nI t)) rfl (by omega) (fun t ht rc => ?_) (fun rc => ?_)
  · unfold m_X12_member_b51
    simp only []
    rw [h29, if_neg (fun w => by rw [nI_le_iff (by omega) (by omega)] at w; omega), ix9, cl_nI (n := 9 * k + t) (by omega), g_22.2.2.2.2.2.2.1, if_ck2 (by omega) (by omega), show M (1000 + 28) (9 * k + t) = _ from b3 t (by omega), nI_add_1, nI_add_1]
    have e0 : nI (nzc (tl k) t) + 0 = nI (nzc (tl k) t) := by rw [show (0 : Int32) = nI 0 from rfl, nI_ad]; rfl
    by_cases c : tl k t = 0
    · rw [if_pos ((fin_z hp2 _).mpr c), e0]
      simp only [nzc, if_pos c]
    · rw [if_neg (fun w => c ((fin_z hp2 _).mp w))]
      simp only [nzc, if_neg c]
  · unfold m_X12_member_b51
    simp only []
    rw [h29, if_pos (Int32.le_refl _), cl_nI (n := k) (by omega), g_22.2.2.2.2.1, g_22.2.2.2.2.2.1, if_ck2 (by omega) (by omega), if_ck2 (by omega) (by omega), show M (1000 + 26) k = _ from b1, show M (1000 + 27) k = _ from b2]
    rcases (show w = 0 ∨ w = 1 ∨ w = 2 by omega) with rfl | rfl | rfl
    · rw [if_pos n_00, if_pos rfl]
    · rw [if_neg n_10, if_pos n_11, if_neg (by decide), if_pos rfl]
    · rw [if_neg n_20, if_neg n_21, if_neg (by decide), if_neg (by decide)]
theorem sub1 {n : Nat} (h : 1 ≤ n) : nI n - 1 = nI (n - 1) := by rw [show (1 : Int32) = nI 1 from rfl, nI_subN h]
theorem BMem.pos {K : Type} [Lean.Grind.CommRing K] {k1 k2 : Nat → Nat → Nat} {N : Nat → Nat → Nat → K} {D : Nat} {sx sy : Nat → Nat} {nm : Nat} {mx my : Nat → Nat} {tl : Nat → Nat → K} (h : BMem k1 k2 N D sx sy nm mx my tl) : 1 ≤ nm := by
  obtain ⟨i0, -, hi0⟩ := pig (D := D) (sx := sx) (sy := sy) (φ := fun i => i) (ψ := fun i => 0) (fun i j hij => by omega)
  obtain ⟨n, hn, hl⟩ := pk_least (fun i => ¬ isSt D sx sy i 0) ⟨i0, hi0⟩
  obtain ⟨m, m1, -⟩ := h.2.2.1 n 0 ⟨hn, by
    rcases Nat.eq_zero_or_pos n with q | q
    · exact Or.inl q
    · exact Or.inr (Classical.byContradiction (fun w => hl (n - 1) (by omega) w)), Or.inl rfl⟩
  omega
theorem op_member : Op_member Rel := by
  intro M1 M2 h x k y
  have hr := h
  obtain ⟨p, ne, A, B, u, v, F, G, hpar, hs1, hs2, hca, hsl, him⟩ := h
  have h9 := AB9 hpar
  obtain ⟨hp, hp2⟩ := Pr_rng p hpar.1
  by_cases c : (0 : Int32) ≤ x ∧ x ≤ 4
  · obtain ⟨o, o4, rfl⟩ := rngI (h := 4) (by omega) c.1 c.2
    obtain ⟨M1', M2', D, sx, sy, nm, mx, my, tl, a1, a2, a3, a4, ⟨b1, b2, b3, b4, b5⟩, a6, a7⟩ := both_base hpar hs1 hs2 hca o4
    have hrel := rel_both hpar hs1 hs2 hsl him a6 a3 a7
    have hrel0 := rel_both hpar hs1 hs2 hsl him a6 a3 (FR3.rf M2)
    have hbt := tb_o (o := o) (by omega)
    obtain ⟨tm, ts, tc⟩ := tb hbt
    have hnp := b1.2.2.2.2.2.1.pos
    have hn10 := b1.2.1.1
    have again := m_baseIn2 a3 a4 o4
    by_cases ck : k < 0
    · have e1 : m_X11_member 0 (nI o) k y M1 = some (-1, M1) := by
        unfold m_X11_member
        rw [m_isOrder, Option.bind_some, b01_t c, if_1, if_pos ck]
      by_cases d : (0 : Int32) ≤ y ∧ y ≤ 2
      · have e2 : m_X12_member 1000 (nI o) k y M2 = some (-1, M2') := by
          unfold m_X12_member
          rw [m12_isOrder, Option.bind_some, b01_t c, if_1, show (0 : Int64) = (0 : Int32).toInt64 from rfl, show (2 : Int64) = (2 : Int32).toInt64 from rfl, m12_in, Option.bind_some, b01_t d, if_1, a2, Option.bind_some, m12_in, Option.bind_some, b01_f (fun w => by
            have := w.1
            rw [Int32.le_iff_toInt_le] at this
            rw [Int32.lt_iff_toInt_lt] at ck
            omega), if_0]
        exact ⟨_, _, _, e1, e2, rel_fr hr (fun _ _ => rfl) (fun k hk => a7.1 k (by omega)) (fun r h1 h2 => a7.2 r (by omega) (by omega))⟩
      · have e2 : m_X12_member 1000 (nI o) k y M2 = some (-1, M2) := by
          unfold m_X12_member
          rw [m12_isOrder, Option.bind_some, b01_t c, if_1, show (0 : Int64) = (0 : Int32).toInt64 from rfl, show (2 : Int64) = (2 : Int32).toInt64 from rfl, m12_in, Option.bind_some, b01_f d, if_0]
        exact ⟨_, _, _, e1, e2, hr⟩
    · obtain ⟨k, hk, rfl⟩ := nat_of (x := k) (by rw [Int32.lt_iff_toInt_lt] at ck; rw [Int32.le_iff_toInt_le]; omega)
      have e1 : m_X11_member 0 (nI o) (nI k) y M1 = if nI k < nI nm then (if y = (0 : Int32) then (if nI k < 0 ∨ smLn (149 + 58 * o + 2 + 1) ≤ (nI k).toNatClampNeg then none else some ((M1' (149 + 58 * o + 2 + 1) (nI k).toNatClampNeg), M1')) else if y = (1 : Int32) then (if nI k < 0 ∨ smLn (149 + 58 * o + 2 + 2) ≤ (nI k).toNatClampNeg then none else some ((M1' (149 + 58 * o + 2 + 2) (nI k).toNatClampNeg), M1')) else if y = (2 : Int32) then (Option.bind (m_X4_countTerms (149 + 58 * o + 2) (nI k) M1') fun v83 => some (v83, M1')) else (some ((-1 : Int32), M1'))) else (some ((-1 : Int32), M1')) := by
        unfold m_X11_member
        rw [m_isOrder, Option.bind_some, b01_t c, if_1, if_neg ck, a1, smB2_e, b1.2.1.2.1, again, smB2_e]
      by_cases d : (0 : Int32) ≤ y ∧ y ≤ 2
      · obtain ⟨w, w2, rfl⟩ := rngI (h := 2) (by omega) d.1 d.2
        have e2 : m_X12_member 1000 (nI o) (nI k) (nI w) M2 = if b01 (0 ≤ nI k ∧ nI k ≤ nI (nm - 1)) = 0 then some (-1, M2') else smLp (fun rc q => m_X12_member_b51 1000 (nI k) (nI w) M2' rc q.1 q.2) smF ((1 : Int32), (0 : Int32)) := by
          unfold m_X12_member
          rw [m12_isOrder, Option.bind_some, b01_t c, if_1, show (0 : Int64) = (0 : Int32).toInt64 from rfl, show (2 : Int64) = (2 : Int32).toInt64 from rfl, m12_in, Option.bind_some, b01_t d, if_1, a2, Option.bind_some, b2.2.1, sub1 hnp, m12_in, Option.bind_some]
        by_cases ckn : k < nm
        · rw [b01_t ⟨nI_0le (by omega), (nI_le_iff (by omega) (by omega)).mpr (by omega)⟩, if_1, m12_memberl hp2 b2 b3 (by rw [b1.2.2.1.1]; omega) ckn w2] at e2
          obtain ⟨z1, z2, z3, z4⟩ := b1.2.1.2.2 k ckn
          rw [if_pos ((nI_lt_iff (by omega) (by omega)).mpr ckn), cl_nI (n := k) (by omega), l4_1 tm, l4_2 tm, if_ck2 (by omega) (by omega), if_ck2 (by omega) (by omega), z1, z2, m_countTerms hp2 tm b1.2.1 ckn, Option.bind_some] at e1
          rcases (show w = 0 ∨ w = 1 ∨ w = 2 by omega) with rfl | rfl | rfl
          · rw [if_pos n_00] at e1
            rw [if_pos rfl] at e2
            exact ⟨_, _, _, e1, e2, hrel⟩
          · rw [if_neg n_10, if_pos n_11] at e1
            rw [if_neg (by decide), if_pos rfl] at e2
            exact ⟨_, _, _, e1, e2, hrel⟩
          · have hD9 : D ≤ 9 := by rw [b1.2.2.1.1]; exact h9
            have := nzc_far (t := tl k) (D := D) (fun t ht => b1.2.2.2.2.2.1.2.2.2.2 k ckn t ht) (9 - D)
            rw [show D + (9 - D) = 9 by omega] at this
            rw [if_neg n_20, if_neg n_21, if_pos n_22, this] at e1
            rw [if_neg (by decide), if_neg (by decide)] at e2
            exact ⟨_, _, _, e1, e2, hrel⟩
        · rw [b01_f (fun w => by have := (nI_le_iff (by omega) (by omega)).mp w.2; omega), if_0] at e2
          rw [if_neg (fun w => ckn ((nI_lt_iff (by omega) (by omega)).mp w))] at e1
          exact ⟨_, _, _, e1, e2, hrel⟩
      · have e2 : m_X12_member 1000 (nI o) (nI k) y M2 = some (-1, M2) := by
          unfold m_X12_member
          rw [m12_isOrder, Option.bind_some, b01_t c, if_1, show (0 : Int64) = (0 : Int32).toInt64 from rfl, show (2 : Int64) = (2 : Int32).toInt64 from rfl, m12_in, Option.bind_some, b01_f d, if_0]
        rw [if_neg (show ¬ y = (0 : Int32) from ne_rng (k := 0) (h := 2) (by omega) (by omega) d), if_neg (show ¬ y = (1 : Int32) from ne_rng (k := 1) (h := 2) (by omega) (by omega) d), if_neg (show ¬ y = (2 : Int32) from ne_rng (k := 2) (h := 2) (by omega) (by omega) d), ite_self] at e1
        exact ⟨_, _, _, e1, e2, hrel0⟩
  · have e1 : m_X11_member 0 x k y M1 = some (-1, M1) := by
      unfold m_X11_member
      rw [m_isOrder, Option.bind_some, b01_f c, if_0]
    have e2 : m_X12_member 1000 x k y M2 = some (-1, M2) := by
      unfold m_X12_member
      rw [m12_isOrder, Option.bind_some, b01_f c, if_0]
    exact ⟨_, _, _, e1, e2, hr⟩
theorem op_tail : Op_tail Rel := by
  intro M1 M2 h x k y
  have hr := h
  obtain ⟨p, ne, A, B, u, v, F, G, hpar, hs1, hs2, hca, hsl, him⟩ := h
  have h9 := AB9 hpar
  obtain ⟨hp, hp2⟩ := Pr_rng p hpar.1
  have hAB : 1 ≤ A * B := Nat.mul_le_mul hpar.2.1.1 hpar.2.2.1.1
  by_cases c : (0 : Int32) ≤ x ∧ x ≤ 4
  · obtain ⟨o, o4, rfl⟩ := rngI (h := 4) (by omega) c.1 c.2
    obtain ⟨M1', M2', D, sx, sy, nm, mx, my, tl, a1, a2, a3, a4, ⟨b1, b2, b3, b4, b5⟩, a6, a7⟩ := both_base hpar hs1 hs2 hca o4
    have hrel := rel_both hpar hs1 hs2 hsl him a6 a3 a7
    have hbt := tb_o (o := o) (by omega)
    obtain ⟨tm, ts, tc⟩ := tb hbt
    have hnp := b1.2.2.2.2.2.1.pos
    have hn10 := b1.2.1.1
    have again := m_baseIn2 a3 a4 o4
    have d2 : ∀ y : Int32, (m_X12_dimension 1000 M2).bind (fun v12 => (m_X12_in y.toInt64 0 (v12 - 1).toInt64 M2).bind fun v18 => if v18 = (0 : Int32) then (some ((-1 : Int32), M2)) else (Option.bind (m_X12_walksNow 1000 (nI o) M2) fun M28 => Option.bind (m_X12_in (k.toInt64) (0 : Int64) ((((M28 1000 34) - (1 : Int32))).toInt64) M28) fun v41 => if v41 = (0 : Int32) then (some ((-1 : Int32), M28)) else (if (((9 : Int32) * k) + y) < 0 ∨ smLn (1000 + 28) ≤ ((((9 : Int32) * k) + y)).toNatClampNeg then none else some ((M28 (1000 + 28) ((((9 : Int32) * k) + y)).toNatClampNeg), M28)))) = if b01 (0 ≤ y ∧ y ≤ nI (A * B - 1)) = 0 then some (-1, M2) else (if b01 (0 ≤ k ∧ k ≤ nI (nm - 1)) = 0 then some (-1, M2') else (if (((9 : Int32) * k) + y) < 0 ∨ smLn (1000 + 28) ≤ ((((9 : Int32) * k) + y)).toNatClampNeg then none else some ((M2' (1000 + 28) ((((9 : Int32) * k) + y)).toNatClampNeg), M2'))) := fun y => by
      unfold m_X12_dimension
      rw [Option.bind_some, hs2.2.1, hs2.2.2.1, dim1 hpar.2.1.1 hpar.2.2.1.1, show (0 : Int64) = (0 : Int32).toInt64 from rfl, m12_in, Option.bind_some, a2, Option.bind_some, b2.2.1, sub1 hnp, m12_in, Option.bind_some]
    by_cases d : (0 : Int32) ≤ y ∧ y ≤ nI (A * B - 1)
    · obtain ⟨w, w2, rfl⟩ := rngI (h := A * B - 1) (by omega) d.1 d.2
      have e2 : m_X12_tail 1000 (nI o) k (nI w) M2 = (if b01 (0 ≤ k ∧ k ≤ nI (nm - 1)) = 0 then some (-1, M2') else (if (((9 : Int32) * k) + nI w) < 0 ∨ smLn (1000 + 28) ≤ ((((9 : Int32) * k) + nI w)).toNatClampNeg then none else some ((M2' (1000 + 28) ((((9 : Int32) * k) + nI w)).toNatClampNeg), M2'))) := by
        unfold m_X12_tail
        rw [m12_isOrder, Option.bind_some, b01_t c, if_1, d2, b01_t d, if_1]
      by_cases ck : k < 0
      · have e1 : m_X11_tail 0 (nI o) k (nI w) M1 = some (-1, M1) := by
          unfold m_X11_tail
          rw [m_isOrder, Option.bind_some, b01_t c, if_1, m_isStair hpar hs1, Option.bind_some, b01_t d, if_1, if_pos ck]
        rw [b01_f (fun w => by
            have := w.1
            rw [Int32.le_iff_toInt_le] at this
            rw [Int32.lt_iff_toInt_lt] at ck
            omega), if_0] at e2
        exact ⟨_, _, _, e1, e2, rel_fr hr (fun _ _ => rfl) (fun k hk => a7.1 k (by omega)) (fun r h1 h2 => a7.2 r (by omega) (by omega))⟩
      · obtain ⟨k, hk, rfl⟩ := nat_of (x := k) (by rw [Int32.lt_iff_toInt_lt] at ck; rw [Int32.le_iff_toInt_le]; omega)
        have e1 : m_X11_tail 0 (nI o) (nI k) (nI w) M1 = if nI k < nI nm then (if nI k < 0 ∨ smLn (149 + 58 * o + 2 + 3) ≤ (nI k).toNatClampNeg then none else if nI w < 0 ∨ smLn (149 + 58 * o + 2 + 3 + 1 + (nI k).toNatClampNeg) ≤ (nI w).toNatClampNeg then none else some ((M1' (149 + 58 * o + 2 + 3 + 1 + (nI k).toNatClampNeg) (nI w).toNatClampNeg), M1')) else (some ((-1 : Int32), M1')) := by
          unfold m_X11_tail
          rw [m_isOrder, Option.bind_some, b01_t c, if_1, m_isStair hpar hs1, Option.bind_some, b01_t d, if_1, if_neg ck, a1, smB2_e, b1.2.1.2.1, again, smB2_e]
        by_cases ckn : k < nm
        · rw [b01_t ⟨nI_0le (by omega), (nI_le_iff (by omega) (by omega)).mpr (by omega)⟩, if_1, ix9, cl_nI (n := 9 * k + w) (by omega), g_22.2.2.2.2.2.2.1, if_ck2 (by omega) (by omega), show M2' (1000 + 28) (9 * k + w) = _ from (b2.2.2 k ckn).2.2.1 w (by omega)] at e2
          rw [if_pos ((nI_lt_iff (by omega) (by omega)).mpr ckn), cl_nI (n := k) (by omega), cl_nI (n := w) (by omega), l4_3 tm, if_ck2 (by omega) (by omega), l4_3r tm (by omega), if_ck2 (by omega) (by omega), (b1.2.1.2.2 k ckn).2.2.1 w (by omega)] at e1
          exact ⟨_, _, _, e1, e2, hrel⟩
        · rw [b01_f (fun w => by have := (nI_le_iff (by omega) (by omega)).mp w.2; omega), if_0] at e2
          rw [if_neg (fun w => ckn ((nI_lt_iff (by omega) (by omega)).mp w))] at e1
          exact ⟨_, _, _, e1, e2, hrel⟩
    · have e1 : m_X11_tail 0 (nI o) k y M1 = some (-1, M1) := by
        unfold m_X11_tail
        rw [m_isOrder, Option.bind_some, b01_t c, if_1, m_isStair hpar hs1, Option.bind_some, b01_f d, if_0]
      have e2 : m_X12_tail 1000 (nI o) k y M2 = some (-1, M2) := by
        unfold m_X12_tail
        rw [m12_isOrder, Option.bind_some, b01_t c, if_1, d2, b01_f d, if_0]
      exact ⟨_, _, _, e1, e2, hr⟩
  · have e1 : m_X11_tail 0 x k y M1 = some (-1, M1) := by
      unfold m_X11_tail
      rw [m_isOrder, Option.bind_some, b01_f c, if_0]
    have e2 : m_X12_tail 1000 x k y M2 = some (-1, M2) := by
      unfold m_X12_tail
      rw [m12_isOrder, Option.bind_some, b01_f c, if_0]
    exact ⟨_, _, _, e1, e2, hr⟩
