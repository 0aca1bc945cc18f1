/-! the same, by the reference; the call count -/
theorem m12_highOf {a p : Nat} [NeZero p] {w : Nat → Fin p} {M : smM} (la : smLn a = 10) (hp2 : p ≤ 97) (hw : ∀ k, k < 10 → M a k = nI (w k).val) : m_X12_highOf a M = some (jI ((hgh w 10 : Int) - 1)) := by
  unfold m_X12_highOf
  refine lp_pst 10 (fun t x => x = jI (((10 : Nat) : Int) - 1 - t) ∧ ∀ k, 10 ≤ k + t → k < 10 → w k = 0) (fun e => e = some (jI ((hgh w 10 : Int) - 1))) ⟨rfl, fun k h1 h2 => by omega⟩ (by omega) ?_
  rintro t x ht ⟨rfl, z⟩ rc
  unfold m_X12_highOf_b3
  by_cases et : t = 10
  · right
    subst et
    have : hgh w 10 = 0 := by
      have := hgh_down (w := w) 0 10 (fun k _ h2 => z k (by omega) (by omega))
      exact this
    rw [this, if_pos (show jI (((10 : Nat) : Int) - 1 - ((10 : Nat) : Int)) < (0 : Int32) by decide)]
    rfl
  · have K : ∃ K, 10 = K + t + 1 := ⟨10 - t - 1, by omega⟩
    obtain ⟨K, eK⟩ := K
    have ej : jI (((10 : Nat) : Int) - 1 - t) = nI K := by rw [jI_nI]; congr 1; omega
    rw [ej, if_lt0 (by omega), cl_nI (n := K) (by omega), la, if_ck2 (by omega) (by omega), hw K (by omega)]
    by_cases c : w K = 0
    · left
      have e9 : nI K + (-1 : Int32) = jI (((10 : Nat) : Int) - 1 - ((t + 1 : Nat) : Int)) := by
        rw [show (-1 : Int32) = jI (-1) from rfl, jI_nI, jI_add]; congr 1; omega
      rw [if_pos ((fin_z hp2 _).mpr c), e9]
      refine ⟨_, by omega, ⟨rfl, fun k h1 h2 => ?_⟩, rfl⟩
      by_cases q : k = K
      · rw [q]; exact c
      · exact z k (by omega) h2
    · right
      rw [if_neg (fun q => c ((fin_z hp2 _).mp q))]
      have e2 : hgh w 10 = K + 1 := by
        have e2 := hgh_down (w := w) (K + 1) t (fun k h1 h2 => z k (by omega) (by omega))
        rw [show K + 1 + t = 10 by omega] at e2
        rw [e2]
        simp only [hgh, if_neg c]
      rw [e2, jI_nI]
      congr 2
      omega
def FR5 (M M' : smM) : Prop := ∀ r, r ≠ 1033 → r ≠ 1034 → M' r = M r
/-- the Euclid of the reference, from two rows -/
theorem m12_euclid {p h : Nat} [NeZero p] {f0 g0 : Nat → Fin p} {M : smM} (hpr : p ∈ PrL) (h9 : h ≤ 9) (hp0 : M 1000 0 = nI p) (hf : ∀ k, k < 10 → M 1033 k = nI (f0 k).val) (hg : ∀ k, k < 10 → M 1034 k = nI (g0 k).val) (f1 : f0 h ≠ 0) (f2 : ∀ k, h < k → f0 k = 0) (g2 : ∀ k, h ≤ k → g0 k = 0) (rc7 rc52 : (Int32 × smM) → Option (Int32 × smM)) : ∃ M', smLp (fun rc q => m_X12_hasTwice_b92 1000 rc7 rc52 rc q) smF M = some ((if euf 10 h f0 g0 = 0 then 0 else 1), M') ∧ FR5 M M' := by
  obtain ⟨hp, hp2⟩ := Pr_rng p hpr
  generalize hE : euf 10 h f0 g0 = E
  let Q : Option (Int32 × smM) → Prop := fun x => ∃ (M' : smM), x = some ((if E = 0 then 0 else 1), M') ∧ FR5 M M'
  let ROWS : smM → (Nat → Fin p) → (Nat → Fin p) → Prop := fun M' f g => (∀ k, k < 10 → M' 1033 k = nI (f k).val) ∧ (∀ k, k < 10 → M' 1034 k = nI (g k).val) ∧ FR5 M M'
  refine lp_pst 9 (fun t x => ∃ (n : Nat) (f g : Nat → Fin p), n + t ≤ 9 ∧ euf (10 - t) n f g = E ∧ ROWS x f g ∧ f n ≠ 0 ∧ (∀ k, n < k → f k = 0) ∧ ∀ k, n ≤ k → g k = 0) Q ⟨h, f0, g0, by omega, hE, ⟨hf, hg, fun _ _ _ => rfl⟩, f1, f2, g2⟩ (by omega) ?_
  rintro t M1 ht ⟨n, f, g, i1, i2, ⟨i3, i4, i5⟩, i6, i7, i8⟩ rc
  unfold m_X12_hasTwice_b92
  have hh : hgh g 10 = hgh g n := by
    have := hgh_down (w := g) n (10 - n) (fun k h1 _ => i8 k h1)
    rw [show n + (10 - n) = 10 by omega] at this
    exact this
  have hhf : hgh f 10 = n + 1 := by
    have := hgh_down (w := f) (n + 1) (10 - (n + 1)) (fun k h1 _ => i7 k (by omega))
    rw [show n + 1 + (10 - (n + 1)) = 10 by omega] at this
    rw [this]
    simp only [hgh, if_neg i6]
  have hp1 : M1 1000 0 = nI p := by rw [i5 1000 (by omega) (by omega)]; exact hp0
  rw [show m_X12_highOf (1000 + 34) M1 = _ from m12_highOf (a := 1034) g_32.2.2.1 hp2 i4, Option.bind_some, show m_X12_highOf (1000 + 33) M1 = _ from m12_highOf (a := 1033) g_32.2.1 hp2 i3, Option.bind_some, Option.bind_some, hh, hhf, show jI (((n + 1 : Nat) : Int) - 1) = nI n by rw [jI_nI]; congr 1; omega]
  obtain ⟨t', et'⟩ : ∃ t', 10 - t = t' + 1 := ⟨9 - t, by omega⟩
  rw [et'] at i2
  have i2 : (if hgh g n = 0 then n else euf t' (hgh g n - 1) g (dvF f n g (hgh g n - 1))) = E := i2
  by_cases ez : hgh g n = 0
  · right
    rw [if_pos ez] at i2
    rw [ez, if_pos (show jI (((0 : Nat) : Int) - 1) < (0 : Int32) by decide)]
    refine ⟨M1, ?_, i5⟩
    by_cases q0 : E = 0
    · rw [if_pos q0, if_pos (show nI n ≤ (0 : Int32) by rw [i2, q0]; exact Int32.le_refl _)]
    · rw [if_neg q0, if_neg (show ¬ nI n ≤ (0 : Int32) from fun w => by rw [show (0 : Int32) = nI 0 from rfl, nI_le_iff (by omega) (by omega)] at w; omega)]
  · rw [if_neg ez] at i2
    obtain ⟨low, hlow⟩ : ∃ low, hgh g n = low + 1 := ⟨hgh g n - 1, by omega⟩
    have hle := hgh_le g n
    rw [hlow, Nat.add_sub_cancel] at i2
    have hnz := hgh_nz hlow
    obtain ⟨k, k1, k2, k3, k4⟩ := inv_ex hpr (g low).isLt (by
      rcases Nat.eq_zero_or_pos (g low).val with w | w
      · exact absurd (Fin.ext (by rw [w]; simp)) hnz
      · exact w)
    have es : fz p (k : Int) = ivF (g low) := inv_uq (inv_fz hp k3) (ivF_1 hpr hnz)
    have ek : nI k = nI (ivF (g low)).val := by rw [← es]; exact fz_x k2
    rw [show jI (((hgh g n : Nat) : Int) - 1) = nI low by rw [hlow, jI_nI]; congr 1; omega, if_lt0 (by omega), cl_nI (n := low) (by omega), g_32.2.2.1, if_ck2 (by omega) (by omega), show M1 (1000 + 34) low = _ from i4 low (by omega), m2_inverse hp hp2 (g low).isLt k1 k2 k3 k4 hp1, Option.bind_some, ek, Option.bind_some]
    have hs1 := ivF_1 hpr hnz
    have hF : dvF f n g low = dvS f g low (ivF (g low)) n (n - low + 1) := rfl
    generalize ivF (g low) = sc at hs1 hF
    let Q2 : Option (Int32 × smM) → Prop := fun x => (∃ s', t < 9 ∧ (∃ (n : Nat) (f g : Nat → Fin p), n + (t + 1) ≤ 9 ∧ euf (10 - (t + 1)) n f g = E ∧ ROWS s' f g ∧ f n ≠ 0 ∧ (∀ k, n < k → f k = 0) ∧ ∀ k, n ≤ k → g k = 0) ∧ x = rc s') ∨ Q x
    refine lp_pst (s0 := (nI n, M1)) (n - low + 1) (fun u x => ∃ (M' : smM), x = (jI ((n : Int) - u), M') ∧ ROWS M' (dvS f g low sc n u) g) Q2 ⟨M1, by rw [jI_nI]; congr 2, i3, i4, i5⟩ (by omega) ?_
    rintro u x hu ⟨M2, rfl, z1, z2, z3⟩ rc2
    unfold m_X12_hasTwice_b130
    simp only []
    by_cases eu : u = n - low + 1
    · right
      rw [if_pos (show jI ((n : Int) - u) < nI low by rw [jI_nI, jI_lt (by omega) (by omega) (by omega) (by omega)]; omega)]
      subst eu
      refine lp_pst 10 (fun j x => ∃ (M' : smM), x = (nI j, M') ∧ (∀ k, k < 10 → M' 1033 k = nI (if k < j then g k else dvF f n g low k).val) ∧ (∀ k, k < 10 → M' 1034 k = nI (if k < j then dvF f n g low k else g k).val) ∧ FR5 M M') Q2 ⟨M2, rfl, fun k hk => by rw [if_neg (by omega), hF]; exact z1 k hk, fun k hk => by rw [if_neg (by omega)]; exact z2 k hk, z3⟩ (by omega) ?_
      rintro j x hj ⟨M3, rfl, y1, y2, y3⟩ rc3
      unfold m_X12_hasTwice_b218
      simp only []
      by_cases e10 : j = 10
      · right
        left
        subst e10
        rw [if_pos (show (10 : Int32) ≤ nI 10 from Int32.le_refl _)]
        refine ⟨M3, by omega, ⟨low, g, dvF f n g low, by omega, by rw [show 10 - (t + 1) = t' by omega]; exact i2, ⟨fun k hk => by rw [y1 k hk, if_pos hk], fun k hk => by rw [y2 k hk, if_pos hk], y3⟩, hnz, fun k hk => ?_, fun k hk => ?_⟩, rfl⟩
        · by_cases w : k < n
          · exact hgh_z (w := g) (n := n) (by omega) w
          · exact i8 k (by omega)
        · rw [hF]
          by_cases w : k ≤ n
          · exact dvS_z hs1 (by omega) _ (Nat.le_refl _) k (by omega) w
          · rw [dvS_hi _ _ (by omega)]; exact i7 k (by omega)
      · left
        rw [if_neg (show ¬ (10 : Int32) ≤ nI j from fun w => by rw [show (10 : Int32) = nI 10 from rfl, nI_le_iff (by omega) (by omega)] at w; omega), cl_nI (n := j) (by omega), g_32.2.1, g_32.2.2.1, if_ck2 (by omega) (by omega), if_ck2 (by omega) (by omega), if_ck2 (by omega) (by omega), smB_e, if_ck2 (by omega) (by omega), smB_e, nI_add_1, show M3 (1000 + 34) j = nI (g j).val from (y2 j (by omega)).trans (by rw [if_neg (by omega)]), show M3 (1000 + 33) j = nI (dvF f n g low j).val from (y1 j (by omega)).trans (by rw [if_neg (by omega)])]
        refine ⟨_, by omega, ⟨_, rfl, fun k hk => ?_, fun k hk => ?_, fun r r1 r2 => ?_⟩, rfl⟩
        · rw [smS_o (show (1033 : Nat) ≠ 1000 + 34 by omega)]
          by_cases w : k = j
          · subst w; rw [if_pos (by omega)]; exact smS_at
          · refine (smS_ne w).trans ((y1 k hk).trans ?_)
            by_cases w2 : k < j
            · rw [if_pos w2, if_pos (by omega)]
            · rw [if_neg w2, if_neg (by omega)]
        · by_cases w : k = j
          · subst w; rw [if_pos (by omega)]; exact smS_at
          · refine (smS_ne w).trans ?_
            rw [smS_o (show (1000 + 34 : Nat) ≠ 1000 + 33 by omega)]
            refine (y2 k hk).trans ?_
            by_cases w2 : k < j
            · rw [if_pos w2, if_pos (by omega)]
            · rw [if_neg w2, if_neg (by omega)]
        · exact (smS_o r2).trans ((smS_o r1).trans (y3 r r1 r2))
    · have K : ∃ K, n = K + u ∧ low ≤ K := ⟨n - u, by omega, by omega⟩
      obtain ⟨K, eK, hK⟩ := K
      have ej : jI ((n : Int) - u) = nI K := by rw [jI_nI]; congr 1; omega
      have hp3 : M2 1000 0 = nI p := by rw [z3 1000 (by omega) (by omega)]; exact hp0
      rw [ej, if_neg (fun w => by rw [nI_lt_iff (by omega) (by omega)] at w; omega), cl_nI (n := K) (by omega), g_32.2.1, if_ck2 (by omega) (by omega), hp3, if_neg (nI_ne0 (by omega) (by omega)), show M2 (1000 + 33) K = _ from z1 K (by omega), rm_mul hp2]
      generalize hb : dvS f g low sc n u K * sc = bb
      refine lp_pst (low + 1) (fun l x => ∃ (M' : smM), x = (nI l, M') ∧ ROWS M' (fun j => if K - low ≤ j ∧ j < K - low + l then dvS f g low sc n u j - bb * g (j - (K - low)) else dvS f g low sc n u j) g) (fun x => (∃ s', u < n - low + 1 ∧ (∃ (M' : smM), s' = (jI ((n : Int) - ((u + 1 : Nat) : Int)), M') ∧ ROWS M' (dvS f g low sc n (u + 1)) g) ∧ x = rc2 s') ∨ Q2 x) ⟨M2, rfl, fun j hj => by
        show _ = nI (if K - low ≤ j ∧ j < K - low + 0 then _ else dvS f g low sc n u j).val
        rw [if_neg (by omega)]; exact z1 j hj, z2, z3⟩ (by omega) ?_
      rintro l x hl ⟨M3, rfl, y1, y2, y3⟩ rc3
      unfold m_X12_hasTwice_b155
      simp only []
      by_cases el : l = low + 1
      · right
        left
        subst el
        rw [if_pos ((nI_lt_iff (by omega) (by omega)).mpr (by omega)), show nI K + (-1 : Int32) = jI ((n : Int) - ((u + 1 : Nat) : Int)) by
          rw [show (-1 : Int32) = jI (-1) from rfl, jI_nI, jI_add]; congr 1; omega]
        refine ⟨_, by omega, ⟨M3, rfl, fun j hj => ?_, y2, y3⟩, rfl⟩
        rw [y1 j hj]
        show nI (if K - low ≤ j ∧ j < K - low + (low + 1) then dvS f g low sc n u j - bb * g (j - (K - low)) else dvS f g low sc n u j).val = nI (if n - u - low ≤ j ∧ j ≤ n - u then dvS f g low sc n u j - dvS f g low sc n u (n - u) * sc * g (j - (n - u - low)) else dvS f g low sc n u j).val
        rw [show n - u = K by omega, hb]
        by_cases w : K - low ≤ j ∧ j ≤ K
        · rw [if_pos w, if_pos (by omega)]
        · rw [if_neg w, if_neg (by omega)]
      · left
        have hp4 : M3 1000 0 = nI p := by rw [y3 1000 (by omega) (by omega)]; exact hp0
        have e1 : M3 1033 (K - low + l) = nI (dvS f g low sc n u (K - low + l)).val := (y1 (K - low + l) (by omega)).trans (by
          show nI (if K - low ≤ K - low + l ∧ K - low + l < K - low + l then _ else dvS f g low sc n u (K - low + l)).val = _
          rw [if_neg (by omega)])
        rw [if_neg (fun w => by rw [nI_lt_iff (by omega) (by omega)] at w; omega), nI_subN hK, nI_ad, cl_nI (n := K - low + l) (by omega), cl_nI (n := l) (by omega), g_32.2.1, g_32.2.2.1, if_ck2 (by omega) (by omega), if_ck2 (by omega) (by omega), show M3 (1000 + 33) (K - low + l) = _ from e1, show M3 (1000 + 34) l = _ from y2 l (by omega), m12_sub _ _ _ hp hp2 hp4, Option.bind_some, if_ck2 (by omega) (by omega), smB_e, nI_add_1]
        refine ⟨_, by omega, ⟨_, rfl, fun j hj => ?_, fun j hj => ?_, fun r r1 r2 => ?_⟩, rfl⟩
        · show _ = nI (if K - low ≤ j ∧ j < K - low + (l + 1) then dvS f g low sc n u j - bb * g (j - (K - low)) else dvS f g low sc n u j).val
          by_cases w : j = K - low + l
          · subst w
            rw [if_pos (by omega), show K - low + l - (K - low) = l by omega]
            exact smS_at
          · refine (smS_ne w).trans ((y1 j hj).trans ?_)
            show nI (if K - low ≤ j ∧ j < K - low + l then dvS f g low sc n u j - bb * g (j - (K - low)) else dvS f g low sc n u j).val = _
            by_cases w2 : K - low ≤ j ∧ j < K - low + l
            · rw [if_pos w2, if_pos (by omega)]
            · rw [if_neg w2, if_neg (by omega)]
        · rw [smS_o (show (1034 : Nat) ≠ 1000 + 33 by omega)]; exact y2 j hj
        · exact (smS_o r1).trans (y3 r r1 r2)
theorem m12_hasTwice {p A B u v w : Nat} [NeZero p] {F G : Nat → Nat → Fin p} {M : smM} (hpar : PARAM p A B u v) (hS : SET2 M p A B u v F G) (hw : w < 2) : ∃ (M' : smM) (h : Nat) (c : Nat → Fin p), m_X12_hasTwice 1000 (nI w) M = some ((if euf 10 h (f0P h c) (g0P h c) = 0 then 0 else 1), M') ∧ LPZ (ZL A B F G w) h c ∧ FRL M M' := by
  obtain ⟨hp, hp2⟩ := Pr_rng p hpar.1
  obtain ⟨Ma, h, c, a1, ⟨a2', a2⟩, a3, a4, a5, a6⟩ := m12_findsLeast (w := w) hpar hS hw
  unfold m_X12_hasTwice
  rw [a1, Option.bind_some]
  have ma0 : Ma 1000 0 = nI p := (a6.1 0 (by omega)).trans hS.1
  let Q : Option (Int32 × smM) → Prop := fun x => ∃ (M' : smM) (h : Nat) (c : Nat → Fin p), x = some ((if euf 10 h (f0P h c) (g0P h c) = 0 then 0 else 1), M') ∧ LPZ (ZL A B F G w) h c ∧ FRL M M'
  refine lp_pst 10 (fun k x => ∃ (M' : smM), x = (nI k, M') ∧ (∀ j, j < k → M' 1033 j = nI (f0P h c j).val ∧ M' 1034 j = 0) ∧ FR5 Ma M') Q ⟨Ma, rfl, fun j hj => by omega, fun _ _ _ => rfl⟩ (by omega) ?_
  rintro k x hk ⟨M1, rfl, g1, g2⟩ rc
  unfold m_X12_hasTwice_b7
  simp only []
  have m0 : M1 1000 = Ma 1000 := g2 _ (by omega) (by omega)
  rw [m0, a3]
  by_cases ek : k = 10
  · right
    subst ek
    rw [if_pos (show (10 : Int32) ≤ nI 10 from Int32.le_refl _)]
    refine lp_pst h (fun j x => ∃ (M' : smM), x = (nI (j + 1), M') ∧ (∀ i, i < 10 → M' 1033 i = nI (f0P h c i).val) ∧ (∀ i, i < 10 → M' 1034 i = nI (if i < j then g0P h c i else 0).val) ∧ FR5 Ma M') Q ⟨M1, rfl, fun i hi => (g1 i hi).1, fun i hi => by rw [if_neg (by omega), (g1 i hi).2]; exact z_fin, g2⟩ (by omega) ?_
    rintro j x hj ⟨M2, rfl, y1, y2, y3⟩ rc2
    unfold m_X12_hasTwice_b52
    simp only []
    have m02 : M2 1000 = Ma 1000 := y3 _ (by omega) (by omega)
    rw [m02, a3]
    by_cases ej : j = h
    · right
      subst ej
      rw [if_pos ((nI_lt_iff (by omega) (by omega)).mpr (by omega))]
      have fj : f0P j c j ≠ 0 := by
        unfold f0P
        rw [if_pos (Nat.le_refl _), a5.1]
        exact fun w => fp_01 hp w.symm
      obtain ⟨M3, e1, e2⟩ := m12_euclid (h := j) (f0 := f0P j c) (g0 := g0P j c) (M := M2) hpar.1 a2 (by rw [m02]; exact ma0) y1 (fun k hk => by
        rw [y2 k hk]
        by_cases w : k < j
        · rw [if_pos w]
        · rw [if_neg w]; unfold g0P; rw [if_neg w]) fj (fun k hk => by unfold f0P; rw [if_neg (by omega)]) (fun k hk => by unfold g0P; rw [if_neg (by omega)]) rc rc2
      exact ⟨M3, j, c, e1, a5, a6.trans ⟨fun k _ => by rw [e2 1000 (by omega) (by omega), m02], fun r h1 h2 => by rw [e2 r (by omega) (by omega), y3 r (by omega) (by omega)]⟩⟩
    · left
      have hne : ¬ nI p = 0 := nI_ne0 (by omega) (by omega)
      have ev : nI (j + 1) - nI (j + 1) / nI p * nI p = nI (fz p ((j + 1 : Nat) : Int)).val := by rw [rem_nI (by omega) (by omega) (by omega), fz_nat]
      have ef : f0P h c (j + 1) = c (j + 1) := by unfold f0P; rw [if_pos (by omega)]
      rw [if_neg (fun w => by rw [nI_lt_iff (by omega) (by omega)] at w; omega), ma0, if_neg hne, sub1 (by omega), Nat.add_sub_cancel, cl_nI (n := j + 1) (by omega), cl_nI (n := j) (by omega), g_32.2.1, g_32.2.2.1, if_ck2 (by omega) (by omega), if_neg hne, if_ck2 (by omega) (by omega), smB_e, ev, show M2 (1000 + 33) (j + 1) = _ from y1 (j + 1) (by omega), rm_mul hp2, nI_add_1, ef]
      refine ⟨_, by omega, ⟨_, rfl, fun i hi => ?_, fun i hi => ?_, fun r r1 r2 => (smS_o r2).trans (y3 r r1 r2)⟩, rfl⟩
      · rw [smS_o (show (1033 : Nat) ≠ 1000 + 34 by omega)]; exact y1 i hi
      · by_cases w : i = j
        · subst w
          rw [if_pos (by omega)]
          refine smS_at.trans ?_
          unfold g0P
          rw [if_pos (by omega)]
        · refine (smS_ne w).trans ((y2 i hi).trans ?_)
          by_cases w2 : i < j
          · rw [if_pos w2, if_pos (by omega)]
          · rw [if_neg w2, if_neg (by omega)]
  · left
    have fin : ∀ b : Int32, b = nI (f0P h c k).val → ∃ s', k < 10 ∧ (∃ (M' : smM), s' = (nI (k + 1), M') ∧ (∀ j, j < k + 1 → M' 1033 j = nI (f0P h c j).val ∧ M' 1034 j = 0) ∧ FR5 Ma M') ∧ m_X12_hasTwice_j36 1000 (nI k) (nI k) (1000 + 33) M1 rc b = rc s' := fun b hb => by
      unfold m_X12_hasTwice_j36
      rw [cl_nI (n := k) (by omega), g_32.2.1, g_32.2.2.1, if_ck2 (by omega) (by omega), smB_e, if_ck2 (by omega) (by omega), smB_e, nI_add_1, hb]
      refine ⟨_, by omega, ⟨_, rfl, fun j hj => ?_, fun r r1 r2 => (smS_o r2).trans ((smS_o r1).trans (g2 r r1 r2))⟩, rfl⟩
      rw [smS_o (show (1033 : Nat) ≠ 1000 + 34 by omega)]
      by_cases w : j = k
      · subst w
        exact ⟨smS_at, smS_at⟩
      · refine ⟨(smS_ne w).trans (g1 j (by omega)).1, (smS_ne w).trans ?_⟩
        rw [smS_o (show (1000 + 34 : Nat) ≠ 1000 + 33 by omega)]
        exact (g1 j (by omega)).2
    rw [if_neg (show ¬ (10 : Int32) ≤ nI k from fun w => by rw [show (10 : Int32) = nI 10 from rfl, nI_le_iff (by omega) (by omega)] at w; omega)]
    by_cases w : h < k
    · rw [if_pos ((nI_lt_iff (by omega) (by omega)).mpr w)]
      refine fin 0 ?_
      unfold f0P
      rw [if_neg (by omega)]; exact z_fin
    · rw [if_neg (fun w2 => w ((nI_lt_iff (by omega) (by omega)).mp w2)), cl_nI (n := k) (by omega), g_32.1, if_ck2 (by omega) (by omega), g2 (1000 + 32) (by omega) (by omega)]
      refine fin _ ?_
      unfold f0P
      rw [if_pos (by omega)]; exact a4 k (by omega)
