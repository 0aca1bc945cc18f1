/-! whether the least polynomials have a factor twice -/
theorem inv_uq {p : Nat} [NeZero p] {a s t : Fin p} (h1 : s * a = 1) (h2 : t * a = 1) : s = t := by
  have : s = s * (t * a) := by rw [h2]; grind
  rw [this]
  have : s * (t * a) = t * (s * a) := by grind
  rw [this, h1]; grind
noncomputable def ivF {p : Nat} [NeZero p] (a : Fin p) : Fin p := if h : ∃ s : Fin p, s * a = 1 then Classical.choose h else 0
theorem ivF_1 {p : Nat} [NeZero p] (hpr : p ∈ PrL) {a : Fin p} (h : a ≠ 0) : ivF a * a = 1 := by
  have ex := fin_inv hpr h
  unfold ivF
  rw [dif_pos ex]
  exact Classical.choose_spec ex
/-- the division, from the top downwards -/
def dvS {p : Nat} [NeZero p] (f g : Nat → Fin p) (low : Nat) (sc : Fin p) (top : Nat) : Nat → Nat → Fin p
  | 0 => f
  | t + 1 => fun j => if top - t - low ≤ j ∧ j ≤ top - t then dvS f g low sc top t j - dvS f g low sc top t (top - t) * sc * g (j - (top - t - low)) else dvS f g low sc top t j
theorem dvS_z {p : Nat} [NeZero p] {f g : Nat → Fin p} {low : Nat} {sc : Fin p} {top : Nat} (hs : sc * g low = 1) (hl : low ≤ top) : ∀ t, t ≤ top - low + 1 → ∀ j, top < j + t → j ≤ top → dvS f g low sc top t j = 0
  | 0, _, j, h1, h2 => by omega
  | t + 1, ht, j, h1, h2 => by
    show (if top - t - low ≤ j ∧ j ≤ top - t then dvS f g low sc top t j - dvS f g low sc top t (top - t) * sc * g (j - (top - t - low)) else dvS f g low sc top t j) = 0
    by_cases e : j = top - t
    · rw [if_pos (by omega), e, show top - t - (top - t - low) = low by omega]
      have : dvS f g low sc top t (top - t) * sc * g low = dvS f g low sc top t (top - t) * (sc * g low) := by grind
      rw [this, hs]; grind
    · rw [if_neg (by omega)]
      exact dvS_z hs hl t (by omega) j (by omega) h2
theorem dvS_hi {p : Nat} [NeZero p] {f g : Nat → Fin p} {low : Nat} {sc : Fin p} {top : Nat} : ∀ t j, top < j → dvS f g low sc top t j = f j
  | 0, _, _ => rfl
  | t + 1, j, h => by
    show (if top - t - low ≤ j ∧ j ≤ top - t then _ else dvS f g low sc top t j) = f j
    rw [if_neg (by omega)]; exact dvS_hi t j h
noncomputable def dvF {p : Nat} [NeZero p] (f : Nat → Fin p) (n : Nat) (g : Nat → Fin p) (low : Nat) : Nat → Fin p := dvS f g low (ivF (g low)) n (n - low + 1)
noncomputable def euf {p : Nat} [NeZero p] : Nat → Nat → (Nat → Fin p) → (Nat → Fin p) → Nat
  | 0, n, _, _ => n
  | t + 1, n, f, g => if hgh g n = 0 then n else euf t (hgh g n - 1) g (dvF f n g (hgh g n - 1))
theorem m_divide {q a b p n low : Nat} [NeZero p] {f g : Nat → Fin p} {M : smM} (hpr : p ∈ PrL) (la : smLn a = 10) (lb : smLn b = 10) (hab : a ≠ b) (haq : a ≠ q) (hln : low ≤ n) (hn : n ≤ 9) (m3 : M q 3 = nI p) (hf : ∀ k, k ≤ n → M a k = nI (f k).val) (hg : ∀ k, k ≤ low → M b k = nI (g k).val) (hg0 : g low ≠ 0) : ∃ M', m_X3_divideOut q a (nI n) b (nI low) M = some M' ∧ (∀ k, k ≤ n → M' a k = nI (dvF f n g low k).val) ∧ ∀ r, r ≠ a → M' r = M r := by
  obtain ⟨hp, hp2⟩ := Pr_rng p hpr
  obtain ⟨k, k1, k2, k3, k4⟩ := inv_ex hpr (g low).isLt (by
    rcases Nat.eq_zero_or_pos (g low).val with w | w
    · exact absurd (Fin.ext (by rw [w]; simp)) hg0
    · exact w)
  have es : fz p (k : Int) = ivF (g low) := inv_uq (inv_fz hp k3) (ivF_1 hpr hg0)
  have ek : nI k = nI (ivF (g low)).val := by rw [← es]; exact fz_x k2
  unfold m_X3_divideOut dvF
  rw [cl_nI (n := low) (by omega), lb, if_ck2 (by omega) (by omega), hg low (Nat.le_refl _), m3, m_inverse hp hp2 (g low).isLt k1 k2 k3 k4, Option.bind_some, ek]
  generalize ivF (g low) = sc
  refine lp_pst (n - low + 1) (fun t x => ∃ (M' : smM), x = (jI ((n : Int) - t), M') ∧ (∀ k, k ≤ n → M' a k = nI (dvS f g low sc n t k).val) ∧ ∀ r, r ≠ a → M' r = M r) (fun x => ∃ (M' : smM), x = some M' ∧ (∀ k, k ≤ n → M' a k = nI (dvS f g low sc n (n - low + 1) k).val) ∧ ∀ r, r ≠ a → M' r = M r) ⟨M, by rw [jI_nI]; congr 2, hf, fun _ _ => rfl⟩ (by omega) ?_
  rintro t x ht ⟨M1, rfl, g1, g2⟩ rc
  unfold m_X3_divideOut_b16
  simp only []
  by_cases et : t = n - low + 1
  · right
    rw [if_pos (show jI ((n : Int) - t) < nI low by rw [jI_nI, jI_lt (by omega) (by omega) (by omega) (by omega)]; omega)]
    subst et
    exact ⟨M1, rfl, g1, g2⟩
  · have K : ∃ K, n = K + t ∧ low ≤ K := ⟨n - t, by omega, by omega⟩
    obtain ⟨K, rfl, hK⟩ := K
    have ej : jI (((K + t : Nat) : Int) - t) = nI K := by rw [jI_nI]; congr 1; omega
    have eK : K + t - t = K := by omega
    rw [ej, if_neg (fun w => by rw [nI_lt_iff (by omega) (by omega)] at w; omega), cl_nI (n := K) (by omega), la, if_ck2 (by omega) (by omega), g1 K (by omega), g2 q haq.symm, m3, lo_mul hp hp2, Option.bind_some]
    generalize hb : dvS f g low sc (K + t) t K * sc = bb
    refine lp_pst (low + 1) (fun l x => ∃ (M' : smM), x = (nI l, M') ∧ (∀ j, j ≤ K + t → M' a j = nI (if K - low ≤ j ∧ j < K - low + l then dvS f g low sc (K + t) t j - bb * g (j - (K - low)) else dvS f g low sc (K + t) t j).val) ∧ ∀ r, r ≠ a → M' r = M r) (fun x => (∃ s', t < K + t - low + 1 ∧ (∃ (M' : smM), s' = (jI (((K + t : Nat) : Int) - ((t + 1 : Nat) : Int)), M') ∧ (∀ k, k ≤ K + t → M' a k = nI (dvS f g low sc (K + t) (t + 1) k).val) ∧ ∀ r, r ≠ a → M' r = M r) ∧ x = rc s') ∨ ∃ (M' : smM), x = some M' ∧ (∀ k, k ≤ K + t → M' a k = nI (dvS f g low sc (K + t) (K + t - low + 1) k).val) ∧ ∀ r, r ≠ a → M' r = M r) ⟨M1, rfl, fun j hj => by rw [if_neg (by omega)]; exact g1 j hj, g2⟩ (by omega) ?_
    rintro l x hl ⟨M2, rfl, z1, z2⟩ rc2
    unfold m_X3_divideOut_b42
    simp only []
    by_cases el : l = low + 1
    · right
      left
      subst el
      rw [if_pos ((nI_lt_iff (by omega) (by omega)).mpr (by omega)), show nI K + (-1 : Int32) = jI (((K + t : Nat) : Int) - ((t + 1 : Nat) : Int)) by
        rw [show (-1 : Int32) = jI (-1) from rfl, jI_nI, jI_add]; congr 1; omega]
      refine ⟨_, by omega, ⟨M2, rfl, fun j hj => ?_, z2⟩, rfl⟩
      rw [z1 j hj]
      show _ = nI (if K + t - t - low ≤ j ∧ j ≤ K + t - t then dvS f g low sc (K + t) t j - dvS f g low sc (K + t) t (K + t - t) * sc * g (j - (K + t - t - low)) else dvS f g low sc (K + t) t j).val
      rw [eK, hb]
      by_cases w : K - low ≤ j ∧ j ≤ K
      · rw [if_pos w, if_pos (by omega)]
      · rw [if_neg w, if_neg (by omega)]
    · left
      have e1 : M2 a (K - low + l) = nI (dvS f g low sc (K + t) t (K - low + l)).val := (z1 (K - low + l) (by omega)).trans (by rw [if_neg (by omega)])
      rw [if_neg (fun w => by rw [nI_lt_iff (by omega) (by omega)] at w; omega), nI_subN hK, nI_ad, cl_nI (n := K - low + l) (by omega), cl_nI (n := l) (by omega), la, lb, if_ck2 (by omega) (by omega), if_ck2 (by omega) (by omega), e1, z2 b hab.symm, hg l (by omega), z2 q haq.symm, m3, lo_sub hp hp2, Option.bind_some, if_ck2 (by omega) (by omega), smB_e, nI_add_1]
      refine ⟨_, by omega, ⟨_, rfl, fun j hj => ?_, fun r hr => (smS_o hr).trans (z2 r hr)⟩, rfl⟩
      by_cases w : j = K - low + l
      · subst w
        rw [smS_at, if_pos (by omega), show K - low + l - (K - low) = l by omega]
      · rw [smS_ne w, z1 j hj]
        by_cases w2 : K - low ≤ j ∧ j < K - low + l
        · rw [if_pos w2, if_pos (by omega)]
        · rw [if_neg w2, if_neg (by omega)]
def f0P {p : Nat} [NeZero p] (h : Nat) (c : Nat → Fin p) : Nat → Fin p := fun k => if k ≤ h then c k else 0
def g0P {p : Nat} [NeZero p] (h : Nat) (c : Nat → Fin p) : Nat → Fin p := fun k => if k < h then fz p ((k + 1 : Nat) : Int) * c (k + 1) else 0
theorem lo_km {p k : Nat} [NeZero p] (hp : 2 ≤ p) (hp2 : p ≤ 97) (hk : k ≤ 9) (c : Fin p) (M : smM) : m_X11_leftOver (nI k * nI c.val) (nI p) M = some (nI (fz p (k : Int) * c).val) := by
  have h3 := c.isLt
  have hm : k * c.val ≤ 97 * 97 := Nat.mul_le_mul (by omega) (by omega)
  have hm2 : ((k * c.val : Nat) : Int) = (k : Int) * (c.val : Int) := Int.natCast_mul _ _
  rw [jI_nI k, jI_nI c.val, jI_mul, m_leftOver (by omega) (by omega) hp (by omega)]
  rw [← fz_mulz, fz_self]
theorem m_noTwice {q p h : Nat} [NeZero p] {c : Nat → Fin p} {M : smM} (hpr : p ∈ PrL) (l1 : smLn (q + 1) = 10) (l4 : smLn (q + 4) = 10) (l5 : smLn (q + 5) = 10) (h9 : h ≤ 9) (m0 : M q 0 = nI h) (m3 : M q 3 = nI p) (mc : ∀ k, k ≤ h → M (q + 1) k = nI (c k).val) : ∃ M', m_X3_hasNoFactorTwice q M = some ((if euf 10 h (f0P h c) (g0P h c) = 0 then 1 else 0), M') ∧ ∀ r, r ≠ q + 4 → r ≠ q + 5 → M' r = M r := by
  obtain ⟨hp, hp2⟩ := Pr_rng p hpr
  unfold m_X3_hasNoFactorTwice
  generalize hE : euf 10 h (f0P h c) (g0P h c) = E
  let Q : Option (Int32 × smM) → Prop := fun x => ∃ (M' : smM), x = some ((if E = 0 then 1 else 0), M') ∧ ∀ r, r ≠ q + 4 → r ≠ q + 5 → M' r = M r
  refine lp_pst (h + 1) (fun k x => ∃ (M' : smM), x = (nI k, M') ∧ (∀ j, j < k → M' (q + 4) j = nI (f0P h c j).val) ∧ (∀ j, j + 1 < k → M' (q + 5) j = nI (g0P h c j).val) ∧ ∀ r, r ≠ q + 4 → r ≠ q + 5 → M' r = M r) Q ⟨M, rfl, fun j hj => by omega, fun j hj => by omega, fun _ _ _ => rfl⟩ (by omega) ?_
  rintro k x hk ⟨M1, rfl, g1, g2, g3⟩ rc
  unfold m_X3_hasNoFactorTwice_b2
  simp only []
  rw [g3 q (by omega) (by omega), m0]
  by_cases ek : k = h + 1
  · right
    subst ek
    rw [if_pos ((nI_lt_iff (by omega) (by omega)).mpr (by omega))]
    refine lp_pst 9 (fun t x => ∃ (M' : smM) (a b n : Nat) (f g : Nat → Fin p), x = (a, b, nI n, nI t, M') ∧ ((a = q + 4 ∧ b = q + 5) ∨ (a = q + 5 ∧ b = q + 4)) ∧ n + t ≤ 9 ∧ euf (10 - t) n f g = E ∧ (∀ j, j ≤ n → M' a j = nI (f j).val) ∧ (∀ j, j < n → M' b j = nI (g j).val) ∧ ∀ r, r ≠ q + 4 → r ≠ q + 5 → M' r = M r) Q ⟨M1, q + 4, q + 5, h, f0P h c, g0P h c, rfl, Or.inl ⟨rfl, rfl⟩, by omega, hE, fun j hj => g1 j (by omega), fun j hj => g2 j (by omega), g3⟩ (by omega) ?_
    rintro t x ht ⟨M2, a, b, n, f, g, rfl, i1, i2, i3, i4, i5, i6⟩ rc2
    have la : smLn a = 10 := by
      rcases i1 with ⟨e, -⟩ | ⟨e, -⟩
      · rw [e]; exact l4
      · rw [e]; exact l5
    have lb : smLn b = 10 := by
      rcases i1 with ⟨-, e⟩ | ⟨-, e⟩
      · rw [e]; exact l5
      · rw [e]; exact l4
    unfold m_X3_hasNoFactorTwice_b73
    simp only []
    rw [if_neg (show ¬ (9 : Int32) < nI t from fun w => by rw [show (9 : Int32) = nI 9 from rfl, nI_lt_iff (by omega) (by omega)] at w; omega), show nI n - (1 : Int32) = jI ((n : Int) - 1) by rw [show (1 : Int32) = jI 1 from rfl, jI_nI, jI_sub], m_hgh lb (by omega) (by omega) (show n ≤ 10 by omega) hp2 i5, Option.bind_some]
    obtain ⟨t', et'⟩ : ∃ t', 10 - t = t' + 1 := ⟨9 - t, by omega⟩
    rw [et'] at i3
    by_cases ez : hgh g n = 0
    · right
      have eE : n = E := by
        have i3 : (if hgh g n = 0 then n else euf t' (hgh g n - 1) g (dvF f n g (hgh g n - 1))) = E := i3
        rw [if_pos ez] at i3; exact i3
      rw [ez, if_neg (show ¬ (0 : Int32) ≤ jI (((0 : Nat) : Int) - 1) by decide)]
      refine ⟨M2, ?_, i6⟩
      by_cases q0 : E = 0
      · rw [if_pos q0, if_pos (show nI n = (0 : Int32) by rw [eE, q0]; rfl)]
      · rw [if_neg q0, if_neg (show ¬ nI n = (0 : Int32) from fun w => q0 (by rw [← eE]; exact (nI_inj (b := 0) (by omega) (by omega)).mp w))]
    · left
      obtain ⟨low, hlow⟩ : ∃ low, hgh g n = low + 1 := ⟨hgh g n - 1, by omega⟩
      have hle := hgh_le g n
      have i3 : euf t' low g (dvF f n g low) = E := by
        have i3 : (if hgh g n = 0 then n else euf t' (hgh g n - 1) g (dvF f n g (hgh g n - 1))) = E := i3
        rw [if_neg ez, hlow, Nat.add_sub_cancel] at i3; exact i3
      have hnz := hgh_nz hlow
      obtain ⟨M3, d1, d2, d3⟩ := m_divide (q := q) (a := a) (b := b) (n := n) (low := low) (M := M2) hpr la lb (by omega) (by omega) (by omega) (by omega) (by rw [i6 q (by omega) (by omega)]; exact m3) i4 (fun k hk => i5 k (by omega)) hnz
      have ej : jI (((hgh g n : Nat) : Int) - 1) = nI low := by rw [hlow, jI_nI]; congr 1; omega
      rw [ej, if_pos (nI_0le (by omega)), d1, Option.bind_some, nI_add_1]
      refine ⟨_, by omega, ⟨M3, b, a, low, g, dvF f n g low, rfl, by omega, by omega, by rw [show 10 - (t + 1) = t' by omega]; exact i3, fun j hj => by rw [d3 b (by omega)]; exact i5 j (by omega), fun j hj => d2 j (by omega), fun r r1 r2 => ?_⟩, rfl⟩
      rw [d3 r (by omega)]; exact i6 r r1 r2
  · left
    have f0k : f0P h c k = c k := by unfold f0P; rw [if_pos (by omega)]
    have e1 : M1 (q + 1) k = nI (c k).val := by rw [g3 (q + 1) (by omega) (by omega)]; exact mc k (by omega)
    rw [if_neg (fun w => by rw [nI_lt_iff (by omega) (by omega)] at w; omega), cl_nI (n := k) (by omega), l1, l4, if_ck2 (by omega) (by omega), if_ck2 (by omega) (by omega), smB_e, e1, if_ck2 (by omega) (by omega), nI_add_1]
    by_cases e0 : k = 0
    · subst e0
      rw [if_pos (show nI 0 ≤ (0 : Int32) from Int32.le_refl _)]
      refine ⟨_, by omega, ⟨_, rfl, fun j hj => ?_, fun j hj => by omega, fun r r1 r2 => ?_⟩, rfl⟩
      · rw [show j = 0 by omega, smS_at, f0k]
      · rw [smS_o r1]; exact g3 r r1 r2
    · obtain ⟨k', rfl⟩ : ∃ k', k = k' + 1 := ⟨k - 1, by omega⟩
      rw [if_neg (show ¬ nI (k' + 1) ≤ (0 : Int32) from fun w => by rw [show (0 : Int32) = nI 0 from rfl, nI_le_iff (by omega) (by omega)] at w; omega), smS_o (show q + 1 ≠ q + 4 by omega), e1, smS_o (show q ≠ q + 4 by omega), g3 q (by omega) (by omega), m3, lo_km hp hp2 (by omega), Option.bind_some, sub1 (by omega), Nat.add_sub_cancel, cl_nI (n := k') (by omega), l5, if_ck2 (by omega) (by omega), smB_e]
      refine ⟨_, by omega, ⟨_, rfl, fun j hj => ?_, fun j hj => ?_, fun r r1 r2 => ?_⟩, rfl⟩
      · rw [smS_o (by omega)]
        by_cases w : j = k' + 1
        · rw [w, smS_at, f0k]
        · rw [smS_ne w]; exact g1 j (by omega)
      · by_cases w : j = k'
        · rw [w, smS_at]
          unfold g0P
          rw [if_pos (by omega)]
        · rw [smS_ne w, smS_o (by omega)]; exact g2 j (by omega)
      · rw [smS_o r2, smS_o r1]; exact g3 r r1 r2
