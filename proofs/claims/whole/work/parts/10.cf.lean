/-! powers of the tables, by the reference -/
theorem nI_9 {k : Nat} (h : k < 9) : ¬ (9 : Int32) ≤ nI k := fun w => by rw [show (9 : Int32) = nI 9 from rfl, nI_le_iff (by omega) (by omega)] at w; omega
theorem nI_99 : (9 : Int32) ≤ nI 9 := Int32.le_refl _
theorem ix9 (r d : Nat) : (9 : Int32) * nI r + nI d = nI (9 * r + d) := by rw [show (9 : Int32) = nI 9 from rfl, nI_mulN, nI_ad]
def apl {p : Nat} [NeZero p] (D : Nat) (v : Nat → Fin p) (T : Nat → Nat → Fin p) (r d : Nat) : Fin p := if d < D then su (fun k => v k * T k d) r else 0
theorem apl_s {p : Nat} [NeZero p] {D : Nat} {v : Nat → Fin p} {T : Nat → Nat → Fin p} {r d : Nat} (h : d < D) : apl D v T (r + 1) d = apl D v T r d + v r * T r d := by unfold apl; rw [if_pos h, if_pos h]; rfl
theorem m12_applies {p D a : Nat} [NeZero p] {v : Nat → Fin p} {T : Nat → Nat → Fin p} {M : smM} (hp2 : p ≤ 97) (hD : D ≤ 9) (la : smLn a = 81) (ha : a ≠ 1020) (ha2 : a ≠ 1021) (ha3 : a ≠ 1000) (h0 : M 1000 0 = nI p) (hDD : M 1000 1 * M 1000 2 = nI D) (hv : ∀ r, r < 9 → M 1020 r = nI (v r).val) (hT : ∀ r d, r < D → d < D → M a (9 * r + d) = nI (T r d).val) : ∃ M', m_X12_applies 1000 a M = some M' ∧ (∀ d, d < 9 → M' 1020 d = nI (apl D v T D d).val) ∧ ∀ r, r ≠ 1020 → r ≠ 1021 → M' r = M r := by
  have hp0 : 0 < p := Nat.pos_of_ne_zero (NeZero.ne p)
  unfold m_X12_applies m_X12_dimension
  rw [Option.bind_some, hDD]
  let Q : Option smM → Prop := fun e => ∃ M', e = some M' ∧ (∀ d, d < 9 → M' 1020 d = nI (apl D v T D d).val) ∧ ∀ r, r ≠ 1020 → r ≠ 1021 → M' r = M r
  refine lp_pst 9 (fun k s => ∃ M', s = (nI k, M') ∧ (∀ d, d < k → M' 1021 d = 0) ∧ ∀ r, r ≠ 1021 → M' r = M r) Q ⟨M, rfl, fun d hd => by omega, fun _ _ => rfl⟩ (by omega) ?_
  rintro k s hk ⟨M1, rfl, z1, f1⟩ rc
  unfold m_X12_applies_b7
  simp only []
  by_cases e : k = 9
  · right
    subst e
    rw [if_pos nI_99]
    refine lp_pst D (fun r s => ∃ M', s = (nI r, M') ∧ (∀ d, d < 9 → M' 1021 d = nI (apl D v T r d).val) ∧ ∀ r, r ≠ 1021 → M' r = M r) Q ⟨M1, rfl, fun d hd => ?_, f1⟩ (by omega) ?_
    · rw [z1 d hd]
      have : apl D v T 0 d = 0 := by unfold apl; split <;> rfl
      rw [this]; exact z_fin
    rintro r s hr ⟨M2, rfl, z2, f2⟩ rc2
    unfold m_X12_applies_b28
    simp only []
    by_cases er : r = D
    · right
      subst er
      rw [if_pos (Int32.le_refl _)]
      refine lp_pst 9 (fun k s => ∃ M', s = (nI k, M') ∧ (∀ d, d < k → M' 1020 d = nI (apl r v T r d).val) ∧ ∀ r, r ≠ 1020 → M' r = M2 r) Q ⟨M2, rfl, fun d hd => by omega, fun _ _ => rfl⟩ (by omega) ?_
      rintro k s hk ⟨M3, rfl, z3, f3⟩ rc3
      unfold m_X12_applies_b92
      simp only []
      by_cases ek : k = 9
      · right
        subst ek
        rw [if_pos nI_99]
        exact ⟨M3, rfl, z3, fun r h1 h2 => (f3 r h1).trans (f2 r h2)⟩
      · left
        rw [if_neg (nI_9 (by omega)), cl_nI (by omega), g_15.2.2.2.2.2.2.1, g_15.2.2.2.2.2.1, if_ck2 (by omega) (by omega), if_ck2 (by omega) (by omega), smB_e, nI_add_1, show M3 (1000 + 21) = M2 1021 from f3 _ (by omega), z2 k (by omega)]
        refine ⟨_, by omega, ⟨_, rfl, fun d hd => ?_, fun r hr => ?_⟩, rfl⟩
        · by_cases q : d = k
          · subst q; exact smS_at
          · exact (smS_ne q).trans (z3 d (by omega))
        · exact (smS_o hr).trans (f3 r hr)
    · rw [if_neg (fun w => by rw [nI_le_iff (by omega) (by omega)] at w; omega)]
      refine lp_pst D (fun x s => ∃ M', s = (nI x, M') ∧ (∀ d, d < 9 → M' 1021 d = nI (if d < x then apl D v T (r + 1) d else apl D v T r d).val) ∧ ∀ r, r ≠ 1021 → M' r = M r) (fun e => (∃ s', r < D ∧ (∃ M', s' = (nI (r + 1), M') ∧ (∀ d, d < 9 → M' 1021 d = nI (apl D v T (r + 1) d).val) ∧ ∀ r, r ≠ 1021 → M' r = M r) ∧ e = rc2 s') ∨ Q e) ⟨M2, rfl, fun d hd => by rw [if_neg (by omega)]; exact z2 d hd, f2⟩ (by omega) ?_
      rintro x s hx ⟨M3, rfl, z3, f3⟩ rc3
      unfold m_X12_applies_b36
      simp only []
      by_cases ex : x = D
      · right
        left
        subst ex
        rw [if_pos (Int32.le_refl _), nI_add_1]
        refine ⟨_, by omega, ⟨M3, rfl, fun d hd => ?_, f3⟩, rfl⟩
        rw [z3 d hd]
        by_cases q : d < x
        · rw [if_pos q]
        · rw [if_neg q]; unfold apl; rw [if_neg q, if_neg q]
      · left
        have hb := (T r x).isLt
        have hb2 := (v r).isLt
        have ev : nI (apl D v T r x).val + nI (v r).val * nI (T r x).val - (nI (apl D v T r x).val + nI (v r).val * nI (T r x).val) / nI p * nI p = nI (apl D v T (r + 1) x).val := by
          rw [mac_nI hp2 (apl D v T r x) (T r x) (c := (v r).val) (by omega), fz_self, apl_s (by omega)]
        rw [if_neg (fun w => by rw [nI_le_iff (by omega) (by omega)] at w; omega), ix9, cl_nI (n := x) (by omega), cl_nI (n := r) (by omega), cl_nI (n := 9 * r + x) (by omega), g_15.2.2.2.2.2.2.1, g_15.2.2.2.2.2.1, la, if_ck2 (by omega) (by omega), if_ck2 (by omega) (by omega), if_ck2 (by omega) (by omega), show M3 1000 = M 1000 from f3 _ (by omega), h0, if_neg (nI_ne0 (by omega) (by omega)), if_ck2 (by omega) (by omega), smB_e, nI_add_1, show M3 (1000 + 21) x = nI (apl D v T r x).val from (z3 x (by omega)).trans (by rw [if_neg (by omega)]), show M3 (1000 + 20) = M 1020 from f3 _ (by omega), hv r (by omega), f3 a ha2, hT r x (by omega) (by omega), ev]
        refine ⟨_, by omega, ⟨_, rfl, fun d hd => ?_, fun r hr => ?_⟩, rfl⟩
        · by_cases q : d = x
          · subst q
            rw [if_pos (by omega)]; exact smS_at
          · refine (smS_ne q).trans ((z3 d hd).trans ?_)
            by_cases q2 : d < x
            · rw [if_pos q2, if_pos (by omega)]
            · rw [if_neg q2, if_neg (by omega)]
        · exact (smS_o hr).trans (f3 r hr)
  · left
    rw [if_neg (nI_9 (by omega)), cl_nI (by omega), g_15.2.2.2.2.2.2.1, if_ck2 (by omega) (by omega), smB_e, nI_add_1]
    refine ⟨_, by omega, ⟨_, rfl, fun d hd => ?_, fun r hr => ?_⟩, rfl⟩
    · by_cases q : d = k
      · subst q; exact smS_at
      · exact (smS_ne q).trans (z1 d (by omega))
    · exact (smS_o hr).trans (f1 r hr)
def sqr {p : Nat} [NeZero p] (D : Nat) (T : Nat → Nat → Fin p) (r d : Nat) : Fin p := su (fun k => T r k * T k d) D
theorem m12_squares {p D : Nat} [NeZero p] {T : Nat → Nat → Fin p} {M : smM} (hp2 : p ≤ 97) (hD : D ≤ 9) (h0 : M 1000 0 = nI p) (hDD : M 1000 1 * M 1000 2 = nI D) (hT : ∀ r d, r < D → d < D → M 1018 (9 * r + d) = nI (T r d).val) : ∃ M', m_X12_squares 1000 M = some M' ∧ (∀ r d, r < D → d < D → M' 1018 (9 * r + d) = nI (sqr D T r d).val) ∧ ∀ r, r ≠ 1018 → r ≠ 1019 → M' r = M r := by
  have hp0 : 0 < p := Nat.pos_of_ne_zero (NeZero.ne p)
  unfold m_X12_squares m_X12_dimension
  rw [Option.bind_some, hDD]
  let Q : Option smM → Prop := fun e => ∃ M', e = some M' ∧ (∀ r d, r < D → d < D → M' 1018 (9 * r + d) = nI (sqr D T r d).val) ∧ ∀ r, r ≠ 1018 → r ≠ 1019 → M' r = M r
  refine lp_pst D (fun r s => ∃ M', s = (nI r, M') ∧ (∀ r' d, r' < r → d < D → M' 1019 (9 * r' + d) = nI (sqr D T r' d).val) ∧ ∀ r, r ≠ 1019 → M' r = M r) Q ⟨M, rfl, fun r' d hr => by omega, fun _ _ => rfl⟩ (by omega) ?_
  rintro r s hr ⟨M1, rfl, z1, f1⟩ rc
  unfold m_X12_squares_b7
  simp only []
  by_cases er : r = D
  · right
    subst er
    rw [if_pos (Int32.le_refl _)]
    refine lp_pst 81 (fun k s => ∃ M', s = (nI k, M') ∧ (∀ j, j < k → M' 1018 j = M1 1019 j) ∧ ∀ r, r ≠ 1018 → M' r = M1 r) Q ⟨M1, rfl, fun d hd => by omega, fun _ _ => rfl⟩ (by omega) ?_
    rintro k s hk ⟨M3, rfl, z3, f3⟩ rc3
    unfold m_X12_squares_b99
    simp only []
    by_cases ek : k = 81
    · right
      subst ek
      rw [if_pos (show (81 : Int32) ≤ nI 81 from Int32.le_refl _)]
      exact ⟨M3, rfl, fun r' d h1 h2 => (z3 _ (by omega)).trans (z1 r' d h1 h2), fun r h1 h2 => (f3 r h1).trans (f1 r h2)⟩
    · left
      rw [if_neg (show ¬ (81 : Int32) ≤ nI k from fun w => by rw [show (81 : Int32) = nI 81 from rfl, nI_le_iff (by omega) (by omega)] at w; omega), cl_nI (by omega), g_15.2.2.2.1, g_15.2.2.2.2.1, if_ck2 (by omega) (by omega), if_ck2 (by omega) (by omega), smB_e, nI_add_1, show M3 (1000 + 19) = M1 1019 from f3 _ (by omega)]
      refine ⟨_, by omega, ⟨_, rfl, fun d hd => ?_, fun r hr => ?_⟩, rfl⟩
      · by_cases q : d = k
        · subst q; exact smS_at
        · exact (smS_ne q).trans (z3 d (by omega))
      · exact (smS_o hr).trans (f3 r hr)
  · rw [if_neg (fun w => by rw [nI_le_iff (by omega) (by omega)] at w; omega)]
    let I2 : Nat → smM → Prop := fun x M' => (∀ r' d, (r' < r ∨ (r' = r ∧ d < x)) → d < D → M' 1019 (9 * r' + d) = nI (sqr D T r' d).val) ∧ ∀ r, r ≠ 1019 → M' r = M r
    let Q2 : Option smM → Prop := fun e => (∃ s', r < D ∧ (∃ M', s' = (nI (r + 1), M') ∧ (∀ r' d, r' < r + 1 → d < D → M' 1019 (9 * r' + d) = nI (sqr D T r' d).val) ∧ ∀ r, r ≠ 1019 → M' r = M r) ∧ e = rc s') ∨ Q e
    refine lp_pst D (fun x s => ∃ M', s = (nI x, M') ∧ I2 x M') Q2 ⟨M1, rfl, fun r' d q hd => z1 r' d (by omega) hd, f1⟩ (by omega) ?_
    rintro x s hx ⟨M2, rfl, z2, f2⟩ rc2
    unfold m_X12_squares_b14
    simp only []
    by_cases ex : x = D
    · right
      left
      subst ex
      rw [if_pos (Int32.le_refl _), nI_add_1]
      exact ⟨_, by omega, ⟨M2, rfl, fun r' d h1 h2 => z2 r' d (by omega) h2, f2⟩, rfl⟩
    · rw [if_neg (fun w => by rw [nI_le_iff (by omega) (by omega)] at w; omega)]
      have h18 : M2 1018 = M 1018 := f2 _ (by omega)
      refine lp_pst D (fun k s => ∃ z : Nat, s = (nI z, nI k) ∧ z ≤ k * 9409 ∧ fz p (z : Int) = su (fun k => T r k * T k x) k) (fun e => (∃ s', x < D ∧ (∃ M', s' = (nI (x + 1), M') ∧ I2 (x + 1) M') ∧ e = rc2 s') ∨ Q2 e) ⟨0, rfl, by omega, fz_0⟩ (by omega) ?_
      rintro k s hk ⟨z, rfl, b1, b2⟩ rc3
      unfold m_X12_squares_b25
      simp only []
      by_cases ek : k = D
      · right
        left
        have hzz : z ≤ 9 * 9409 := Nat.le_trans b1 (Nat.mul_le_mul (by omega) (Nat.le_refl _))
        rw [if_pos (by rw [nI_le_iff (by omega) (by omega)]; omega), show M2 1000 = M 1000 from f2 _ (by omega), h0, if_neg (nI_ne0 (by omega) (by omega)), ix9, cl_nI (by omega), g_15.2.2.2.2.1, if_ck2 (by omega) (by omega), smB_e, nI_add_1, rem_nI (by omega) (by omega) (by omega)]
        have ev : nI (z % p) = nI (sqr D T r x).val := by
          subst ek
          unfold sqr
          rw [← b2, fz_nat]
        rw [ev]
        refine ⟨_, by omega, ⟨_, rfl, fun r' d q hd => ?_, fun r hr => ?_⟩, rfl⟩
        · by_cases q2 : r' = r ∧ d = x
          · obtain ⟨rfl, rfl⟩ := q2; exact smS_at
          · exact (smS_ne (by omega)).trans (z2 r' d (by omega) hd)
        · exact (smS_o hr).trans (f2 r hr)
      · left
        have t1 := (T r k).isLt
        have t2 := (T k x).isLt
        have t3 : (T r k).val * (T k x).val ≤ 97 * 97 := Nat.mul_le_mul (by omega) (by omega)
        rw [if_neg (fun w => by rw [nI_le_iff (by omega) (by omega)] at w; omega), ix9, ix9, cl_nI (n := 9 * r + k) (by omega), cl_nI (n := 9 * k + x) (by omega), g_15.2.2.2.1, if_ck2 (by omega) (by omega), if_ck2 (by omega) (by omega), show M2 (1000 + 18) = M 1018 from h18, hT r k (by omega) (by omega), hT k x (by omega) (by omega), nI_mulN, nI_ad, nI_add_1]
        refine ⟨_, by omega, ⟨z + (T r k).val * (T k x).val, rfl, by omega, ?_⟩, rfl⟩
        show _ = su (fun k => T r k * T k x) k + T r k * T k x
        rw [← b2, Int.natCast_add, Int.natCast_mul, ← fz_addz, ← fz_mulz, fz_self, fz_self]
/-- a table does k steps of a row of vectors -/
def PW {p : Nat} [NeZero p] (D : Nat) (W : Nat → Nat → Fin p) (T : Nat → Nat → Fin p) (k : Nat) : Prop := ∀ e d, d < D → su (fun r => W e r * T r d) D = W (e + k) d
theorem PW_sqr {p : Nat} [NeZero p] {D : Nat} {W : Nat → Nat → Fin p} {T : Nat → Nat → Fin p} {k : Nat} (h : PW D W T k) : PW D W (sqr D T) (2 * k) := by
  intro e d hd
  have e1 : su (fun r => W e r * sqr D T r d) D = su (fun r => su (fun k => T k d * (W e r * T r k)) D) D := su_cong (fun r hr => by
    show W e r * su (fun k => T r k * T k d) D = _
    rw [← su_mul]
    exact su_cong (fun k _ => by grind))
  rw [e1, su_swap]
  have e2 : su (fun j => su (fun i => T j d * (W e i * T i j)) D) D = su (fun j => W (e + k) j * T j d) D := su_cong (fun j hj => by
    rw [su_mul, h e j hj]; grind)
  rw [e2, h (e + k) d hd, show e + k + k = e + 2 * k by omega]
theorem half_nI {n : Nat} (h : n < 2147483648) : nI n >>> ((1 : Int32) &&& 31) = nI (n / 2) := pk_shrN (by omega) _ 1 (by decide)
theorem odd_nI {n : Nat} (h : n < 2147483648) : nI n &&& 1 = nI (n % 2) := pk_andN (by omega) 1 (by decide)
theorem m12_often {p D a n : Nat} [NeZero p] {W : Nat → Nat → Fin p} {T : Nat → Nat → Fin p} {M : smM} (hp2 : p ≤ 97) (hD : D ≤ 9) (la : smLn a = 81) (ha : a = 1016 ∨ a = 1017) (h0 : M 1000 0 = nI p) (hDD : M 1000 1 * M 1000 2 = nI D) (hT : ∀ r d, r < D → d < D → M a (9 * r + d) = nI (T r d).val) (hW : PW D W T 1) (hWz : ∀ e d, D ≤ d → W e d = 0) (hv : ∀ d, d < 9 → M 1020 d = nI (W 0 d).val) (hn : n < 2147483648) : ∃ M', m_X12_appliesOften 1000 a (nI n) M = some M' ∧ (∀ d, d < 9 → M' 1020 d = nI (W n d).val) ∧ ∀ r, r ≠ 1018 → r ≠ 1019 → r ≠ 1020 → r ≠ 1021 → M' r = M r := by
  unfold m_X12_appliesOften
  let Q : Option smM → Prop := fun e => ∃ M', e = some M' ∧ (∀ d, d < 9 → M' 1020 d = nI (W n d).val) ∧ ∀ r, r ≠ 1018 → r ≠ 1019 → r ≠ 1020 → r ≠ 1021 → M' r = M r
  refine lp_pst 81 (fun k s => ∃ M', s = (nI k, M') ∧ (∀ j, j < k → M' 1018 j = M a j) ∧ ∀ r, r ≠ 1018 → M' r = M r) Q ⟨M, rfl, fun d hd => by omega, fun _ _ => rfl⟩ (by omega) ?_
  rintro k s hk ⟨M1, rfl, z1, f1⟩ rc
  unfold m_X12_appliesOften_b2
  simp only []
  by_cases ek : k = 81
  · right
    subst ek
    rw [if_pos (show (81 : Int32) ≤ nI 81 from Int32.le_refl _)]
    refine lp_pst 31 (fun t s => ∃ (M' : smM) (l e k : Nat) (T' : Nat → Nat → Fin p), s = (nI l, M') ∧ l < 2 ^ (31 - t) ∧ e + l * k = n ∧ PW D W T' k ∧ (∀ r d, r < D → d < D → M' 1018 (9 * r + d) = nI (T' r d).val) ∧ (∀ d, d < 9 → M' 1020 d = nI (W e d).val) ∧ ∀ r, r ≠ 1018 → r ≠ 1019 → r ≠ 1020 → r ≠ 1021 → M' r = M r) Q ⟨M1, n, 0, 1, T, rfl, by omega, by omega, hW, fun r d hr hd => (z1 _ (by omega)).trans (hT r d hr hd), fun d hd => by rw [f1 _ (by omega)]; exact hv d hd, fun r h1 _ _ _ => f1 r h1⟩ (by omega) ?_
    rintro t s ht ⟨M2, l, e, k, T2, rfl, b1, b2, b3, b4, b5, b6⟩ rc2
    have hl : l < 2147483648 := by
      have : 2 ^ (31 - t) ≤ 2 ^ 31 := Nat.pow_le_pow_right (by omega) (by omega)
      omega
    unfold m_X12_appliesOften_b25
    simp only []
    by_cases el : l = 0
    · right
      subst el
      rw [if_pos (show nI 0 ≤ (0 : Int32) from Int32.le_refl _)]
      refine ⟨M2, rfl, fun d hd => ?_, b6⟩
      rw [b5 d hd, show e = n by omega]
    · left
      have ht2 : t < 31 := by
        rcases Nat.lt_or_ge t 31 with q | q
        · exact q
        · rw [show 31 - t = 0 by omega] at b1; omega
      have hl2 : l / 2 < 2 ^ (31 - (t + 1)) := by
        rw [show 31 - t = (31 - (t + 1)) + 1 by omega, Nat.pow_succ] at b1
        omega
      have m0 : M2 1000 = M 1000 := b6 _ (by omega) (by omega) (by omega) (by omega)
      rw [if_neg (show ¬ nI l ≤ (0 : Int32) from fun w => by rw [show (0 : Int32) = nI 0 from rfl, nI_le_iff hl (by omega)] at w; omega), odd_nI hl, half_nI hl]
      by_cases eo : l % 2 = 1
      · obtain ⟨M3, c1, c2, c3⟩ := m12_applies (a := 1018) (M := M2) (v := W e) (T := T2) hp2 hD g_15.2.2.2.1 (by omega) (by omega) (by omega) (by rw [m0]; exact h0) (by rw [m0]; exact hDD) b5 b4
        obtain ⟨M4, d1, d2, d3⟩ := m12_squares (M := M3) (T := T2) hp2 hD (by rw [c3 _ (by omega) (by omega), m0]; exact h0) (by rw [c3 _ (by omega) (by omega), m0]; exact hDD) (fun r d hr hd => by rw [c3 _ (by omega) (by omega)]; exact b4 r d hr hd)
        rw [eo, if_pos n_11, show m_X12_applies 1000 (1000 + 18) M2 = some M3 from c1, Option.bind_some, d1, Option.bind_some]
        refine ⟨_, ht2, ⟨M4, l / 2, e + k, 2 * k, sqr D T2, rfl, hl2, ?_, (PW_sqr b3), d2, fun d hd => ?_, fun r h1 h2 h3 h4 => ?_⟩, rfl⟩
        · have : l = 2 * (l / 2) + 1 := by omega
          have e2 : l * k = l / 2 * (2 * k) + k := by
            conv => lhs; rw [this]
            rw [Nat.add_mul, Nat.one_mul, Nat.mul_comm 2 (l / 2), Nat.mul_assoc]
          omega
        · rw [d3 _ (by omega) (by omega), c2 d hd]
          congr 2
          unfold apl
          by_cases q : d < D
          · rw [if_pos q, b3 e d q]
          · rw [if_neg q, hWz _ _ (by omega)]
        · rw [d3 r h1 h2, c3 r h3 h4, b6 r h1 h2 h3 h4]
      · obtain ⟨M4, d1, d2, d3⟩ := m12_squares (M := M2) (T := T2) hp2 hD (by rw [m0]; exact h0) (by rw [m0]; exact hDD) b4
        rw [show l % 2 = 0 by omega, if_neg (show ¬ nI 0 = (1 : Int32) by decide), d1, Option.bind_some]
        refine ⟨_, ht2, ⟨M4, l / 2, e, 2 * k, sqr D T2, rfl, hl2, ?_, (PW_sqr b3), d2, fun d hd => ?_, fun r h1 h2 h3 h4 => ?_⟩, rfl⟩
        · have : l = 2 * (l / 2) := by omega
          have e2 : l * k = l / 2 * (2 * k) := by
            conv => lhs; rw [this]
            rw [Nat.mul_comm 2 (l / 2), Nat.mul_assoc]
          omega
        · rw [d3 _ (by omega) (by omega), b5 d hd]
        · rw [d3 r h1 h2, b6 r h1 h2 h3 h4]
  · left
    rw [if_neg (show ¬ (81 : Int32) ≤ nI k from fun w => by rw [show (81 : Int32) = nI 81 from rfl, nI_le_iff (by omega) (by omega)] at w; omega), cl_nI (by omega), g_15.2.2.2.1, la, if_ck2 (by omega) (by omega), if_ck2 (by omega) (by omega), smB_e, nI_add_1, f1 a (by omega)]
    refine ⟨_, by omega, ⟨_, rfl, fun d hd => ?_, fun r hr => ?_⟩, rfl⟩
    · by_cases q : d = k
      · subst q; exact smS_at
      · exact (smS_ne q).trans (z1 d (by omega))
    · exact (smS_o hr).trans (f1 r hr)
