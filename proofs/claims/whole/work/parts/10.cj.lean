/-! a member, a stair, by the reference -/
def MB2 (M : smM) (p nm : Nat) [NeZero p] (mx my : Nat → Nat) (tl : Nat → Nat → Fin p) : Prop := nm ≤ 10 ∧ M 1000 34 = nI nm ∧ ∀ k, k < nm → M 1026 k = nI (mx k) ∧ M 1027 k = nI (my k) ∧ (∀ t, t < 9 → M 1028 (9 * k + t) = nI (tl k t).val) ∧ mx k < 1000 ∧ my k < 1000
def WT2 (M : smM) (w : Nat) (wx wy : Nat → Nat) : Prop := w ≤ 20 ∧ M 1000 38 = nI w ∧ ∀ k, k < w → M 1029 k = nI (wx k) ∧ M 1030 k = nI (wy k)
def ST2 (M : smM) (n : Nat) (sx sy : Nat → Nat) : Prop := ∀ k, k < n → M 1022 k = nI (sx k) ∧ M 1023 k = nI (sy k)
theorem m12_leadsNow {p nm i j : Nat} [NeZero p] {mx my : Nat → Nat} {tl : Nat → Nat → Fin p} {c : Nat → Fin p} {M : smM} (h : MB2 M p nm mx my tl) (h10 : nm < 10) (hi : i < 1000) (hj : j < 1000) (hc : ∀ d, d < 9 → M 1031 d = nI (c d).val) : ∃ M', m_X12_leadsNow 1000 (nI i) (nI j) M = some M' ∧ MB2 M' p (nm + 1) (up1 mx nm i) (up1 my nm j) (up1 tl nm c) ∧ (∀ k, k ≠ 34 → M' 1000 k = M 1000 k) ∧ ∀ r, r ≠ 1000 → r ≠ 1026 → r ≠ 1027 → r ≠ 1028 → M' r = M r := by
  obtain ⟨hn, h34, hm⟩ := h
  unfold m_X12_leadsNow
  rw [h34, cl_nI (n := nm) (by omega), g_22.2.2.2.2.1, if_ck2 (by omega) (by omega), smB_e, smS_o (show 1000 ≠ 1000 + 26 by omega), h34, cl_nI (n := nm) (by omega), g_22.2.2.2.2.2.1, if_ck2 (by omega) (by omega), smB_e]
  generalize hA : smS (smS M (1000 + 26) nm (nI i)) (1000 + 27) nm (nI j) = Ma
  have ao : ∀ r, r ≠ 1026 → r ≠ 1027 → Ma r = M r := fun r h1 h2 => by rw [← hA, smS_o h2, smS_o h1]
  have a6 : ∀ k, Ma 1026 k = if k = nm then nI i else M 1026 k := fun k => by
    rw [← hA, smS_o (show (1026 : Nat) ≠ 1000 + 27 by omega)]
    by_cases q : k = nm
    · subst q; rw [if_pos rfl]; exact smS_at
    · rw [if_neg q]; exact smS_ne q
  have a7 : ∀ k, Ma 1027 k = if k = nm then nI j else M 1027 k := fun k => by
    rw [← hA]
    by_cases q : k = nm
    · subst q; rw [if_pos rfl]; exact smS_at
    · rw [if_neg q]
      refine (smS_ne q).trans ?_
      rw [smS_o (show (1000 + 27 : Nat) ≠ 1000 + 26 by omega)]
  let Mb : smM := fio Ma 1028 (9 * nm) (fun d => nI (c d).val) 9
  refine ⟨smS Mb 1000 34 (nI (nm + 1)), ?_, ⟨by omega, smS_at, fun k hk => ?_⟩, fun k hk => ?_, fun r h1 h2 h3 h4 => ?_⟩
  · refine lp_cnt 9 (fun k => (nI k, fio Ma 1028 (9 * nm) (fun d => nI (c d).val) k)) (by rw [fio_0]; rfl) (by omega) (fun k hk rc => ?_) (fun rc => ?_)
    · unfold m_X12_leadsNow_b22
      simp only []
      rw [if_neg (nI_9 hk), fio_o (show (1000 : Nat) ≠ 1028 by omega), ao 1000 (by omega) (by omega), h34, ix9, cl_nI (n := k) (by omega), cl_nI (n := 9 * nm + k) (by omega), g_22.2.2.2.2.2.2.2.2.2, g_22.2.2.2.2.2.2.1, if_ck2 (by omega) (by omega), if_ck2 (by omega) (by omega), smB_e, nI_add_1, fio_o (show (1000 + 31 : Nat) ≠ 1028 by omega), ao (1000 + 31) (by omega) (by omega), hc k hk, show (1000 + 28 : Nat) = 1028 from rfl, fio_s Ma 1028 (9 * nm) k (fun d => nI (c d).val)]
    · unfold m_X12_leadsNow_b22
      simp only []
      rw [if_pos nI_99, smB_e, fio_o (show (1000 : Nat) ≠ 1028 by omega), ao 1000 (by omega) (by omega), h34, nI_add_1]
  · have e6 : smS Mb 1000 34 (nI (nm + 1)) 1026 = Ma 1026 := (smS_o (by omega)).trans (fio_o (by omega))
    have e7 : smS Mb 1000 34 (nI (nm + 1)) 1027 = Ma 1027 := (smS_o (by omega)).trans (fio_o (by omega))
    have e8 : smS Mb 1000 34 (nI (nm + 1)) 1028 = Mb 1028 := smS_o (by omega)
    rw [e6, e7, e8, a6, a7]
    by_cases q : k = nm
    · subst q
      rw [if_pos rfl, if_pos rfl, up1_s, up1_s, up1_s]
      exact ⟨rfl, rfl, fun t ht => fio_in ht, hi, hj⟩
    · rw [if_neg q, if_neg q, up1_n q, up1_n q, up1_n q]
      obtain ⟨b1, b2, b3, b4⟩ := hm k (by omega)
      refine ⟨b1, b2, fun t ht => ?_, b4⟩
      refine Eq.trans (fio_out (by omega)) ?_
      rw [ao 1028 (by omega) (by omega)]; exact b3 t ht
  · rw [smS_ne hk]
    show fio Ma 1028 _ _ 9 1000 k = _
    rw [fio_o (by omega), ao 1000 (by omega) (by omega)]
  · rw [smS_o h1]
    show fio Ma 1028 _ _ 9 r = _
    rw [fio_o h4, ao r h2 h3]
theorem mul_nI {p : Nat} [NeZero p] (hp2 : p ≤ 97) (v : Fin p) {k : Nat} (hk : k < p) : (nI v.val * nI k) - (nI v.val * nI k) / nI p * nI p = nI (fz p (k : Int) * v).val := by
  have a := v.isLt
  have hm : v.val * k ≤ 97 * 97 := Nat.mul_le_mul (by omega) (by omega)
  rw [nI_mulN, rem_nI (by omega) (by omega) (by omega)]
  congr 1
  have : fz p (k : Int) * v = fz p ((v.val * k : Nat) : Int) := by
    rw [Int.natCast_mul, ← fz_mulz, fz_self, r_mc]
  rw [this, fz_nat]
theorem m12_climbs {p n i j q w : Nat} [NeZero p] {sx sy : Nat → Nat} {ρ σ : Nat → Nat → Fin p} {π : Nat → Nat} {wx wy : Nat → Nat} {v s : Nat → Fin p} {M : smM} (hpr : p ∈ PrL) (h0 : M 1000 0 = nI p) (h : SP2 M p n ρ σ π) (hs : ST2 M n sx sy) (hw : WT2 M w wx wy) (h9 : n < 9) (hw18 : w ≤ 18) (hi : i < 1000) (hj : j < 1000) (hv : ∀ d, d < 9 → M 1020 d = nI (v d).val ∧ M 1031 d = nI (- s d).val) (hq : q < 9) (hvq : v q ≠ 0) : ∃ (M' : smM) (sc : Fin p), m_X12_climbs 1000 (nI i) (nI j) (nI q) M = some M' ∧ sc * v q = 1 ∧ SP2 M' p (n + 1) (up1 ρ n (fun d => sc * v d)) (up1 σ n (fun k => if k = n then sc else - (sc * s k))) (up1 π n q) ∧ ST2 M' (n + 1) (up1 sx n i) (up1 sy n j) ∧ WT2 M' (w + 2) (up1 (up1 wx w (i + 1)) (w + 1) i) (up1 (up1 wy w j) (w + 1) (j + 1)) ∧ (∀ k, k ≠ 29 → k ≠ 38 → M' 1000 k = M 1000 k) ∧ ∀ r, r ≠ 1000 → r ≠ 1022 → r ≠ 1023 → r ≠ 1024 → r ≠ 1025 → r ≠ 1029 → r ≠ 1030 → r ≠ 1031 → M' r = M r := by
  obtain ⟨hp, hp2⟩ := Pr_rng p hpr
  obtain ⟨hn9, h29, hr⟩ := h
  have hvp : 0 < (v q).val := by
    rcases Nat.eq_zero_or_pos (v q).val with w | w
    · exact absurd (Fin.ext (by rw [w]; simp)) hvq
    · exact w
  obtain ⟨k, k1, k2, k3, k4⟩ := inv_ex hpr (v q).isLt hvp
  refine ⟨?M', fz p (k : Int), ?e, inv_fz hp k3, ?rest⟩
  case M' => exact (smS (smS (smS (smS (smS (smS (fio (fio (smS (smS (smS (smS M 1022 n (nI i)) 1023 n (nI j)) 1025 n (nI q)) 1031 n 1) 1024 (18 * n) (fun d => nI (fz p (k : Int) * v d).val) 9) 1024 (18 * n + 9) (fun d => nI (if d = n then fz p (k : Int) else - (fz p (k : Int) * s d)).val) 9) 1000 29 (nI (n + 1))) 1029 w (nI (i + 1))) 1030 w (nI j)) 1029 (w + 1) (nI i)) 1030 (w + 1) (nI (j + 1))) 1000 38 (nI (w + 2)))
  case e =>
    unfold m_X12_climbs
    rw [cl_nI (n := q) (by omega), g_15.2.2.2.2.2.1, if_ck2 (by omega) (by omega), show M (1000 + 20) q = _ from (hv q hq).1, m2_inverse hp hp2 (v q).isLt k1 k2 k3 k4 h0, Option.bind_some, h29, cl_nI (n := n) (by omega), g_22.1, if_ck2 (by omega) (by omega), smB_e, smS_o (show (1000 : Nat) ≠ 1000 + 22 by omega), h29, cl_nI (n := n) (by omega), g_22.2.1, if_ck2 (by omega) (by omega), smB_e, smS_o (show (1000 : Nat) ≠ 1000 + 23 by omega), smS_o (show (1000 : Nat) ≠ 1000 + 22 by omega), h29, cl_nI (n := n) (by omega), g_22.2.2.2.1, if_ck2 (by omega) (by omega), smB_e, smS_o (show (1000 : Nat) ≠ 1000 + 25 by omega), smS_o (show (1000 : Nat) ≠ 1000 + 23 by omega), smS_o (show (1000 : Nat) ≠ 1000 + 22 by omega), h29, cl_nI (n := n) (by omega), g_22.2.2.2.2.2.2.2.2.2, if_ck2 (by omega) (by omega), smB_e]
    show smLp _ smF ((0 : Int32), smS (smS (smS (smS M 1022 n (nI i)) 1023 n (nI j)) 1025 n (nI q)) 1031 n 1) = _
    generalize hA : smS (smS (smS (smS M 1022 n (nI i)) 1023 n (nI j)) 1025 n (nI q)) 1031 n 1 = Ma
    have ao : ∀ r, r ≠ 1022 → r ≠ 1023 → r ≠ 1025 → r ≠ 1031 → Ma r = M r := fun r h1 h2 h3 h4 => by rw [← hA, smS_o h4, smS_o h3, smS_o h2, smS_o h1]
    have a0 : Ma 1000 = M 1000 := ao _ (by omega) (by omega) (by omega) (by omega)
    have a20 : Ma 1020 = M 1020 := ao _ (by omega) (by omega) (by omega) (by omega)
    have a31 : ∀ d, d < 9 → Ma 1031 d = nI (if d = n then (1 : Fin p) else - s d).val := fun d hd => by
      rw [← hA]
      by_cases e : d = n
      · subst e
        rw [if_pos rfl]
        have : (1 : Fin p).val = 1 := by
          show 1 % p = 1
          exact Nat.mod_eq_of_lt (by omega)
        rw [this]
        exact smS_at
      · rw [if_neg e]
        refine (smS_ne e).trans ?_
        rw [smS_o (by omega), smS_o (by omega), smS_o (by omega)]
        exact (hv d hd).2
    have val : ∀ d, d < 9 → (nI (if d = n then (1 : Fin p) else - s d).val * nI k) - (nI (if d = n then (1 : Fin p) else - s d).val * nI k) / nI p * nI p = nI (if d = n then fz p (k : Int) else - (fz p (k : Int) * s d)).val := fun d hd => by
      rw [mul_nI hp2 _ k2]
      congr 2
      by_cases e : d = n
      · rw [if_pos e, if_pos e]; grind
      · rw [if_neg e, if_neg e]; grind
    let S : Nat → smM := fun x => fio (fio Ma 1024 (18 * n) (fun d => nI (fz p (k : Int) * v d).val) x) 1024 (18 * n + 9) (fun d => nI (if d = n then fz p (k : Int) else - (fz p (k : Int) * s d)).val) x
    have So : ∀ x r, r ≠ 1024 → S x r = Ma r := fun x r hr => (fio_o hr).trans (fio_o hr)
    refine lp_cnt 9 (fun x => (nI x, S x)) ?_ (by omega) (fun x hx rc => ?_) (fun rc => ?_)
    · have : S 0 = Ma := by
        show fio (fio Ma 1024 _ _ 0) 1024 _ _ 0 = _
        rw [fio_0, fio_0]
      rw [this]; rfl
    · unfold m_X12_climbs_b55
      simp only []
      have swap : smS (S x) 1024 (18 * n + x) (nI (fz p (k : Int) * v x).val) = fio (fio Ma 1024 (18 * n) (fun d => nI (fz p (k : Int) * v d).val) (x + 1)) 1024 (18 * n + 9) (fun d => nI (if d = n then fz p (k : Int) else - (fz p (k : Int) * s d)).val) x := by
        show smS (fio (fio Ma 1024 _ _ x) 1024 _ _ x) 1024 _ _ = _
        rw [← fio_s]
        funext a b
        unfold smS fio upd
        by_cases qa : a = 1024
        · subst qa
          simp only [if_true]
          by_cases qb : b = 18 * n + x
          · subst qb
            rw [if_pos rfl, if_neg (by omega), if_pos rfl]
          · rw [if_neg qb]
            by_cases qc : 18 * n + 9 ≤ b ∧ b < 18 * n + 9 + x
            · rw [if_pos qc, if_pos qc]
            · rw [if_neg qc, if_neg qc, if_neg qb]
        · simp [qa]
      rw [if_neg (nI_9 hx), So x 1000 (by omega), a0, h29, h0, ix18, cl_nI (n := x) (by omega), cl_nI (n := 18 * n + x) (by omega), g_15.2.2.2.2.2.1, if_ck2 (by omega) (by omega), if_neg (nI_ne0 (by omega) (by omega)), g_22.2.2.1, if_ck2 (by omega) (by omega), smB_e, So x (1000 + 20) (by omega), show Ma (1000 + 20) = M 1020 from a20, (hv x hx).1, mul_nI hp2 (v x) k2, show (1000 + 24 : Nat) = 1024 from rfl, swap]
      rw [fio_o (show (1000 : Nat) ≠ 1024 by omega), fio_o (show (1000 : Nat) ≠ 1024 by omega), a0, h29, h0, ix189, cl_nI (n := 18 * n + 9 + x) (by omega), g_22.2.2.2.2.2.2.2.2.2, if_ck2 (by omega) (by omega), if_neg (nI_ne0 (by omega) (by omega)), if_ck2 (by omega) (by omega), smB_e, fio_o (show (1000 + 31 : Nat) ≠ 1024 by omega), fio_o (show (1000 + 31 : Nat) ≠ 1024 by omega), show Ma (1000 + 31) x = _ from a31 x hx, val x hx, fio_s _ 1024 (18 * n + 9) x (fun d => nI (if d = n then fz p (k : Int) else - (fz p (k : Int) * s d)).val), nI_add_1]
    · unfold m_X12_climbs_b55
      simp only []
      have b38 : M 1000 38 = nI w := hw.2.1
      rw [if_pos nI_99, smB_e, So 9 1000 (by omega), a0, h29, nI_add_1]
      have c38 : ∀ X : smM, X 1000 = S 9 1000 → smS X 1000 29 (nI (n + 1)) 1000 38 = nI w := fun X hX => by
        rw [smS_ne (by omega), hX, So 9 1000 (by omega), a0, b38]
      rw [c38 (S 9) rfl, cl_nI (n := w) (by omega), g_22.2.2.2.2.2.2.2.1, if_ck2 (by omega) (by omega), smB_e, nI_add_1, smS_o (show (1000 : Nat) ≠ 1000 + 29 by omega), c38 (S 9) rfl, cl_nI (n := w) (by omega), g_22.2.2.2.2.2.2.2.2.1, if_ck2 (by omega) (by omega), smB_e, smS_o (show (1000 : Nat) ≠ 1000 + 30 by omega), smS_o (show (1000 : Nat) ≠ 1000 + 29 by omega), c38 (S 9) rfl, nI_add_1, cl_nI (n := w + 1) (by omega), if_ck2 (by omega) (by omega), smB_e, smS_o (show (1000 : Nat) ≠ 1000 + 29 by omega), smS_o (show (1000 : Nat) ≠ 1000 + 30 by omega), smS_o (show (1000 : Nat) ≠ 1000 + 29 by omega), c38 (S 9) rfl, nI_add_1, cl_nI (n := w + 1) (by omega), if_ck2 (by omega) (by omega), smB_e, smS_o (show (1000 : Nat) ≠ 1000 + 30 by omega), smS_o (show (1000 : Nat) ≠ 1000 + 29 by omega), smS_o (show (1000 : Nat) ≠ 1000 + 30 by omega), smS_o (show (1000 : Nat) ≠ 1000 + 29 by omega), c38 (S 9) rfl, smB_e, show (2 : Int32) = nI 2 from rfl, nI_ad, nI_add_1]
  case rest =>
    generalize hA : smS (smS (smS (smS M 1022 n (nI i)) 1023 n (nI j)) 1025 n (nI q)) 1031 n 1 = Ma
    generalize hB : fio (fio Ma 1024 (18 * n) (fun d => nI (fz p (k : Int) * v d).val) 9) 1024 (18 * n + 9) (fun d => nI (if d = n then fz p (k : Int) else - (fz p (k : Int) * s d)).val) 9 = Mb
    generalize hC : smS (smS (smS (smS (smS (smS Mb 1000 29 (nI (n + 1))) 1029 w (nI (i + 1))) 1030 w (nI j)) 1029 (w + 1) (nI i)) 1030 (w + 1) (nI (j + 1))) 1000 38 (nI (w + 2)) = Mc
    have co : ∀ r, r ≠ 1000 → r ≠ 1029 → r ≠ 1030 → Mc r = Mb r := fun r h1 h2 h3 => by rw [← hC, smS_o h1, smS_o h3, smS_o h2, smS_o h3, smS_o h2, smS_o h1]
    have bo : ∀ r, r ≠ 1024 → Mb r = Ma r := fun r h1 => by rw [← hB, fio_o h1, fio_o h1]
    have ao : ∀ r, r ≠ 1022 → r ≠ 1023 → r ≠ 1025 → r ≠ 1031 → Ma r = M r := fun r h1 h2 h3 h4 => by rw [← hA, smS_o h4, smS_o h3, smS_o h2, smS_o h1]
    refine ⟨⟨by omega, ?_, fun r hrn => ⟨fun d hd => ?_, ?_, ?_⟩⟩, fun r hrn => ?_, ⟨by omega, ?_, fun r hrn => ?_⟩, fun r h1 h2 => ?_, fun r h1 h2 h3 h4 h5 h6 h7 h8 => ?_⟩
    · rw [← hC, smS_ne (by omega), smS_o (by omega), smS_o (by omega), smS_o (by omega), smS_o (by omega), smS_at]
    · rw [co 1024 (by omega) (by omega) (by omega), ← hB]
      by_cases e : r = n
      · subst e
        rw [up1_s, up1_s, fio_out (by omega), fio_in hd, fio_in hd]
        exact ⟨rfl, rfl⟩
      · rw [up1_n e, up1_n e, fio_out (by omega), fio_out (by omega), fio_out (by omega), fio_out (by omega), ao 1024 (by omega) (by omega) (by omega) (by omega)]
        exact (hr r (by omega)).1 d hd
    · rw [co 1025 (by omega) (by omega) (by omega), bo 1025 (by omega), ← hA, smS_o (by omega)]
      by_cases e : r = n
      · subst e; rw [smS_at, up1_s]
      · rw [smS_ne e, up1_n e, smS_o (by omega), smS_o (by omega)]; exact (hr r (by omega)).2.1
    · by_cases e : r = n
      · subst e; rw [up1_s]; exact hq
      · rw [up1_n e]; exact (hr r (by omega)).2.2
    · rw [co 1022 (by omega) (by omega) (by omega), bo 1022 (by omega), co 1023 (by omega) (by omega) (by omega), bo 1023 (by omega), ← hA, smS_o (show (1022 : Nat) ≠ 1031 by omega), smS_o (show (1022 : Nat) ≠ 1025 by omega), smS_o (show (1022 : Nat) ≠ 1023 by omega), smS_o (show (1023 : Nat) ≠ 1031 by omega), smS_o (show (1023 : Nat) ≠ 1025 by omega)]
      by_cases e : r = n
      · subst e; rw [smS_at, smS_at, up1_s, up1_s]; exact ⟨rfl, rfl⟩
      · rw [smS_ne e, smS_ne e, up1_n e, up1_n e, smS_o (show (1023 : Nat) ≠ 1022 by omega)]; exact hs r (by omega)
    · rw [← hC, smS_at]
    · have e9 : Mc 1029 r = if r = w + 1 then nI i else if r = w then nI (i + 1) else M 1029 r := by
        rw [← hC, smS_o (show (1029 : Nat) ≠ 1000 by omega), smS_o (show (1029 : Nat) ≠ 1030 by omega)]
        by_cases q1 : r = w + 1
        · subst q1; rw [smS_at, if_pos rfl]
        · rw [smS_ne q1, if_neg q1, smS_o (show (1029 : Nat) ≠ 1030 by omega)]
          by_cases q2 : r = w
          · subst q2; rw [smS_at, if_pos rfl]
          · rw [smS_ne q2, if_neg q2, smS_o (by omega), bo 1029 (by omega), ao 1029 (by omega) (by omega) (by omega) (by omega)]
      have e10 : Mc 1030 r = if r = w + 1 then nI (j + 1) else if r = w then nI j else M 1030 r := by
        rw [← hC, smS_o (show (1030 : Nat) ≠ 1000 by omega)]
        by_cases q1 : r = w + 1
        · subst q1; rw [smS_at, if_pos rfl]
        · rw [smS_ne q1, if_neg q1, smS_o (show (1030 : Nat) ≠ 1029 by omega)]
          by_cases q2 : r = w
          · subst q2; rw [smS_at, if_pos rfl]
          · rw [smS_ne q2, if_neg q2, smS_o (show (1030 : Nat) ≠ 1029 by omega), smS_o (by omega), bo 1030 (by omega), ao 1030 (by omega) (by omega) (by omega) (by omega)]
      rw [e9, e10]
      by_cases q1 : r = w + 1
      · subst q1; rw [if_pos rfl, if_pos rfl, up1_s, up1_s]; exact ⟨rfl, rfl⟩
      · rw [if_neg q1, if_neg q1, up1_n q1, up1_n q1]
        by_cases q2 : r = w
        · subst q2; rw [if_pos rfl, if_pos rfl, up1_s, up1_s]; exact ⟨rfl, rfl⟩
        · rw [if_neg q2, if_neg q2, up1_n q2, up1_n q2]; exact hw.2.2 r (by omega)
    · rw [← hC, smS_ne h2, smS_o (by omega), smS_o (by omega), smS_o (by omega), smS_o (by omega), smS_ne h1, bo 1000 (by omega), ao 1000 (by omega) (by omega) (by omega) (by omega)]
    · rw [co r h1 h6 h7, bo r h4, ao r h2 h3 h5 h8]
