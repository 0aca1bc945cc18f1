/-! drawing in the reference; the call -/
theorem smB2_e {α β ρ : Type} (a : α) (b : β) (f : α → β → Option ρ) : smB2 (some (a, b)) f = f a b := rfl
def wr2 {p : Nat} (M : smM) (o : Nat) (H : Nat → Nat → Fin p) : smM := fun r t => if r = 1001 ∧ 9 * o ≤ t ∧ t < 9 * o + 9 then nI (H ((t - 9 * o) / 3) ((t - 9 * o) % 3)).val else M r t
theorem wr2_o {p : Nat} {M : smM} {o r : Nat} {H : Nat → Nat → Fin p} (h : r ≠ 1001) : wr2 M o H r = M r := by
  funext t
  unfold wr2
  rw [if_neg (fun q => h q.1)]
theorem wr2_out {p : Nat} {M : smM} {o r t : Nat} {H : Nat → Nat → Fin p} (h : t < 9 * o ∨ 9 * o + 9 ≤ t) : wr2 M o H r t = M r t := by
  unfold wr2
  rw [if_neg (by omega)]
theorem wr2_at {p : Nat} {M : smM} {o k l : Nat} {H : Nat → Nat → Fin p} (hk : k < 3) (hl : l < 3) : wr2 M o H 1001 (9 * o + 3 * k + l) = nI (H k l).val := by
  unfold wr2
  rw [if_pos ⟨rfl, by omega, by omega⟩, show (9 * o + 3 * k + l - 9 * o) / 3 = k by omega, show (9 * o + 3 * k + l - 9 * o) % 3 = l by omega]
theorem wr2_self {p : Nat} {M : smM} {o : Nat} {H : Nat → Nat → Fin p} (h : ∀ k l, k < 3 → l < 3 → M 1001 (9 * o + 3 * k + l) = nI (H k l).val) : wr2 M o H = M := by
  funext a t
  by_cases e : a = 1001
  · subst e
    by_cases q : t < 9 * o ∨ 9 * o + 9 ≤ t
    · exact wr2_out q
    · unfold wr2
      rw [if_pos ⟨rfl, by omega, by omega⟩, ← h ((t - 9 * o) / 3) ((t - 9 * o) % 3) (by omega) (by omega)]
      congr 1; omega
  · rw [wr2_o e]
theorem wr2_st {p : Nat} {M : smM} {o a b : Nat} {H : Nat → Nat → Fin p} {w : Fin p} (ha : a < 3) (hb : b < 3) : smS (wr2 M o H) 1001 (9 * o + 3 * a + b) (nI w.val) = wr2 M o (upF H a b w) := by
  funext q t
  by_cases e : q = 1001
  · subst e
    by_cases g : t = 9 * o + 3 * a + b
    · subst g
      rw [smS_at, wr2_at ha hb]
      unfold upF
      rw [if_pos ⟨rfl, rfl⟩]
    · rw [smS_ne g]
      by_cases q : t < 9 * o ∨ 9 * o + 9 ≤ t
      · rw [wr2_out q, wr2_out q]
      · unfold wr2
        rw [if_pos ⟨rfl, by omega, by omega⟩, if_pos ⟨rfl, by omega, by omega⟩]
        unfold upF
        rw [if_neg (by omega)]
  · rw [smS_o e, wr2_o e, wr2_o e]
theorem m12_draw {p o z P : Nat} [NeZero p] {M : smM} {H : Nat → Nat → Fin p} (hp : 2 ≤ p) (hp2 : p ≤ 97) (ho : o < 2) (hz : z < 2147483648) (h0 : M 1000 0 = nI p) (hP : P ≤ 3) (rc20 : (Int64 × Int32 × smM) → Option (Int32 × smM)) : m_X12_drift_j42 1000 (lN z) (nI o) (wr2 M o H) rc20 (nI P) = rc20 (lN (dO P (H, z) P).2, nI (o + 1), wr2 M o (dO P (H, z) P).1) := by
  have w1 : ∀ H' : Nat → Nat → Fin p, wr2 M o H' 1000 = M 1000 := fun H' => wr2_o (by omega)
  unfold m_X12_drift_j42
  refine lp_cnt P (fun j => (lN (dO P (H, z) j).2, nI j, wr2 M o (dO P (H, z) j).1)) rfl (by omega) (fun j hj rc => ?_) (fun rc => ?_)
  · show m_X12_drift_b47 1000 (nI o) (nI P) rc20 rc (lN (dO P (H, z) j).2) (nI j) (wr2 M o (dO P (H, z) j).1) = rc (lN (dO P (H, z) (j + 1)).2, nI (j + 1), wr2 M o (dO P (H, z) (j + 1)).1)
    have hzj := dO_lt (P := P) (s := (H, z)) hz j
    unfold m_X12_drift_b47
    rw [if_neg (fun q => by rw [nI_le_iff (by omega) (by omega)] at q; omega)]
    refine lp_cnt (P - j) (fun i => (lN (dI j (dO P (H, z) j) i).2, nI i, wr2 M o (dI j (dO P (H, z) j) i).1)) rfl (by omega) (fun i hi rc' => ?_) (fun rc' => ?_)
    · show m_X12_drift_b57 1000 (nI o) (nI P) (nI j) rc20 rc rc' (lN (dI j (dO P (H, z) j) i).2) (nI i) (wr2 M o (dI j (dO P (H, z) j) i).1) = rc' (lN (nx (dI j (dO P (H, z) j) i).2), nI (i + 1), wr2 M o (upF (dI j (dO P (H, z) j) i).1 i j (fz p ((nx (dI j (dO P (H, z) j) i).2 : Nat) : Int))))
      have hzi := dI_lt (j := j) hzj i
      have hn := nx_lt (dI j (dO P (H, z) j) i).2
      have ei : (9 : Int32) * nI o + 3 * nI i + nI j = nI (9 * o + 3 * i + j) := by
        rw [show (3 : Int32) = nI 3 from rfl, show (9 : Int32) = nI 9 from rfl, jI_nI, jI_nI, jI_nI, jI_nI, jI_nI, jI_nI, jI_mul, jI_mul, jI_add, jI_add]; congr 1
      have zp : ¬ lN p = 0 := fun q => by
        have := congrArg Int64.toInt q
        rw [lN_toInt (by omega)] at this
        have e0 : (0 : Int64).toInt = 0 := rfl
        omega
      unfold m_X12_drift_b57
      rw [nI_ad, if_neg (fun q => by rw [nI_le_iff (by omega) (by omega)] at q; omega), if_neg (by decide), w1, h0, l64 (show p < 2147483648 by omega), if_neg zp, ei, cl_nI (n := 9 * o + 3 * i + j) (by omega), show smLn (1000 + 1) = 18 from g_1001, if_ck2 (by omega) (by omega), smB_e, nx_64 hzi, lN_rem (by omega) (by omega) (by omega), lN_32, nI_add_1]
      have := wr2_st (M := M) (o := o) (a := i) (b := j) (H := (dI j (dO P (H, z) j) i).1) (w := fz p ((nx (dI j (dO P (H, z) j) i).2 : Nat) : Int)) (by omega) (by omega)
      rw [fz_nat] at this
      rw [show (1000 + 1 : Nat) = 1001 from rfl, this]
    · show m_X12_drift_b57 1000 (nI o) (nI P) (nI j) rc20 rc rc' (lN (dI j (dO P (H, z) j) (P - j)).2) (nI (P - j)) (wr2 M o (dI j (dO P (H, z) j) (P - j)).1) = rc (lN (dI j (dO P (H, z) j) (P - j)).2, nI (j + 1), wr2 M o (dI j (dO P (H, z) j) (P - j)).1)
      unfold m_X12_drift_b57
      rw [nI_ad, if_pos ((nI_le_iff (by omega) (by omega)).mpr (by omega)), nI_add_1]
  · show m_X12_drift_b47 1000 (nI o) (nI P) rc20 rc (lN (dO P (H, z) P).2) (nI P) (wr2 M o (dO P (H, z) P).1) = _
    unfold m_X12_drift_b47
    rw [if_pos ((nI_le_iff (by omega) (by omega)).mpr (Nat.le_refl _)), nI_add_1]
theorem op_drift : Op_drift Rel := by
  intro M1 M2 h x
  have hr := h
  obtain ⟨p, ne, A, B, u, v, F, G, hpar, hs1, hs2, hca, hsl, him⟩ := h
  have hp := (Pr_rng p hpar.1).1
  have hp2 := (Pr_rng p hpar.1).2
  have hA3 := hpar.2.1.2
  have hB3 := hpar.2.2.1.2
  by_cases c : (1 : Int32) ≤ x ∧ x ≤ 999999
  · obtain ⟨z, hz, rfl⟩ := rngI (h := 999999) (x := x) (by omega) (by
      have c1 := c.1
      rw [Int32.le_iff_toInt_le] at c1 ⊢
      have e : (1 : Int32).toInt = 1 := rfl
      have e0 : (0 : Int32).toInt = 0 := rfl
      rw [e] at c1; rw [e0]; omega) c.2
    have hq1 := dO_lt (P := A) (s := (F, z)) (by show z < _; omega) A
    have s1 := m_scatter (o := 0) (z := z) (M := M1) (H := F) hp hp2 (by omega) (by omega) hs1.1 hs1.2.1 hs1.2.2.1 (show (if 0 = 0 then A else B) ≤ 3 from hA3)
    rw [wr_self (show ∀ k l, k < 3 → l < 3 → M1 (2 + 0) (3 * l + k) = nI (F k l).val from hs1.2.2.2.2.2.1)] at s1
    have s2 := m_scatter (o := 1) (z := (dO A (F, z) A).2) (M := wr M1 2 (dO A (F, z) A).1) (H := G) hp hp2 (by omega) hq1 (by unfold wr; rw [fil_o (by omega)]; exact hs1.1) (by unfold wr; rw [fil_o (by omega)]; exact hs1.2.1) (by unfold wr; rw [fil_o (by omega)]; exact hs1.2.2.1) (show (if 1 = 0 then A else B) ≤ 3 from hB3)
    rw [wr_self (show ∀ k l, k < 3 → l < 3 → wr M1 2 (dO A (F, z) A).1 (2 + 1) (3 * l + k) = nI (G k l).val from fun k l hk hl => by
      show wr M1 2 (dO A (F, z) A).1 3 (3 * l + k) = _
      unfold wr
      rw [fil_o (by omega)]; exact hs1.2.2.2.2.2.2 k l hk hl)] at s2
    generalize hF : (dO A (F, z) A).1 = F' at *
    generalize hzz : (dO A (F, z) A).2 = z1 at *
    have s1' : m_X7_scatter (0 + 1) (nI z) 0 M1 = some (nI z1, wr M1 2 F') := by
      rw [← hF, ← hzz]; exact s1
    have s2' : m_X7_scatter (0 + 1) (nI z1) 1 (wr M1 2 F') = some (nI (dO B (G, z1) B).2, wr (wr M1 2 F') 3 (dO B (G, z1) B).1) := s2
    generalize hG : (dO B (G, z1) B).1 = G' at *
    have e1 : m_X11_drift 0 (nI z) M1 = some (nI A * nI B, smS (wr (wr M1 2 F') 3 G') 93 6 0) := by
      unfold m_X11_drift m_X2_forget m_X7_dimension
      rw [m_isWithin, Option.bind_some, b01_t c, if_1, s1', smB2_e, s2', smB2_e, smB_e, Option.bind_some, Option.bind_some, smS_o (by omega)]
      unfold wr
      rw [fil_o (by omega), fil_o (by omega), show M1 (0 + 1) 1 = nI A from hs1.2.1, show M1 (0 + 1) 2 = nI B from hs1.2.2.1]
    have t1 : ∀ rc, m_X12_drift_j42 1000 (lN z) (nI 0) M2 rc (nI A) = rc (lN z1, nI 1, wr2 M2 0 F') := fun rc => by
      have := m12_draw (o := 0) (z := z) (P := A) (M := M2) (H := F) hp hp2 (by omega) (by omega) hs2.1 hA3 rc
      rw [wr2_self (show ∀ k l, k < 3 → l < 3 → M2 1001 (9 * 0 + 3 * k + l) = nI (F k l).val from fun k l hk hl => by rw [show 9 * 0 + 3 * k + l = 3 * k + l by omega]; exact hs2.2.2.2.2.2.1 k l hk hl), hF, hzz] at this
      exact this
    have t2 : ∀ rc, m_X12_drift_j42 1000 (lN z1) (nI 1) (wr2 M2 0 F') rc (nI B) = rc (lN (dO B (G, z1) B).2, nI 2, wr2 (wr2 M2 0 F') 1 G') := fun rc => by
      have := m12_draw (o := 1) (z := z1) (P := B) (M := wr2 M2 0 F') (H := G) hp hp2 (by omega) hq1 (by rw [wr2_o (by omega)]; exact hs2.1) hB3 rc
      rw [wr2_self (show ∀ k l, k < 3 → l < 3 → wr2 M2 0 F' 1001 (9 * 1 + 3 * k + l) = nI (G k l).val from fun k l hk hl => by rw [wr2_out (by omega), show 9 * 1 + 3 * k + l = 9 + 3 * k + l by omega]; exact hs2.2.2.2.2.2.2 k l hk hl), hG] at this
      exact this
    have e2 : m_X12_drift 1000 (nI z) M2 = some (nI A * nI B, wr2 (wr2 M2 0 F') 1 G') := by
      unfold m_X12_drift
      rw [show (1 : Int64) = (1 : Int32).toInt64 from rfl, show (999999 : Int64) = (999999 : Int32).toInt64 from rfl, m12_in, Option.bind_some, b01_t c, if_1, l64 (by omega)]
      refine lp_cnt 2 (fun k => if k = 0 then (lN z, nI 0, M2) else if k = 1 then (lN z1, nI 1, wr2 M2 0 F') else (lN (dO B (G, z1) B).2, nI 2, wr2 (wr2 M2 0 F') 1 G')) rfl (by omega) (fun k hk rc => ?_) (fun rc => ?_)
      · rcases (show k = 0 ∨ k = 1 by omega) with rfl | rfl
        · show m_X12_drift_b20 1000 rc (lN z) (nI 0) M2 = rc (lN z1, nI 1, wr2 M2 0 F')
          unfold m_X12_drift_b20
          rw [if_neg (by decide), if_pos n_00, hs2.2.1, t1]
        · show m_X12_drift_b20 1000 rc (lN z1) (nI 1) (wr2 M2 0 F') = rc (lN (dO B (G, z1) B).2, nI 2, wr2 (wr2 M2 0 F') 1 G')
          unfold m_X12_drift_b20
          rw [if_neg (by decide), if_neg n_10, wr2_o (by omega), hs2.2.2.1, t2]
      · show m_X12_drift_b20 1000 rc (lN (dO B (G, z1) B).2) (nI 2) (wr2 (wr2 M2 0 F') 1 G') = _
        unfold m_X12_drift_b20 m_X12_dimension
        rw [if_pos (by decide), Option.bind_some, wr2_o (by omega), wr2_o (by omega), hs2.2.1, hs2.2.2.1]
    have f1 : ∀ r, r ≠ 2 → r ≠ 3 → wr (wr M1 2 F') 3 G' r = M1 r := fun r h2 h3 => by
      unfold wr; rw [fil_o h3, fil_o h2]
    have f2 : ∀ r, r ≠ 1001 → wr2 (wr2 M2 0 F') 1 G' r = M2 r := fun r h1 => by rw [wr2_o h1, wr2_o h1]
    refine ⟨_, _, _, e1, e2, p, ne, A, B, u, v, F', G', hpar, ?_, ?_, CA.forget, fun s hs => (hsl s hs).fr (fun r h1 h2 => by rw [smS_o (by omega), f1 r (by omega) (by omega)]) (SAME2.of s (fun r h1 h2 => f2 r (by omega))), fun i hi => (him i hi).fr (by rw [smS_o (by omega), f1 _ (by omega) (by omega)]) (fun r h1 h2 => by rw [smS_o (by omega), f1 r (by omega) (by omega)]) (by rw [f2 _ (by omega)]) (fun k _ _ => by rw [f2 _ (by omega)])⟩
    · obtain ⟨q0, q1, q2, q3, q4, q5, q6⟩ := hs1
      unfold SET
      rw [smS_o (show 1 ≠ 93 by omega), f1 1 (by omega) (by omega), smS_o (show 1 + 1 ≠ 93 by omega), smS_o (show 1 + 2 ≠ 93 by omega)]
      refine ⟨q0, q1, q2, q3, q4, fun k l hk hl => ?_, fun k l hk hl => ?_⟩
      · show wr (wr M1 2 F') 3 G' 2 (3 * l + k) = _
        unfold wr
        rw [fil_o (by omega)]
        exact wr_at hk hl
      · exact wr_at hk hl
    · obtain ⟨q0, q1, q2, q3, q4, q5, q6⟩ := hs2
      unfold SET2
      rw [f2 1000 (by omega)]
      refine ⟨q0, q1, q2, q3, q4, fun k l hk hl => ?_, fun k l hk hl => ?_⟩
      · rw [wr2_out (by omega), show 3 * k + l = 9 * 0 + 3 * k + l by omega]
        exact wr2_at hk hl
      · rw [show 9 + 3 * k + l = 9 * 1 + 3 * k + l by omega]
        exact wr2_at hk hl
  · have e1 : m_X11_drift 0 x M1 = some (-1, M1) := by
      unfold m_X11_drift
      rw [m_isWithin, Option.bind_some, b01_f c, if_0]
    have e2 : m_X12_drift 1000 x M2 = some (-1, M2) := by
      unfold m_X12_drift
      rw [show (1 : Int64) = (1 : Int32).toInt64 from rfl, show (999999 : Int64) = (999999 : Int32).toInt64 from rfl, m12_in, Option.bind_some, b01_f c, if_0]
    exact ⟨_, _, _, e1, e2, hr⟩
