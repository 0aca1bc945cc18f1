/-! the calls that change the field -/
theorem rel_moved {M1 M2 M1a M1b M2b : smM} {p p' : Nat} (ne' : NeZero p') {A B u v : Nat} {F G : Nat → Nat → Fin p'} (hpp : p ≤ 97) (hpar : PARAM p' A B u v) (hsl : ∀ s, s < 4 → SLOT M1 M2 s p) (him : ∀ i, i < 2 → IMG M1 M2 i) (ea : ∀ r, 3 < r → M1a r = M1 r) (mv : ∀ s, s < 4 → MVD M1a M1b s p') (eb : ∀ r, (r < 13 ∨ 93 ≤ r) → M1b r = M1a r) (hs1 : SET M1a 1 p' A B u v F G) (dr : ∀ s, s < 4 → DR (bfm M2 p') M2b s) (e2 : ∀ r, 1001 < r → (r < 1003 ∨ 1006 < r) → M2b r = bfm M2 p' r) (hs2 : SET2 M2b p' A B u v F G) : Rel (smS M1b 93 6 0) M2b := by
  have hp' := Pr_rng p' hpar.1
  refine ⟨p', ne', A, B, u, v, F, G, hpar, hs1.fr (fun r h1 h2 => by rw [smS_o (by omega), eb r (by omega)]), hs2, CA.forget, fun s hs => ?_, fun i hi => ?_⟩
  · have h0 : SLOT M1a M2 s p := (hsl s hs).fr (fun r h1 h2 => ea r (by omega)) (SAME2.rf M2 s)
    let M3 : smM := fun r => if r ≤ 1001 then bfm M2 p' r else M2b r
    have h3 : ∀ r, 1001 < r → M3 r = M2b r := fun r hr => by
      show (if r ≤ 1001 then bfm M2 p' r else M2b r) = _
      rw [if_neg (by omega)]
    have h3' : ∀ r, r ≤ 1001 → M3 r = bfm M2 p' r := fun r hr => by
      show (if r ≤ 1001 then bfm M2 p' r else M2b r) = _
      rw [if_pos hr]
    have h1 : SLOT M1b M3 s p' := h0.move hs hpp hp'.1 hp'.2 (mv s hs) (by
      obtain ⟨a, b⟩ := dr s hs
      unfold DR
      rw [h3 1003 (by omega), h3 1004 (by omega), h3 1005 (by omega), h3 1006 (by omega)]
      exact ⟨a, b⟩) (fun r hr => by
        by_cases c : r ≤ 1001
        · exact h3' r c
        · rw [h3 r (by omega)]; exact e2 r (by omega) hr)
    exact h1.fr (fun r h1 h2 => smS_o (by omega)) (SAME2.of s (fun r h1 h2 => (h3 r (by omega)).symm))
  · refine (him i hi).fr ?_ (fun r h1 h2 => ?_) ?_ (fun k h1 h2 => ?_)
    · rw [smS_o (by omega), eb _ (by omega), ea _ (by omega)]
    · rw [smS_o (by omega), eb _ (by omega), ea _ (by omega)]
    · rw [e2 _ (by omega) (by omega), bfm_o (by omega) (by omega) (by omega) (by omega)]
    · rw [e2 _ (by omega) (by omega), bfm_o (by omega) (by omega) (by omega) (by omega)]
theorem slot_k {M1 M2 : smM} {s p : Nat} (h : SLOT M1 M2 s p) (q : M2 1002 s = 1) : ∃ n, n ≤ 8 ∧ M2 1003 s = nI n := by
  obtain ⟨-, -, κ, a3, a4, a5⟩ := h
  rcases a5 with rfl | ⟨rfl, n, c, x, y, c1, c2, c3, c4, c5⟩ | ⟨rfl, -⟩
  · rw [a4] at q; exact absurd q (by decide)
  · exact ⟨n, c1, c4⟩
  · rw [a4] at q; exact absurd q (by decide)
theorem op_field : Op_field Rel := by
  intro M1 M2 h x
  have hr := h
  obtain ⟨p, ne, A, B, u, v, F, G, hpar, hs1, hs2, hca, hsl, him⟩ := h
  have hp97 := (Pr_rng p hpar.1).2
  have hout : ∀ (y : Int32), ¬ ((2 : Int32) ≤ y ∧ y ≤ 97) → m_X11_field 0 y M1 = some (-1, M1) ∧ m_X12_field 1000 y M2 = some (-1, M2) := fun y c => by
    unfold m_X11_field m_X12_field m_X11_isPrimeOfRange
    rw [m_isWithin, Option.bind_some, b01_f c, if_0, Option.bind_some, if_0, show (2 : Int64) = (2 : Int32).toInt64 from rfl, show (97 : Int64) = (97 : Int32).toInt64 from rfl, m12_in, Option.bind_some, b01_f c, if_0]
    exact ⟨rfl, rfl⟩
  by_cases c : (2 : Int32) ≤ x ∧ x ≤ 97
  · obtain ⟨q, hq, rfl⟩ := rngI (h := 97) (x := x) (by omega) (by
      have c1 := c.1
      rw [Int32.le_iff_toInt_le] at c1 ⊢
      have e : (2 : Int32).toInt = 2 := rfl
      have e0 : (0 : Int32).toInt = 0 := rfl
      rw [e] at c1; rw [e0]; omega) c.2
    have hq2 : 2 ≤ q := (nI_le_iff (a := 2) (by omega) (by omega)).mp c.1
    by_cases hpr : q ∈ PrL
    · haveI : NeZero q := ⟨by omega⟩
      obtain ⟨M1a, e1, k1, k2⟩ := m_setMove (p' := q) t7_d.1 hq2 hq hp97 hs1
      obtain ⟨M1b, f1, f2, f3⟩ := m_moveSlots (p := q) (M := M1a) hq2 hq k1.1 (fun s hs => by
        obtain ⟨a1, a2, -⟩ := hsl s hs
        rw [k2 _ (by omega), k2 _ (by omega)]
        exact ⟨a1, a2⟩)
      have hc4 : ∀ s, s < 4 → bfm M2 q 1002 s = 1 → ∃ n, n ≤ 8 ∧ bfm M2 q 1003 s = nI n := fun s hs => by
        rw [bfm_o (by omega) (by omega) (by omega) (by omega), bfm_o (by omega) (by omega) (by omega) (by omega)]
        exact slot_k (hsl s hs)
      have g1 := m12_becomes (M := M2) hq2 hq (fun s hs => slot_k (hsl s hs))
      obtain ⟨d1, d2, d3, d4, -⟩ := dnx_ok hc4 4 (Nat.le_refl 4)
      have e : m_X11_field 0 (nI q) M1 = some (nI p, smS M1b 93 6 0) := by
        unfold m_X11_field m_X2_forget
        rw [m_isPrime hq2 hq, Option.bind_some, b01_t hpr, if_1, show m_X7_moveToField (0 + 1) (nI q) M1 = some M1a from e1, Option.bind_some, f1, Option.bind_some, smB_e, Option.bind_some, show M1 (0 + 1) 0 = nI p from hs1.1]
      have e2 : m_X12_field 1000 (nI q) M2 = some (nI p, dnx (bfm M2 q) 4) := by
        unfold m_X12_field
        rw [show (2 : Int64) = (2 : Int32).toInt64 from rfl, show (97 : Int64) = (97 : Int32).toInt64 from rfl, m12_in, Option.bind_some, b01_t c, if_1, m12_isPrime hq2 hq, Option.bind_some, b01_t hpr, if_1, g1, Option.bind_some, hs2.1]
      refine ⟨_, _, _, e, e2, rel_moved inferInstance hp97 ⟨hpr, hpar.2⟩ hsl him (fun r hr => k2 r (by omega)) f2 f3 k1 d4 (fun r h1 h2 => d1 r h2) ?_⟩
      obtain ⟨t0, t1, t2, t3, t4, t5, t6⟩ := hs2
      have hv : ∀ a : Fin p, a.val < 2147483648 := fun a => by have := a.isLt; omega
      refine ⟨?_, ?_, ?_, ?_, ?_, fun k l hk hl => ?_, fun k l hk hl => ?_⟩
      · rw [d1 _ (by omega)]; exact bfm_0
      · rw [d1 _ (by omega), bfm_00 (by omega)]; exact t1
      · rw [d1 _ (by omega), bfm_00 (by omega)]; exact t2
      · rw [d1 _ (by omega), bfm_00 (by omega)]; exact t3
      · rw [d1 _ (by omega), bfm_00 (by omega)]; exact t4
      · rw [d1 _ (by omega), bfm_1 (by omega), t5 k l hk hl, rm_nI hq2 hq (hv _), fz_nat]
      · rw [d1 _ (by omega), bfm_1 (by omega), t6 k l hk hl, rm_nI hq2 hq (hv _), fz_nat]
    · have e : m_X11_field 0 (nI q) M1 = some (-1, M1) := by
        unfold m_X11_field
        rw [m_isPrime hq2 hq, Option.bind_some, b01_f hpr, if_0]
      have e2 : m_X12_field 1000 (nI q) M2 = some (-1, M2) := by
        unfold m_X12_field
        rw [show (2 : Int64) = (2 : Int32).toInt64 from rfl, show (97 : Int64) = (97 : Int32).toInt64 from rfl, m12_in, Option.bind_some, b01_t c, if_1, m12_isPrime hq2 hq, Option.bind_some, b01_f hpr, if_0]
      exact ⟨_, _, _, e, e2, hr⟩
  · obtain ⟨e, e2⟩ := hout x c
    exact ⟨_, _, _, e, e2, hr⟩
/-! going back -/
theorem m12_backl {i p A B u v : Nat} [NeZero p] {F G : Nat → Nat → Fin p} {M Mb : smM} (hi : i < 2) (hI : IM2 M i p A B u v F G) (h0 : Mb 1000 0 = nI p) (e13 : ∀ k, Mb 1013 k = M 1013 k) : ∃ M', smLp (fun rc q => m_X12_goBack_b89 1000 (nI (23 * i)) rc q.1 q.2) smF ((0 : Int32), smS (smS (smS (smS Mb 1000 1 (nI A)) 1000 2 (nI B)) 1000 3 (nI u)) 1000 4 (nI v)) = some (nI A * nI B, M') ∧ SET2 M' p A B u v F G ∧ ∀ r, 1001 < r → M' r = Mb r := by
  obtain ⟨h1, h2, h3, h4, h5, h6, h7⟩ := hI
  generalize hM : smS (smS (smS (smS Mb 1000 1 (nI A)) 1000 2 (nI B)) 1000 3 (nI u)) 1000 4 (nI v) = M5
  have f5 : ∀ r, r ≠ 1000 → M5 r = Mb r := fun r hr => by rw [← hM, smS_o hr, smS_o hr, smS_o hr, smS_o hr]
  have v0 : M5 1000 0 = nI p := by rw [← hM, smS_ne (by omega), smS_ne (by omega), smS_ne (by omega), smS_ne (by omega)]; exact h0
  have v1 : M5 1000 1 = nI A := by rw [← hM, smS_ne (by omega), smS_ne (by omega), smS_ne (by omega), smS_at]
  have v2 : M5 1000 2 = nI B := by rw [← hM, smS_ne (by omega), smS_ne (by omega), smS_at]
  have v3 : M5 1000 3 = nI u := by rw [← hM, smS_ne (by omega), smS_at]
  have v4 : M5 1000 4 = nI v := by rw [← hM, smS_at]
  refine lp_post (ρ := Int32 × smM) 18 (fun k q => ∃ M' : smM, q = (nI k, M') ∧ (∀ r, r ≠ 1001 → M' r = M5 r) ∧ ∀ j, j < k → M' 1001 j = M 1013 (23 * i + 5 + j)) (fun e => ∃ M', e = some (nI A * nI B, M') ∧ SET2 M' p A B u v F G ∧ ∀ r, 1001 < r → M' r = Mb r) ⟨M5, rfl, fun _ _ => rfl, fun j hj => absurd hj (Nat.not_lt_zero j)⟩ (by omega) ?_
  rintro k q hk ⟨M', rfl, g1, g3⟩
  by_cases e9 : k = 18
  · right
    subst e9
    refine ⟨_, ⟨M', rfl, ⟨?_, ?_, ?_, ?_, ?_, fun k l hk hl => ?_, fun k l hk hl => ?_⟩, fun r hr => ?_⟩, fun rc => ?_⟩
    · rw [g1 _ (by omega)]; exact v0
    · rw [g1 _ (by omega)]; exact v1
    · rw [g1 _ (by omega)]; exact v2
    · rw [g1 _ (by omega)]; exact v3
    · rw [g1 _ (by omega)]; exact v4
    · rw [g3 _ (by omega)]; exact h6 k l hk hl
    · rw [g3 _ (by omega)]; exact h7 k l hk hl
    · rw [g1 r (by omega), f5 r (by omega)]
    · show m_X12_goBack_b89 1000 (nI (23 * i)) rc (nI 18) M' = _
      unfold m_X12_goBack_b89 m_X12_dimension
      rw [if_pos (by decide), Option.bind_some, g1 1000 (by omega), v1, v2]
  · left
    refine ⟨(nI (k + 1), smS M' 1001 k (M 1013 (23 * i + 5 + k))), by omega, ⟨_, rfl, fun r h1 => by rw [smS_o h1]; exact g1 r h1, fun j hj => ?_⟩, fun rc => ?_⟩
    · by_cases ej : j = k
      · subst ej
        exact smS_at
      · rw [smS_ne ej]
        exact g3 j (by omega)
    · show m_X12_goBack_b89 1000 (nI (23 * i)) rc (nI k) M' = _
      unfold m_X12_goBack_b89
      rw [if_neg (fun q => by rw [show (18 : Int32) = nI 18 from rfl, nI_le_iff (by omega) (by omega)] at q; omega), cl_nI (n := k) (by omega), show nI (23 * i) + 5 = nI (23 * i + 5) from nI_ad _ 5, nI_ad, cl_nI (n := 23 * i + 5 + k) (by omega)]
      rw [show smLn (1000 + 13) = 46 from g_1013, if_ck2 (by omega) (by omega), show smLn (1000 + 1) = 18 from g_1001, if_ck2 (by omega) (by omega), smB_e, nI_add_1, g1 (1000 + 13) (by omega), f5 (1000 + 13) (by omega), show Mb (1000 + 13) (23 * i + 5 + k) = _ from e13 _]
theorem op_goBack : Op_goBack Rel := by
  intro M1 M2 h x
  have hr := h
  obtain ⟨p, ne, A, B, u, v, F, G, hpar, hs1, hs2, hca, hsl, him⟩ := h
  have hp97 := (Pr_rng p hpar.1).2
  by_cases c : (0 : Int32) ≤ x ∧ x ≤ 1
  · obtain ⟨i, hi, rfl⟩ := rngI (h := 1) (by omega) c.1 c.2
    rcases him i (by omega) with ⟨a, b⟩ | ⟨a, b, q, ne', A', B', u', v', F', G', hq, hS, hI⟩
    · have e : m_X11_goBack 0 (nI i) M1 = some (-2, M1) := by
        unfold m_X11_goBack
        rw [m_isWithin, Option.bind_some, b01_t c, if_1, cl_nI (n := i) (by omega), show smLn (0 + 11) = 2 from g_11, if_ck2 (by omega) (by omega), show M1 (0 + 11) i = 0 from a, if_0]
      have e2 : m_X12_goBack 1000 (nI i) M2 = some (-2, M2) := by
        unfold m_X12_goBack
        rw [show (0 : Int64) = (0 : Int32).toInt64 from rfl, show (1 : Int64) = (1 : Int32).toInt64 from rfl, m12_in, Option.bind_some, b01_t c, if_1, cl_nI (n := i) (by omega), show smLn (1000 + 14) = 2 from g_1014, if_ck2 (by omega) (by omega), show M2 (1000 + 14) i = 0 from b, if_0]
      exact ⟨_, _, _, e, e2, hr⟩
    · obtain ⟨hq2, hq97⟩ := Pr_rng q hq.1
      obtain ⟨M1a, e1, k1, k2⟩ := m_setCopy (t := 1) (s := 5 + 3 * i) t7_d.1 (t7_d.2 i (by omega)) (by omega) hS
      obtain ⟨M1b, f1, f2, f3⟩ := m_moveSlots (p := q) (M := M1a) hq2 hq97 k1.1 (fun s hs => by
        obtain ⟨a1, a2, -⟩ := hsl s hs
        rw [k2 _ (by omega), k2 _ (by omega)]
        exact ⟨a1, a2⟩)
      have hc4 : ∀ s, s < 4 → bfm M2 q 1002 s = 1 → ∃ n, n ≤ 8 ∧ bfm M2 q 1003 s = nI n := fun s hs => by
        rw [bfm_o (by omega) (by omega) (by omega) (by omega), bfm_o (by omega) (by omega) (by omega) (by omega)]
        exact slot_k (hsl s hs)
      have g1 := m12_becomes (M := M2) hq2 hq97 (fun s hs => slot_k (hsl s hs))
      obtain ⟨d1, d2, d3, d4, -⟩ := dnx_ok hc4 4 (Nat.le_refl 4)
      have d13 : ∀ k, dnx (bfm M2 q) 4 1013 k = M2 1013 k := fun k => by rw [d1 _ (by omega), bfm_o (by omega) (by omega) (by omega) (by omega)]
      obtain ⟨M2b, l1, l2, l3⟩ := m12_backl (M := M2) (Mb := dnx (bfm M2 q) 4) (by omega) hI (by rw [d1 _ (by omega)]; exact bfm_0) d13
      have e : m_X11_goBack 0 (nI i) M1 = some (nI A' * nI B', smS M1b 93 6 0) := by
        unfold m_X11_goBack m_X2_forget m_X7_dimension
        rw [m_isWithin, Option.bind_some, b01_t c, if_1, cl_nI (n := i) (by omega), show smLn (0 + 11) = 2 from g_11, if_ck2 (by omega) (by omega), show M1 (0 + 11) i = 1 from a, if_1, show smLn (0 + 4) = 2 from g_4, if_ck2 (by omega) (by omega), show 0 + 4 + 1 + 3 * i = 5 + 3 * i by omega, show m_X7_copyFrom (0 + 1) (5 + 3 * i) M1 = some M1a from e1, Option.bind_some, f1, Option.bind_some, smB_e, Option.bind_some, Option.bind_some, smS_o (by omega), f3 (0 + 1) (by omega), show M1a (0 + 1) 1 = nI A' from k1.2.1, show M1a (0 + 1) 2 = nI B' from k1.2.2.1]
      have e2 : m_X12_goBack 1000 (nI i) M2 = some (nI A' * nI B', M2b) := by
        obtain ⟨j1, j2, j3, j4, j5, -⟩ := hI
        unfold m_X12_goBack
        rw [show (0 : Int64) = (0 : Int32).toInt64 from rfl, show (1 : Int64) = (1 : Int32).toInt64 from rfl, m12_in, Option.bind_some, b01_t c, if_1, cl_nI (n := i) (by omega), show smLn (1000 + 14) = 2 from g_1014, if_ck2 (by omega) (by omega), show M2 (1000 + 14) i = 1 from b, if_1, ix_23']
        rw [show nI (23 * i) + 1 = nI (23 * i + 1) from nI_ad _ 1, show nI (23 * i) + 2 = nI (23 * i + 2) from nI_ad _ 2, show nI (23 * i) + 3 = nI (23 * i + 3) from nI_ad _ 3, show nI (23 * i) + 4 = nI (23 * i + 4) from nI_ad _ 4]
        rw [cl_nI (n := 23 * i) (by omega), cl_nI (n := 23 * i + 1) (by omega), cl_nI (n := 23 * i + 2) (by omega), cl_nI (n := 23 * i + 3) (by omega), cl_nI (n := 23 * i + 4) (by omega), show smLn (1000 + 13) = 46 from g_1013]
        rw [if_ck2 (by omega) (by omega), show M2 (1000 + 13) (23 * i) = nI q from j1, g1, Option.bind_some, if_ck2 (by omega) (by omega), smB_e, if_ck2 (by omega) (by omega), smB_e, if_ck2 (by omega) (by omega), smB_e, if_ck2 (by omega) (by omega), smB_e]
        have n13 : (1000 + 13 : Nat) ≠ 1000 := by omega
        simp only [smS_o n13]
        rw [show dnx (bfm M2 q) 4 (1000 + 13) (23 * i + 1) = nI A' from (d13 _).trans j2, show dnx (bfm M2 q) 4 (1000 + 13) (23 * i + 2) = nI B' from (d13 _).trans j3, show dnx (bfm M2 q) 4 (1000 + 13) (23 * i + 3) = nI u' from (d13 _).trans j4, show dnx (bfm M2 q) 4 (1000 + 13) (23 * i + 4) = nI v' from (d13 _).trans j5]
        exact l1
      refine ⟨_, _, _, e, e2, rel_moved ne' hp97 hq hsl him (fun r hr => k2 r (by omega)) f2 f3 k1 (fun s hs => ?_) (fun r h1 h2 => by rw [l3 r h1]; exact d1 r h2) l2⟩
      obtain ⟨a1, a2⟩ := d4 s hs
      unfold DR
      rw [l3 1003 (by omega), l3 1004 (by omega), l3 1005 (by omega), l3 1006 (by omega)]
      exact ⟨a1, a2⟩
  · have e : m_X11_goBack 0 x M1 = some (-1, M1) := by
      unfold m_X11_goBack
      rw [m_isWithin, Option.bind_some, b01_f c, if_0]
    have e2 : m_X12_goBack 1000 x M2 = some (-1, M2) := by
      unfold m_X12_goBack
      rw [show (0 : Int64) = (0 : Int32).toInt64 from rfl, show (1 : Int64) = (1 : Int32).toInt64 from rfl, m12_in, Option.bind_some, b01_f c, if_0]
    exact ⟨_, _, _, e, e2, hr⟩
