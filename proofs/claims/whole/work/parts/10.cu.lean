/-! sums of terms; the call belongs -/
def SV {p : Nat} [NeZero p] (A B : Nat) (F G : Nat → Nat → Fin p) (c x y : Nat → Nat) (n d : Nat) : Fin p := su (fun k => fz p (c k : Int) * Nn A B F G (x k) (y k) d) n
theorem m_sumVec {M : smM} {p A B u v s n : Nat} [NeZero p] {F G : Nat → Nat → Fin p} {c x y : Nat → Nat} (hpar : PARAM p A B u v) (hS : SET M 1 p A B u v F G) (hca : CA M A B u v F G) (hs : s < 4) (hn : n ≤ 8) (hP : PF p n c x y) (hO : PO M (13 + 20 * s + 1) n c x y) : ∃ M', m_X11_sumVectors 0 (13 + 20 * s + 1) M = some M' ∧ CU M' A B u v F G ∧ (∀ d, d < 9 → M' 505 d = nI (SV A B F G c x y n d).val) ∧ ∀ r, (r < 93 ∨ 440 < r) → r ≠ 504 → r ≠ 505 → M' r = M r := by
  obtain ⟨hp, hp2⟩ := Pr_rng p hpar.1
  obtain ⟨g1, g2, g3, g4⟩ := g_347
  obtain ⟨Ma, a1, a2, a3⟩ := m_up hpar hS hca
  obtain ⟨l1, l2, l3⟩ := g_pl s hs
  unfold m_X11_sumVectors
  rw [show m_X2_bringUpToDate (0 + 93) (0 + 1) M = some Ma from a1, Option.bind_some, show m_X11_clear (0 + 505) Ma = _ from m_clear g3 (by omega) Ma, Option.bind_some]
  refine lp_pst n (fun k w => ∃ (M' : smM), w = (nI k, M') ∧ CU M' A B u v F G ∧ (∀ d, d < 9 → M' 505 d = nI (SV A B F G c x y k d).val) ∧ ∀ r, (r < 93 ∨ 440 < r) → r ≠ 504 → r ≠ 505 → M' r = M r) (fun e => ∃ (M' : smM), e = some M' ∧ CU M' A B u v F G ∧ (∀ d, d < 9 → M' 505 d = nI (SV A B F G c x y n d).val) ∧ ∀ r, (r < 93 ∨ 440 < r) → r ≠ 504 → r ≠ 505 → M' r = M r) ⟨fil Ma 505 (fun _ => 0) 9, rfl, a2.fr hpar.2.1.2 hpar.2.2.1.2 (fun r _ _ _ _ _ => fil_o (by omega)), fun d hd => by rw [fil_in hd]; exact z_fin, fun r h1 _ h3 => (fil_o h3).trans (a3 r (by omega))⟩ (by omega) ?_
  rintro k w hk ⟨M1, rfl, i1, i2, i3⟩ rc
  unfold m_X11_sumVectors_b20
  simp only []
  rw [i3 (13 + 20 * s + 1) (by omega) (by omega) (by omega), hO.1]
  by_cases e : k = n
  · right
    subst e
    rw [if_pos (Int32.le_refl _)]
    exact ⟨M1, rfl, i1, i2, i3⟩
  · left
    obtain ⟨q1, q2, q3⟩ := hO.2 k (by omega)
    obtain ⟨b1, b2, b3, b4⟩ := hP.1 k (by omega)
    obtain ⟨M2, c1, c2, c3, c4⟩ := m_vector (i := x k) (j := y k) hpar i1 b3 b4
    rw [if_neg (fun w => by rw [nI_le_iff (by omega) (by omega)] at w; omega), cl_nI (n := k) (by omega), l2, l3, if_ck2 (by omega) (by omega), if_ck2 (by omega) (by omega), i3 (13 + 20 * s + 1 + 2) (by omega) (by omega) (by omega), q2, i3 (13 + 20 * s + 1 + 3) (by omega) (by omega) (by omega), q3, show m_X2_vectorOfTerm (0 + 93) (nI (x k)) (nI (y k)) (0 + 504) M1 = some M2 from c1, Option.bind_some, l1, if_ck2 (by omega) (by omega), c4 (13 + 20 * s + 1 + 1) (by omega) (by omega), i3 (13 + 20 * s + 1 + 1) (by omega) (by omega) (by omega), q1, show M2 (0 + 1) 0 = nI p by rw [c4 (0 + 1) (by omega) (by omega), i3 (0 + 1) (by omega) (by omega) (by omega)]; exact hS.1]
    rw [show m_X11_bringMultiple (0 + 505) (0 + 504) (nI (c k)) (nI p) M2 = _ from m_bringMultiple (a := 505) (r := 504) g3 g2 (by omega) (by omega) hp hp2 (show c k ≤ 97 by omega) (v := fun d => SV A B F G c x y k d) (w := fun d => Nn A B F G (x k) (y k) d) (fun d hd => by rw [c4 505 (by omega) (by omega)]; exact i2 d hd) c3, Option.bind_some, nI_add_1]
    refine ⟨_, by omega, ⟨_, rfl, c2.fr hpar.2.1.2 hpar.2.2.1.2 (fun r _ _ _ _ _ => fil_o (by omega)), fun d hd => ?_, fun r h1 h2 h3 => ?_⟩, rfl⟩
    · rw [fil_in hd]; rfl
    · rw [fil_o h3, c4 r h1 h2, i3 r h1 h2 h3]
theorem g_40 : smLn (1000 + 40) = 9 := by decide +kernel
theorem m12_formOfSlot {M : smM} {p A B u v s n : Nat} [NeZero p] {F G : Nat → Nat → Fin p} {c x y : Nat → Nat} (hpar : PARAM p A B u v) (hS : SET2 M p A B u v F G) (hT : TBL M A B F G) (hs : s < 4) (hn : n ≤ 8) (hP : PF p n c x y) (h3 : M 1003 s = nI n) (hO : ∀ k, k < n → M 1004 (8 * s + k) = nI (c k) ∧ M 1005 (8 * s + k) = nI (x k) ∧ M 1006 (8 * s + k) = nI (y k)) : ∃ M', m_X12_formOfSlot 1000 (nI s) M = some M' ∧ (∀ d, d < 9 → M' 1020 d = nI (SV A B F G c x y n d).val) ∧ ∀ r, (r < 1018 ∨ 1021 < r) → r ≠ 1040 → M' r = M r := by
  obtain ⟨hp, hp2⟩ := Pr_rng p hpar.1
  unfold m_X12_formOfSlot
  let Q : Option smM → Prop := fun e => ∃ M', e = some M' ∧ (∀ d, d < 9 → M' 1020 d = nI (SV A B F G c x y n d).val) ∧ ∀ r, (r < 1018 ∨ 1021 < r) → r ≠ 1040 → M' r = M r
  refine lp_pst 9 (fun k w => ∃ (M' : smM), w = (nI k, M') ∧ (∀ d, d < k → M' 1040 d = 0) ∧ ∀ r, r ≠ 1040 → M' r = M r) Q ⟨M, rfl, fun d hd => by omega, fun _ _ => rfl⟩ (by omega) ?_
  rintro k w hk ⟨M1, rfl, z1, f1⟩ rc
  unfold m_X12_formOfSlot_b2
  simp only []
  by_cases e : k = 9
  · right
    subst e
    rw [if_pos nI_99, show (8 : Int32) * nI s = nI (8 * s + 0) by rw [show (8 : Int32) = nI 8 from rfl, nI_mulN]; rfl]
    refine lp_pst n (fun k w => ∃ (M' : smM), w = (nI (8 * s + k), M') ∧ (∀ d, d < 9 → M' 1040 d = nI (SV A B F G c x y k d).val) ∧ ∀ r, (r < 1018 ∨ 1021 < r) → r ≠ 1040 → M' r = M r) Q ⟨M1, rfl, fun d hd => by rw [z1 d hd]; exact z_fin, fun r _ h2 => f1 r h2⟩ (by omega) ?_
    rintro k w hk ⟨M2, rfl, z2, f2⟩ rc2
    have ck4 : ∀ {ρ : Type} (T : Option ρ), (if nI s < 0 ∨ 4 ≤ s then none else T) = T := fun T => if_ck2 (by omega) (by omega) T
    unfold m_X12_formOfSlot_b26
    simp only []
    rw [cl_nI (n := s) (by omega), show smLn (1000 + 3) = 4 from g_1003, ck4, f2 (1000 + 3) (by omega) (by omega), show M (1000 + 3) s = nI n from h3, show (8 : Int32) * nI s + nI n = nI (8 * s + n) by rw [show (8 : Int32) = nI 8 from rfl, nI_mulN, nI_ad]]
    by_cases ek : k = n
    · right
      subst ek
      rw [if_pos (Int32.le_refl _)]
      refine lp_pst 9 (fun t w => ∃ (M' : smM), w = (nI t, M') ∧ (∀ d, d < t → M' 1020 d = nI (SV A B F G c x y k d).val) ∧ ∀ r, r ≠ 1020 → M' r = M2 r) Q ⟨M2, rfl, fun d hd => by omega, fun _ _ => rfl⟩ (by omega) ?_
      rintro t w ht ⟨M3, rfl, z3, f3⟩ rc3
      unfold m_X12_formOfSlot_b110
      simp only []
      by_cases et : t = 9
      · right
        subst et
        rw [if_pos nI_99]
        exact ⟨M3, rfl, z3, fun r h1 h2 => (f3 r (by omega)).trans (f2 r h1 h2)⟩
      · left
        rw [if_neg (nI_9 (by omega)), cl_nI (n := t) (by omega), g_40, g_15.2.2.2.2.2.1, if_ck2 (by omega) (by omega), if_ck2 (by omega) (by omega), smB_e, nI_add_1, f3 (1000 + 40) (by omega), show M2 (1000 + 40) t = _ from z2 t (by omega)]
        refine ⟨_, by omega, ⟨_, rfl, fun d hd => ?_, fun r hr => (smS_o hr).trans (f3 r hr)⟩, rfl⟩
        by_cases q : d = t
        · subst q; exact smS_at
        · exact (smS_ne q).trans (z3 d (by omega))
    · obtain ⟨q1, q2, q3⟩ := hO k (by omega)
      obtain ⟨b1, b2, b3, b4⟩ := hP.1 k (by omega)
      have hS2 : SET2 M2 p A B u v F G := hS.fr (fun k _ => by rw [f2 1000 (by omega) (by omega)]) (f2 1001 (by omega) (by omega))
      obtain ⟨M3, c1, c2, c3⟩ := m12_formOf (i := x k) (j := y k) hp hp2 hpar.2.1.1 hpar.2.2.1.1 hpar.2.1.2 hpar.2.2.1.2 hS2 (hT.fr (f2 1016 (by omega) (by omega)) (f2 1017 (by omega) (by omega))) b3 b4
      have f3 : ∀ r, (r < 1018 ∨ 1021 < r) → r ≠ 1040 → M3 r = M r := fun r h1 h2 => (c3 r (by omega) (by omega) (by omega) (by omega)).trans (f2 r h1 h2)
      rw [if_neg (fun w => by rw [nI_le_iff (by omega) (by omega)] at w; omega), cl_nI (n := 8 * s + k) (by omega), show smLn (1000 + 5) = 32 from g_1005, show smLn (1000 + 6) = 32 from g_1006, if_ck2 (by omega) (by omega), if_ck2 (by omega) (by omega), f2 (1000 + 5) (by omega) (by omega), f2 (1000 + 6) (by omega) (by omega), show M (1000 + 5) (8 * s + k) = _ from q2, show M (1000 + 6) (8 * s + k) = _ from q3, c1, Option.bind_some]
      refine lp_pst 9 (fun t w => ∃ (M' : smM), w = (nI t, M') ∧ (∀ d, d < 9 → M' 1040 d = nI (if d < t then SV A B F G c x y (k + 1) d else SV A B F G c x y k d).val) ∧ ∀ r, r ≠ 1040 → M' r = M3 r) (fun e => (∃ s', k < n ∧ (∃ (M' : smM), s' = (nI (8 * s + (k + 1)), M') ∧ (∀ d, d < 9 → M' 1040 d = nI (SV A B F G c x y (k + 1) d).val) ∧ ∀ r, (r < 1018 ∨ 1021 < r) → r ≠ 1040 → M' r = M r) ∧ e = rc2 s') ∨ Q e) ⟨M3, rfl, fun d hd => by rw [if_neg (by omega), c3 1040 (by omega) (by omega) (by omega) (by omega)]; exact z2 d hd, fun _ _ => rfl⟩ (by omega) ?_
      rintro t w ht ⟨M4, rfl, z4, f4⟩ rc3
      unfold m_X12_formOfSlot_b59
      simp only []
      by_cases et : t = 9
      · right
        left
        subst et
        rw [if_pos nI_99, nI_add_1]
        refine ⟨_, by omega, ⟨M4, rfl, fun d hd => ?_, fun r h1 h2 => (f4 r h2).trans (f3 r h1 h2)⟩, rfl⟩
        have := z4 d hd
        rw [if_pos hd] at this
        exact this
      · left
        have ev : nI (SV A B F G c x y k t).val + nI (c k) * nI (Nn A B F G (x k) (y k) t).val - (nI (SV A B F G c x y k t).val + nI (c k) * nI (Nn A B F G (x k) (y k) t).val) / nI p * nI p = nI (SV A B F G c x y (k + 1) t).val := mac_nI hp2 (SV A B F G c x y k t) (Nn A B F G (x k) (y k) t) (c := c k) (by omega)
        rw [if_neg (nI_9 (by omega)), cl_nI (n := t) (by omega), cl_nI (n := 8 * s + k) (by omega), g_40, show smLn (1000 + 4) = 32 from g_1004, g_15.2.2.2.2.2.1, if_ck2 (by omega) (by omega), if_ck2 (by omega) (by omega), if_ck2 (by omega) (by omega), f4 1000 (by omega), f3 1000 (by omega) (by omega), hS.1, if_neg (nI_ne0 (by omega) (by omega)), if_ck2 (by omega) (by omega), smB_e, nI_add_1, show M4 (1000 + 40) t = _ from (z4 t (by omega)).trans (by rw [if_neg (by omega)]), f4 (1000 + 4) (by omega), f3 (1000 + 4) (by omega) (by omega), show M (1000 + 4) (8 * s + k) = _ from q1, f4 (1000 + 20) (by omega), show M3 (1000 + 20) t = _ from c2 t (by omega), ev]
        refine ⟨_, by omega, ⟨_, rfl, fun d hd => ?_, fun r hr => (smS_o hr).trans (f4 r hr)⟩, rfl⟩
        by_cases q : d = t
        · subst q
          rw [if_pos (by omega)]; exact smS_at
        · refine (smS_ne q).trans ((z4 d hd).trans ?_)
          by_cases q2 : d < t
          · rw [if_pos q2, if_pos (by omega)]
          · rw [if_neg q2, if_neg (by omega)]
  · left
    rw [if_neg (nI_9 (by omega)), cl_nI (n := k) (by omega), g_40, if_ck2 (by omega) (by omega), smB_e, nI_add_1]
    refine ⟨_, by omega, ⟨_, rfl, fun d hd => ?_, fun r hr => (smS_o hr).trans (f1 r hr)⟩, rfl⟩
    by_cases q : d = k
    · subst q; exact smS_at
    · exact (smS_ne q).trans (z1 d (by omega))
theorem m12_belongsl {p : Nat} [NeZero p] {w : Nat → Fin p} {M : smM} (hp2 : p ≤ 97) (hw : ∀ d, d < 9 → M 1020 d = nI (w d).val) : ((∀ d, d < 9 → w d = 0) → smLp (fun rc q => m_X12_belongs_b36 1000 M rc q.1 q.2) smF ((0 : Int32), (0 : Int32)) = some (1, M)) ∧ (¬ (∀ d, d < 9 → w d = 0) → smLp (fun rc q => m_X12_belongs_b36 1000 M rc q.1 q.2) smF ((0 : Int32), (0 : Int32)) = some (0, M)) := by
  refine lp_pst 9 (fun k x => ∃ z : Nat, x = (nI z, nI k) ∧ z ≤ 97 * k ∧ (z = 0 ↔ ∀ d, d < k → w d = 0)) (fun e => ((∀ d, d < 9 → w d = 0) → e = some (1, M)) ∧ (¬ (∀ d, d < 9 → w d = 0) → e = some (0, M))) ⟨0, rfl, by omega, ⟨fun _ d hd => by omega, fun _ => rfl⟩⟩ (by omega) ?_
  rintro k x hk ⟨z, rfl, b1, b2⟩ rc
  unfold m_X12_belongs_b36
  simp only []
  by_cases e : k = 9
  · right
    subst e
    rw [if_pos nI_99]
    by_cases q : z = 0
    · rw [if_pos (by rw [q]; rfl)]
      exact ⟨fun _ => rfl, fun w => absurd (b2.mp q) w⟩
    · rw [if_neg (show ¬ nI z = (0 : Int32) from fun w => q ((nI_inj (b := 0) (by omega) (by omega)).mp w))]
      exact ⟨fun w => absurd (b2.mpr w) q, fun _ => rfl⟩
  · left
    have hl := (w k).isLt
    rw [if_neg (nI_9 (by omega)), cl_nI (n := k) (by omega), g_15.2.2.2.2.2.1, if_ck2 (by omega) (by omega), show M (1000 + 20) k = _ from hw k (by omega), nI_ad, nI_add_1]
    refine ⟨_, by omega, ⟨z + (w k).val, rfl, by omega, ?_⟩, rfl⟩
    constructor
    · intro q d hd
      by_cases q2 : d = k
      · have h0 : (w k).val = 0 := by omega
        rw [q2]; exact Fin.ext (by rw [h0]; simp)
      · exact b2.mp (by omega) d (by omega)
    · intro q
      have a := b2.mpr (fun d hd => q d (by omega))
      have b := q k (by omega)
      rw [b, a]; simp
theorem m_ans (M : smM) : m_X11_asAnswer 1 M = some 1 ∧ m_X11_asAnswer 0 M = some 0 := by
  unfold m_X11_asAnswer
  rw [if_1, if_0]
  exact ⟨rfl, rfl⟩
theorem op_belongs : Op_belongs Rel := by
  intro M1 M2 h x
  have hr := h
  obtain ⟨p, ne, A, B, u, v, F, G, hpar, hs1, hs2, hca, hsl, him⟩ := h
  obtain ⟨hp, hp2⟩ := Pr_rng p hpar.1
  by_cases c : (0 : Int32) ≤ x ∧ x ≤ 3
  · obtain ⟨s, s3, rfl⟩ := rngI (h := 3) (by omega) c.1 c.2
    have ck4 : ∀ {ρ : Type} (T : Option ρ), (if nI s < 0 ∨ 4 ≤ s then none else T) = T := fun T => if_ck2 (by omega) (by omega) T
    obtain ⟨a1, a2, κ, a3, a4, a5⟩ := hsl s (by omega)
    have hκ : κ ≤ 2 := by rcases a5 with q | ⟨q, -⟩ | ⟨q, -⟩ <;> omega
    obtain ⟨w1, w2⟩ := m_wants (w := 1) (by omega) a3 a4 hκ (by omega) (by omega)
    have e1 : m_X11_belongs 0 (nI s) M1 = Option.bind (m_X8_findWanting (13 + 20 * s) 1 M1) fun v16 => if v16 = 0 then (Option.bind (m_X11_sumVectors 0 (13 + 20 * s + 1) M1) fun M36 => Option.bind (m_X11_firstNotZero 505 M36) fun v43 => if (0 : Int32) ≤ v43 then (Option.bind (m_X11_asAnswer (0 : Int32) M36) fun v54 => some (v54, M36)) else (Option.bind (m_X11_asAnswer (1 : Int32) M36) fun v54 => some (v54, M36))) else some (v16, M1) := by
      unfold m_X11_belongs
      rw [m_isSlot, Option.bind_some, b01_t c, if_1, cl_nI (n := s) (by omega), show smLn (0 + 12) = 4 from g_12, ck4]
      simp only [ck4, Nat.zero_add, Nat.reduceAdd]
    have e2 : m_X12_belongs 1000 (nI s) M2 = Option.bind (m_X12_lacks 1000 (nI s) 1 M2) fun v12 => if (0 : Int32) ≤ v12 then (Option.bind (m_X12_laysForms 1000 M2) fun M23 => Option.bind (m_X12_formOfSlot 1000 (nI s) M23) fun M28 => smLp (fun rc q => m_X12_belongs_b36 1000 M28 rc q.1 q.2) smF ((0 : Int32), (0 : Int32))) else some (v12, M2) := by
      unfold m_X12_belongs
      rw [m12_isSlot, Option.bind_some, b01_t c, if_1]
    rw [show m_X8_findWanting (13 + 20 * s) 1 M1 = _ from w1, Option.bind_some] at e1
    rw [show m_X12_lacks 1000 (nI s) 1 M2 = _ from w2, Option.bind_some] at e2
    rcases a5 with rfl | ⟨rfl, n, cl, xl, yl, c1, c2, c3, c4, c5⟩ | ⟨rfl, -⟩
    · rw [if_neg (by decide), if_pos rfl, if_neg (by decide)] at e1
      rw [if_neg (by decide), if_pos rfl, if_neg (by decide)] at e2
      exact ⟨_, _, _, e1, e2, hr⟩
    · obtain ⟨Ma, f1, f2, f3, f4⟩ := m_sumVec hpar hs1 hca (show s < 4 by omega) c1 c2 c3
      obtain ⟨Mb, g1, g2, g3⟩ := m12_laysForms hp hp2 hpar.2.1.1 hpar.2.2.1.1 hpar.2.1.2 hpar.2.2.1.2 hs2
      obtain ⟨Mc, h1, h2, h3⟩ := m12_formOfSlot (M := Mb) hpar (hs2.fr (fun k _ => by rw [g3 1000 (by omega) (by omega) (by omega)]) (g3 1001 (by omega) (by omega) (by omega))) g2 (show s < 4 by omega) c1 c2 (by rw [g3 1003 (by omega) (by omega) (by omega)]; exact c4) (fun k hk => by rw [g3 1004 (by omega) (by omega) (by omega), g3 1005 (by omega) (by omega) (by omega), g3 1006 (by omega) (by omega) (by omega)]; exact c5 k hk)
      have hb := m12_belongsl hp2 h2
      have hrel : Rel Ma Mc := rel_l hpar hs1 hs2 hsl him (fun r hr => f4 r (by omega) (by omega) (by omega)) f2 ⟨fun k _ => by rw [h3 1000 (by omega) (by omega), g3 1000 (by omega) (by omega) (by omega)], fun r q1 q2 => by rw [h3 r (by omega) (by omega), g3 r (by omega) (by omega) (by omega)]⟩
      rw [if_pos rfl, if_0, f1, Option.bind_some] at e1
      rw [if_pos rfl, if_pos (by decide), g1, Option.bind_some, h1, Option.bind_some] at e2
      by_cases z : ∀ d, d < 9 → SV A B F G cl xl yl n d = 0
      · rw [m_first_none g_347.2.2.1 (by omega) (fun k hk => by rw [f3 k hk, z k hk]; exact z_fin.symm), Option.bind_some, if_neg (by decide), (m_ans Ma).1, Option.bind_some] at e1
        rw [hb.1 z] at e2
        exact ⟨_, _, _, e1, e2, hrel⟩
      · obtain ⟨j, j1, j2, j3⟩ := least_k (P := fun d => SV A B F G cl xl yl n d ≠ 0) (n := 9) (Classical.byContradiction (fun w => z (fun d hd => Classical.byContradiction (fun w2 => w ⟨d, hd, w2⟩))))
        rw [m_first_some g_347.2.2.1 (by omega) j1 (fun k hk => by rw [f3 k (by omega), Classical.not_not.mp (j3 k hk)]; exact z_fin.symm) (by rw [f3 j j1]; exact fun w => j2 ((fin_z hp2 _).mp w)), Option.bind_some, if_pos (nI_0le (by omega)), (m_ans Ma).2, Option.bind_some] at e1
        rw [hb.2 z] at e2
        exact ⟨_, _, _, e1, e2, hrel⟩
    · rw [if_neg (by decide), if_neg (by decide), if_neg (by decide)] at e1
      rw [if_neg (by decide), if_neg (by decide), if_neg (by decide)] at e2
      exact ⟨_, _, _, e1, e2, hr⟩
  · have e1 : m_X11_belongs 0 x M1 = some (-1, M1) := by
      unfold m_X11_belongs
      rw [m_isSlot, Option.bind_some, b01_f c, if_0]
    have e2 : m_X12_belongs 1000 x M2 = some (-1, M2) := by
      unfold m_X12_belongs
      rw [m12_isSlot, Option.bind_some, b01_f c, if_0]
    exact ⟨_, _, _, e1, e2, hr⟩
