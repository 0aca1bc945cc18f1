/-! the call keepBase -/
theorem m_mbCopy {g h p nm : Nat} [NeZero p] {mx my : Nat → Nat} {tl : Nat → Nat → Fin p} {M : smM} (hg : smT 1 g 4) (hh : smT 1 h 4) (hd : g + 14 ≤ h ∨ h + 14 ≤ g) (hm : MB M h p nm mx my tl) : ∃ M', m_X4_copyFrom g h M = some M' ∧ MB M' g p nm mx my tl ∧ ∀ r, (r < g ∨ g + 14 ≤ r) → M' r = M r := by
  obtain ⟨hn, h0, hr⟩ := hm
  unfold m_X4_copyFrom
  rw [smB_e, h0]
  let ROW : smM → Nat → Prop := fun M' l => M' (g + 1) l = nI (mx l) ∧ M' (g + 2) l = nI (my l) ∧ ∀ t, t < 9 → M' (g + 3 + 1 + l) t = nI (tl l t).val
  let Q : Option smM → Prop := fun e => ∃ M', e = some M' ∧ MB M' g p nm mx my tl ∧ ∀ r, (r < g ∨ g + 14 ≤ r) → M' r = M r
  let I : Nat → smM → Prop := fun k M' => M' g 0 = nI nm ∧ (∀ l, l < k → ROW M' l) ∧ ∀ r, (r < g ∨ g + 14 ≤ r) → M' r = M r
  refine lp_pst nm (fun k s => ∃ M', s = (nI k, M') ∧ I k M') Q ⟨_, rfl, smS_at, fun l hl => by omega, fun r hr => smS_o (by omega)⟩ (by omega) ?_
  rintro k s hk ⟨M1, rfl, i1, i2, i3⟩ rc
  unfold m_X4_copyFrom_b10
  simp only []
  rw [i1]
  by_cases e : k = nm
  · right
    subst e
    rw [if_pos (Int32.le_refl _)]
    exact ⟨M1, rfl, ⟨hn, i1, fun l hl => ⟨(i2 l hl).1, (i2 l hl).2.1, (i2 l hl).2.2, (hr l hl).2.2.2⟩⟩, i3⟩
  · obtain ⟨r1, r2, r3, r4⟩ := hr k (by omega)
    rw [if_neg (fun w => by rw [nI_le_iff (by omega) (by omega)] at w; omega), cl_nI (n := k) (by omega), l4_1 hg, l4_1 hh, l4_2 hg, l4_2 hh, if_ck2 (by omega) (by omega), if_ck2 (by omega) (by omega), smB_e, if_ck2 (by omega) (by omega), if_ck2 (by omega) (by omega), smB_e, smS_o (show h + 2 ≠ g + 1 by omega), i3 (h + 1) (by omega), r1, i3 (h + 2) (by omega), r2]
    generalize hM : smS (smS M1 (g + 1) k (nI (mx k))) (g + 2) k (nI (my k)) = M2
    have mo : ∀ r, r ≠ g + 1 → r ≠ g + 2 → M2 r = M1 r := fun r h1 h2 => by rw [← hM, smS_o h2, smS_o h1]
    have m1 : ∀ l, M2 (g + 1) l = if l = k then nI (mx k) else M1 (g + 1) l := fun l => by
      rw [← hM, smS_o (by omega)]
      by_cases q : l = k
      · subst q; rw [if_pos rfl, smS_at]
      · rw [if_neg q, smS_ne q]
    have m2 : ∀ l, M2 (g + 2) l = if l = k then nI (my k) else M1 (g + 2) l := fun l => by
      rw [← hM]
      by_cases q : l = k
      · subst q; rw [if_pos rfl, smS_at]
      · rw [if_neg q, smS_ne q, smS_o (by omega)]
    refine lp_pst 9 (fun t s => ∃ M', s = (nI t, M') ∧ (∀ t', t' < t → M' (g + 3 + 1 + k) t' = nI (tl k t').val) ∧ ∀ r, r ≠ g + 3 + 1 + k → M' r = M2 r) (fun e => (∃ s', k < nm ∧ (∃ M', s' = (nI (k + 1), M') ∧ I (k + 1) M') ∧ e = rc s') ∨ Q e) ⟨M2, rfl, fun t ht => by omega, fun _ _ => rfl⟩ (by omega) ?_
    rintro t s ht ⟨M3, rfl, z3, f3⟩ rc2
    unfold m_X4_copyFrom_b44
    simp only []
    by_cases et : t = 9
    · right
      left
      subst et
      rw [if_pos nI_99, nI_add_1]
      refine ⟨_, by omega, ⟨M3, rfl, ?_, fun l hl => ?_, fun r hr => ?_⟩, rfl⟩
      · rw [f3 g (by omega), mo g (by omega) (by omega)]; exact i1
      · show M3 (g + 1) l = _ ∧ M3 (g + 2) l = _ ∧ _
        rw [f3 (g + 1) (by omega), f3 (g + 2) (by omega), m1, m2]
        by_cases q : l = k
        · subst q
          rw [if_pos rfl, if_pos rfl]
          exact ⟨rfl, rfl, z3⟩
        · rw [if_neg q, if_neg q]
          obtain ⟨w1, w2, w3⟩ := i2 l (by omega)
          refine ⟨w1, w2, fun t ht => ?_⟩
          rw [f3 _ (by omega), mo _ (by omega) (by omega)]; exact w3 t ht
      · rw [f3 r (by omega), mo r (by omega) (by omega)]; exact i3 r hr
    · left
      rw [if_neg (nI_9 (by omega)), cl_nI (n := k) (by omega), cl_nI (n := t) (by omega), l4_3 hg, l4_3 hh, if_ck2 (by omega) (by omega), if_ck2 (by omega) (by omega), l4_3r hg (by omega), l4_3r hh (by omega), if_ck2 (by omega) (by omega), if_ck2 (by omega) (by omega), smB_e, nI_add_1, f3 (h + 3 + 1 + k) (by omega), mo (h + 3 + 1 + k) (by omega) (by omega), i3 (h + 3 + 1 + k) (by omega), r3 t (by omega)]
      refine ⟨_, by omega, ⟨_, rfl, fun t' ht' => ?_, fun r hr => ?_⟩, rfl⟩
      · by_cases q : t' = t
        · subst q; exact smS_at
        · exact (smS_ne q).trans (z3 t' (by omega))
      · exact (smS_o hr).trans (f3 r hr)
theorem g_10 : smLn (1000 + 10) = 40 ∧ smLn (1000 + 11) = 40 ∧ smLn (1000 + 12) = 360 := by decide +kernel
theorem ix10 (r d : Nat) : (10 : Int32) * nI r + nI d = nI (10 * r + d) := by rw [show (10 : Int32) = nI 10 from rfl, nI_mulN, nI_ad]
theorem ix90 (s k d : Nat) : (90 : Int32) * nI s + (9 : Int32) * nI k + nI d = nI (90 * s + 9 * k + d) := by rw [show (90 : Int32) = nI 90 from rfl, show (9 : Int32) = nI 9 from rfl, nI_mulN, nI_mulN, nI_ad, nI_ad]
theorem m12_keepl {p nm s : Nat} [NeZero p] {mx my : Nat → Nat} {tl : Nat → Nat → Fin p} {M : smM} (hs : s < 4) (h : MB2 M p nm mx my tl) : ∃ M', smLp (fun rc q => m_X12_keepBase_b68 1000 (nI s) rc q.1 q.2) smF ((0 : Int32), M) = some (nI nm, M') ∧ (∀ k, k < nm → M' 1010 (10 * s + k) = nI (mx k) ∧ M' 1011 (10 * s + k) = nI (my k) ∧ ∀ t, t < 9 → M' 1012 (90 * s + 9 * k + t) = nI (tl k t).val) ∧ (∀ r, r ≠ 1010 → r ≠ 1011 → r ≠ 1012 → M' r = M r) ∧ (∀ k, (k < 10 * s ∨ 10 * s + 10 ≤ k) → M' 1010 k = M 1010 k ∧ M' 1011 k = M 1011 k) ∧ ∀ k, (k < 90 * s ∨ 90 * s + 90 ≤ k) → M' 1012 k = M 1012 k := by
  obtain ⟨hn, h34, hm⟩ := h
  let ROW : smM → Nat → Prop := fun M' k => M' 1010 (10 * s + k) = nI (mx k) ∧ M' 1011 (10 * s + k) = nI (my k) ∧ ∀ t, t < 9 → M' 1012 (90 * s + 9 * k + t) = nI (tl k t).val
  let FRM : smM → Prop := fun M' => (∀ r, r ≠ 1010 → r ≠ 1011 → r ≠ 1012 → M' r = M r) ∧ (∀ k, (k < 10 * s ∨ 10 * s + 10 ≤ k) → M' 1010 k = M 1010 k ∧ M' 1011 k = M 1011 k) ∧ ∀ k, (k < 90 * s ∨ 90 * s + 90 ≤ k) → M' 1012 k = M 1012 k
  let Q : Option (Int32 × smM) → Prop := fun e => ∃ M', e = some (nI nm, M') ∧ (∀ k, k < nm → ROW M' k) ∧ FRM M'
  refine lp_pst nm (fun k q => ∃ M', q = (nI k, M') ∧ (∀ l, l < k → ROW M' l) ∧ FRM M') Q ⟨M, rfl, fun l hl => by omega, fun _ _ _ _ => rfl, fun _ _ => ⟨rfl, rfl⟩, fun _ _ => rfl⟩ (by omega) ?_
  rintro k q hk ⟨M1, rfl, i1, i2, i3, i4⟩ rc
  unfold m_X12_keepBase_b68
  simp only []
  rw [i2 1000 (by omega) (by omega) (by omega), h34]
  by_cases e : k = nm
  · right
    subst e
    rw [if_pos (Int32.le_refl _)]
    exact ⟨M1, rfl, i1, i2, i3, i4⟩
  · obtain ⟨r1, r2, r3, r4⟩ := hm k (by omega)
    rw [if_neg (fun w => by rw [nI_le_iff (by omega) (by omega)] at w; omega), ix10, cl_nI (n := k) (by omega), cl_nI (n := 10 * s + k) (by omega), g_22.2.2.2.2.1, g_10.1, g_22.2.2.2.2.2.1, g_10.2.1, if_ck2 (by omega) (by omega), if_ck2 (by omega) (by omega), smB_e, if_ck2 (by omega) (by omega), if_ck2 (by omega) (by omega), smB_e, smS_o (show 1000 + 27 ≠ 1000 + 10 by omega), i2 (1000 + 26) (by omega) (by omega) (by omega), i2 (1000 + 27) (by omega) (by omega) (by omega), show M (1000 + 26) k = _ from r1, show M (1000 + 27) k = _ from r2]
    generalize hM : smS (smS M1 (1000 + 10) (10 * s + k) (nI (mx k))) (1000 + 11) (10 * s + k) (nI (my k)) = M2
    have mo : ∀ r, r ≠ 1010 → r ≠ 1011 → M2 r = M1 r := fun r h1 h2 => by rw [← hM, smS_o h2, smS_o h1]
    have m1 : ∀ l, M2 1010 l = if l = 10 * s + k then nI (mx k) else M1 1010 l := fun l => by
      rw [← hM, smS_o (by omega)]
      by_cases q : l = 10 * s + k
      · subst q; rw [if_pos rfl]; exact smS_at
      · rw [if_neg q]; exact smS_ne q
    have m2 : ∀ l, M2 1011 l = if l = 10 * s + k then nI (my k) else M1 1011 l := fun l => by
      rw [← hM]
      by_cases q : l = 10 * s + k
      · subst q; rw [if_pos rfl]; exact smS_at
      · rw [if_neg q]
        refine (smS_ne q).trans ?_
        rw [smS_o (by omega)]
    refine lp_pst 9 (fun t q => ∃ M', q = (nI t, M') ∧ (∀ t', t' < t → M' 1012 (90 * s + 9 * k + t') = nI (tl k t').val) ∧ (∀ j, (j < 90 * s + 9 * k ∨ 90 * s + 9 * k + 9 ≤ j) → M' 1012 j = M1 1012 j) ∧ ∀ r, r ≠ 1012 → M' r = M2 r) (fun e => (∃ s', k < nm ∧ (∃ M', s' = (nI (k + 1), M') ∧ (∀ l, l < k + 1 → ROW M' l) ∧ FRM M') ∧ e = rc s') ∨ Q e) ⟨M2, rfl, fun t ht => by omega, fun j _ => by rw [mo 1012 (by omega) (by omega)], fun _ _ => rfl⟩ (by omega) ?_
    rintro t q ht ⟨M3, rfl, z3, y3, f3⟩ rc2
    unfold m_X12_keepBase_b113
    simp only []
    by_cases et : t = 9
    · right
      left
      subst et
      rw [if_pos nI_99, nI_add_1]
      refine ⟨_, by omega, ⟨M3, rfl, fun l hl => ?_, fun r h1 h2 h3 => ?_, fun j hj => ?_, fun j hj => ?_⟩, rfl⟩
      · show M3 1010 (10 * s + l) = _ ∧ M3 1011 (10 * s + l) = _ ∧ _
        rw [f3 1010 (by omega), f3 1011 (by omega), m1, m2]
        by_cases q : l = k
        · subst q
          rw [if_pos rfl, if_pos rfl]
          exact ⟨rfl, rfl, z3⟩
        · rw [if_neg (by omega), if_neg (by omega)]
          obtain ⟨w1, w2, w3⟩ := i1 l (by omega)
          refine ⟨w1, w2, fun t ht => ?_⟩
          rw [y3 _ (by omega)]; exact w3 t ht
      · rw [f3 r h3, mo r h1 h2]; exact i2 r h1 h2 h3
      · rw [f3 1010 (by omega), f3 1011 (by omega), m1, m2, if_neg (by omega), if_neg (by omega)]; exact i3 j hj
      · rw [y3 j (by omega)]; exact i4 j hj
    · left
      rw [if_neg (nI_9 (by omega)), ix9, ix90, cl_nI (n := 9 * k + t) (by omega), cl_nI (n := 90 * s + 9 * k + t) (by omega), g_22.2.2.2.2.2.2.1, g_10.2.2, if_ck2 (by omega) (by omega), if_ck2 (by omega) (by omega), smB_e, nI_add_1, f3 (1000 + 28) (by omega), mo (1000 + 28) (by omega) (by omega), i2 (1000 + 28) (by omega) (by omega) (by omega), show M (1000 + 28) (9 * k + t) = _ from r3 t (by omega)]
      refine ⟨_, by omega, ⟨_, rfl, fun t' ht' => ?_, fun j hj => ?_, fun r hr => ?_⟩, rfl⟩
      · by_cases q : t' = t
        · subst q; exact smS_at
        · exact (smS_ne (by omega)).trans (z3 t' (by omega))
      · exact (smS_ne (by omega)).trans (y3 j hj)
      · exact (smS_o hr).trans (f3 r hr)
theorem rel_prt {M1 M2 M1' M2' : smM} {p : Nat} {ne : NeZero p} {A B u v : Nat} {F G : Nat → Nat → Fin p} (hs1 : SET M1 1 p A B u v F G) (hs2 : SET2 M2 p A B u v F G) (hsl : ∀ s, s < 4 → SLOT M1 M2 s p) (him : ∀ i, i < 2 → IMG M1 M2 i) (e1 : ∀ r, (r < 93 ∨ 440 ≤ r) → M1' r = M1 r) (e2 : FR3 M2 M2') : SET M1' 1 p A B u v F G ∧ SET2 M2' p A B u v F G ∧ (∀ s, s < 4 → SLOT M1' M2' s p) ∧ ∀ i, i < 2 → IMG M1' M2' i :=
  ⟨hs1.fr (fun r h1 h2 => e1 r (by omega)), hs2.fr (fun k hk => e2.1 k (by omega)) (e2.2 1001 (by omega) (by omega)), fun s hs => (hsl s hs).fr (fun r h1 h2 => e1 r (by omega)) (SAME2.of s (fun r h1 h2 => e2.2 r (by omega) (by omega))), fun i hi => (him i hi).fr (by rw [e1 _ (by omega)]) (fun r h1 h2 => e1 r (by omega)) (by rw [e2.2 1014 (by omega) (by omega)]) (fun k _ _ => by rw [e2.2 1013 (by omega) (by omega)])⟩
theorem op_keepBase : Op_keepBase Rel := by
  intro M1 M2 h x y
  have hr := h
  obtain ⟨p, ne, A, B, u, v, F, G, hpar, hs1, hs2, hca, hsl, him⟩ := h
  have h9 := AB9 hpar
  obtain ⟨hp, hp2⟩ := Pr_rng p hpar.1
  by_cases c : (0 : Int32) ≤ x ∧ x ≤ 3
  · by_cases d : (0 : Int32) ≤ y ∧ y ≤ 4
    · obtain ⟨s, s3, rfl⟩ := rngI (h := 3) (by omega) c.1 c.2
      obtain ⟨o, o4, rfl⟩ := rngI (h := 4) (by omega) d.1 d.2
      have ck4 : ∀ {ρ : Type} (T : Option ρ), (if nI s < 0 ∨ 4 ≤ s then none else T) = T := fun T => if_ck2 (by omega) (by omega) T
      obtain ⟨M1', M2', D, sx, sy, nm, mx, my, tl, a1, a2, a3, a4, ⟨b1, b2, b3, b4, b5⟩, a6, a7⟩ := both_base hpar hs1 hs2 hca o4
      obtain ⟨hs1', hs2', hsl', him'⟩ := rel_prt hs1 hs2 hsl him a6 a7
      have hbt := tb_o (o := o) (by omega)
      obtain ⟨tm, ts, tc⟩ := tb hbt
      obtain ⟨g0, g1, g2⟩ := b1.1
      -- the class
      generalize hA : smS (smS (smS M1' (13 + 20 * s + 5) 0 (nI o)) (13 + 20 * s + 5) 1 (nI u)) (13 + 20 * s + 5) 2 (nI v) = Ma
      have ao : ∀ r, r ≠ 13 + 20 * s + 5 → Ma r = M1' r := fun r hr => by rw [← hA, smS_o hr, smS_o hr, smS_o hr]
      have a50 : Ma (13 + 20 * s + 5) 0 = nI o := by rw [← hA, smS_ne (by omega), smS_ne (by omega), smS_at]
      have a51 : Ma (13 + 20 * s + 5) 1 = nI u := by rw [← hA, smS_ne (by omega), smS_at]
      have a52 : Ma (13 + 20 * s + 5) 2 = nI v := by rw [← hA, smS_at]
      have mbA : MB Ma (149 + 58 * o + 2) p nm mx my tl := b1.2.1.fr (fun r _ _ => ao r (by omega))
      obtain ⟨Mb, d1, d2, d3⟩ := m_mbCopy (g := 13 + 20 * s + 6) (t4_s (by omega)) tm (by omega) mbA
      have e1 : m_X11_keepBase 0 (nI s) (nI o) M1 = some (nI nm, smS Mb (13 + 20 * s) 0 2) := by
        unfold m_X11_keepBase m_X8_hold m_X10_become
        rw [m_isSlot, Option.bind_some, b01_t c, if_1, m_isOrder, Option.bind_some, b01_t d, if_1, cl_nI (n := s) (by omega), show smLn (0 + 12) = 4 from g_12, ck4, a1, smB2_e, g0, g1, g2, smB_e, smB_e, smB_e, show 0 + 12 + 1 + 20 * s = 13 + 20 * s by omega, hA, Option.bind_some, d1, Option.bind_some, smB_e, Option.bind_some, ck4, smS_o (by omega), d2.2.1]
      -- the reference
      generalize hB : smS (smS (smS (smS (smS M2' (1000 + 2) s 2) (1000 + 3) s (nI nm)) (1000 + 7) s (nI o)) (1000 + 8) s (nI u)) (1000 + 9) s (nI v) = Mc
      have co : ∀ r, r ≠ 1002 → r ≠ 1003 → r ≠ 1007 → r ≠ 1008 → r ≠ 1009 → Mc r = M2' r := fun r h1 h2 h3 h4 h5 => by rw [← hB, smS_o h5, smS_o h4, smS_o h3, smS_o h2, smS_o h1]
      have c2 : ∀ k, Mc 1002 k = if k = s then 2 else M2' 1002 k := fun k => by
        rw [← hB, smS_o (by omega), smS_o (by omega), smS_o (by omega), smS_o (by omega)]
        by_cases q : k = s
        · subst q; rw [if_pos rfl]; exact smS_at
        · rw [if_neg q]; exact smS_ne q
      have c3 : ∀ k, Mc 1003 k = if k = s then nI nm else M2' 1003 k := fun k => by
        rw [← hB, smS_o (by omega), smS_o (by omega), smS_o (by omega)]
        by_cases q : k = s
        · subst q; rw [if_pos rfl]; exact smS_at
        · rw [if_neg q]; refine (smS_ne q).trans ?_; rw [smS_o (by omega)]
      have c7 : ∀ k, Mc 1007 k = if k = s then nI o else M2' 1007 k := fun k => by
        rw [← hB, smS_o (by omega), smS_o (by omega)]
        by_cases q : k = s
        · subst q; rw [if_pos rfl]; exact smS_at
        · rw [if_neg q]; refine (smS_ne q).trans ?_; rw [smS_o (by omega), smS_o (by omega)]
      have c8 : ∀ k, Mc 1008 k = if k = s then nI u else M2' 1008 k := fun k => by
        rw [← hB, smS_o (by omega)]
        by_cases q : k = s
        · subst q; rw [if_pos rfl]; exact smS_at
        · rw [if_neg q]; refine (smS_ne q).trans ?_; rw [smS_o (by omega), smS_o (by omega), smS_o (by omega)]
      have c9 : ∀ k, Mc 1009 k = if k = s then nI v else M2' 1009 k := fun k => by
        rw [← hB]
        by_cases q : k = s
        · subst q; rw [if_pos rfl]; exact smS_at
        · rw [if_neg q]; refine (smS_ne q).trans ?_; rw [smS_o (by omega), smS_o (by omega), smS_o (by omega), smS_o (by omega)]
      have mb2 : MB2 Mc p nm mx my tl := ⟨b2.1, by rw [co 1000 (by omega) (by omega) (by omega) (by omega) (by omega)]; exact b2.2.1, fun k hk => by rw [co 1026 (by omega) (by omega) (by omega) (by omega) (by omega), co 1027 (by omega) (by omega) (by omega) (by omega) (by omega), co 1028 (by omega) (by omega) (by omega) (by omega) (by omega)]; exact b2.2.2 k hk⟩
      obtain ⟨Md, f1, f2, f3, f4, f5⟩ := m12_keepl (s := s) (by omega) mb2
      have e2 : m_X12_keepBase 1000 (nI s) (nI o) M2 = some (nI nm, Md) := by
        unfold m_X12_keepBase
        rw [m12_isSlot, Option.bind_some, b01_t c, if_1, m12_isOrder, Option.bind_some, b01_t d, if_1, a2, Option.bind_some, cl_nI (n := s) (by omega), show smLn (1000 + 2) = 4 from g_1002, ck4, smB_e, show smLn (1000 + 3) = 4 from g_1003, ck4, smB_e, smS_o (show 1000 ≠ 1000 + 2 by omega), b2.2.1, show smLn (1000 + 7) = 4 from g_1007, ck4, smB_e, show smLn (1000 + 8) = 4 from g_1008, ck4, smB_e, smS_o (show 1000 ≠ 1000 + 7 by omega), smS_o (show 1000 ≠ 1000 + 3 by omega), smS_o (show 1000 ≠ 1000 + 2 by omega), hs2'.2.2.2.1, show smLn (1000 + 9) = 4 from g_1009, ck4, smB_e, smS_o (show 1000 ≠ 1000 + 8 by omega), smS_o (show 1000 ≠ 1000 + 7 by omega), smS_o (show 1000 ≠ 1000 + 3 by omega), smS_o (show 1000 ≠ 1000 + 2 by omega), hs2'.2.2.2.2.1, hB, f1]
      obtain ⟨z1, z2, -⟩ := hsl' s (by omega)
      refine ⟨_, _, _, e1, e2, rel_slot hpar hs1' hs2' a3.ca hsl' him' (s := s) (fun r q1 q2 => ?_) (by omega) (fun k _ => ?_) ?_ ?_ ?_ (fun t ht hne => ?_) ⟨?_, ⟨nm, b2.1, ?_⟩, 2, smS_at, ?_, Or.inr (Or.inr ⟨rfl, ne, o, u, v, nm, D, mx, my, tl, ⟨o4, hpar.2.2.2.1, hpar.2.2.2.2⟩, ⟨?_, ?_, ?_⟩, ?_, ⟨?_, ?_, ?_, ?_⟩, f2, ⟨sx, sy, b1.2.2.2.2.1.2.1, fun i j => b1.2.2.2.2.1.kp (fp_01 hp) (ky_ok o4 hpar.2.2.2.1.1 hpar.2.2.2.2.1) b1.2.2.2.2.2.1 i j⟩, b1.2.2.2.2.2.1.2.2.2.2⟩)⟩⟩
      · rw [smS_o (by omega), d3 r (by omega), ao r (by omega)]
      · rw [f3 1000 (by omega) (by omega) (by omega), co 1000 (by omega) (by omega) (by omega) (by omega) (by omega)]
      · rw [f3 1001 (by omega) (by omega) (by omega), co 1001 (by omega) (by omega) (by omega) (by omega) (by omega)]
      · rw [f3 1013 (by omega) (by omega) (by omega), co 1013 (by omega) (by omega) (by omega) (by omega) (by omega)]
      · rw [f3 1014 (by omega) (by omega) (by omega), co 1014 (by omega) (by omega) (by omega) (by omega) (by omega)]
      · refine ⟨?_, ?_, fun k hk => ?_, ⟨?_, ?_, ?_⟩, fun k hk => ?_, fun k hk => ?_⟩
        · rw [f3 1002 (by omega) (by omega) (by omega), c2, if_neg hne]
        · rw [f3 1003 (by omega) (by omega) (by omega), c3, if_neg hne]
        · rw [f3 1004 (by omega) (by omega) (by omega), f3 1005 (by omega) (by omega) (by omega), f3 1006 (by omega) (by omega) (by omega), co 1004 (by omega) (by omega) (by omega) (by omega) (by omega), co 1005 (by omega) (by omega) (by omega) (by omega) (by omega), co 1006 (by omega) (by omega) (by omega) (by omega) (by omega)]
          exact ⟨rfl, rfl, rfl⟩
        · rw [f3 1007 (by omega) (by omega) (by omega), c7, if_neg hne]
        · rw [f3 1008 (by omega) (by omega) (by omega), c8, if_neg hne]
        · rw [f3 1009 (by omega) (by omega) (by omega), c9, if_neg hne]
        · obtain ⟨y1, y2⟩ := f4 (10 * t + k) (by omega)
          rw [y1, y2, co 1010 (by omega) (by omega) (by omega) (by omega) (by omega), co 1011 (by omega) (by omega) (by omega) (by omega) (by omega)]
          exact ⟨rfl, rfl⟩
        · rw [f5 (90 * t + k) (by omega), co 1012 (by omega) (by omega) (by omega) (by omega) (by omega)]
      · obtain ⟨n, n8, hn⟩ := z1
        exact ⟨n, n8, by rw [smS_o (by omega), d3 _ (by omega), ao _ (by omega)]; exact hn⟩
      · rw [smS_o (by omega)]; exact d2.2.1
      · rw [f3 1002 (by omega) (by omega) (by omega), c2, if_pos rfl]; rfl
      · rw [smS_o (by omega), d3 _ (by omega)]; exact a50
      · rw [smS_o (by omega), d3 _ (by omega)]; exact a51
      · rw [smS_o (by omega), d3 _ (by omega)]; exact a52
      · exact d2.fr (fun r _ _ => smS_o (by omega))
      · rw [f3 1003 (by omega) (by omega) (by omega), c3, if_pos rfl]
      · rw [f3 1007 (by omega) (by omega) (by omega), c7, if_pos rfl]
      · rw [f3 1008 (by omega) (by omega) (by omega), c8, if_pos rfl]
      · rw [f3 1009 (by omega) (by omega) (by omega), c9, if_pos rfl]
    · have e1 : m_X11_keepBase 0 x y M1 = some (-1, M1) := by
        unfold m_X11_keepBase
        rw [m_isSlot, Option.bind_some, b01_t c, if_1, m_isOrder, Option.bind_some, b01_f d, if_0]
      have e2 : m_X12_keepBase 1000 x y M2 = some (-1, M2) := by
        unfold m_X12_keepBase
        rw [m12_isSlot, Option.bind_some, b01_t c, if_1, m12_isOrder, Option.bind_some, b01_f d, if_0]
      exact ⟨_, _, _, e1, e2, hr⟩
  · have e1 : m_X11_keepBase 0 x y M1 = some (-1, M1) := by
      unfold m_X11_keepBase
      rw [m_isSlot, Option.bind_some, b01_f c, if_0]
    have e2 : m_X12_keepBase 1000 x y M2 = some (-1, M2) := by
      unfold m_X12_keepBase
      rw [m12_isSlot, Option.bind_some, b01_f c, if_0]
    exact ⟨_, _, _, e1, e2, hr⟩
