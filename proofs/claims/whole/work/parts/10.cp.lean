/-! the call stands -/
theorem fin_nI {p : Nat} [NeZero p] (hp2 : p ≤ 97) (a b : Fin p) : nI a.val = nI b.val ↔ a = b := by
  have h1 := a.isLt
  have h2 := b.isLt
  rw [nI_inj (by omega) (by omega)]
  exact ⟨Fin.ext, fun e => by rw [e]⟩
theorem m_hasTail {g h p k : Nat} [NeZero p] {t t' : Nat → Fin p} {M : smM} (hp2 : p ≤ 97) (hg : smT 1 g 4) (lh : smLn h = 9) (hk : k < 10) (h1 : ∀ d, d < 9 → M (g + 3 + 1 + k) d = nI (t d).val) (h2 : ∀ d, d < 9 → M h d = nI (t' d).val) : ((∀ d, d < 9 → t d = t' d) → m_X4_hasTail g (nI k) h M = some 1) ∧ (¬ (∀ d, d < 9 → t d = t' d) → m_X4_hasTail g (nI k) h M = some 0) := by
  unfold m_X4_hasTail
  refine lp_pst 9 (fun d s => s = nI d ∧ ∀ l, l < d → t l = t' l) (fun e => ((∀ d, d < 9 → t d = t' d) → e = some 1) ∧ (¬ (∀ d, d < 9 → t d = t' d) → e = some 0)) ⟨rfl, fun l hl => by omega⟩ (by omega) ?_
  rintro d s hd ⟨rfl, z⟩ rc
  unfold m_X4_hasTail_b2
  by_cases e : d = 9
  · right
    subst e
    rw [if_pos nI_99]
    exact ⟨fun _ => rfl, fun q => absurd z q⟩
  · rw [if_neg (nI_9 (by omega)), cl_nI (n := k) (by omega), cl_nI (n := d) (by omega), l4_3 hg, if_ck2 (by omega) (by omega), l4_3r hg hk, lh, if_ck2 (by omega) (by omega), if_ck2 (by omega) (by omega), h1 d (by omega), h2 d (by omega), nI_add_1]
    by_cases c : t d = t' d
    · left
      rw [if_pos ((fin_nI hp2 _ _).mpr c)]
      refine ⟨_, by omega, ⟨rfl, fun l hl => ?_⟩, rfl⟩
      by_cases q : l = d
      · rw [q]; exact c
      · exact z l (by omega)
    · right
      rw [if_neg (fun w => c ((fin_nI hp2 _ _).mp w))]
      exact ⟨fun q => absurd (q d (by omega)) c, fun _ => rfl⟩
def SAMEM {p : Nat} [NeZero p] (n D : Nat) (mx my mx' my' : Nat → Nat) (tl tl' : Nat → Nat → Fin p) : Prop := ∀ k, k < n → (mx k = mx' k ∧ my k = my' k) ∧ ∀ d, d < D → tl k d = tl' k d
theorem m_isAs {g h p nm nm' : Nat} [NeZero p] {mx my mx' my' : Nat → Nat} {tl tl' : Nat → Nat → Fin p} {M : smM} (hp2 : p ≤ 97) (hg : smT 1 g 4) (hh : smT 1 h 4) (hm : MB M g p nm mx my tl) (hm' : MB M h p nm' mx' my' tl') : ((nm = nm' ∧ SAMEM nm 9 mx my mx' my' tl tl') → m_X4_isAs g h M = some 1) ∧ (¬ (nm = nm' ∧ SAMEM nm 9 mx my mx' my' tl tl') → m_X4_isAs g h M = some 0) := by
  obtain ⟨n1, n2, n3⟩ := hm
  obtain ⟨k1, k2, k3⟩ := hm'
  unfold m_X4_isAs
  rw [n2, k2]
  by_cases c : nm = nm'
  · subst c
    rw [if_pos rfl]
    refine lp_pst nm (fun k s => s = nI k ∧ SAMEM k 9 mx my mx' my' tl tl') (fun e => ((nm = nm ∧ SAMEM nm 9 mx my mx' my' tl tl') → e = some 1) ∧ (¬ (nm = nm ∧ SAMEM nm 9 mx my mx' my' tl tl') → e = some 0)) ⟨rfl, fun l hl => by omega⟩ (by omega) ?_
    rintro k s hk ⟨rfl, z⟩ rc
    unfold m_X4_isAs_b15
    rw [n2]
    by_cases e : k = nm
    · right
      subst e
      rw [if_pos (Int32.le_refl _)]
      exact ⟨fun _ => rfl, fun q => absurd ⟨rfl, z⟩ q⟩
    · obtain ⟨a1, a2, a3, a4, a5⟩ := n3 k (by omega)
      obtain ⟨b1, b2, b3, b4, b5⟩ := k3 k (by omega)
      rw [if_neg (fun w => by rw [nI_le_iff (by omega) (by omega)] at w; omega), cl_nI (n := k) (by omega), l4_1 hg, l4_1 hh, l4_2 hg, l4_2 hh, l4_3 hh, if_ck2 (by omega) (by omega), if_ck2 (by omega) (by omega), if_ck2 (by omega) (by omega), if_ck2 (by omega) (by omega), if_ck2 (by omega) (by omega), a1, a2, b1, b2, nI_add_1]
      have no : ¬ ((mx k = mx' k ∧ my k = my' k) ∧ ∀ d, d < 9 → tl k d = tl' k d) → ((nm = nm ∧ SAMEM nm 9 mx my mx' my' tl tl') → some (0 : Int32) = some 1) ∧ (¬ (nm = nm ∧ SAMEM nm 9 mx my mx' my' tl tl') → some (0 : Int32) = some 0) := fun q => ⟨fun w => absurd (w.2 k (by omega)) q, fun _ => rfl⟩
      by_cases c1 : mx k = mx' k
      · rw [if_pos (by rw [c1])]
        by_cases c2 : my k = my' k
        · rw [if_pos (by rw [c2])]
          have ht := m_hasTail (g := g) (h := h + 3 + 1 + k) (k := k) (t := tl k) (t' := tl' k) (M := M) hp2 hg (l4_3r hh (by omega)) (by omega) a3 b3
          by_cases c3 : ∀ d, d < 9 → tl k d = tl' k d
          · left
            rw [ht.1 c3, Option.bind_some, if_1]
            refine ⟨_, by omega, ⟨rfl, fun l hl => ?_⟩, rfl⟩
            by_cases q : l = k
            · rw [q]; exact ⟨⟨c1, c2⟩, c3⟩
            · exact z l (by omega)
          · right
            rw [ht.2 c3, Option.bind_some, if_0]
            exact no (fun q => c3 q.2)
        · right
          rw [if_neg (fun w => c2 ((nI_inj (by omega) (by omega)).mp w))]
          exact no (fun q => c2 q.1.2)
      · right
        rw [if_neg (fun w => c1 ((nI_inj (by omega) (by omega)).mp w))]
        exact no (fun q => c1 q.1.1)
  · rw [if_neg (fun w => c ((nI_inj (by omega) (by omega)).mp w))]
    exact ⟨fun q => absurd q.1 c, fun _ => rfl⟩
theorem m12_j135z (s : Nat) {M : smM} {nm : Nat} (h34 : M 1000 34 = nI nm) (rc : (Int32 × Int32) → Option (Int32 × smM)) : m_X12_stands_j135 1000 (nI s) 0 M rc = some (0, M) := by
  unfold m_X12_stands_j135
  refine lp_cnt 0 (fun _ => ((0 : Int32), (0 : Int32))) rfl (by omega) (fun k hk => absurd hk (by omega)) (fun rc2 => ?_)
  unfold m_X12_stands_b138
  simp only []
  rw [if_pos trivial, if_pos trivial, ite_self]
theorem m12_j135 {p nm D s : Nat} [NeZero p] {mx my : Nat → Nat} {tl tl' : Nat → Nat → Fin p} {M : smM} (hp2 : p ≤ 97) (hs : s < 4) (h : MB2 M p nm mx my tl') (h29 : M 1000 29 = nI D) (hD : D ≤ 9) (hk : ∀ k, k < nm → ∀ t, t < 9 → M 1012 (90 * s + 9 * k + t) = nI (tl k t).val) (rc : (Int32 × Int32) → Option (Int32 × smM)) : ((∀ k, k < nm → ∀ d, d < D → tl k d = tl' k d) → m_X12_stands_j135 1000 (nI s) 1 M rc = some (1, M)) ∧ (¬ (∀ k, k < nm → ∀ d, d < D → tl k d = tl' k d) → m_X12_stands_j135 1000 (nI s) 1 M rc = some (0, M)) := by
  obtain ⟨n1, n2, n3⟩ := h
  unfold m_X12_stands_j135
  let ALL : Prop := ∀ k, k < nm → ∀ d, d < D → tl k d = tl' k d
  let Q : Option (Int32 × smM) → Prop := fun e => (ALL → e = some (1, M)) ∧ (¬ ALL → e = some (0, M))
  refine lp_pst nm (fun k w => (w = ((1 : Int32), nI k) ∧ ∀ l, l < k → ∀ d, d < D → tl l d = tl' l d) ∨ (w = ((0 : Int32), nI k) ∧ ¬ ALL)) Q (Or.inl ⟨rfl, fun l hl => by omega⟩) (by omega) ?_
  rintro k w hkn hw rc2
  rcases hw with ⟨rfl, z⟩ | ⟨rfl, z⟩
  · unfold m_X12_stands_b138
    simp only []
    rw [n2, if_1, if_1]
    by_cases e : k = nm
    · right
      subst e
      rw [if_pos (Int32.le_refl _)]
      exact ⟨fun _ => rfl, fun q => absurd z q⟩
    · rw [if_neg (fun w => by rw [nI_le_iff (by omega) (by omega)] at w; omega)]
      refine lp_pst D (fun d w => (w = ((1 : Int32), nI d) ∧ ∀ l, l < d → tl k l = tl' k l) ∨ (w = ((0 : Int32), nI d) ∧ ¬ ALL)) (fun e => (∃ s', k < nm ∧ ((s' = ((1 : Int32), nI (k + 1)) ∧ ∀ l, l < k + 1 → ∀ d, d < D → tl l d = tl' l d) ∨ (s' = ((0 : Int32), nI (k + 1)) ∧ ¬ ALL)) ∧ e = rc2 s') ∨ Q e) (Or.inl ⟨rfl, fun l hl => by omega⟩) (by omega) ?_
      rintro d w hd hw rc3
      rcases hw with ⟨rfl, y⟩ | ⟨rfl, y⟩
      · unfold m_X12_stands_b154
        simp only []
        rw [h29, if_1]
        by_cases ed : d = D
        · right
          left
          subst ed
          rw [if_pos (Int32.le_refl _), nI_add_1]
          refine ⟨_, by omega, Or.inl ⟨rfl, fun l hl => ?_⟩, rfl⟩
          by_cases q : l = k
          · rw [q]; exact y
          · exact z l (by omega)
        · left
          rw [if_neg (fun w => by rw [nI_le_iff (by omega) (by omega)] at w; omega), ix90, ix9, cl_nI (n := 90 * s + 9 * k + d) (by omega), cl_nI (n := 9 * k + d) (by omega), g_10.2.2, g_22.2.2.2.2.2.2.1, if_ck2 (by omega) (by omega), if_ck2 (by omega) (by omega), show M (1000 + 12) (90 * s + 9 * k + d) = _ from hk k (by omega) d (by omega), show M (1000 + 28) (9 * k + d) = _ from (n3 k (by omega)).2.2.1 d (by omega), nI_add_1]
          by_cases c : tl k d = tl' k d
          · rw [if_pos ((fin_nI hp2 _ _).mpr c)]
            refine ⟨_, by omega, Or.inl ⟨rfl, fun l hl => ?_⟩, rfl⟩
            by_cases q : l = d
            · rw [q]; exact c
            · exact y l (by omega)
          · rw [if_neg (fun w => c ((fin_nI hp2 _ _).mp w))]
            exact ⟨_, by omega, Or.inr ⟨rfl, fun q => c (q k (by omega) d (by omega))⟩, rfl⟩
      · unfold m_X12_stands_b154
        simp only []
        rw [h29, if_pos trivial]
        by_cases ed : d = D
        · right
          left
          subst ed
          rw [if_pos (Int32.le_refl _), nI_add_1]
          exact ⟨_, by omega, Or.inr ⟨rfl, y⟩, rfl⟩
        · left
          rw [if_neg (fun w => by rw [nI_le_iff (by omega) (by omega)] at w; omega), nI_add_1]
          exact ⟨_, by omega, Or.inr ⟨rfl, y⟩, rfl⟩
  · right
    unfold m_X12_stands_b138
    simp only []
    rw [if_pos trivial, if_pos trivial, ite_self]
    exact ⟨fun q => absurd q z, fun _ => rfl⟩
theorem m12_j62z (s : Nat) {M : smM} {nm : Nat} (h34 : M 1000 34 = nI nm) : m_X12_stands_j62 1000 (nI s) M 0 = some (0, M) := by
  unfold m_X12_stands_j62
  refine lp_cnt 0 (fun _ => ((0 : Int32), (0 : Int32))) rfl (by omega) (fun k hk => absurd hk (by omega)) (fun rc2 => ?_)
  unfold m_X12_stands_b66
  simp only []
  rw [if_pos trivial, ite_self, m12_j135z s h34]
theorem m12_j62 {p nm D s : Nat} [NeZero p] {mx my mx' my' : Nat → Nat} {tl tl' : Nat → Nat → Fin p} {M : smM} (hp2 : p ≤ 97) (hs : s < 4) (h : MB2 M p nm mx' my' tl') (h29 : M 1000 29 = nI D) (hD : D ≤ 9) (hb : ∀ k, k < nm → mx k < 1000 ∧ my k < 1000) (hk : ∀ k, k < nm → M 1010 (10 * s + k) = nI (mx k) ∧ M 1011 (10 * s + k) = nI (my k) ∧ ∀ t, t < 9 → M 1012 (90 * s + 9 * k + t) = nI (tl k t).val) : (SAMEM nm D mx my mx' my' tl tl' → m_X12_stands_j62 1000 (nI s) M 1 = some (1, M)) ∧ (¬ SAMEM nm D mx my mx' my' tl tl' → m_X12_stands_j62 1000 (nI s) M 1 = some (0, M)) := by
  have hh := h
  obtain ⟨n1, n2, n3⟩ := h
  unfold m_X12_stands_j62
  let ALL : Prop := ∀ k, k < nm → mx k = mx' k ∧ my k = my' k
  let Q : Option (Int32 × smM) → Prop := fun e => (SAMEM nm D mx my mx' my' tl tl' → e = some (1, M)) ∧ (¬ SAMEM nm D mx my mx' my' tl tl' → e = some (0, M))
  refine lp_pst nm (fun k w => (w = ((1 : Int32), nI k) ∧ ∀ l, l < k → mx l = mx' l ∧ my l = my' l) ∨ (w = ((0 : Int32), nI k) ∧ ¬ ALL)) Q (Or.inl ⟨rfl, fun l hl => by omega⟩) (by omega) ?_
  rintro k w hkn hw rc2
  rcases hw with ⟨rfl, z⟩ | ⟨rfl, z⟩
  · unfold m_X12_stands_b66
    simp only []
    rw [n2, if_1]
    by_cases e : k = nm
    · right
      subst e
      rw [if_pos (Int32.le_refl _)]
      have hj := m12_j135 (tl := tl) hp2 hs hh h29 hD (fun k hk' => (hk k hk').2.2) rc2
      refine ⟨fun q => hj.1 (fun k hk' d hd => (q k hk').2 d hd), fun q => hj.2 (fun w => q (fun k hk' => ⟨z k hk', w k hk'⟩))⟩
    · left
      obtain ⟨a1, a2, -⟩ := hk k (by omega)
      obtain ⟨b1, b2, -, b4, b5⟩ := n3 k (by omega)
      obtain ⟨b6, b7⟩ := hb k (by omega)
      rw [if_neg (fun w => by rw [nI_le_iff (by omega) (by omega)] at w; omega), ix10, cl_nI (n := 10 * s + k) (by omega), cl_nI (n := k) (by omega), g_10.1, g_10.2.1, g_22.2.2.2.2.1, g_22.2.2.2.2.2.1, if_ck2 (by omega) (by omega), if_ck2 (by omega) (by omega), if_ck2 (by omega) (by omega), if_ck2 (by omega) (by omega), show M (1000 + 10) (10 * s + k) = _ from a1, show M (1000 + 11) (10 * s + k) = _ from a2, show M (1000 + 26) k = _ from b1, show M (1000 + 27) k = _ from b2, nI_add_1]
      by_cases c1 : mx k = mx' k
      · rw [if_pos (by rw [c1])]
        by_cases c2 : my k = my' k
        · rw [if_pos (by rw [c2])]
          refine ⟨_, by omega, Or.inl ⟨rfl, fun l hl => ?_⟩, rfl⟩
          by_cases q : l = k
          · rw [q]; exact ⟨c1, c2⟩
          · exact z l (by omega)
        · rw [if_neg (fun w => c2 ((nI_inj (by omega) (by omega)).mp w))]
          exact ⟨_, by omega, Or.inr ⟨rfl, fun q => c2 (q k (by omega)).2⟩, rfl⟩
      · rw [if_neg (fun w => c1 ((nI_inj (by omega) (by omega)).mp w))]
        exact ⟨_, by omega, Or.inr ⟨rfl, fun q => c1 (q k (by omega)).1⟩, rfl⟩
  · right
    unfold m_X12_stands_b66
    simp only []
    rw [if_pos trivial, ite_self, m12_j135z s n2]
    exact ⟨fun q => absurd (fun k hk' => (q k hk').1) z, fun _ => rfl⟩
theorem t_441 : smT 1 441 0 := ⟨by decide, by decide, by decide +kernel⟩
theorem op_stands : Op_stands Rel := by
  intro M1 M2 h x
  have hr := h
  obtain ⟨p, ne, A, B, u, v, F, G, hpar, hs1, hs2, hca, hsl, him⟩ := h
  have h9 := AB9 hpar
  obtain ⟨hp, hp2⟩ := Pr_rng p hpar.1
  by_cases c : (0 : Int32) ≤ x ∧ x ≤ 3
  · obtain ⟨s, s3, rfl⟩ := rngI (h := 3) (by omega) c.1 c.2
    have ck4 : ∀ {ρ : Type} (T : Option ρ), (if nI s < 0 ∨ 4 ≤ s then none else T) = T := fun T => if_ck2 (by omega) (by omega) T
    obtain ⟨a1, a2, κ, a3, a4, a5⟩ := hsl s (by omega)
    have hκ : κ ≤ 2 := by rcases a5 with q | ⟨q, -⟩ | ⟨q, -⟩ <;> omega
    obtain ⟨w1, w2⟩ := m_wants (w := 2) (by omega) a3 a4 hκ (by omega) (by omega)
    have e1 : m_X11_stands 0 (nI s) M1 = Option.bind (m_X8_findWanting (13 + 20 * s) 2 M1) fun v16 => if v16 = 0 then (smB2 (m_X11_currentIdeal 0 M1) fun v41 M41 => Option.bind (m_X0_walk 441 (v41 + 1) (M41 (13 + 20 * s + 5) 0) (M41 (13 + 20 * s + 5) 1) (M41 (13 + 20 * s + 5) 2) M41) fun M59 => Option.bind (m_X4_isAs 443 (13 + 20 * s + 6) M59) fun v78 => Option.bind (m_X11_asAnswer v78 M59) fun v81 => some (v81, M59)) else some (v16, M1) := by
      unfold m_X11_stands
      rw [m_isSlot, Option.bind_some, b01_t c, if_1, cl_nI (n := s) (by omega), show smLn (0 + 12) = 4 from g_12, ck4]
      simp only [ck4, Nat.zero_add, Nat.reduceAdd]
    have e2 : m_X12_stands 1000 (nI s) M2 = Option.bind (m_X12_lacks 1000 (nI s) 2 M2) fun v12 => if (0 : Int32) ≤ v12 then (Option.bind (m_X12_walks 1000 (M2 1007 s) (M2 1008 s) (M2 1009 s) M2) fun M41 => if (M41 1000 34) = (M41 1003 s) then (m_X12_stands_j62 1000 (nI s) M41 (1 : Int32)) else (m_X12_stands_j62 1000 (nI s) M41 (0 : Int32))) else some (v12, M2) := by
      unfold m_X12_stands
      rw [m12_isSlot, Option.bind_some, b01_t c, if_1, cl_nI (n := s) (by omega), show smLn (1000 + 7) = 4 from g_1007, show smLn (1000 + 8) = 4 from g_1008, show smLn (1000 + 9) = 4 from g_1009, show smLn (1000 + 3) = 4 from g_1003]
      simp only [ck4, Nat.reduceAdd]
    rw [show m_X8_findWanting (13 + 20 * s) 2 M1 = _ from w1, Option.bind_some] at e1
    rw [show m_X12_lacks 1000 (nI s) 2 M2 = _ from w2, Option.bind_some] at e2
    rcases a5 with rfl | ⟨rfl, -⟩ | ⟨rfl, ne', o, ku, kv, nm, D, mx, my, tl, ⟨k1, ⟨k2, k2'⟩, k3, k3'⟩, ⟨k4, k5, k6⟩, k7, ⟨k8, k9, k10, k11⟩, k12, k13, k14⟩
    · rw [if_neg (by decide), if_pos rfl, if_neg (by decide)] at e1
      rw [if_neg (by decide), if_pos rfl, if_neg (by decide)] at e2
      exact ⟨_, _, _, e1, e2, hr⟩
    · rw [if_neg (by decide), if_neg (by decide), if_neg (by decide)] at e1
      rw [if_neg (by decide), if_neg (by decide), if_neg (by decide)] at e2
      exact ⟨_, _, _, e1, e2, hr⟩
    · obtain ⟨Ma, f1, f2, f3⟩ := m_up hpar hs1 hca
      obtain ⟨Mb, D', sx', sy', nm', mx', my', tl', g1, g2, g3⟩ := m_walk (b := 441) (q := 94) (M := Ma) t_441 tq_94 (by omega) hpar.1 hpar.2.1.1 hpar.2.2.1.1 hpar.2.1.2 hpar.2.2.1.2 k1 k2 k2' k3 k3' f2.2.1
      obtain ⟨Mc, D2, sx2, sy2, nm2, mx2, my2, tl2, h1, h2, h3⟩ := m12_walks (o := o) (u := ku) (v := kv) (M := M2) hpar.1 hpar.2.1.1 hpar.2.2.1.1 hpar.2.1.2 hpar.2.2.1.2 k1 k2 k2' k3 k3' hs2
      obtain ⟨b1, b2, b3, b4, b5⟩ := both_of hp g2 h2
      have hrel : Rel Mb Mc := rel_ca hpar hs1 hs2 hsl him (fun r hr => (g3 r (by omega) (by omega)).trans (f3 r (by omega))) (f2.fr hpar.2.1.2 hpar.2.2.1.2 (fun r h1 h2 h3 _ _ => g3 r (by omega) (by omega))).ca (fun k hk => h3.1 k (by omega)) (fun r q1 q2 => h3.2 r (by omega) (by omega))
      have k7' : MB Mb (13 + 20 * s + 6) p nm mx my tl := k7.fr (fun r _ _ => (g3 r (by omega) (by omega)).trans (f3 r (by omega)))
      have as := m_isAs (g := 443) (h := 13 + 20 * s + 6) hp2 (tb t_441).1 (t4_s (by omega)) b1.2.1 k7'
      have hci : m_X11_currentIdeal 0 M1 = some (93, Ma) := by
        unfold m_X11_currentIdeal
        rw [show m_X2_bringUpToDate (0 + 93) (0 + 1) M1 = some Ma from f1, Option.bind_some]
      rw [if_pos rfl, if_0, hci, smB2_e, f3 (13 + 20 * s + 5) (by omega), k4, k5, k6, show m_X0_walk 441 (93 + 1) (nI o) (nI ku) (nI kv) Ma = some Mb from g1, Option.bind_some] at e1
      rw [if_pos rfl, if_pos (by decide), k9, k10, k11, h1, Option.bind_some, b2.2.1, h3.2 1003 (by omega) (by omega), k8] at e2
      have ans1 : m_X11_asAnswer 1 Mb = some 1 := by unfold m_X11_asAnswer; rw [if_1]
      have ans0 : m_X11_asAnswer 0 Mb = some 0 := by unfold m_X11_asAnswer; rw [if_0]
      have hn1 := k7.1
      have hn2 := b2.1
      by_cases cn : nm' = nm
      · subst cn
        rw [if_pos rfl] at e2
        have r12 : ∀ k, k < nm' → Mc 1010 (10 * s + k) = nI (mx k) ∧ Mc 1011 (10 * s + k) = nI (my k) ∧ ∀ t, t < 9 → Mc 1012 (90 * s + 9 * k + t) = nI (tl k t).val := fun k hk => by
          rw [h3.2 1010 (by omega) (by omega), h3.2 1011 (by omega) (by omega), h3.2 1012 (by omega) (by omega)]; exact k12 k hk
        have hD9 : D' ≤ 9 := by rw [b1.2.2.1.1]; exact h9
        have hj := m12_j62 (s := s) (mx := mx) (my := my) (tl := tl) hp2 (by omega) b2 b3 hD9 (fun k hk => (k7.2.2 k hk).2.2.2) r12
        have key : SAMEM nm' 9 mx' my' mx my tl' tl ↔ SAMEM nm' D' mx my mx' my' tl tl' := by
          constructor
          · intro q k hk
            obtain ⟨⟨q1, q2⟩, q3⟩ := q k hk
            exact ⟨⟨q1.symm, q2.symm⟩, fun d hd => (q3 d (by omega)).symm⟩
          · intro q
            obtain ⟨sx, sy, kp1, kp2⟩ := k13
            have mu : ∀ i j, isMu nm' mx my i j ↔ isMu nm' mx' my' i j := fun i j => by
              constructor
              · rintro ⟨k, q1, q2, q3⟩
                exact ⟨k, q1, by rw [← (q k q1).1.1]; exact q2, by rw [← (q k q1).1.2]; exact q3⟩
              · rintro ⟨k, q1, q2, q3⟩
                exact ⟨k, q1, by rw [(q k q1).1.1]; exact q2, by rw [(q k q1).1.2]; exact q3⟩
            have kp' := fun i j => b1.2.2.2.2.1.kp (fp_01 hp) (ky_ok k1 k2 k3) b1.2.2.2.2.2.1 i j
            have eD := (rise_eq kp1 b1.2.2.2.2.1.2.1 (fun i j => by rw [kp2, kp', mu])).1
            intro k hk
            obtain ⟨⟨q1, q2⟩, q3⟩ := q k hk
            refine ⟨⟨q1.symm, q2.symm⟩, fun d hd => ?_⟩
            by_cases w : d < D'
            · exact (q3 d w).symm
            · rw [b1.2.2.2.2.2.1.2.2.2.2 k hk d (by omega), k14 k hk d (by omega)]
        by_cases cs : SAMEM nm' D' mx my mx' my' tl tl'
        · rw [as.1 ⟨rfl, key.mpr cs⟩, Option.bind_some, ans1, Option.bind_some] at e1
          rw [hj.1 cs] at e2
          exact ⟨_, _, _, e1, e2, hrel⟩
        · rw [as.2 (fun q => cs (key.mp q.2)), Option.bind_some, ans0, Option.bind_some] at e1
          rw [hj.2 cs] at e2
          exact ⟨_, _, _, e1, e2, hrel⟩
      · rw [as.2 (fun q => cn q.1), Option.bind_some, ans0, Option.bind_some] at e1
        rw [if_neg (fun w => cn ((nI_inj (by omega) (by omega)).mp w)), m12_j62z s b2.2.1] at e2
        exact ⟨_, _, _, e1, e2, hrel⟩
  · have e1 : m_X11_stands 0 x M1 = some (-1, M1) := by
      unfold m_X11_stands
      rw [m_isSlot, Option.bind_some, b01_f c, if_0]
    have e2 : m_X12_stands 1000 x M2 = some (-1, M2) := by
      unfold m_X12_stands
      rw [m12_isSlot, Option.bind_some, b01_f c, if_0]
    exact ⟨_, _, _, e1, e2, hr⟩
