/-! the least polynomials; the call least -/
def LPZ {p : Nat} [NeZero p] (Z : Nat → Nat → Fin p) (h : Nat) (c : Nat → Fin p) : Prop := c h = 1 ∧ (∀ d, su (fun k => c k * Z k d) (h + 1) = 0) ∧ ∀ e : Nat → Fin p, (∀ d, su (fun k => e k * Z k d) h = 0) → ∀ k, k < h → e k = 0
theorem LPZ.le {p : Nat} [NeZero p] (hp : 2 ≤ p) {Z : Nat → Nat → Fin p} {h h' : Nat} {c c' : Nat → Fin p} (a : LPZ Z h c) (b : LPZ Z h' c') : h' ≤ h := by
  apply Classical.byContradiction
  intro hn
  have := b.2.2 (fun k => if k < h + 1 then c k else 0) (fun d => by
    have e : su (fun k => (if k < h + 1 then c k else 0) * Z k d) h' = su (fun k => if k < h + 1 then c k * Z k d else 0) h' := su_cong (fun k _ => by
      by_cases q : k < h + 1
      · rw [if_pos q, if_pos q]
      · rw [if_neg q, if_neg q, r_0m])
    rw [e, su_ext (fun k => c k * Z k d) (show h + 1 ≤ h' by omega)]
    exact a.2.1 d) h (by omega)
  simp only [if_pos (Nat.lt_succ_self h)] at this
  rw [a.1] at this
  exact fp_01 hp this.symm
theorem LPZ.eq {p : Nat} [NeZero p] (hp : 2 ≤ p) {Z : Nat → Nat → Fin p} {h h' : Nat} {c c' : Nat → Fin p} (a : LPZ Z h c) (b : LPZ Z h' c') : h = h' ∧ ∀ k, k ≤ h → c k = c' k := by
  have e : h = h' := Nat.le_antisymm (b.le hp a) (a.le hp b)
  subst e
  refine ⟨rfl, fun k hk => ?_⟩
  by_cases q : k = h
  · rw [q, a.1, b.1]
  · have := a.2.2 (fun k => c k - c' k) (fun d => by
      have e1 := a.2.1 d
      have e2 := b.2.1 d
      have e3 : su (fun k => (c k - c' k) * Z k d) h = su (fun k => c k * Z k d + -(c' k * Z k d)) h := su_cong (fun k _ => by grind)
      rw [e3, su_add, su_neg]
      simp only [su] at e1 e2
      rw [a.1] at e1
      rw [b.1] at e2
      grind) k (by omega)
    have : c k - c' k = 0 := this
    grind
theorem LST.lp {M : smM} {q p : Nat} [NeZero p] {Z : Nat → Nat → Fin p} (h : LST M q p Z) : ∃ (n : Nat) (c : Nat → Fin p), n ≤ 9 ∧ M q 0 = nI n ∧ M q 3 = nI p ∧ (∀ k, k ≤ n → M (q + 1) k = nI (c k).val) ∧ LPZ Z n c := by
  obtain ⟨n, c, h1, h2, h3, h4, h5, h6, h7⟩ := h
  exact ⟨n, c, h1, h2, h3, h4, h5, h6, h7⟩
theorem lp_of {p h D : Nat} [NeZero p] {Z : Nat → Nat → Fin p} {V : Nat → Nat → Fin p} {t : Nat → Fin p} (hD : h ≤ D) (hV : ∀ k, k < h → V k = Z k) (hmem : ∀ d, Z h d + su (fun k => t k * V k d) D = 0) (ht : ∀ k, h ≤ k → t k = 0) (hind : ∀ c : Nat → Fin p, (∀ d, su (fun k => c k * V k d) D = 0) → ∀ k, k < D → c k = 0) : LPZ Z h (fun k => if k < h then t k else 1) := by
  refine ⟨?_, fun d => ?_, fun e he k hk => ?_⟩
  · simp only [if_neg (Nat.lt_irrefl h)]
  · show su (fun k => (if k < h then t k else 1) * Z k d) h + (if h < h then t h else 1) * Z h d = 0
    rw [if_neg (Nat.lt_irrefl h), r_1m]
    have e1 : su (fun k => (if k < h then t k else 1) * Z k d) h = su (fun k => t k * V k d) h := su_cong (fun k hk => by rw [if_pos hk, hV k hk])
    have e2 := su_ext (fun k => t k * V k d) hD
    have e3 : su (fun k => if k < h then t k * V k d else 0) D = su (fun k => t k * V k d) D := su_cong (fun k _ => by
      by_cases q : k < h
      · rw [if_pos q]
      · rw [if_neg q, ht k (by omega), r_0m])
    rw [e1, ← e2, e3]
    have := hmem d
    grind
  · have := hind (fun k => if k < h then e k else 0) (fun d => by
      have e2 := su_ext (fun k => e k * V k d) hD
      have e3 : su (fun k => (if k < h then e k else 0) * V k d) D = su (fun k => if k < h then e k * V k d else 0) D := su_cong (fun k _ => by
        by_cases q : k < h
        · rw [if_pos q, if_pos q]
        · rw [if_neg q, if_neg q, r_0m])
      rw [e3, e2, su_cong (g := fun k => e k * Z k d) (fun k hk => by rw [hV k hk])]
      exact he d) k (by omega)
    simp only [if_pos hk] at this
    exact this
def ZL {p : Nat} [NeZero p] (A B : Nat) (F G : Nat → Nat → Fin p) (w : Nat) : Nat → Nat → Fin p := if w = 0 then (fun k d => Nn A B F G k 0 d) else (fun k d => Nn A B F G 0 k d)
def FRL (M M' : smM) : Prop := (∀ k, k < 26 → M' 1000 k = M 1000 k) ∧ ∀ r, 1001 ≤ r → r ≤ 1014 → M' r = M r
theorem FRL.trans {M M' M2 : smM} (h : FRL M M') (h2 : FRL M' M2) : FRL M M2 := ⟨fun k a => (h2.1 k a).trans (h.1 k a), fun r a b => (h2.2 r a b).trans (h.2 r a b)⟩
theorem FR3.l {M M' : smM} (h : FR3 M M') : FRL M M' := ⟨fun k hk => h.1 k (by omega), fun r h1 h2 => h.2 r (by omega) (by omega)⟩
theorem SET2.fl {M M' : smM} {p A B u v : Nat} [NeZero p] {F G : Nat → Nat → Fin p} (h : SET2 M p A B u v F G) (f : FRL M M') : SET2 M' p A B u v F G := h.fr (fun k hk => f.1 k (by omega)) (f.2 1001 (by omega) (by omega))
theorem g_32 : smLn (1000 + 32) = 10 ∧ smLn (1000 + 33) = 10 ∧ smLn (1000 + 34) = 10 ∧ smLn (1000 + 35) = 9 ∧ smLn (1000 + 36) = 9 := by decide +kernel
theorem m12_leastl {p h : Nat} [NeZero p] {t : Nat → Fin p} {M : smM} (h9 : h ≤ 9) (hp : 2 ≤ p) (ht : ∀ k, k < h → M 1028 k = nI (t k).val) : ∃ M', m_X12_findsLeast_j35 1000 1000 M (nI h) = some M' ∧ M' 1000 43 = nI h ∧ (∀ k, k ≤ h → M' 1032 k = nI (if k < h then t k else 1).val) ∧ (∀ k, k ≠ 43 → M' 1000 k = M 1000 k) ∧ ∀ r, r ≠ 1000 → r ≠ 1032 → M' r = M r := by
  generalize hM : smS M 1000 43 (nI h) = Ma
  have a43 : Ma 1000 43 = nI h := by rw [← hM, smS_at]
  have ao : ∀ r, r ≠ 1000 → Ma r = M r := fun r hr => by rw [← hM, smS_o hr]
  refine ⟨smS (fil Ma 1032 (fun k => nI (t k).val) h) 1032 h 1, ?_, ?_, fun k hk => ?_, fun k hk => ?_, fun r h1 h2 => ?_⟩
  · unfold m_X12_findsLeast_j35
    rw [smB_e, hM]
    refine lp_cnt h (fun k => (nI k, fil Ma 1032 (fun k => nI (t k).val) k)) (by rw [fil_0]; rfl) (by omega) (fun k hk rc => ?_) (fun rc => ?_)
    · unfold m_X12_findsLeast_b40
      simp only []
      rw [fil_o (show (1000 : Nat) ≠ 1032 by omega), a43, if_neg (by rw [nI_le_iff (by omega) (by omega)]; omega), cl_nI (by omega), g_22.2.2.2.2.2.2.1, g_32.1, if_ck2 (by omega) (by omega), if_ck2 (by omega) (by omega), smB_e, fil_o (show (1000 + 28 : Nat) ≠ 1032 by omega), ao (1000 + 28) (by omega), show M (1000 + 28) k = _ from ht k hk, show (1000 + 32 : Nat) = 1032 from rfl, fil_s Ma 1032 k (fun k => nI (t k).val), nI_add_1]
    · unfold m_X12_findsLeast_b40
      simp only []
      rw [fil_o (show (1000 : Nat) ≠ 1032 by omega), a43, if_pos (Int32.le_refl _), cl_nI (by omega), g_32.1, if_ck2 (by omega) (by omega), smB_e]
  · rw [smS_o (by omega), fil_o (by omega), a43]
  · by_cases q : k = h
    · subst q
      rw [smS_at, if_neg (Nat.lt_irrefl k)]
      have : (1 : Fin p).val = 1 := by
        show 1 % p = 1
        exact Nat.mod_eq_of_lt (by omega)
      rw [this]; rfl
    · rw [smS_ne q, fil_in (by omega), if_pos (by omega)]
  · rw [smS_o (by omega), fil_o (by omega), ← hM, smS_ne hk]
  · rw [smS_o h2, fil_o h2, ao r h1]
theorem m12_findsLeast {p A B u v w : Nat} [NeZero p] {F G : Nat → Nat → Fin p} {M : smM} (hpar : PARAM p A B u v) (hS : SET2 M p A B u v F G) (hw : w < 2) : ∃ (M' : smM) (h : Nat) (c : Nat → Fin p), m_X12_findsLeast 1000 (nI w) M = some M' ∧ (1 ≤ h ∧ h ≤ 9) ∧ M' 1000 43 = nI h ∧ (∀ k, k ≤ h → M' 1032 k = nI (c k).val) ∧ LPZ (ZL A B F G w) h c ∧ FRL M M' := by
  have h9 := AB9 hpar
  obtain ⟨hpr, ⟨hA, hA3⟩, ⟨hB, hB3⟩, -⟩ := hpar
  obtain ⟨hp, hp2⟩ := Pr_rng p hpr
  have h01 : (0 : Fin p) ≠ 1 := fp_01 hp
  rcases (show w = 0 ∨ w = 1 by omega) with rfl | rfl
  · obtain ⟨Ma, D, sx, sy, nm, mx, my, tl, a1, a2, a3⟩ := m12_walks (o := 1) (u := 1) (v := 1) hpr hA hB hA3 hB3 (by omega) (by omega) (by omega) (by omega) (by omega) hS
    obtain ⟨n, x1, x2, x3, x4, x5, x6, x7⟩ := first_x h01 (u := 1) (v := 1) (by omega) (by omega) hA hB a2.2.2.2.1 a2.2.2.2.2.1
    have eD := a2.2.1.1
    obtain ⟨Mb, b1, b2, b3, b4, b5⟩ := m12_leastl (h := n) (t := tl 0) (M := Ma) (by omega) hp (fun k hk => by
      have := (a2.1.2.2 0 x4).2.2.1 k (by omega)
      rw [show 9 * 0 + k = k by omega] at this
      exact this)
    refine ⟨Mb, n, _, ?_, ⟨x1, by omega⟩, b2, b3, ?_, a3.l.trans ⟨fun k hk => b4 k (by omega), fun r h1 h2 => b5 r (by omega) (by omega)⟩⟩
    · unfold m_X12_findsLeast m_X12_findsLeast_j10
      rw [if_pos n_00, show (1 : Int32) = nI 1 from rfl, a1, Option.bind_some, if_pos n_00, c0_cl, g_22.2.2.2.2.1, ck_0 (by omega), show Ma (1000 + 26) 0 = nI n from x5 ▸ (a2.1.2.2 0 x4).1, b1]
    · unfold ZL
      rw [if_pos rfl]
      refine lp_of (D := D) (V := fun k d => Nn A B F G (sx k) (sy k) d) x2 (fun k hk => ?_) (fun d => ?_) x7 a2.2.2.2.1.1
      · funext d
        show Nn A B F G (sx k) (sy k) d = Nn A B F G k 0 d
        rw [(x3 k hk).1, (x3 k hk).2]
      · have := a2.2.2.2.2.1.2.2.2.1 0 x4 d
        rw [x5, x6] at this
        exact this
  · obtain ⟨Ma, D, sx, sy, nm, mx, my, tl, a1, a2, a3⟩ := m12_walks (o := 0) (u := 1) (v := 1) hpr hA hB hA3 hB3 (by omega) (by omega) (by omega) (by omega) (by omega) hS
    obtain ⟨n, x1, x2, x3, x4, x5, x6, x7⟩ := first_y h01 (u := 1) (v := 1) (by omega) (by omega) hA hB a2.2.2.2.1 a2.2.2.2.2.1
    have eD := a2.2.1.1
    obtain ⟨Mb, b1, b2, b3, b4, b5⟩ := m12_leastl (h := n) (t := tl 0) (M := Ma) (by omega) hp (fun k hk => by
      have := (a2.1.2.2 0 x4).2.2.1 k (by omega)
      rw [show 9 * 0 + k = k by omega] at this
      exact this)
    refine ⟨Mb, n, _, ?_, ⟨x1, by omega⟩, b2, b3, ?_, a3.l.trans ⟨fun k hk => b4 k (by omega), fun r h1 h2 => b5 r (by omega) (by omega)⟩⟩
    · unfold m_X12_findsLeast m_X12_findsLeast_j10
      rw [if_neg n_10, show m_X12_walks 1000 0 1 1 M = some Ma from a1, Option.bind_some, if_neg n_10, c0_cl, g_22.2.2.2.2.2.1, ck_0 (by omega), show Ma (1000 + 27) 0 = nI n from x5 ▸ (a2.1.2.2 0 x4).2.1, b1]
    · unfold ZL
      rw [if_neg (by decide)]
      refine lp_of (D := D) (V := fun k d => Nn A B F G (sx k) (sy k) d) x2 (fun k hk => ?_) (fun d => ?_) x7 a2.2.2.2.1.1
      · funext d
        show Nn A B F G (sx k) (sy k) d = Nn A B F G 0 k d
        rw [(x3 k hk).1, (x3 k hk).2]
      · have := a2.2.2.2.2.1.2.2.2.1 0 x4 d
        rw [x5, x6] at this
        exact this
theorem CU.lst {M : smM} {p : Nat} [NeZero p] {A B u v : Nat} {F G : Nat → Nat → Fin p} (h : CU M A B u v F G) {w : Nat} (hw : w < 2) : LST M (134 + 6 * w) p (ZL A B F G w) := by
  rcases (show w = 0 ∨ w = 1 by omega) with rfl | rfl
  · exact h.2.2.2.2.1
  · exact h.2.2.2.2.2.1
theorem m_current {M : smM} {p A B u v : Nat} [NeZero p] {F G : Nat → Nat → Fin p} (hpar : PARAM p A B u v) (hS : SET M 1 p A B u v F G) (hca : CA M A B u v F G) : ∃ M', m_X11_currentIdeal 0 M = some (93, M') ∧ CU M' A B u v F G ∧ ∀ r, (r < 93 ∨ 440 ≤ r) → M' r = M r := by
  obtain ⟨Ma, f1, f2, f3⟩ := m_up hpar hS hca
  refine ⟨Ma, ?_, f2, f3⟩
  unfold m_X11_currentIdeal
  rw [show m_X2_bringUpToDate (0 + 93) (0 + 1) M = some Ma from f1, Option.bind_some]
theorem g_ln : ∀ w, w < 2 → smLn (134 + 6 * w + 1) = 10 ∧ smLn (134 + 6 * w + 2) = 9 ∧ smLn (134 + 6 * w + 3) = 18 ∧ smLn (134 + 6 * w + 4) = 10 ∧ smLn (134 + 6 * w + 5) = 10 := by decide +kernel
theorem rel_l {M1 M2 M1' M2' : smM} {p : Nat} {ne : NeZero p} {A B u v : Nat} {F G : Nat → Nat → Fin p} (hpar : PARAM p A B u v) (hs1 : SET M1 1 p A B u v F G) (hs2 : SET2 M2 p A B u v F G) (hsl : ∀ s, s < 4 → SLOT M1 M2 s p) (him : ∀ i, i < 2 → IMG M1 M2 i) (e1 : ∀ r, r < 93 → M1' r = M1 r) (hca : CU M1' A B u v F G) (e2 : FRL M2 M2') : Rel M1' M2' := rel_ca hpar hs1 hs2 hsl him e1 hca.ca (fun k hk => e2.1 k (by omega)) e2.2
theorem op_least : Op_least Rel := by
  intro M1 M2 h x y
  have hr := h
  obtain ⟨p, ne, A, B, u, v, F, G, hpar, hs1, hs2, hca, hsl, him⟩ := h
  obtain ⟨hp, hp2⟩ := Pr_rng p hpar.1
  by_cases c : (0 : Int32) ≤ x ∧ x ≤ 1
  · obtain ⟨w, w1, rfl⟩ := rngI (h := 1) (by omega) c.1 c.2
    obtain ⟨M2', n', c', b1, ⟨b2', b2⟩, b3, b4, b5, b6⟩ := m12_findsLeast (w := w) hpar hs2 (by omega)
    have e2 : m_X12_least 1000 (nI w) y M2 = if y = (-1 : Int32) then (some (nI n', M2')) else (if b01 (0 ≤ y ∧ y ≤ nI n') = (0 : Int32) then (some ((-1 : Int32), M2')) else (if y < 0 ∨ 10 ≤ y.toNatClampNeg then none else some ((M2' 1032 y.toNatClampNeg), M2'))) := by
      unfold m_X12_least
      rw [show (0 : Int64) = (0 : Int32).toInt64 from rfl, show (1 : Int64) = (1 : Int32).toInt64 from rfl, m12_in, Option.bind_some, b01_t c, if_1, b1, Option.bind_some, b3, m12_in, Option.bind_some, g_32.1]
    by_cases cy : (-1 : Int32) ≤ y
    · obtain ⟨M1', a1, a2, a3⟩ := m_current hpar hs1 hca
      obtain ⟨n, cc, d1, d2, d3, d4, d5⟩ := (a2.lst (w := w) (by omega)).lp
      obtain ⟨en, ec⟩ := d5.eq hp b5
      subst en
      have hrel := rel_l hpar hs1 hs2 hsl him (fun r hr => a3 r (by omega)) a2 b6
      have e1 : m_X11_least 0 (nI w) y M1 = if y ≤ nI n then (if y = (-1 : Int32) then (some (nI n, M1')) else (if y < 0 ∨ 10 ≤ y.toNatClampNeg then none else some ((M1' (134 + 6 * w + 1) y.toNatClampNeg), M1'))) else (some ((-1 : Int32), M1')) := by
        unfold m_X11_least
        rw [m_isUnknown, Option.bind_some, b01_t c, if_1, if_pos cy, a1, smB2_e, cl_nI (n := w) (by omega), show smLn (93 + 40) = 2 from g_le.2.2.2.1, if_ck2 (by omega) (by omega), show 93 + 40 + 1 + 6 * w = 134 + 6 * w from rfl, d2, (g_ln w (by omega)).1]
      by_cases cm : y = -1
      · subst cm
        rw [if_pos rfl, if_pos (show (-1 : Int32) ≤ nI n by
          rw [Int32.le_iff_toInt_le, nI_toInt (by omega)]
          have : (-1 : Int32).toInt = -1 := rfl
          omega)] at e1
        rw [if_pos rfl] at e2
        exact ⟨_, _, _, e1, e2, hrel⟩
      · rw [if_neg cm] at e1 e2
        have c0 : (0 : Int32) ≤ y := by
          rw [Int32.le_iff_toInt_le] at cy ⊢
          have e1 : (-1 : Int32).toInt = -1 := rfl
          have e0 : (0 : Int32).toInt = 0 := rfl
          have e3 : y.toInt ≠ -1 := fun w => cm (Int32.toInt_inj.mp (w.trans e1.symm))
          omega
        obtain ⟨k, hk, rfl⟩ := nat_of c0
        by_cases ck : k ≤ n
        · rw [if_pos ((nI_le_iff (by omega) (by omega)).mpr ck), cl_nI (n := k) hk, if_ck2 (by omega) (by omega), d4 k ck] at e1
          rw [b01_t ⟨c0, (nI_le_iff (by omega) (by omega)).mpr ck⟩, if_1, cl_nI (n := k) hk, if_ck2 (by omega) (by omega), b4 k ck, ← ec k ck] at e2
          exact ⟨_, _, _, e1, e2, hrel⟩
        · rw [if_neg (fun w => ck ((nI_le_iff (by omega) (by omega)).mp w))] at e1
          rw [b01_f (fun w => ck ((nI_le_iff (by omega) (by omega)).mp w.2)), if_0] at e2
          exact ⟨_, _, _, e1, e2, hrel⟩
    · have e1 : m_X11_least 0 (nI w) y M1 = some (-1, M1) := by
        unfold m_X11_least
        rw [m_isUnknown, Option.bind_some, b01_t c, if_1, if_neg cy]
      have hy : y.toInt < -1 := by
        rw [Int32.le_iff_toInt_le] at cy
        have e1 : (-1 : Int32).toInt = -1 := rfl
        omega
      rw [if_neg (fun w => cy (by rw [w]; exact Int32.le_refl _)), b01_f (fun w => by
        have := w.1
        rw [Int32.le_iff_toInt_le] at this
        have e0 : (0 : Int32).toInt = 0 := rfl
        omega), if_0] at e2
      exact ⟨_, _, _, e1, e2, rel_fr hr (fun _ _ => rfl) (fun k hk => b6.1 k (by omega)) b6.2⟩
  · have e1 : m_X11_least 0 x y M1 = some (-1, M1) := by
      unfold m_X11_least
      rw [m_isUnknown, Option.bind_some, b01_f c, if_0]
    have e2 : m_X12_least 1000 x y M2 = some (-1, M2) := by
      unfold m_X12_least
      rw [show (0 : Int64) = (0 : Int32).toInt64 from rfl, show (1 : Int64) = (1 : Int32).toInt64 from rfl, m12_in, Option.bind_some, b01_f c, if_0]
    exact ⟨_, _, _, e1, e2, hr⟩
