/-! moving to another field -/
def rd (p : Nat) [NeZero p] (x : Int32) : Int32 := nI (fz p x.toInt).val
theorem m_left {x : Int32} {p : Nat} [NeZero p] (hp : 2 ≤ p) (hp2 : p ≤ 97) (M : smM) : m_X11_leftOver x (nI p) M = some (rd p x) := by
  have r := fb_rng x
  have := m_leftOver (z := x.toInt) (p := p) r.1 r.2 hp (by omega) M
  rw [← jI_of x] at this
  exact this
theorem rd_nI {p c : Nat} [NeZero p] (hc : c < 2147483648) : rd p (nI c) = nI (c % p) := by
  unfold rd
  rw [nI_toInt hc]
  congr 1
def mvr (M : smM) (g p : Nat) [NeZero p] : Nat → smM
  | 0 => M
  | k + 1 => fil (mvr M g p k) (g + 3 + 1 + k) (fun t => rd p (M (g + 3 + 1 + k) t)) 9
theorem mvr_o {M : smM} {g p : Nat} [NeZero p] : ∀ {k r : Nat}, (r < g + 4 ∨ g + 4 + k ≤ r) → mvr M g p k r = M r
  | 0, _, _ => rfl
  | k + 1, r, h => by
    show fil _ _ _ _ r = _
    rw [fil_o (by omega)]; exact mvr_o (by omega)
theorem mvr_in {M : smM} {g p : Nat} [NeZero p] : ∀ {k j t : Nat}, j < k → t < 9 → mvr M g p k (g + 3 + 1 + j) t = rd p (M (g + 3 + 1 + j) t)
  | 0, _, _, h, _ => absurd h (Nat.not_lt_zero _)
  | k + 1, j, t, h, ht => by
    show fil _ _ _ _ _ t = _
    by_cases e : j = k
    · subst e; rw [fil_in ht]
    · rw [fil_o (by omega)]; exact mvr_in (by omega) ht
theorem m_mbMove {g p nm : Nat} [NeZero p] {M : smM} (hg : smT 1 g 4) (hp : 2 ≤ p) (hp2 : p ≤ 97) (hn : nm ≤ 10) (h0 : M g 0 = nI nm) : m_X4_moveToField g (nI p) M = some (mvr M g p nm) := by
  unfold m_X4_moveToField
  refine lp_cnt nm (fun k => (nI k, mvr M g p k)) rfl (by omega) (fun k hk rc => ?_) (fun rc => ?_)
  · show m_X4_moveToField_b2 g (nI p) rc (nI k) (mvr M g p k) = rc (nI (k + 1), mvr M g p (k + 1))
    unfold m_X4_moveToField_b2
    rw [mvr_o (r := g) (by omega), h0, if_neg (fun q => by rw [nI_le_iff (by omega) (by omega)] at q; omega)]
    refine lp_cnt 9 (fun t => (nI t, fil (mvr M g p k) (g + 3 + 1 + k) (fun t => rd p (M (g + 3 + 1 + k) t)) t)) (by rw [fil_0]; rfl) (by omega) (fun t ht rc' => ?_) (fun rc' => ?_)
    · show m_X4_moveToField_b12 g (nI p) (nI k) rc rc' (nI t) (fil (mvr M g p k) (g + 3 + 1 + k) (fun t => rd p (M (g + 3 + 1 + k) t)) t) = rc' (nI (t + 1), fil (mvr M g p k) (g + 3 + 1 + k) (fun t => rd p (M (g + 3 + 1 + k) t)) (t + 1))
      unfold m_X4_moveToField_b12
      rw [if_neg (fun q => by rw [show (9 : Int32) = nI 9 from rfl, nI_le_iff (by omega) (by omega)] at q; omega), cl_nI (n := k) (by omega), cl_nI (n := t) (by omega), l4_3 hg, l4_3r hg (by omega), if_ck2 (by omega) (by omega), if_ck2 (by omega) (by omega), if_ck2 (by omega) (by omega), m_left hp hp2, Option.bind_some, if_ck2 (by omega) (by omega), smB_e, fil_out (Nat.le_refl t), mvr_o (by omega), nI_add_1, fil_s]
    · show m_X4_moveToField_b12 g (nI p) (nI k) rc rc' (nI 9) (fil (mvr M g p k) (g + 3 + 1 + k) (fun t => rd p (M (g + 3 + 1 + k) t)) 9) = _
      unfold m_X4_moveToField_b12
      rw [if_pos (by decide), nI_add_1]
      rfl
  · show m_X4_moveToField_b2 g (nI p) rc (nI nm) (mvr M g p nm) = _
    unfold m_X4_moveToField_b2
    rw [mvr_o (r := g) (by omega), h0, if_pos ((nI_le_iff (by omega) (by omega)).mpr (Nat.le_refl nm))]
theorem m_polMove {q n L p : Nat} [NeZero p] {M : smM} (l1 : smLn (q + 1) = L) (l2 : smLn (q + 2) = L) (l3 : smLn (q + 3) = L) (hn : n ≤ L) (hL : L < 1000) (hp : 2 ≤ p) (hp2 : p ≤ 97) (h0 : M q 0 = nI n) : ∃ M', m_X5_moveToField q (nI p) M = some M' ∧ M' q 0 = nI (sel (fun k => rd p (M (q + 1) k)) n).1 ∧ (∀ j, j < (sel (fun k => rd p (M (q + 1) k)) n).1 → M' (q + 1) j = rd p (M (q + 1) ((sel (fun k => rd p (M (q + 1) k)) n).2 j)) ∧ M' (q + 2) j = M (q + 2) ((sel (fun k => rd p (M (q + 1) k)) n).2 j) ∧ M' (q + 3) j = M (q + 3) ((sel (fun k => rd p (M (q + 1) k)) n).2 j)) ∧ ∀ r, (r < q ∨ q + 4 ≤ r) → M' r = M r := by
  have hl : m_X5_moveToField q (nI p) M = m_X5_takeZerosAway q (fil M (q + 1) (fun k => rd p (M (q + 1) k)) n) := by
    unfold m_X5_moveToField
    refine lp_cnt n (fun k => (nI k, fil M (q + 1) (fun k => rd p (M (q + 1) k)) k)) (by rw [fil_0]; rfl) (by omega) (fun k hk rc => ?_) (fun rc => ?_)
    · show m_X5_moveToField_b2 q (nI p) rc (nI k) (fil M (q + 1) (fun k => rd p (M (q + 1) k)) k) = rc (nI (k + 1), fil M (q + 1) (fun k => rd p (M (q + 1) k)) (k + 1))
      unfold m_X5_moveToField_b2
      rw [fil_o (show q ≠ q + 1 by omega), h0, if_neg (fun q => by rw [nI_le_iff (by omega) (by omega)] at q; omega), cl_nI (n := k) (by omega), l1, if_ck2 (by omega) (by omega), m_left hp hp2, Option.bind_some, if_ck2 (by omega) (by omega), smB_e, fil_out (Nat.le_refl k), nI_add_1, fil_s]
    · show m_X5_moveToField_b2 q (nI p) rc (nI n) (fil M (q + 1) (fun k => rd p (M (q + 1) k)) n) = _
      unfold m_X5_moveToField_b2
      rw [fil_o (show q ≠ q + 1 by omega), h0, if_pos ((nI_le_iff (by omega) (by omega)).mpr (Nat.le_refl n))]
      cases m_X5_takeZerosAway q (fil M (q + 1) (fun k => rd p (M (q + 1) k)) n) with
      | none => rfl
      | some m => rfl
  obtain ⟨M', e1, e2, e3, e4⟩ := m_takeZeros (M := fil M (q + 1) (fun k => rd p (M (q + 1) k)) n) l1 l2 l3 hn hL (by rw [fil_o (by omega)]; exact h0)
  have es : sel (fil M (q + 1) (fun k => rd p (M (q + 1) k)) n (q + 1)) n = sel (fun k => rd p (M (q + 1) k)) n := sel_cong (fun k hk => fil_in hk)
  rw [es] at e2 e3
  have hok := sel_ok (C := fun k => rd p (M (q + 1) k)) n
  refine ⟨M', hl.trans e1, e2, fun j hj => ?_, fun r hr => by rw [e4 r hr, fil_o (by omega)]⟩
  obtain ⟨d1, d2, d3⟩ := e3 j hj
  have hf := (hok.2.1 j hj).1
  rw [fil_in hf] at d1
  rw [fil_o (by omega)] at d2 d3
  exact ⟨d1, d2, d3⟩
theorem g_ms : ∀ s, s < 4 → smKd (13 + 20 * s + 6) = 4 := by decide +kernel
theorem t4_s {s : Nat} (h : s < 4) : smT 1 (13 + 20 * s + 6) 4 := ⟨by show 0 ≤ _; omega, by show _ < 0 + 507; omega, g_ms s h⟩
/-- one slot of the class, moved -/
def MVD (M M' : smM) (s p : Nat) [NeZero p] : Prop := M' (13 + 20 * s) = M (13 + 20 * s) ∧ M' (13 + 20 * s + 5) = M (13 + 20 * s + 5) ∧ (∀ n, n ≤ 8 → M (13 + 20 * s + 1) 0 = nI n → M' (13 + 20 * s + 1) 0 = nI (sel (fun k => rd p (M (13 + 20 * s + 1 + 1) k)) n).1 ∧ ∀ j, j < (sel (fun k => rd p (M (13 + 20 * s + 1 + 1) k)) n).1 → M' (13 + 20 * s + 1 + 1) j = rd p (M (13 + 20 * s + 1 + 1) ((sel (fun k => rd p (M (13 + 20 * s + 1 + 1) k)) n).2 j)) ∧ M' (13 + 20 * s + 1 + 2) j = M (13 + 20 * s + 1 + 2) ((sel (fun k => rd p (M (13 + 20 * s + 1 + 1) k)) n).2 j) ∧ M' (13 + 20 * s + 1 + 3) j = M (13 + 20 * s + 1 + 3) ((sel (fun k => rd p (M (13 + 20 * s + 1 + 1) k)) n).2 j)) ∧ ∀ nm, nm ≤ 10 → M (13 + 20 * s + 6) 0 = nI nm → (∀ r, r < 4 → M' (13 + 20 * s + 6 + r) = M (13 + 20 * s + 6 + r)) ∧ ∀ k t, k < nm → t < 9 → M' (13 + 20 * s + 6 + 3 + 1 + k) t = rd p (M (13 + 20 * s + 6 + 3 + 1 + k) t)
theorem MVD.fr {M M' M2 : smM} {s p : Nat} [NeZero p] (h : MVD M M' s p) (e : ∀ r, 13 + 20 * s ≤ r → r < 33 + 20 * s → M2 r = M' r) : MVD M M2 s p := by
  obtain ⟨a1, a2, a3, a4⟩ := h
  refine ⟨by rw [e _ (by omega) (by omega)]; exact a1, by rw [e _ (by omega) (by omega)]; exact a2, fun n hn h0 => ?_, fun nm hnm h0 => ?_⟩
  · rw [e (13 + 20 * s + 1) (by omega) (by omega), e (13 + 20 * s + 1 + 1) (by omega) (by omega), e (13 + 20 * s + 1 + 2) (by omega) (by omega), e (13 + 20 * s + 1 + 3) (by omega) (by omega)]
    exact a3 n hn h0
  · refine ⟨fun r hr => by rw [e _ (by omega) (by omega)]; exact (a4 nm hnm h0).1 r hr, fun k t hk ht => ?_⟩
    rw [e _ (by omega) (by omega)]; exact (a4 nm hnm h0).2 k t hk ht
theorem m_moveSlots {p : Nat} [NeZero p] {M : smM} (hp : 2 ≤ p) (hp2 : p ≤ 97) (h0 : M 1 0 = nI p) (hc : ∀ s, s < 4 → (∃ n, n ≤ 8 ∧ M (13 + 20 * s + 1) 0 = nI n) ∧ ∃ n, n ≤ 10 ∧ M (13 + 20 * s + 6) 0 = nI n) : ∃ M', m_X11_moveSlotsToField 0 M = some M' ∧ (∀ s, s < 4 → MVD M M' s p) ∧ ∀ r, (r < 13 ∨ 93 ≤ r) → M' r = M r := by
  unfold m_X11_moveSlotsToField
  refine lp_post (ρ := smM) 4 (fun k q => ∃ M' : smM, q = (nI k, M') ∧ (∀ s, s < k → MVD M M' s p) ∧ ∀ r, (r < 13 ∨ 13 + 20 * k ≤ r) → M' r = M r) (fun e => ∃ M', e = some M' ∧ (∀ s, s < 4 → MVD M M' s p) ∧ ∀ r, (r < 13 ∨ 93 ≤ r) → M' r = M r) ⟨M, rfl, fun s hs => absurd hs (Nat.not_lt_zero s), fun _ _ => rfl⟩ (by omega) ?_
  rintro k q hk ⟨M', rfl, g1, g2⟩
  by_cases e4 : k = 4
  · right
    subst e4
    refine ⟨_, ⟨M', rfl, g1, fun r hr => g2 r (by omega)⟩, fun rc => ?_⟩
    show m_X11_moveSlotsToField_b2 0 rc (nI 4) M' = _
    unfold m_X11_moveSlotsToField_b2
    rw [if_pos (by decide)]
  · left
    obtain ⟨⟨n, hn, hn0⟩, nm, hnm, hm0⟩ := hc k (by omega)
    obtain ⟨p1, p2, p3⟩ := g_pl k (by omega)
    obtain ⟨M3, d1, d2, d3, d4⟩ := m_polMove (q := 13 + 20 * k + 1) (p := p) (M := M') p1 p2 p3 hn (by omega) hp hp2 (by rw [g2 _ (by omega)]; exact hn0)
    have d5 := m_mbMove (M := M3) (t4_s (s := k) (by omega)) hp hp2 hnm (by rw [d4 _ (by omega), g2 _ (by omega)]; exact hm0)
    rw [g2 (13 + 20 * k + 1 + 1) (by omega)] at d2 d3
    rw [g2 (13 + 20 * k + 1 + 2) (by omega), g2 (13 + 20 * k + 1 + 3) (by omega)] at d3
    refine ⟨(nI (k + 1), mvr M3 (13 + 20 * k + 6) p nm), by omega, ⟨_, rfl, fun s hs => ?_, fun r hr => ?_⟩, fun rc => ?_⟩
    · by_cases es : s = k
      · subst es
        refine ⟨?_, ?_, fun n' hn' h0' => ?_, fun nm' hnm' h0' => ?_⟩
        · rw [mvr_o (by omega), d4 _ (by omega), g2 _ (by omega)]
        · rw [mvr_o (by omega), d4 _ (by omega), g2 _ (by omega)]
        · have : n' = n := (nI_inj (by omega) (by omega)).mp (h0'.symm.trans hn0)
          subst this
          rw [mvr_o (r := 13 + 20 * s + 1) (by omega), mvr_o (r := 13 + 20 * s + 1 + 1) (by omega), mvr_o (r := 13 + 20 * s + 1 + 2) (by omega), mvr_o (r := 13 + 20 * s + 1 + 3) (by omega)]
          exact ⟨d2, d3⟩
        · have : nm' = nm := (nI_inj (by omega) (by omega)).mp (h0'.symm.trans hm0)
          subst this
          refine ⟨fun r hr => by rw [mvr_o (by omega), d4 _ (by omega), g2 _ (by omega)], fun k t hk ht => ?_⟩
          rw [mvr_in hk ht, d4 _ (by omega), g2 _ (by omega)]
      · exact (g1 s (by omega)).fr (fun r h1 h2 => by rw [mvr_o (by omega), d4 r (by omega)])
    · rw [mvr_o (by omega), d4 r (by omega), g2 r (by omega)]
    · show m_X11_moveSlotsToField_b2 0 rc (nI k) M' = _
      unfold m_X11_moveSlotsToField_b2
      rw [if_neg (fun q => by rw [show (4 : Int32) = nI 4 from rfl, nI_le_iff (by omega) (by omega)] at q; omega), cl_nI (n := k) (by omega), show smLn (0 + 12) = 4 from g_12, if_ck2 (by omega) (by omega), show 0 + 12 + 1 + 20 * k + 1 = 13 + 20 * k + 1 by omega, show 0 + 12 + 1 + 20 * k + 6 = 13 + 20 * k + 6 by omega, g2 (0 + 1) (by omega), show M (0 + 1) 0 = nI p from h0, d1, Option.bind_some, if_ck2 (by omega) (by omega), d4 (0 + 1) (by omega), g2 (0 + 1) (by omega), show M (0 + 1) 0 = nI p from h0, d5, Option.bind_some, nI_add_1]
theorem m_setMove {t p A B u v p' : Nat} [NeZero p] [NeZero p'] {F G : Nat → Nat → Fin p} {M : smM} (ht : smT 1 t 7) (hp : 2 ≤ p') (hp2 : p' ≤ 97) (hpp : p ≤ 97) (h : SET M t p A B u v F G) : ∃ M', m_X7_moveToField t (nI p') M = some M' ∧ SET M' t p' A B u v (fun k l => fz p' (F k l).val) (fun k l => fz p' (G k l).val) ∧ ∀ r, (r < t ∨ t + 3 ≤ r) → M' r = M r := by
  obtain ⟨h0, h1, h2, h3, h4, h5, h6⟩ := h
  have hv : ∀ a : Fin p, rd p' (nI a.val) = nI (fz p' (a.val : Int)).val := fun a => by
    unfold rd
    rw [nI_toInt (by have := a.isLt; omega)]
  unfold m_X7_moveToField
  rw [smB_e]
  have f5 : ∀ r, r ≠ t → smS M t 0 (nI p') r = M r := fun r hr => smS_o hr
  refine lp_post (ρ := smM) 9 (fun k q => ∃ M' : smM, q = (nI k, M') ∧ (∀ r, r ≠ t + 1 → r ≠ t + 2 → M' r = smS M t 0 (nI p') r) ∧ (∀ j, k ≤ j → M' (t + 1) j = M (t + 1) j ∧ M' (t + 2) j = M (t + 2) j) ∧ ∀ j, j < k → M' (t + 1) j = rd p' (M (t + 1) j) ∧ M' (t + 2) j = rd p' (M (t + 2) j)) (fun e => ∃ M', e = some M' ∧ SET M' t p' A B u v (fun k l => fz p' (F k l).val) (fun k l => fz p' (G k l).val) ∧ ∀ r, (r < t ∨ t + 3 ≤ r) → M' r = M r) ⟨_, rfl, fun _ _ _ => rfl, fun j _ => ⟨by rw [f5 _ (by omega)], by rw [f5 _ (by omega)]⟩, fun j hj => absurd hj (Nat.not_lt_zero j)⟩ (by omega) ?_
  rintro k q hk ⟨M', rfl, g1, g2, g3⟩
  by_cases e9 : k = 9
  · right
    subst e9
    refine ⟨_, ⟨M', rfl, ⟨?_, ?_, ?_, ?_, ?_, fun k l hk hl => ?_, fun k l hk hl => ?_⟩, fun r hr => ?_⟩, fun rc => ?_⟩
    · rw [g1 t (by omega) (by omega)]; exact smS_at
    · rw [g1 t (by omega) (by omega), smS_ne (by omega)]; exact h1
    · rw [g1 t (by omega) (by omega), smS_ne (by omega)]; exact h2
    · rw [g1 t (by omega) (by omega), smS_ne (by omega)]; exact h3
    · rw [g1 t (by omega) (by omega), smS_ne (by omega)]; exact h4
    · rw [(g3 (3 * l + k) (by omega)).1, h5 k l hk hl, hv]
    · rw [(g3 (3 * l + k) (by omega)).2, h6 k l hk hl, hv]
    · rw [g1 r (by omega) (by omega), f5 r (by omega)]
    · show m_X7_moveToField_b7 t rc (nI 9) M' = some M'
      unfold m_X7_moveToField_b7
      rw [if_pos (by decide)]
  · left
    refine ⟨(nI (k + 1), smS (smS M' (t + 1) k (rd p' (M (t + 1) k))) (t + 2) k (rd p' (M (t + 2) k))), by omega, ⟨_, rfl, fun r h1 h2 => by rw [smS_o h2, smS_o h1]; exact g1 r h1 h2, fun j hj => ?_, fun j hj => ?_⟩, fun rc => ?_⟩
    · rw [smS_o (show t + 1 ≠ t + 2 by omega), smS_ne (by omega), smS_ne (by omega), smS_o (show t + 2 ≠ t + 1 by omega)]
      exact g2 j (by omega)
    · rw [smS_o (show t + 1 ≠ t + 2 by omega)]
      by_cases ej : j = k
      · subst ej
        exact ⟨smS_at, smS_at⟩
      · rw [smS_ne ej, smS_ne ej, smS_o (show t + 2 ≠ t + 1 by omega)]
        exact g3 j (by omega)
    · show m_X7_moveToField_b7 t rc (nI k) M' = _
      unfold m_X7_moveToField_b7
      have ck : ∀ {ρ : Type} (T : Option ρ), (if nI k < 0 ∨ 9 ≤ k then none else T) = T := fun T => if_ck2 (by omega) (by omega) T
      rw [if_neg (fun q => by rw [show (9 : Int32) = nI 9 from rfl, nI_le_iff (by omega) (by omega)] at q; omega), cl_nI (n := k) (by omega), l7_5 ht, l7_6 ht, ck, g1 t (by omega) (by omega), smS_at, m_left hp hp2, Option.bind_some, ck, smB_e, ck, smS_o (show t ≠ t + 1 by omega), g1 t (by omega) (by omega), smS_at, m_left hp hp2, Option.bind_some, ck, smB_e, smS_o (show t + 2 ≠ t + 1 by omega), (g2 k (Nat.le_refl k)).1, (g2 k (Nat.le_refl k)).2, nI_add_1]
