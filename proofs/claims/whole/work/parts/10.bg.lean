/-! the reference moves to another field -/
def rm (p : Nat) (x : Int32) : Int32 := x - x / nI p * nI p
theorem rm_nI {p c : Nat} (hp : 2 ≤ p) (hp2 : p ≤ 97) (hc : c < 2147483648) : rm p (nI c) = nI (c % p) := rem_nI hc (by omega) (by omega)
def dnx (M : smM) : Nat → smM
  | 0 => M
  | k + 1 => if dnx M k 1002 k = 1 then (m_X12_dropsNoughts 1000 (nI k) (dnx M k)).getD (dnx M k) else dnx M k
def DR (M M' : smM) (s : Nat) : Prop := (M 1002 s = 1 → ∀ n, n ≤ 8 → M 1003 s = nI n → M' 1003 s = nI (sel (fun k => M 1004 (8 * s + k)) n).1 ∧ ∀ j, j < (sel (fun k => M 1004 (8 * s + k)) n).1 → M' 1004 (8 * s + j) = M 1004 (8 * s + (sel (fun k => M 1004 (8 * s + k)) n).2 j) ∧ M' 1005 (8 * s + j) = M 1005 (8 * s + (sel (fun k => M 1004 (8 * s + k)) n).2 j) ∧ M' 1006 (8 * s + j) = M 1006 (8 * s + (sel (fun k => M 1004 (8 * s + k)) n).2 j)) ∧ (¬ M 1002 s = 1 → M' 1003 s = M 1003 s)
theorem dnx_ok {M : smM} (hc : ∀ s, s < 4 → M 1002 s = 1 → ∃ n, n ≤ 8 ∧ M 1003 s = nI n) : ∀ k, k ≤ 4 → (∀ r, (r < 1003 ∨ 1006 < r) → dnx M k r = M r) ∧ (∀ s, k ≤ s → dnx M k 1003 s = M 1003 s) ∧ (∀ j, 8 * k ≤ j → dnx M k 1004 j = M 1004 j ∧ dnx M k 1005 j = M 1005 j ∧ dnx M k 1006 j = M 1006 j) ∧ (∀ s, s < k → DR M (dnx M k) s) ∧ ∀ i, i < k → dnx M i 1002 i = 1 → m_X12_dropsNoughts 1000 (nI i) (dnx M i) = some (dnx M (i + 1))
  | 0, _ => ⟨fun _ _ => rfl, fun _ _ => rfl, fun _ _ => ⟨rfl, rfl, rfl⟩, fun s hs => absurd hs (Nat.not_lt_zero s), fun s hs => absurd hs (Nat.not_lt_zero s)⟩
  | k + 1, hk => by
    obtain ⟨h1, h2, h3, h4, h5⟩ := dnx_ok hc k (by omega)
    have ek := h1 1002 (by omega)
    by_cases c : M 1002 k = 1
    · obtain ⟨n, hn, hn0⟩ := hc k (by omega) c
      obtain ⟨M', e1, e2, e3, e4, e5, e6⟩ := m12_drops (s := k) (M := dnx M k) (by omega) hn (by rw [h2 k (Nat.le_refl k)]; exact hn0)
      have e : dnx M (k + 1) = M' := by
        show (if dnx M k 1002 k = 1 then (m_X12_dropsNoughts 1000 (nI k) (dnx M k)).getD (dnx M k) else dnx M k) = M'
        rw [if_pos (by rw [ek]; exact c), e1]; rfl
      rw [e]
      have es : sel (fun j => dnx M k 1004 (8 * k + j)) n = sel (fun j => M 1004 (8 * k + j)) n := sel_cong (fun j hj => (h3 _ (by omega)).1)
      rw [es] at e2 e3
      refine ⟨fun r hr => by rw [e4 r hr, h1 r hr], fun s hs => by rw [e5 s (by omega), h2 s (by omega)], fun j hj => ?_, fun s hs => ?_, fun i hi hi1 => ?_⟩
      · obtain ⟨a1, a2, a3⟩ := e6 j (by omega)
        obtain ⟨b1, b2, b3⟩ := h3 j (by omega)
        exact ⟨a1.trans b1, a2.trans b2, a3.trans b3⟩
      · by_cases ei : s = k
        · subst ei
          refine ⟨fun _ n' hn' h0' => ?_, fun q => absurd c q⟩
          have : n' = n := (nI_inj (by omega) (by omega)).mp (h0'.symm.trans hn0)
          subst this
          have hok := sel_ok (C := fun j => M 1004 (8 * s + j)) n'
          refine ⟨e2, fun j hj => ?_⟩
          obtain ⟨a1, a2, a3⟩ := e3 j hj
          obtain ⟨b1, b2, b3⟩ := h3 (8 * s + (sel (fun j => M 1004 (8 * s + j)) n').2 j) (by omega)
          exact ⟨a1.trans b1, a2.trans b2, a3.trans b3⟩
        · obtain ⟨d1, d2⟩ := h4 s (by omega)
          refine ⟨fun q n' hn' h0' => ?_, fun q => by rw [e5 s ei]; exact d2 q⟩
          obtain ⟨f1, f2⟩ := d1 q n' hn' h0'
          have hok := sel_ok (C := fun j => M 1004 (8 * s + j)) n'
          refine ⟨by rw [e5 s ei]; exact f1, fun j hj => ?_⟩
          obtain ⟨a1, a2, a3⟩ := e6 (8 * s + j) (by omega)
          obtain ⟨b1, b2, b3⟩ := f2 j hj
          exact ⟨a1.trans b1, a2.trans b2, a3.trans b3⟩
      · by_cases ei : i = k
        · subst ei
          rw [e1, e]
        · exact h5 i (by omega) hi1
    · have e : dnx M (k + 1) = dnx M k := by
        show (if dnx M k 1002 k = 1 then (m_X12_dropsNoughts 1000 (nI k) (dnx M k)).getD (dnx M k) else dnx M k) = dnx M k
        rw [if_neg (by rw [ek]; exact c)]
      rw [e]
      refine ⟨h1, fun s hs => h2 s (by omega), fun j hj => h3 j (by omega), fun s hs => ?_, fun i hi hi1 => ?_⟩
      · by_cases ei : s = k
        · subst ei
          exact ⟨fun q => absurd q c, fun _ => h2 s (Nat.le_refl s)⟩
        · exact h4 s (by omega)
      · by_cases ei : i = k
        · subst ei
          rw [ek] at hi1
          exact absurd hi1 c
        · exact h5 i (by omega) hi1
def bfm (M : smM) (p : Nat) : smM := fil (fil (fil (smS M 1000 0 (nI p)) 1001 (fun k => rm p (M 1001 k)) 18) 1004 (fun k => rm p (M 1004 k)) 32) 1012 (fun k => rm p (M 1012 k)) 360
theorem m12_becomes {p : Nat} {M : smM} (hp : 2 ≤ p) (hp2 : p ≤ 97) (hc : ∀ s, s < 4 → M 1002 s = 1 → ∃ n, n ≤ 8 ∧ M 1003 s = nI n) : m_X12_becomesField 1000 (nI p) M = some (dnx (bfm M p) 4) := by
  have hc' : ∀ s, s < 4 → bfm M p 1002 s = 1 → ∃ n, n ≤ 8 ∧ bfm M p 1003 s = nI n := fun s hs q => by
    unfold bfm at q ⊢
    rw [fil_o (by omega), fil_o (by omega), fil_o (by omega), smS_o (by omega)] at q ⊢
    exact hc s hs q
  have z : ¬ nI p = 0 := z_nI (by omega) (by omega)
  have L4 : ∀ a b c, smLp (fun rc q => m_X12_becomesField_b101 1000 a b c rc q.1 q.2) smF ((0 : Int32), bfm M p) = some (dnx (bfm M p) 4) := fun a b c => by
    refine lp_cnt 4 (fun k => (nI k, dnx (bfm M p) k)) rfl (by omega) (fun k hk rc => ?_) (fun rc => ?_)
    · show m_X12_becomesField_b101 1000 a b c rc (nI k) (dnx (bfm M p) k) = rc (nI (k + 1), dnx (bfm M p) (k + 1))
      unfold m_X12_becomesField_b101
      rw [if_neg (fun q => by rw [show (4 : Int32) = nI 4 from rfl, nI_le_iff (by omega) (by omega)] at q; omega), cl_nI (n := k) (by omega), show smLn (1000 + 2) = 4 from g_1002, if_ck2 (by omega) (by omega), nI_add_1]
      by_cases q : dnx (bfm M p) k 1002 k = 1
      · rw [if_pos q, (dnx_ok hc' (k + 1) (by omega)).2.2.2.2 k (by omega) q, Option.bind_some]
      · rw [if_neg q]
        congr 2
        show dnx (bfm M p) k = if dnx (bfm M p) k 1002 k = 1 then _ else dnx (bfm M p) k
        rw [if_neg q]
    · show m_X12_becomesField_b101 1000 a b c rc (nI 4) (dnx (bfm M p) 4) = _
      unfold m_X12_becomesField_b101
      rw [if_pos (by decide)]
  have L3 : ∀ a b, smLp (fun rc q => m_X12_becomesField_b69 1000 a b rc q.1 q.2) smF ((0 : Int32), fil (fil (smS M 1000 0 (nI p)) 1001 (fun k => rm p (M 1001 k)) 18) 1004 (fun k => rm p (M 1004 k)) 32) = some (dnx (bfm M p) 4) := fun a b => by
    refine lp_cnt 360 (fun k => (nI k, fil (fil (fil (smS M 1000 0 (nI p)) 1001 (fun k => rm p (M 1001 k)) 18) 1004 (fun k => rm p (M 1004 k)) 32) 1012 (fun k => rm p (M 1012 k)) k)) (by rw [fil_0]; rfl) (by omega) (fun k hk rc => ?_) (fun rc => ?_)
    · show m_X12_becomesField_b69 1000 a b rc (nI k) (fil (fil (fil (smS M 1000 0 (nI p)) 1001 (fun k => rm p (M 1001 k)) 18) 1004 (fun k => rm p (M 1004 k)) 32) 1012 (fun k => rm p (M 1012 k)) k) = rc (nI (k + 1), fil (fil (fil (smS M 1000 0 (nI p)) 1001 (fun k => rm p (M 1001 k)) 18) 1004 (fun k => rm p (M 1004 k)) 32) 1012 (fun k => rm p (M 1012 k)) (k + 1))
      unfold m_X12_becomesField_b69
      rw [if_neg (fun q => by rw [show (360 : Int32) = nI 360 from rfl, nI_le_iff (by omega) (by omega)] at q; omega), cl_nI (n := k) (by omega), show smLn (1000 + 12) = 360 from by decide +kernel, if_ck2 (by omega) (by omega), fil_o (show 1000 ≠ 1012 by omega), fil_o (show 1000 ≠ 1004 by omega), fil_o (show 1000 ≠ 1001 by omega), smS_at, if_neg z, if_ck2 (by omega) (by omega), smB_e, nI_add_1]
      rw [show (1000 + 12 : Nat) = 1012 from rfl, fil_out (Nat.le_refl k), fil_o (show 1012 ≠ 1004 by omega), fil_o (show 1012 ≠ 1001 by omega), smS_o (show 1012 ≠ 1000 by omega)]
      exact congrArg (fun m => rc (nI (k + 1), m)) (fil_s _ _ k (fun k => rm p (M 1012 k)))
    · show m_X12_becomesField_b69 1000 a b rc (nI 360) (bfm M p) = _
      unfold m_X12_becomesField_b69
      rw [if_pos (by decide)]
      exact L4 a b rc
  have L2 : ∀ a, smLp (fun rc q => m_X12_becomesField_b38 1000 a rc q.1 q.2) smF ((0 : Int32), fil (smS M 1000 0 (nI p)) 1001 (fun k => rm p (M 1001 k)) 18) = some (dnx (bfm M p) 4) := fun a => by
    refine lp_cnt 32 (fun k => (nI k, fil (fil (smS M 1000 0 (nI p)) 1001 (fun k => rm p (M 1001 k)) 18) 1004 (fun k => rm p (M 1004 k)) k)) (by rw [fil_0]; rfl) (by omega) (fun k hk rc => ?_) (fun rc => ?_)
    · show m_X12_becomesField_b38 1000 a rc (nI k) (fil (fil (smS M 1000 0 (nI p)) 1001 (fun k => rm p (M 1001 k)) 18) 1004 (fun k => rm p (M 1004 k)) k) = rc (nI (k + 1), fil (fil (smS M 1000 0 (nI p)) 1001 (fun k => rm p (M 1001 k)) 18) 1004 (fun k => rm p (M 1004 k)) (k + 1))
      unfold m_X12_becomesField_b38
      rw [if_neg (fun q => by rw [show (32 : Int32) = nI 32 from rfl, nI_le_iff (by omega) (by omega)] at q; omega), cl_nI (n := k) (by omega), show smLn (1000 + 4) = 32 from g_1004, if_ck2 (by omega) (by omega), fil_o (show 1000 ≠ 1004 by omega), fil_o (show 1000 ≠ 1001 by omega), smS_at, if_neg z, if_ck2 (by omega) (by omega), smB_e, nI_add_1]
      rw [show (1000 + 4 : Nat) = 1004 from rfl, fil_out (Nat.le_refl k), fil_o (show 1004 ≠ 1001 by omega), smS_o (show 1004 ≠ 1000 by omega)]
      exact congrArg (fun m => rc (nI (k + 1), m)) (fil_s _ _ k (fun k => rm p (M 1004 k)))
    · show m_X12_becomesField_b38 1000 a rc (nI 32) (fil (fil (smS M 1000 0 (nI p)) 1001 (fun k => rm p (M 1001 k)) 18) 1004 (fun k => rm p (M 1004 k)) 32) = _
      unfold m_X12_becomesField_b38
      rw [if_pos (by decide)]
      exact L3 a rc
  unfold m_X12_becomesField
  rw [smB_e]
  refine lp_cnt 18 (fun k => (nI k, fil (smS M 1000 0 (nI p)) 1001 (fun k => rm p (M 1001 k)) k)) (by rw [fil_0]; rfl) (by omega) (fun k hk rc => ?_) (fun rc => ?_)
  · show m_X12_becomesField_b7 1000 rc (nI k) (fil (smS M 1000 0 (nI p)) 1001 (fun k => rm p (M 1001 k)) k) = rc (nI (k + 1), fil (smS M 1000 0 (nI p)) 1001 (fun k => rm p (M 1001 k)) (k + 1))
    unfold m_X12_becomesField_b7
    rw [if_neg (fun q => by rw [show (18 : Int32) = nI 18 from rfl, nI_le_iff (by omega) (by omega)] at q; omega), cl_nI (n := k) (by omega), show smLn (1000 + 1) = 18 from g_1001, if_ck2 (by omega) (by omega), fil_o (show 1000 ≠ 1001 by omega), smS_at, if_neg z, if_ck2 (by omega) (by omega), smB_e, nI_add_1]
    rw [show (1000 + 1 : Nat) = 1001 from rfl, fil_out (Nat.le_refl k), smS_o (show 1001 ≠ 1000 by omega)]
    exact congrArg (fun m => rc (nI (k + 1), m)) (fil_s _ _ k (fun k => rm p (M 1001 k)))
  · show m_X12_becomesField_b7 1000 rc (nI 18) (fil (smS M 1000 0 (nI p)) 1001 (fun k => rm p (M 1001 k)) 18) = _
    unfold m_X12_becomesField_b7
    rw [if_pos (by decide)]
    exact L2 rc
