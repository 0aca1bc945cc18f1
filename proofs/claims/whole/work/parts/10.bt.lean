/-! comes, of the reference -/
theorem m12_j82 (c0 i j k : Int32) (M : smM) (rc : Int32 → Option smM) : m_X12_comes_j82 1000 c0 i j k M rc = smLp (fun rc q => m_X12_comes_b88 1000 c0 i j k (fun _ => none) rc q.1 q.2) smF (M 1000 52, M) := by
  have e : (fun (rc' : Int32 × smM → Option smM) (q : Int32 × smM) => m_X12_comes_b88 1000 c0 i j k rc rc' q.1 q.2) = (fun rc' q => m_X12_comes_b88 1000 c0 i j k (fun _ => none) rc' q.1 q.2) := by
    funext rc' q
    unfold m_X12_comes_b88 m_X12_comes_j183
    rfl
  unfold m_X12_comes_j82
  rw [e]
theorem m12_comes {n p c0 i j : Nat} {f : Nat → Nat → Nat} {c x y : Nat → Nat} {M : smM} (hn : n < 40) (hp : 2 ≤ p) (hp2 : p ≤ 97) (h0 : M 1000 0 = nI p) (h : PO2 M n c x y) (hR : REP f n c x y) (hP : ∀ k, k < n → c k < p ∧ x k < 2147483648 ∧ y k < 2147483648) (hc0 : c0 < p) (hi : i < 2147483648) (hj : j < 2147483648) : ∃ (M' : smM) (n' : Nat) (c' x' y' : Nat → Nat), m_X12_comes 1000 (nI c0) (nI i) (nI j) M = some M' ∧ PO2 M' n' c' x' y' ∧ REP (brg p f c0 i j) n' c' x' y' ∧ (∀ k, k < n' → c' k < p ∧ x' k < 2147483648 ∧ y' k < 2147483648) ∧ n' ≤ n + 1 ∧ FR2 M M' := by
  unfold m_X12_comes
  refine lp_post (ρ := smM) n (fun k w => w = nI k ∧ ∀ l, l < k → i < x l ∨ x l = i ∧ j < y l) (fun e => ∃ (M' : smM) (n' : Nat) (c' x' y' : Nat → Nat), e = some M' ∧ PO2 M' n' c' x' y' ∧ REP (brg p f c0 i j) n' c' x' y' ∧ (∀ k, k < n' → c' k < p ∧ x' k < 2147483648 ∧ y' k < 2147483648) ∧ n' ≤ n + 1 ∧ FR2 M M') ⟨rfl, fun l hl => absurd hl (Nat.not_lt_zero l)⟩ (by omega) ?_
  rintro k w hk ⟨rfl, hI⟩
  have miss : (∀ l, k ≤ l → l < n → x l < i ∨ x l = i ∧ y l < j) → ∃ e, (∃ (M' : smM) (n' : Nat) (c' x' y' : Nat → Nat), e = some M' ∧ PO2 M' n' c' x' y' ∧ REP (brg p f c0 i j) n' c' x' y' ∧ (∀ k, k < n' → c' k < p ∧ x' k < 2147483648 ∧ y' k < 2147483648) ∧ n' ≤ n + 1 ∧ FR2 M M') ∧ ∀ rc, m_X12_comes_j82 1000 (nI c0) (nI i) (nI j) (nI k) M rc = e := fun hhi => by
    obtain ⟨M', e1, e2, e3⟩ := m12_insl (c0 := c0) (i := i) (j := j) hp hp2 h0 hn hk hc0 h (fun _ => none)
    refine ⟨some M', ⟨M', n + 1, _, _, _, rfl, e2, hR.ins hk hc0 hI hhi, fun l hl => ?_, Nat.le_refl _, e3⟩, fun rc => ?_⟩
    · rcases Nat.lt_trichotomy l k with d | d | d
      · rw [ins_l d, ins_l d, ins_l d]; exact hP l (by omega)
      · subst d
        rw [ins_e, ins_e, ins_e]; exact ⟨hc0, hi, hj⟩
      · rw [ins_g d, ins_g d, ins_g d]; exact hP (l - 1) (by omega)
    · rw [m12_j82, h.1]; exact e1
  by_cases e : k = n
  · right
    obtain ⟨E, h1, h2⟩ := miss (fun l h1 h2 => by omega)
    refine ⟨E, h1, fun rc => ?_⟩
    unfold m_X12_comes_b3 m_X12_comes_j51
    rw [h.1, e, if_pos ((nI_le_iff (by omega) (by omega)).mpr (Nat.le_refl n)), if_pos rfl, ← e]
    exact h2 rc
  · obtain ⟨p1, p2, p3⟩ := h.2 k (by omega)
    obtain ⟨b2, b3, b4⟩ := hP k (by omega)
    have hnle : ¬ nI n ≤ nI k := fun w => by rw [nI_le_iff (by omega) (by omega)] at w; omega
    have hne : ¬ nI k = nI n := fun w => by rw [nI_inj (by omega) (by omega)] at w; omega
    have ck : ∀ {ρ : Type} (T : Option ρ), (if nI k < 0 ∨ 40 ≤ k then none else T) = T := fun T => if_ck2 (by omega) (by omega) T
    by_cases gx : i < x k ∨ x k = i ∧ j < y k
    · left
      refine ⟨nI (k + 1), by omega, ⟨rfl, fun l hl => ?_⟩, fun rc => ?_⟩
      · by_cases el : l = k
        · rw [el]; exact gx
        · exact hI l (by omega)
      · unfold m_X12_comes_b3
        rw [h.1, if_neg hnle, cl_nI (n := k) (by omega), g_1038, g_1039, ck, show M (1000 + 38) k = _ from p2, show M (1000 + 39) k = _ from p3]
        by_cases d : i < x k
        · rw [if_pos ((nI_lt_iff (by omega) (by omega)).mpr d), nI_add_1]
        · have d2 : x k = i ∧ j < y k := gx.resolve_left d
          rw [if_neg (fun w => d ((nI_lt_iff (by omega) (by omega)).mp w)), ck, if_pos (by rw [d2.1]), ck, if_neg (fun w => by rw [nI_le_iff (by omega) (by omega)] at w; omega), nI_add_1]
    · right
      have eb : ∀ rc, m_X12_comes_b3 1000 (nI c0) (nI i) (nI j) M rc (nI k) = m_X12_comes_j51 1000 (nI c0) (nI i) (nI j) (nI k) M rc := fun rc => by
        unfold m_X12_comes_b3
        rw [h.1, if_neg hnle, cl_nI (n := k) (by omega), g_1038, g_1039, ck, show M (1000 + 38) k = _ from p2, show M (1000 + 39) k = _ from p3, if_neg (fun w => gx (Or.inl ((nI_lt_iff (by omega) (by omega)).mp w))), ck]
        by_cases d : x k = i
        · rw [if_pos (by rw [d]), ck, if_pos ((nI_le_iff (by omega) (by omega)).mpr (by omega))]
        · rw [if_neg (fun w => d ((nI_inj (by omega) (by omega)).mp w))]
      by_cases mt : x k = i ∧ y k = j
      · obtain ⟨rfl, rfl⟩ := mt
        have hlt : (c k + c0) % p < p := Nat.mod_lt _ (by omega)
        refine ⟨some (smS M 1037 k (nI ((c k + c0) % p))), ⟨_, n, _, x, y, rfl, ⟨by rw [smS_o (by omega)]; exact h.1, fun l hl => ?_⟩, hR.upd (p := p) (c0 := c0) (show k < n by omega), fun l hl => ?_, by omega, fun q _ => by rw [smS_o (by omega)], fun r q1 q2 q3 q4 => smS_o q2⟩, fun rc => ?_⟩
        · obtain ⟨f1, f2, f3⟩ := h.2 l hl
          refine ⟨?_, by rw [smS_o (by omega)]; exact f2, by rw [smS_o (by omega)]; exact f3⟩
          by_cases el : l = k
          · rw [el, smS_at, up1_s]
          · rw [smS_ne el, up1_n el]; exact f1
        · obtain ⟨f1, f2, f3⟩ := hP l hl
          refine ⟨?_, f2, f3⟩
          by_cases el : l = k
          · rw [el, up1_s]; exact hlt
          · rw [up1_n el]; exact f1
        · rw [eb]
          unfold m_X12_comes_j51
          rw [h.1, if_neg hne, cl_nI (n := k) (by omega), g_1038, g_1039, ck, show M (1000 + 38) k = _ from p2, if_pos rfl, ck, show M (1000 + 39) k = _ from p3, if_pos rfl]
          exact m12_j183 hp hp2 h0 (by omega) p1 (by omega) rc
      · obtain ⟨E, h1, h2⟩ := miss (fun l h1 h2 => by
          have hkk : x k < i ∨ x k = i ∧ y k < j := by omega
          by_cases el : l = k
          · rw [el]; exact hkk
          · have := hR.1 k l (by omega) h2; omega)
        refine ⟨E, h1, fun rc => ?_⟩
        rw [eb]
        unfold m_X12_comes_j51
        rw [h.1, if_neg hne, cl_nI (n := k) (by omega), g_1038, g_1039, ck, show M (1000 + 38) k = _ from p2, show M (1000 + 39) k = _ from p3]
        by_cases d : x k = i
        · rw [if_pos (by rw [d]), ck, if_neg (fun w => mt ⟨d, (nI_inj (by omega) (by omega)).mp w⟩)]
          exact h2 rc
        · rw [if_neg (fun w => d ((nI_inj (by omega) (by omega)).mp w))]
          exact h2 rc
