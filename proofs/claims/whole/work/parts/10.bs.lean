/-! the reference's list of terms -/
def PO2 (M : smM) (n : Nat) (c x y : Nat → Nat) : Prop := M 1000 52 = nI n ∧ ∀ k, k < n → M 1037 k = nI (c k) ∧ M 1038 k = nI (x k) ∧ M 1039 k = nI (y k)
def FR2 (M M' : smM) : Prop := (∀ k, k ≠ 52 → M' 1000 k = M 1000 k) ∧ ∀ r, r ≠ 1000 → r ≠ 1037 → r ≠ 1038 → r ≠ 1039 → M' r = M r
theorem g_1037 : smLn (1000 + 37) = 40 := by decide +kernel
theorem g_1038 : smLn (1000 + 38) = 40 := by decide +kernel
theorem g_1039 : smLn (1000 + 39) = 40 := by decide +kernel
theorem m12_j183 {p k v c0 : Nat} {M : smM} (hp : 2 ≤ p) (hp2 : p ≤ 97) (h0 : M 1000 0 = nI p) (hk : k < 40) (hv : M 1037 k = nI v) (hb : v + c0 < 2147483648) (rc : Int32 → Option smM) : m_X12_comes_j183 1000 (nI c0) (nI k) rc M = some (smS M 1037 k (nI ((v + c0) % p))) := by
  unfold m_X12_comes_j183
  have ck : ∀ {ρ : Type} (T : Option ρ), (if nI k < 0 ∨ 40 ≤ k then none else T) = T := fun T => if_ck2 (by omega) (by omega) T
  rw [cl_nI (n := k) (by omega), g_1037, ck, h0, if_neg (z_nI (by omega) (by omega)), ck, smB_e, show M (1000 + 37) k = nI v from hv, nI_ad, rem_nI hb (by omega) (by omega)]
theorem m12_insl {p n a c0 i j : Nat} {c x y : Nat → Nat} {M : smM} (hp : 2 ≤ p) (hp2 : p ≤ 97) (h0 : M 1000 0 = nI p) (hn : n < 40) (ha : a ≤ n) (hc0 : c0 < p) (h : PO2 M n c x y) (rc0 : Int32 → Option smM) : ∃ M', smLp (fun rc q => m_X12_comes_b88 1000 (nI c0) (nI i) (nI j) (nI a) rc0 rc q.1 q.2) smF (nI n, M) = some M' ∧ PO2 M' (n + 1) (ins c a c0) (ins x a i) (ins y a j) ∧ FR2 M M' := by
  refine lp_post (ρ := smM) (n - a) (fun t w => ∃ M' : smM, w = (nI (n - t), M') ∧ (∀ r, r ≠ 1037 → r ≠ 1038 → r ≠ 1039 → M' r = M r) ∧ (∀ l, l < n → l ≤ n - t → M' 1037 l = nI (c l) ∧ M' 1038 l = nI (x l) ∧ M' 1039 l = nI (y l)) ∧ ∀ l, n - t < l → l ≤ n → M' 1037 l = nI (c (l - 1)) ∧ M' 1038 l = nI (x (l - 1)) ∧ M' 1039 l = nI (y (l - 1))) (fun e => ∃ M', e = some M' ∧ PO2 M' (n + 1) (ins c a c0) (ins x a i) (ins y a j) ∧ FR2 M M') ⟨M, rfl, fun _ _ _ _ => rfl, fun l hl _ => h.2 l hl, fun l h1 h2 => by omega⟩ (by omega) ?_
  rintro t w ht ⟨M', rfl, g1, g2, g3⟩
  by_cases e : t = n - a
  · right
    have ea : n - t = a := by omega
    rw [ea] at g2 g3
    have ck : ∀ {ρ : Type} (T : Option ρ), (if nI a < 0 ∨ 40 ≤ a then none else T) = T := fun T => if_ck2 (by omega) (by omega) T
    let M4 : smM := smS (smS (smS (smS M' 1000 52 (nI (n + 1))) 1037 a 0) 1038 a (nI i)) 1039 a (nI j)
    have hj := m12_j183 (p := p) (k := a) (v := 0) (c0 := c0) (M := M4) hp hp2 (by
      show smS (smS (smS (smS M' 1000 52 (nI (n + 1))) 1037 a 0) 1038 a (nI i)) 1039 a (nI j) 1000 0 = _
      rw [smS_o (by omega), smS_o (by omega), smS_o (by omega), smS_ne (by omega), g1 1000 (by omega) (by omega) (by omega)]; exact h0) (by omega) (by
      show smS (smS (smS (smS M' 1000 52 (nI (n + 1))) 1037 a 0) 1038 a (nI i)) 1039 a (nI j) 1037 a = _
      rw [smS_o (by omega), smS_o (by omega), smS_at]; rfl) (by omega)
    rw [Nat.zero_add, Nat.mod_eq_of_lt hc0] at hj
    have r4 : ∀ r, r ≠ 1000 → r ≠ 1037 → r ≠ 1038 → r ≠ 1039 → smS M4 1037 a (nI c0) r = M' r := fun r q1 q2 q3 q4 => by
      rw [smS_o q2]
      show smS (smS (smS (smS M' 1000 52 (nI (n + 1))) 1037 a 0) 1038 a (nI i)) 1039 a (nI j) r = _
      rw [smS_o q4, smS_o q3, smS_o q2, smS_o q1]
    have r0 : ∀ k, smS M4 1037 a (nI c0) 1000 k = smS M' 1000 52 (nI (n + 1)) 1000 k := fun k => by
      rw [smS_o (by omega)]
      show smS (smS (smS (smS M' 1000 52 (nI (n + 1))) 1037 a 0) 1038 a (nI i)) 1039 a (nI j) 1000 k = _
      rw [smS_o (by omega), smS_o (by omega), smS_o (by omega)]
    have r37 : ∀ l, smS M4 1037 a (nI c0) 1037 l = if l = a then nI c0 else M' 1037 l := fun l => by
      by_cases d : l = a
      · rw [d, smS_at, if_pos rfl]
      · rw [smS_ne d, if_neg d]
        show smS (smS (smS (smS M' 1000 52 (nI (n + 1))) 1037 a 0) 1038 a (nI i)) 1039 a (nI j) 1037 l = _
        rw [smS_o (by omega), smS_o (by omega), smS_ne d, smS_o (by omega)]
    have r38 : ∀ l, smS M4 1037 a (nI c0) 1038 l = if l = a then nI i else M' 1038 l := fun l => by
      rw [smS_o (by omega)]
      show smS (smS (smS (smS M' 1000 52 (nI (n + 1))) 1037 a 0) 1038 a (nI i)) 1039 a (nI j) 1038 l = _
      rw [smS_o (by omega)]
      by_cases d : l = a
      · rw [d, smS_at, if_pos rfl]
      · rw [smS_ne d, if_neg d, smS_o (by omega), smS_o (by omega)]
    have r39 : ∀ l, smS M4 1037 a (nI c0) 1039 l = if l = a then nI j else M' 1039 l := fun l => by
      rw [smS_o (by omega)]
      show smS (smS (smS (smS M' 1000 52 (nI (n + 1))) 1037 a 0) 1038 a (nI i)) 1039 a (nI j) 1039 l = _
      by_cases d : l = a
      · rw [d, smS_at, if_pos rfl]
      · rw [smS_ne d, if_neg d, smS_o (by omega), smS_o (by omega), smS_o (by omega)]
    refine ⟨some (smS M4 1037 a (nI c0)), ⟨_, rfl, ⟨by rw [r0, smS_at], fun l hl => ?_⟩, fun k hk => by rw [r0, smS_ne hk, g1 1000 (by omega) (by omega) (by omega)], fun r q1 q2 q3 q4 => by rw [r4 r q1 q2 q3 q4, g1 r q2 q3 q4]⟩, fun rc => ?_⟩
    · rw [r37, r38, r39]
      rcases Nat.lt_trichotomy l a with d | d | d
      · rw [ins_l d, ins_l d, ins_l d, if_neg (by omega), if_neg (by omega), if_neg (by omega)]
        exact g2 l (by omega) (by omega)
      · rw [if_pos d, if_pos d, if_pos d, d, ins_e, ins_e, ins_e]
        exact ⟨rfl, rfl, rfl⟩
      · rw [ins_g d, ins_g d, ins_g d, if_neg (by omega), if_neg (by omega), if_neg (by omega)]
        exact g3 l (by omega) (by omega)
    · show m_X12_comes_b88 1000 (nI c0) (nI i) (nI j) (nI a) rc0 rc (nI (n - t)) M' = _
      unfold m_X12_comes_b88
      rw [ea, if_pos ((nI_le_iff (by omega) (by omega)).mpr (Nat.le_refl a)), smB_e, cl_nI (n := a) (by omega), g_1037, g_1038, g_1039, ck, smB_e, ck, smB_e, ck, smB_e, g1 1000 (by omega) (by omega) (by omega), h.1, nI_add_1]
      exact hj rc0
  · left
    have e1 : nI (n - t) - 1 = nI (n - t - 1) := by
      rw [show (1 : Int32) = nI 1 from rfl, jI_nI, jI_nI, jI_nI, jI_sub]; congr 1; omega
    have e2 : nI (n - t) + (-1) = nI (n - (t + 1)) := by
      rw [show (-1 : Int32) = jI (-1) from rfl, jI_nI, jI_nI, jI_add]; congr 1; omega
    have ck : ∀ {ρ : Type} (T : Option ρ), (if nI (n - t) < 0 ∨ 40 ≤ n - t then none else T) = T := fun T => if_ck2 (by omega) (by omega) T
    have ck' : ∀ {ρ : Type} (T : Option ρ), (if nI (n - t - 1) < 0 ∨ 40 ≤ n - t - 1 then none else T) = T := fun T => if_ck2 (by omega) (by omega) T
    obtain ⟨d1, d2, d3⟩ := g2 (n - t - 1) (by omega) (by omega)
    refine ⟨(nI (n - (t + 1)), smS (smS (smS M' 1037 (n - t) (nI (c (n - t - 1)))) 1038 (n - t) (nI (x (n - t - 1)))) 1039 (n - t) (nI (y (n - t - 1)))), by omega, ⟨_, rfl, fun r q1 q2 q3 => ?_, fun l hl hl2 => ?_, fun l hl hl2 => ?_⟩, fun rc => ?_⟩
    · rw [smS_o q3, smS_o q2, smS_o q1]; exact g1 r q1 q2 q3
    · obtain ⟨f1, f2, f3⟩ := g2 l hl (by omega)
      exact ⟨by rw [smS_o (by omega), smS_o (by omega), smS_ne (by omega)]; exact f1, by rw [smS_o (by omega), smS_ne (by omega), smS_o (by omega)]; exact f2, by rw [smS_ne (by omega), smS_o (by omega), smS_o (by omega)]; exact f3⟩
    · by_cases el : l = n - t
      · subst el
        exact ⟨by rw [smS_o (by omega), smS_o (by omega), smS_at], by rw [smS_o (by omega), smS_at], smS_at⟩
      · obtain ⟨f1, f2, f3⟩ := g3 l (by omega) hl2
        exact ⟨by rw [smS_o (by omega), smS_o (by omega), smS_ne el]; exact f1, by rw [smS_o (by omega), smS_ne el, smS_o (by omega)]; exact f2, by rw [smS_ne el, smS_o (by omega), smS_o (by omega)]; exact f3⟩
    · show m_X12_comes_b88 1000 (nI c0) (nI i) (nI j) (nI a) rc0 rc (nI (n - t)) M' = _
      unfold m_X12_comes_b88
      rw [if_neg (fun q => by rw [nI_le_iff (by omega) (by omega)] at q; omega), e1, e2, cl_nI (n := n - t) (by omega), cl_nI (n := n - t - 1) (by omega), g_1037, g_1038, g_1039, ck', ck, smB_e, ck', ck, smB_e, ck', ck, smB_e, smS_o (show 1000 + 38 ≠ 1000 + 37 by omega), smS_o (show 1000 + 39 ≠ 1000 + 38 by omega), smS_o (show 1000 + 39 ≠ 1000 + 37 by omega), show M' (1000 + 37) (n - t - 1) = _ from d1, show M' (1000 + 38) (n - t - 1) = _ from d2, show M' (1000 + 39) (n - t - 1) = _ from d3]
