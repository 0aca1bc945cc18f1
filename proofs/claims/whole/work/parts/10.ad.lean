theorem su_ext {K : Type} [Lean.Grind.CommRing K] (f : Nat → K) {m : Nat} : ∀ {n : Nat}, m ≤ n → su (fun k => if k < m then f k else 0) n = su f m
  | 0, h => by
    have : m = 0 := by omega
    subst this
    rfl
  | n + 1, h => by
    by_cases e : m = n + 1
    · subst e
      exact su_cong (fun k hk => if_pos hk)
    · rw [su, su_ext f (show m ≤ n by omega), if_neg (by omega)]
      grind
theorem dd_tri {K : Type} [Lean.Grind.CommRing K] (c : Nat → Nat → K) (A : Nat) (φ : Nat → Nat → K) : su (fun l => su (fun k => c k l * φ k l) (A - l)) A = dd c A φ := by
  have e1 : su (fun l => su (fun k => c k l * φ k l) (A - l)) A = su (fun l => su (fun k => if k + l < A then c k l * φ k l else 0) A) A := su_cong (fun l hl => by
    rw [← su_ext (fun k => c k l * φ k l) (show A - l ≤ A by omega)]
    exact su_cong (fun k hk => by
      by_cases q : k + l < A
      · rw [if_pos q, if_pos (by omega)]
      · rw [if_neg q, if_neg (by omega)]))
  rw [e1, su_swap]
  unfold dd
  exact su_cong (fun k hk => by
    rw [← su_ext (fun l => c k l * φ k l) (show A - k ≤ A by omega)]
    exact su_cong (fun l hl => by
      by_cases q : k + l < A
      · rw [if_pos q, if_pos (by omega)]
      · rw [if_neg q, if_neg (by omega)]))
theorem neg_nI {p : Nat} [NeZero p] (v : Fin p) : -nI v.val = jI (-(v.val : Int)) := by rw [jI_nI, jI_neg]
theorem fz_negv {p : Nat} [NeZero p] (v : Fin p) : fz p (-(v.val : Int)) = -v := by rw [← fz_negz, fz_self]
/-- the sum so far in bringTail -/
def accT {K : Type} [Lean.Grind.CommRing K] (P : Nat) (T : Nat → Nat → Nat → K) (l k d : Nat) : K := su (fun l' => su (fun k' => T k' l' d) (P - l')) l + su (fun k' => T k' l d) k
theorem accT_s {K : Type} [Lean.Grind.CommRing K] (P : Nat) (T : Nat → Nat → Nat → K) (l k d : Nat) : accT P T l (k + 1) d = accT P T l k d + T k l d := by
  unfold accT
  simp only [su]
  grind
theorem accT_r {K : Type} [Lean.Grind.CommRing K] (P : Nat) (T : Nat → Nat → Nat → K) (l d : Nat) : accT P T (l + 1) 0 d = accT P T l (P - l) d := by
  unfold accT
  simp only [su]
  grind
theorem accT_0 {K : Type} [Lean.Grind.CommRing K] (P : Nat) (T : Nat → Nat → Nat → K) (d : Nat) : accT P T 0 0 d = 0 := by
  unfold accT
  simp only [su]
  grind
theorem nI_subN {a b : Nat} (h : b ≤ a) : nI a - nI b = nI (a - b) := pk_sub h
set_option maxHeartbeats 1000000 in
theorem m_bringTail {q t p P s i j f cr : Nat} [NeZero p] {c : Nat → Nat → Fin p} {Nx : Nat → Nat → Nat → Fin p} {M : smM} (hq : smT 1 q 6) (hp : 2 ≤ p) (hp2 : p ≤ 97) (hP3 : P ≤ 3) (h0 : M q 0 = nI p) (hs : s < 2) (hcr : cr = if s = 0 then t + 1 else t + 2) (hpw : (if s = 0 then M t 1 else M t 2) = nI P) (lc : smLn cr = 9) (hc : ∀ k l, k + l < P → M cr (3 * l + k) = nI (c k l).val) (hf : f < 36) (hff : ∀ k l, k + l < P → i + k < 6 ∧ j + l < 6 ∧ 6 * (j + l) + (i + k) ≠ f ∧ ∀ d, d < 9 → M (q + 1 + 1 + (6 * (j + l) + (i + k))) d = nI (Nx k l d).val) (hcf : cr ≠ q + 1 + 1 + f) (hz : ∀ d, d < 9 → M (q + 1 + 1 + f) d = 0) :
    m_X6_bringTail q t (nI s) (nI i) (nI j) (q + 1 + 1 + f) M = some (fil M (q + 1 + 1 + f) (fun d => nI (- dd c P (fun k l => Nx k l d)).val) 9) := by
  let T : Nat → Nat → Nat → Fin p := fun k l d => - c k l * Nx k l d
  let S : Nat → Nat → smM := fun l k => fil M (q + 1 + 1 + f) (fun d => nI (accT P T l k d).val) 9
  have hSo : ∀ l k r, r ≠ q + 1 + 1 + f → S l k r = M r := fun l k r hr => fil_o hr
  have hSi : ∀ l k d, d < 9 → S l k (q + 1 + 1 + f) d = nI (accT P T l k d).val := fun l k d hd => fil_in hd
  have e1 : m_X7_coefficients t (nI s) M = some cr := by
    unfold m_X7_coefficients
    rw [hcr]
    by_cases h0s : s = 0
    · subst h0s; rfl
    · have h1s : s = 1 := by omega
      subst h1s; rfl
  have e2 : m_X7_power t (nI s) M = some (nI P) := by
    unfold m_X7_power
    by_cases h0s : s = 0
    · subst h0s; rw [if_pos nI_0, ← hpw]; rfl
    · have h1s : s = 1 := by omega
      subst h1s; rw [if_neg (by decide), ← hpw]; rfl
  unfold m_X6_bringTail
  rw [e1]
  show Option.bind (m_X7_power t (nI s) M) _ = _
  rw [e2]
  rw [Option.bind_some]
  refine lp_cnt P (fun l => (nI l, S l 0)) ?_ (by omega) (fun l hl rc => ?_) (fun rc => ?_)
  · show ((0 : Int32), M) = (nI 0, S 0 0)
    congr 1
    funext a k
    by_cases ea : a = q + 1 + 1 + f
    · subst ea
      by_cases hk : k < 9
      · rw [hSi 0 0 k hk, accT_0, hz k hk]; rfl
      · exact (fil_out (by omega)).symm
    · rw [hSo 0 0 a ea]
  · unfold m_X6_bringTail_b17
    simp only []
    rw [if_neg (by rw [nI_le_iff (by omega) (by omega)]; omega)]
    refine lp_cnt (P - l) (fun k => (nI k, S l k)) rfl (by omega) (fun k hk rc2 => ?_) (fun rc2 => ?_)
    · unfold m_X6_bringTail_b27
      simp only []
      obtain ⟨g1, g2, g3, g4⟩ := hff k l (by omega)
      rw [nI_subN (by omega), if_neg (by rw [nI_le_iff (by omega) (by omega)]; omega), show (3 : Int32) = nI 3 from rfl, nI_mulN, nI_add, lc, if_ck (by omega) (by omega), cl_nI (by omega), hSo l k cr hcf, hc k l (by omega), neg_nI, hSo l k q (by omega), h0]
      have hvl := (c k l).isLt
      rw [m_leftOver (by omega) (by omega) hp (by omega)]
      rw [Option.bind_some]
      rw [nI_add, nI_add, m_formAt hq g1 g2]
      rw [Option.bind_some]
      have hvl2 := (fz p (-((c k l).val : Int))).isLt
      rw [m_bringMultiple (v := fun d => accT P T l k d) (w := fun d => Nx k l d) (l6_3r hq hf) (l6_3r hq (by omega)) (by decide) (by omega) hp hp2 (by omega) (hSi l k) (fun d hd => by rw [hSo l k _ (by omega)]; exact g4 d hd)]
      show rc2 _ = rc2 _
      rw [nI_add_1]
      congr 2
      show fil (fil M _ _ 9) _ _ 9 = _
      rw [fil_fil]
      refine fil_congr (fun d _ => ?_)
      rw [accT_s, fz_self, fz_negv]
    · unfold m_X6_bringTail_b27
      simp only []
      rw [nI_subN (by omega), if_pos (Int32.le_refl _), nI_add_1]
      congr 2
      refine fil_congr (fun d _ => ?_)
      rw [accT_r]
  · unfold m_X6_bringTail_b17
    simp only []
    rw [if_pos (Int32.le_refl _)]
    congr 1
    refine fil_congr (fun d _ => ?_)
    congr 2
    unfold accT
    simp only [su]
    have e3 : su (fun l' => su (fun k' => T k' l' d) (P - l')) P = su (fun l' => su (fun k' => (fun a b => - c a b) k' l' * Nx k' l' d) (P - l')) P := rfl
    rw [e3, dd_tri (fun a b => - c a b) P (fun k l => Nx k l d)]
    have e4 : dd (fun a b => - c a b) P (fun k l => Nx k l d) = dd c P (fun k l => - Nx k l d) := by
      unfold dd
      exact su_cong (fun k _ => su_cong (fun l _ => by grind))
    rw [e4, dd_neg]
    grind
