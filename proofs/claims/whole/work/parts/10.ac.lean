/-! the quotient of the class -/
theorem nI_mulN (a b : Nat) : nI a * nI b = nI (a * b) := pk_mul a b
theorem m_formAt {q i j : Nat} (hq : smT 1 q 6) (hi : i < 6) (hj : j < 6) (M : smM) : m_X6_formAt q (nI i) (nI j) M = some (q + 1 + 1 + (6 * j + i)) := by
  unfold m_X6_formAt
  have z : (0 : Int32) = nI 0 := rfl
  have six : (6 : Int32) = nI 6 := rfl
  rw [if_neg (nI_pos (by omega)), if_neg (by rw [six, nI_le_iff (by omega) (by omega)]; omega), if_neg (nI_pos (by omega)), if_neg (by rw [six, nI_le_iff (by omega) (by omega)]; omega)]
  unfold m_X6_formAt_j25
  rw [if_neg (by decide), six, nI_mulN, nI_add, l6_3 hq, if_ck (by omega) (by omega), cl_nI (by omega)]
def QF (M : smM) (q p A B : Nat) [NeZero p] (F G : Nat → Nat → Fin p) : Prop := M q 0 = nI p ∧ M q 1 = nI A ∧ M q 2 = nI B ∧ ∀ i j, i + j < A + B → ∀ d, d < 9 → M (q + 1 + 1 + (6 * j + i)) d = nI (Nn A B F G i j d).val
theorem fin_z {p : Nat} [NeZero p] (hp : p ≤ 97) (v : Fin p) : nI v.val = (0 : Int32) ↔ v = 0 := by
  have h := v.isLt
  have e : nI v.val = (0 : Int32) ↔ v.val = 0 := nI_inj (b := 0) (by omega) (by omega)
  rw [e]
  constructor
  · intro q; exact Fin.ext q
  · intro q; rw [q]; rfl
/-- the sum so far: all rows ahead of j, and of row j what is ahead of i -/
def accZ {K : Type} [Lean.Grind.CommRing K] (A : Nat) (v : Nat → K) (Z : Nat → Nat → Nat → K) (j i d : Nat) : K := su (fun j' => su (fun i' => v (A * j' + i') * Z i' j' d) A) j + su (fun i' => v (A * j + i') * Z i' j d) i
theorem accZ_s {K : Type} [Lean.Grind.CommRing K] (A : Nat) (v : Nat → K) (Z : Nat → Nat → Nat → K) (j i d : Nat) : accZ A v Z j (i + 1) d = accZ A v Z j i d + v (A * j + i) * Z i j d := by
  unfold accZ
  simp only [su]
  grind
theorem accZ_r {K : Type} [Lean.Grind.CommRing K] (A : Nat) (v : Nat → K) (Z : Nat → Nat → Nat → K) (j d : Nat) : accZ A v Z (j + 1) 0 d = accZ A v Z j A d := by
  unfold accZ
  simp only [su]
  grind
theorem accZ_0 {K : Type} [Lean.Grind.CommRing K] (A : Nat) (v : Nat → K) (Z : Nat → Nat → Nat → K) (d : Nat) : accZ A v Z 0 0 d = 0 := by
  unfold accZ
  simp only [su]
  grind
theorem accZ_e {K : Type} [Lean.Grind.CommRing K] (A B : Nat) (v : Nat → K) (Z : Nat → Nat → Nat → K) (d : Nat) : accZ A v Z B 0 d = mulZ A B (fun i j => Z i j d) v := by
  unfold accZ mulZ
  simp only [su]
  grind
set_option maxHeartbeats 1000000 in
/-- x (s = 0) or y (1) times what a row stands for -/
theorem m_multiply {q p A B s a b : Nat} [NeZero p] {F G : Nat → Nat → Fin p} {M : smM} (hq : smT 1 q 6) (hp : 2 ≤ p) (hp2 : p ≤ 97) (hA : 1 ≤ A) (hA3 : A ≤ 3) (hB3 : B ≤ 3) (hQ : QF M q p A B F G) (hs : s < 2) (la : smLn a = 9) (lb : smLn b = 9) (ha : a < q ∨ q + 39 ≤ a) (hb : b < q ∨ q + 39 ≤ b) {v : Nat → Fin p} (hv : ∀ k, k < 9 → M a k = nI (v k).val) :
    ∃ M1, m_X6_multiply q (nI s) a b M = some M1 ∧ (∀ r, r ≠ b → r ≠ q + 38 → M1 r = M r) ∧ ∀ k, k < 9 → M1 b k = nI ((if s = 0 then mulX A B F G v k else mulY A B F G v k)).val := by
  obtain ⟨h0, h1, h2, h3⟩ := hQ
  -- what the terms become
  let Z : Nat → Nat → Nat → Fin p := fun i j d => if s = 0 then Nn A B F G (i + 1) j d else Nn A B F G i (j + 1) d
  let S : Nat → Nat → smM := fun j i => fil M (q + 38) (fun d => nI (accZ A v Z j i d).val) 9
  have hSo : ∀ j i r, r ≠ q + 38 → S j i r = M r := fun j i r hr => fil_o hr
  have hSi : ∀ j i d, d < 9 → S j i (q + 38) d = nI (accZ A v Z j i d).val := fun j i d hd => fil_in hd
  have lm := l6_4 hq
  let g : Nat → Int32 := fun d => nI (accZ A v Z B 0 d).val
  refine ⟨fil (S B 0) b g 9, ?_, ?_, ?_⟩
  · unfold m_X6_multiply
    rw [m_clear lm (by decide)]
    rw [Option.bind_some]
    refine lp_cnt B (fun j => (nI j, S j 0)) ?_ (by omega) (fun j hj rc => ?_) (fun rc => ?_)
    · have e : fil M (q + 38) (fun _ => 0) 9 = S 0 0 := fil_congr (fun k _ => by rw [accZ_0]; rfl)
      rw [e]; rfl
    · unfold m_X6_multiply_b10
      simp only []
      rw [hSo j 0 q (by omega), h2, if_neg (by rw [nI_le_iff (by omega) (by omega)]; omega)]
      refine lp_cnt A (fun i => (nI i, S j i)) rfl (by omega) (fun i hi rc2 => ?_) (fun rc2 => ?_)
      · unfold m_X6_multiply_b22
        simp only []
        have hlt : A * j + i < 9 := by
          have : A * j ≤ 3 * 2 := Nat.mul_le_mul hA3 (by omega)
          omega
        rw [hSo j i q (by omega), h1, if_neg (by rw [nI_le_iff (by omega) (by omega)]; omega), nI_mulN, nI_add, la, if_ck hlt (by omega), cl_nI (by omega), hSo j i a (by omega), hv _ hlt, h0]
        by_cases hz : v (A * j + i) = 0
        · rw [if_pos ((fin_z hp2 _).mpr hz), nI_add_1]
          congr 2
          refine fil_congr (fun k _ => ?_)
          rw [accZ_s, hz]
          congr 2
          grind
        · rw [if_neg (fun e => hz ((fin_z hp2 _).mp e))]
          have hbm : ∀ (t : Nat), t < 36 → (∀ d, d < 9 → M (q + 1 + 1 + t) d = nI (Z i j d).val) → m_X11_bringMultiple (q + 38) (q + 1 + 1 + t) (nI (v (A * j + i)).val) (nI p) (S j i) = some (S j (i + 1)) := by
            intro t ht hw
            have hvl := (v (A * j + i)).isLt
            rw [m_bringMultiple (v := fun d => accZ A v Z j i d) (w := fun d => Z i j d) lm (l6_3r hq ht) (by decide) (by omega) hp hp2 (by omega) (hSi j i) (fun k hk => by rw [hSo j i _ (by omega)]; exact hw k hk)]
            congr 1
            show fil (fil M _ _ 9) _ _ 9 = _
            rw [fil_fil]
            refine fil_congr (fun k _ => ?_)
            rw [accZ_s, fz_self]
          by_cases h0s : s = 0
          · subst h0s
            rw [if_pos nI_0, nI_add_1, m_formAt hq (by omega) (by omega)]
            rw [Option.bind_some]
            rw [hbm (6 * j + (i + 1)) (by omega) (fun d hd => by rw [h3 (i + 1) j (by omega) d hd]; rfl)]
            rfl
          · have h1s : s = 1 := by omega
            subst h1s
            rw [if_neg (by decide), nI_add_1, m_formAt hq (by omega) (by omega)]
            rw [Option.bind_some]
            rw [hbm (6 * (j + 1) + i) (by omega) (fun d hd => by rw [h3 i (j + 1) (by omega) d hd]; rfl), nI_add_1]
            rfl
      · unfold m_X6_multiply_b22
        simp only []
        rw [hSo j A q (by omega), h1, if_pos (Int32.le_refl _), nI_add_1]
        congr 2
        refine fil_congr (fun k _ => ?_)
        rw [accZ_r]
    · unfold m_X6_multiply_b10
      simp only []
      rw [hSo B 0 q (by omega), h2, if_pos (Int32.le_refl _)]
      refine lp_cnt 9 (fun k => (nI k, fil (S B 0) b g k)) (by rw [fil_0]; rfl) (by decide) (fun k hk rc2 => ?_) (fun rc2 => ?_)
      · unfold m_X6_multiply_b105
        simp only []
        rw [if_neg (by rw [show (9 : Int32) = nI 9 from rfl, nI_le_iff (by omega) (by omega)]; omega), lm, if_ck hk (by omega), lb, if_ck hk (by omega), cl_nI (by omega), fil_o (by omega), hSi B 0 k hk]
        show rc2 _ = rc2 _
        rw [fil_s (S B 0) b k g, nI_add_1]
      · unfold m_X6_multiply_b105
        simp only []
        rw [if_pos (by decide)]
  · intro r h4 h5
    rw [fil_o h4, hSo B 0 r h5]
  · intro k hk
    rw [fil_in hk]
    show nI (accZ A v Z B 0 k).val = _
    rw [accZ_e]
    by_cases h0s : s = 0
    · subst h0s
      rfl
    · have h1s : s = 1 := by omega
      subst h1s
      rfl
